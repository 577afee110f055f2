/-! ===== rows: an instruction over the heap of part 02 ===== -/
section RW1
variable {p : Program} {l : Launch} {e : Env} {R : Room} {s : State} {m : MethodId} {args : Array Value} {below : List Frame} {meth : Method} {c : Code} {H : Heap} {locs : List Loc} {cells slots : Nat} {Q : State → Prop}
variable {cc : ByteArray} {nL : Nat} {own : String} {D : RG} {b : Nat} {h : AH} {pc : Nat} {ls : Array Slot} {rest : List Value} {α : Type} {Z : α}
/-- a field of a class: the class's row, the field's place in the class and in own's pool, its type -/
def r_fld (ci k : Nat) (C : String) (T : u_T) (N : Nat) (ty : FieldType) : Prop := vwCl[ci]? = some (C, T, N) ∧ k < N ∧ (∀ w ∈ u_ws C T N, w ∈ wsL_law) ∧ (T k).1 = C ∧ r_ty ci k = ty ∧ parseFieldDescriptor (T k).2.2.1 = some ty ∧ (∀ k, k < N → parseFieldDescriptor (T k).2.2.1 = some (r_ty ci k)) ∧ (∀ a, a < N → ∀ b, b < N → a ≠ b → (T a).2.1 ≠ (T b).2.1)
theorem r_get0 (X : r_C p c cc nL s m args own D b) (B : r_B D b s h H locs) {ci k : Nat} {C : String} {T : u_T} {N index : Nat} {ty : FieldType} {a : Nat} (F : r_fld ci k C T N ty) (hlink : Cond.fieldLink own index C (T k).2.1 (T k).2.2.1 ∈ wsL_law) (hdg : decode cc pc = .ok (.getfield index, 3)) (hs : h.2.1 a = some (.inl ci))
    (kk : W p l e R s m args below meth c H locs cells slots Q (F0 m (pc + 3) ls (r_val ty (h.2.2.1 a k) (h.2.2.2 a k) :: rest))) : W p l e R s m args below meth c H locs cells slots Q (F0 m pc ls (.ref a :: rest)) := by
  obtain ⟨⟨hx, hb, -, hown, hts⟩, hK, -⟩ := X
  obtain ⟨hc, hk, hin, hsm, hty, -⟩ := F
  obtain ⟨-, q, hq, cell, q1, q2, q3, q4⟩ := B.1.2 a _ hs
  have hr : q = (C, T, N) := Option.some.inj (hq.symm.trans hc)
  subst hr
  obtain ⟨hS, hfc, kC, hkC, hkind⟩ := hK.1.1 ci _ hc
  obtain ⟨cf, kf, fi, f, hi, hsl⟩ := hS k hk
  refine W.getf hx hb hown (hts _ hlink) (by rw [← hsm]; exact hi) (u_facts hfc hkC (u_lays hts hin hk) hi).1 q1 (by rw [q3]; exact fun h => by cases h) ?_ rfl rfl hdg kk
  rw [← hty, hsl]
  exact q4 k hk
theorem r_gI (X : r_C p c cc nL s m args own D b) (B : r_B D b s h H locs) {ci k : Nat} {C : String} {T : u_T} {N index : Nat} {ty : FieldType} {r : Option Nat} {K : Int32 → Option α} (hf : gI h r ci k K = some Z) (F : r_fld ci k C T N ty) (hty : ∀ x y, r_val ty x y = .int x) (hlink : Cond.fieldLink own index C (T k).2.1 (T k).2.2.1 ∈ wsL_law) (hdg : decode cc pc = .ok (.getfield index, 3))
    (kk : ∀ v : Int32, K v = some Z → W p l e R s m args below meth c H locs cells slots Q (F0 m (pc + 3) ls (.int v :: rest))) : W p l e R s m args below meth c H locs cells slots Q (F0 m pc ls (va_rf r :: rest)) := by
  obtain ⟨a, rfl, hs, hf⟩ := gI_inv hf
  refine r_get0 X B F hlink hdg hs ?_
  rw [hty]
  exact kk _ hf
theorem r_gR (X : r_C p c cc nL s m args own D b) (B : r_B D b s h H locs) {ci k : Nat} {C : String} {T : u_T} {N index : Nat} {ty : FieldType} {r : Option Nat} {K : Option Nat → Option α} (hf : gR h r ci k K = some Z) (F : r_fld ci k C T N ty) (hty : ∀ x y, r_val ty x y = va_rf y) (hlink : Cond.fieldLink own index C (T k).2.1 (T k).2.2.1 ∈ wsL_law) (hdg : decode cc pc = .ok (.getfield index, 3))
    (kk : ∀ v : Option Nat, K v = some Z → W p l e R s m args below meth c H locs cells slots Q (F0 m (pc + 3) ls (va_rf v :: rest))) : W p l e R s m args below meth c H locs cells slots Q (F0 m pc ls (va_rf r :: rest)) := by
  obtain ⟨a, rfl, hs, hf⟩ := gR_inv hf
  refine r_get0 X B F hlink hdg hs ?_
  rw [hty]
  exact kk _ hf
/-- an object's slot is written -/
theorem r_put_at {ci k : Nat} {C : String} {T : u_T} {N a : Nat} {x : Int32} {y : Option Nat} {h' : AH} {H1 : Heap} {cell : Cell} (hc : vwCl[ci]? = some (C, T, N)) (hk : k < N) (q2 : cell.cls = D.1 ci) (q3 : cell.vm = .none) (q4 : ∀ k, k < N → cell.slots[D.2.1 ci k]? = some (r_val (r_ty ci k) (h.2.2.1 a k) (h.2.2.2 a k))) (hap : ∀ x y, x < N → y < N → x ≠ y → D.2.1 ci x ≠ D.2.1 ci y)
    (e1 : H1[a]? = some (cell.setSlot (D.2.1 ci k) (r_val (r_ty ci k) x y))) (g1 : ∀ j, h'.2.2.1 a j = if j = k then x else h.2.2.1 a j) (g2 : ∀ j, h'.2.2.2 a j = if j = k then y else h.2.2.2 a j) : r_at D h' a (.inl ci) H1 := by
  refine ⟨_, hc, t_OB.to (V := updV (fun k => r_val (r_ty ci k) (h.2.2.1 a k) (h.2.2.2 a k)) k (r_val (r_ty ci k) x y)) ⟨_, e1, q2, q3, t_set q4 hap hk _⟩ (fun j _ => ?_)⟩
  by_cases e : j = k
  · subst e
    simp [updV, g1, g2]
  · simp [updV, g1, g2, e]
theorem r_put0 (X : r_C p c cc nL s m args own D b) (B : r_B D b s h H locs) {ci k : Nat} {C : String} {T : u_T} {N index : Nat} {ty : FieldType} {a : Nat} {x : Int32} {y : Option Nat} (F : r_fld ci k C T N ty) (hlink : Cond.fieldLink own index C (T k).2.1 (T k).2.2.1 ∈ wsL_law) (hfin : (T k).2.2.2 = false ∨ ((T k).2.2.2 = true ∧ meth.name = "<init>" ∧ C = own)) (hn : narrow ty (r_val ty x y) = r_val ty x y) (hfit : fits ty (r_val ty x y) = true) (hdg : decode cc pc = .ok (.putfield index, 3)) (hs : h.2.1 a = some (.inl ci)) {h' : AH} (g0 : h'.1 = h.1) (gs : h'.2.1 = h.2.1) (g1 : ∀ q j, h'.2.2.1 q j = if q = a ∧ j = k then x else h.2.2.1 q j) (g2 : ∀ q j, h'.2.2.2 q j = if q = a ∧ j = k then y else h.2.2.2 q j)
    (kk : ∀ (H1 : Heap) (locs1 : List Loc), r_B D b s h' H1 locs1 → W p l e R s m args below meth c H1 locs1 cells slots Q (F0 m (pc + 3) ls rest)) : W p l e R s m args below meth c H locs cells slots Q (F0 m pc ls (r_val ty x y :: .ref a :: rest)) := by
  obtain ⟨⟨hx, hb, -, hown, hts⟩, hK, -⟩ := X
  obtain ⟨hc, hk, hin, hsm, hty, hd, hty0, hnm⟩ := F
  obtain ⟨-, q, hq, cell, q1, q2, q3, q4⟩ := B.1.2 a _ hs
  have hr : q = (C, T, N) := Option.some.inj (hq.symm.trans hc)
  subst hr
  have hap := va_apart (own := own) hts hin (r_ty ci) hty0 hnm hK.1 hc
  obtain ⟨hS, hfc, kC, hkC, hkind⟩ := hK.1.1 ci _ hc
  obtain ⟨cf, kf, fi, f, hi, hsl⟩ := hS k hk
  have hlay := hts _ (hin _ (u_in_lay hk))
  unfold u_lay at hlay
  have hst := (u_facts hfc hkC (u_lays hts hin hk) hi).1
  have f1 : ∀ q, q ≠ a → h'.2.2.1 q = h.2.2.1 q := fun q hq => by funext j; rw [g1, if_neg (fun z => hq z.1)]
  have f2 : ∀ q, q ≠ a → h'.2.2.2 q = h.2.2.2 q := fun q hq => by funext j; rw [g2, if_neg (fun z => hq z.1)]
  have d1 : ∀ j, h'.2.2.1 a j = if j = k then x else h.2.2.1 a j := fun j => by rw [g1]; simp
  have d2 : ∀ j, h'.2.2.2 a j = if j = k then y else h.2.2.2 a j := fun j => by rw [g2]; simp
  rcases hfin with hfin | ⟨hfin, hini, hco⟩
  · rw [if_neg (by rw [hfin]; decide)] at hlay
    have h6 := u_store hfc hkC hkind hlay hi hd hn hfit
    refine W.putK hx hb (f := f) (ref := C) ⟨hown, hts _ hlink, ⟨_, _, _, (by rw [← hsm]; exact hi)⟩, hst⟩ (by rw [q2]; exact h6) q1 q3 (by rw [hsl]; exact k2_hasslot (q4 k hk)) rfl rfl hdg fun H' e1 e2 e3 => ?_
    rw [hsl, ← hty] at e1
    exact kk H' _ (B.put hs e2 e3 g0 gs f1 f2 (r_put_at hc hk q2 q3 q4 hap e1 d1 d2))
  · rw [if_pos hfin] at hlay
    have hcf : m.cls = cf := by
      obtain ⟨_, _, c', _, _, _, -, -, hf', -, -, -, hown2, -⟩ := Cond.laysFinal_spec hlay
      have e1 : c' = cf := by have := hi.symm.trans hf'; simp at this; exact this.1.symm
      rw [hsm, hco] at hown2
      rw [← e1]; exact Option.some.inj (hown.symm.trans hown2)
    have h6 := u_fits hfc hkC hkind (Or.inr hlay) hi hd hn hfit
    refine W.putFinK hx hb (ref := C) hown (hts _ hlink) (by rw [← hsm]; exact hi) hst hcf hini (by rw [q2]; exact h6) q1 q3 (by rw [hsl]; exact k2_hasslot (q4 k hk)) rfl rfl hdg fun H' e1 e2 e3 => ?_
    rw [hsl, ← hty] at e1
    exact kk H' _ (B.put hs e2 e3 g0 gs f1 f2 (r_put_at hc hk q2 q3 q4 hap e1 d1 d2))
theorem setI_2 (h : AH) (a k : Nat) (x : Int32) (q j : Nat) : (setI h a k x).2.2.2 q j = if q = a ∧ j = k then h.2.2.2 a k else h.2.2.2 q j := by
  by_cases e : q = a ∧ j = k
  · rw [if_pos e, e.1, e.2]; rfl
  · rw [if_neg e]; rfl
theorem setR_1 (h : AH) (a k : Nat) (x : Option Nat) (q j : Nat) : (setR h a k x).2.2.1 q j = if q = a ∧ j = k then h.2.2.1 a k else h.2.2.1 q j := by
  by_cases e : q = a ∧ j = k
  · rw [if_pos e, e.1, e.2]; rfl
  · rw [if_neg e]; rfl
abbrev r_fin (T : u_T) (k : Nat) (meth : Method) (C own : String) : Prop := (T k).2.2.2 = false ∨ ((T k).2.2.2 = true ∧ meth.name = "<init>" ∧ C = own)
theorem r_pI (X : r_C p c cc nL s m args own D b) (B : r_B D b s h H locs) {ci k : Nat} {C : String} {T : u_T} {N index : Nat} {r : Option Nat} {x : Int32} {K : AH → Option α} (hf : pI h r ci k x K = some Z) (F : r_fld ci k C T N .int) (hfin : r_fin T k meth C own) (hlink : Cond.fieldLink own index C (T k).2.1 (T k).2.2.1 ∈ wsL_law) (hdg : decode cc pc = .ok (.putfield index, 3))
    (kk : ∀ (h' : AH) (H1 : Heap) (locs1 : List Loc), r_B D b s h' H1 locs1 → K h' = some Z → W p l e R s m args below meth c H1 locs1 cells slots Q (F0 m (pc + 3) ls rest)) : W p l e R s m args below meth c H locs cells slots Q (F0 m pc ls (.int x :: va_rf r :: rest)) := by
  obtain ⟨a, rfl, hs, hf⟩ := pI_inv hf
  exact r_put0 (y := h.2.2.2 a k) (h' := setI h a k x) X B F hlink hfin rfl rfl hdg hs rfl rfl (fun q j => rfl) (setI_2 h a k x) (fun H1 locs1 B1 => kk _ H1 locs1 B1 hf)
theorem r_pZ (X : r_C p c cc nL s m args own D b) (B : r_B D b s h H locs) {ci k : Nat} {C : String} {T : u_T} {N index : Nat} {r : Option Nat} {x : Int32} {K : AH → Option α} (hf : pZ h r ci k x K = some Z) (F : r_fld ci k C T N .boolean) (hfin : r_fin T k meth C own) (hlink : Cond.fieldLink own index C (T k).2.1 (T k).2.2.1 ∈ wsL_law) (hdg : decode cc pc = .ok (.putfield index, 3))
    (kk : ∀ (h' : AH) (H1 : Heap) (locs1 : List Loc), r_B D b s h' H1 locs1 → K h' = some Z → W p l e R s m args below meth c H1 locs1 cells slots Q (F0 m (pc + 3) ls rest)) : W p l e R s m args below meth c H locs cells slots Q (F0 m pc ls (.int x :: va_rf r :: rest)) := by
  obtain ⟨a, rfl, hs, hx, hf⟩ := pZ_inv hf
  have hn : narrow .boolean (.int x) = .int x := by rcases hx with rfl | rfl <;> rfl
  have hv : fits .boolean (.int x) = true := by rcases hx with rfl | rfl <;> rfl
  exact r_put0 (ty := .boolean) (y := h.2.2.2 a k) (h' := setI h a k x) X B F hlink hfin hn hv hdg hs rfl rfl (fun q j => rfl) (setI_2 h a k x) (fun H1 locs1 B1 => kk _ H1 locs1 B1 hf)
theorem r_pR (X : r_C p c cc nL s m args own D b) (B : r_B D b s h H locs) {ci k : Nat} {C : String} {T : u_T} {N index : Nat} {ty : FieldType} {r x : Option Nat} {K : AH → Option α} (hf : pR h r ci k x K = some Z) (F : r_fld ci k C T N ty) (hty : ty.isReference = true) (hfin : r_fin T k meth C own) (hlink : Cond.fieldLink own index C (T k).2.1 (T k).2.2.1 ∈ wsL_law) (hdg : decode cc pc = .ok (.putfield index, 3))
    (kk : ∀ (h' : AH) (H1 : Heap) (locs1 : List Loc), r_B D b s h' H1 locs1 → K h' = some Z → W p l e R s m args below meth c H1 locs1 cells slots Q (F0 m (pc + 3) ls rest)) : W p l e R s m args below meth c H locs cells slots Q (F0 m pc ls (va_rf x :: va_rf r :: rest)) := by
  obtain ⟨a, rfl, hs, hf⟩ := pR_inv hf
  have e : va_rf x = r_val ty (h.2.2.1 a k) x := by cases ty <;> first | rfl | cases hty
  rw [e]
  refine r_put0 (h' := setR h a k x) X B F hlink hfin ?_ ?_ hdg hs rfl rfl (setR_1 h a k x) (fun q j => rfl) (fun H1 locs1 B1 => kk _ H1 locs1 B1 hf)
  · rw [← e]
    cases x <;> cases ty <;> first | rfl | cases hty
  · rw [← e]
    cases x <;> cases ty <;> first | rfl | cases hty
/-! arrays -/
theorem r_cell (B : r_B D b s h H locs) {a n : Nat} {ty : FieldType} (hs : h.2.1 a = some (.inr (ty, n))) : H[a]? = some (arrV (D.2.2.1 ty) n (fun k => r_val ty (h.2.2.1 a k) (h.2.2.2 a k))) := (B.1.2 a _ hs).2
theorem r_aL (X : r_C p c cc nL s m args own D b) (B : r_B D b s h H locs) {ty : FieldType} {r : Option Nat} {K : Int32 → Option α} (hf : aL ty h r K = some Z) (ht : ty ∈ r_tys) (hdg : decode cc pc = .ok (.arraylength, 1))
    (kk : ∀ v : Int32, K v = some Z → W p l e R s m args below meth c H locs cells slots Q (F0 m (pc + 1) ls (.int v :: rest))) : W p l e R s m args below meth c H locs cells slots Q (F0 m pc ls (va_rf r :: rest)) := by
  obtain ⟨a, n, rfl, hs, hf⟩ := aL_inv hf
  exact W.alen (n := Int32.ofNat n) X.1.1 X.1.2.1 (r_cell B hs) ((X.2.1.2.1 ty ht).1 n _) (by rw [arrV_size] <;> rfl) rfl rfl hdg (kk _ hf)
theorem r_aIi (X : r_C p c cc nL s m args own D b) (B : r_B D b s h H locs) {r : Option Nat} {i : Int32} {K : Int32 → Option α} (hf : aI .int h r i K = some Z) (hdg : decode cc pc = .ok (.iaload, 1))
    (kk : ∀ v : Int32, K v = some Z → W p l e R s m args below meth c H locs cells slots Q (F0 m (pc + 1) ls (.int v :: rest))) : W p l e R s m args below meth c H locs cells slots Q (F0 m pc ls (.int i :: va_rf r :: rest)) := by
  obtain ⟨a, n, rfl, hs, hin, hf⟩ := aI_inv hf
  have hlt : i.toNatClampNeg < n := Nat.not_le.mp fun q => hin (Or.inr q)
  exact W.iald X.1.1 X.1.2.1 (r_cell B hs) ((X.2.1.2.1 .int (by decide)).1 n _) (fun q => by cases q) (by rw [arrV_size]; exact hin) (arrV_read _ _ hlt) rfl rfl hdg (kk _ hf)
theorem r_aIb (X : r_C p c cc nL s m args own D b) (B : r_B D b s h H locs) {r : Option Nat} {i : Int32} {K : Int32 → Option α} (hf : aI .byte h r i K = some Z) (hdg : decode cc pc = .ok (.baload, 1))
    (kk : ∀ v : Int32, K v = some Z → W p l e R s m args below meth c H locs cells slots Q (F0 m (pc + 1) ls (.int v :: rest))) : W p l e R s m args below meth c H locs cells slots Q (F0 m pc ls (.int i :: va_rf r :: rest)) := by
  obtain ⟨a, n, rfl, hs, hin, hf⟩ := aI_inv hf
  have hlt : i.toNatClampNeg < n := Nat.not_le.mp fun q => hin (Or.inr q)
  exact W.bald X.1.1 X.1.2.1 (r_cell B hs) ((X.2.1.2.1 .byte (by decide)).1 n _) (fun q => by cases q) (by rw [arrV_size]; exact hin) (arrV_read _ _ hlt) rfl rfl hdg (kk _ hf)
theorem r_aIz (X : r_C p c cc nL s m args own D b) (B : r_B D b s h H locs) {r : Option Nat} {i : Int32} {K : Int32 → Option α} (hf : aI .boolean h r i K = some Z) (hdg : decode cc pc = .ok (.baload, 1))
    (kk : ∀ v : Int32, K v = some Z → W p l e R s m args below meth c H locs cells slots Q (F0 m (pc + 1) ls (.int v :: rest))) : W p l e R s m args below meth c H locs cells slots Q (F0 m pc ls (.int i :: va_rf r :: rest)) := by
  obtain ⟨a, n, rfl, hs, hin, hf⟩ := aI_inv hf
  have hlt : i.toNatClampNeg < n := Nat.not_le.mp fun q => hin (Or.inr q)
  exact W.zald X.1.1 X.1.2.1 (r_cell B hs) ((X.2.1.2.1 .boolean (by decide)).1 n _) (fun q => by cases q) (by rw [arrV_size]; exact hin) (arrV_read _ _ hlt) rfl rfl hdg (kk _ hf)
theorem r_aR (X : r_C p c cc nL s m args own D b) (B : r_B D b s h H locs) {C : String} {r : Option Nat} {i : Int32} {K : Option Nat → Option α} (hf : aR (.object C) h r i K = some Z) (ht : .object C ∈ r_tys) (hdg : decode cc pc = .ok (.aaload, 1))
    (kk : ∀ v : Option Nat, K v = some Z → W p l e R s m args below meth c H locs cells slots Q (F0 m (pc + 1) ls (va_rf v :: rest))) : W p l e R s m args below meth c H locs cells slots Q (F0 m pc ls (.int i :: va_rf r :: rest)) := by
  obtain ⟨a, n, rfl, hs, hin, hf⟩ := aR_inv hf
  have hlt : i.toNatClampNeg < n := Nat.not_le.mp fun q => hin (Or.inr q)
  exact W.aald (ty := .object C) X.1.1 X.1.2.1 (r_cell B hs) ((X.2.1.2.1 _ ht).1 n _) rfl (fun q => by cases q) (by rw [arrV_size]; exact hin) (arrV_read _ _ hlt) rfl rfl hdg (kk _ hf)
theorem r_store_at {a n i : Nat} {ty : FieldType} {x : Int32} {y : Option Nat} {h' : AH} {H1 : Heap} (e : H1[a]? = some ((arrV (D.2.2.1 ty) n (fun k => r_val ty (h.2.2.1 a k) (h.2.2.2 a k))).setSlot i (r_val ty x y))) (g1 : ∀ j, h'.2.2.1 a j = if j = i then x else h.2.2.1 a j) (g2 : ∀ j, h'.2.2.2 a j = if j = i then y else h.2.2.2 a j) : r_at D h' a (.inr (ty, n)) H1 := by
  show H1[a]? = _
  rw [e, arrV_store]
  congr 2
  funext j
  by_cases hj : j = i
  · subst hj
    simp [updV, g1, g2]
  · simp [updV, g1, g2, hj]
theorem r_sIi (X : r_C p c cc nL s m args own D b) (B : r_B D b s h H locs) {r : Option Nat} {i x : Int32} {K : AH → Option α} (hf : sI .int h r i x K = some Z) (hdg : decode cc pc = .ok (.iastore, 1))
    (kk : ∀ (h' : AH) (H1 : Heap) (locs1 : List Loc), r_B D b s h' H1 locs1 → K h' = some Z → W p l e R s m args below meth c H1 locs1 cells slots Q (F0 m (pc + 1) ls rest)) : W p l e R s m args below meth c H locs cells slots Q (F0 m pc ls (.int x :: .int i :: va_rf r :: rest)) := by
  obtain ⟨a, n, rfl, hs, hin, hf⟩ := sI_inv hf
  refine W.iast X.1.1 X.1.2.1 (r_cell B hs) ((X.2.1.2.1 .int (by decide)).1 n _) (fun q => by cases q) (by rw [arrV_size]; exact hin) rfl rfl hdg fun H1 e z oq => ?_
  refine kk _ H1 _ (B.put (h' := setI h a i.toNatClampNeg (vp_nar .int x)) hs z oq rfl rfl (fun q hq => u2_ne _ _ hq) (fun q hq => rfl) (r_store_at (x := x) (y := h.2.2.2 a i.toNatClampNeg) e (fun j => u2_eq _ _ _ _ _) (fun j => ?_))) hf
  have := setI_2 h a i.toNatClampNeg (vp_nar .int x) a j
  simpa using this
theorem r_sIb (X : r_C p c cc nL s m args own D b) (B : r_B D b s h H locs) {r : Option Nat} {i x : Int32} {K : AH → Option α} (hf : sI .byte h r i x K = some Z) (hdg : decode cc pc = .ok (.bastore, 1))
    (kk : ∀ (h' : AH) (H1 : Heap) (locs1 : List Loc), r_B D b s h' H1 locs1 → K h' = some Z → W p l e R s m args below meth c H1 locs1 cells slots Q (F0 m (pc + 1) ls rest)) : W p l e R s m args below meth c H locs cells slots Q (F0 m pc ls (.int x :: .int i :: va_rf r :: rest)) := by
  obtain ⟨a, n, rfl, hs, hin, hf⟩ := sI_inv hf
  refine W.bast X.1.1 X.1.2.1 (r_cell B hs) ((X.2.1.2.1 .byte (by decide)).1 n _) (fun q => by cases q) (by rw [arrV_size]; exact hin) rfl rfl hdg fun H1 e z oq => ?_
  refine kk _ H1 _ (B.put (h' := setI h a i.toNatClampNeg (vp_nar .byte x)) hs z oq rfl rfl (fun q hq => u2_ne _ _ hq) (fun q hq => rfl) (r_store_at (x := vp_nar .byte x) (y := h.2.2.2 a i.toNatClampNeg) e (fun j => u2_eq _ _ _ _ _) (fun j => ?_))) hf
  have := setI_2 h a i.toNatClampNeg (vp_nar .byte x) a j
  simpa using this
theorem r_sIz (X : r_C p c cc nL s m args own D b) (B : r_B D b s h H locs) {r : Option Nat} {i x : Int32} {K : AH → Option α} (hf : sI .boolean h r i x K = some Z) (hdg : decode cc pc = .ok (.bastore, 1))
    (kk : ∀ (h' : AH) (H1 : Heap) (locs1 : List Loc), r_B D b s h' H1 locs1 → K h' = some Z → W p l e R s m args below meth c H1 locs1 cells slots Q (F0 m (pc + 1) ls rest)) : W p l e R s m args below meth c H locs cells slots Q (F0 m pc ls (.int x :: .int i :: va_rf r :: rest)) := by
  obtain ⟨a, n, rfl, hs, hin, hf⟩ := sI_inv hf
  refine W.zast X.1.1 X.1.2.1 (r_cell B hs) ((X.2.1.2.1 .boolean (by decide)).1 n _) (fun q => by cases q) (by rw [arrV_size]; exact hin) rfl rfl hdg fun H1 e z oq => ?_
  refine kk _ H1 _ (B.put (h' := setI h a i.toNatClampNeg (vp_nar .boolean x)) hs z oq rfl rfl (fun q hq => u2_ne _ _ hq) (fun q hq => rfl) (r_store_at (x := vp_nar .boolean x) (y := h.2.2.2 a i.toNatClampNeg) e (fun j => u2_eq _ _ _ _ _) (fun j => ?_))) hf
  have := setI_2 h a i.toNatClampNeg (vp_nar .boolean x) a j
  simpa using this
theorem r_sR (X : r_C p c cc nL s m args own D b) (B : r_B D b s h H locs) {ci : Nat} {C : String} {T : u_T} {N : Nat} {r x : Option Nat} {i : Int32} {K : AH → Option α} (hf : sR (.object C) ci h r i x K = some Z) (ht : .object C ∈ r_tys) (hc : vwCl[ci]? = some (C, T, N)) (hdg : decode cc pc = .ok (.aastore, 1))
    (kk : ∀ (h' : AH) (H1 : Heap) (locs1 : List Loc), r_B D b s h' H1 locs1 → K h' = some Z → W p l e R s m args below meth c H1 locs1 cells slots Q (F0 m (pc + 1) ls rest)) : W p l e R s m args below meth c H locs cells slots Q (F0 m pc ls (va_rf x :: .int i :: va_rf r :: rest)) := by
  obtain ⟨a, n, v, rfl, hs, hin, rfl, hv, hf⟩ := sR_inv hf
  have hlt : i.toNatClampNeg < n := Nat.not_le.mp fun q => hin (Or.inr q)
  have h0 : ¬ i < 0 := fun q => hin (Or.inl q)
  obtain ⟨r', hr', cellV, g1, g2, g3, -⟩ := (B.1.2 v _ hv).2
  have hcls := (X.2.1.1.1 ci _ hc).2
  obtain ⟨kA, comp, k1, k2, k3, -⟩ := (X.2.1.2.1 _ ht).2
  have hcomp : comp = D.1 ci := Option.some.inj (k3.symm.trans hcls.1)
  subst hcomp
  obtain ⟨kC, hkC, -⟩ := hcls.2
  refine W.aast X.1.1 X.1.2.1 (r_cell B hs) (fun q h => by cases h) (fun h => by cases h) k1 k2 rfl hkC ⟨h0, by rw [arrV_size]; exact hlt⟩ g1 (fun q h => by rw [g3] at h; cases h) (by rw [g2]; exact hkC) (by rw [g2]; exact va_assign hcls) rfl rfl hdg fun H1 e z oq => ?_
  refine kk _ H1 _ (B.put (h' := setR h a i.toNatClampNeg (some v)) hs z oq rfl rfl (fun q hq => rfl) (fun q hq => u2_ne _ _ hq) (r_store_at (x := h.2.2.1 a i.toNatClampNeg) (y := some v) e (fun j => ?_) (fun j => u2_eq _ _ _ _ _))) hf
  have := setR_1 h a i.toNatClampNeg (some v) a j
  simpa using this
end RW1
