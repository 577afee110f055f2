/-! ===== the heap as two functions (whole numbers, references) over shapes; every method of the class and of the reference is read off its bytecode as a function over it (parts 04 on, by wip/whole/gen.py) ===== -/
abbrev Sh : Type := Nat ⊕ (FieldType × Nat)
/-- size; shapes; whole numbers; references -/
abbrev AH : Type := Nat × (Nat → Option Sh) × (Nat → Nat → Int32) × (Nat → Nat → Option Nat)
abbrev RG : Type := (Nat → ClassId) × (Nat → Nat → Nat) × (FieldType → ClassId) × (Nat → Nat) × (Nat → Nat)
def r_ty (ci k : Nat) : FieldType := match ci with
  | 0 => tyX0 k
  | 1 => tyX1 k
  | 2 => tyX2 k
  | 3 => tyX3 k
  | 4 => tyX4 k
  | 5 => tyX5 k
  | 6 => tyX6 k
  | 7 => tyX7 k
  | _ => tyX8 k
def r_val (ty : FieldType) (x : Int32) (r : Option Nat) : Value := match ty with
  | .object _ => va_rf r
  | .array _ => va_rf r
  | _ => .int x
def r_at (D : RG) (h : AH) (a : Nat) (s : Sh) (H : Heap) : Prop := match s with
  | .inl ci => ∃ q : vw_C, vwCl[ci]? = some q ∧ t_OB a (D.1 ci) q.2.2 (D.2.1 ci) H (fun k => r_val (r_ty ci k) (h.2.2.1 a k) (h.2.2.2 a k))
  | .inr t => H[a]? = some (arrV (D.2.2.1 t.1) t.2 (fun k => r_val t.1 (h.2.2.1 a k) (h.2.2.2 a k)))
/-- nest mates' constructors -/
def r_nw : List Cond := [.methodLinkNest RX7 17 yX6_init RX7, .methodLinkNest RX7 24 yX0_init RX7, .methodLinkNest RX7 34 yX4_init RX7, .methodLinkNest RX5 11 yX3_init RX7, .methodLinkNest RX2 11 yX4_init RX7]
def r_tys : List FieldType := [.int, .byte, .boolean, .object RX5, .object RX1]
/-- the literals: place in Tape's pool, text; lengths; bytes -/
def r_lit : List (Nat × String) := [(50, "first"), (59, "near"), (67, "hold"), (71, "fair"), (76, "temple"), (81, "small")]
def r_len : List Nat := [5, 4, 4, 4, 6, 5]
def r_byt : List (List Int32) := [[102, 105, 114, 115, 116], [110, 101, 97, 114], [104, 111, 108, 100], [102, 97, 105, 114], [116, 101, 109, 112, 108, 101], [115, 109, 97, 108, 108]]
def r_K (D : RG) (U : State) : Prop := va_K (D.1, D.2.1) vwCl [] U ∧ (∀ ty ∈ r_tys, ArrOfT U (D.2.2.1 ty) ty ∧ va_RA U (D.2.2.1 ty) ty) ∧ (∀ w ∈ r_nw, va_Nw w U) ∧ (∀ i, i < 6 → vk_R RX6 (r_lit.getD i (0, "")).1 (r_lit.getD i (0, "")).2 (D.2.2.2.1 i) U) ∧ va_AO RX5 U ∧ va_AO RX1 U
/-- what lies below b and is never written: the literals, the JDK's statics -/
def r_E (D : RG) (b : Nat) (U : State) (H : Heap) : Prop := va_Z "java/lang/String" "COMPACT_STRINGS" "Z" (.int 1) (fun q => b ≤ q) U H ∧ va_Zq "jdk/internal/util/Preconditions" "SIOOBE_FORMATTER" "Ljava/util/function/BiFunction;" (fun q => b ≤ q) U H ∧ vk_S 6 r_len r_byt D.2.2.2.1 D.2.2.2.2 (fun q => b ≤ q) U H
def r_P (D : RG) (b : Nat) (h : AH) (H : Heap) : Prop := H.size = h.1 ∧ ∀ (a : Nat) (t : Sh), h.2.1 a = some t → b ≤ a ∧ r_at D h a t H
/-- a method's start -/
def r_I (D : RG) (b : Nat) (h : AH) (U : State) : Prop := r_K D U ∧ r_E D b U U.heap ∧ b ≤ U.heap.size ∧ r_P D b h U.heap
/-- a method's end -/
def r_Q (D : RG) (b : Nat) (v : Option Value) (h : AH) : Array Value → State → Outcome → State → Prop := fun _ st oc t => oc = .returned v ∧ r_P D b h t.heap ∧ va_F (fun q => b ≤ q) st t
/-- what stands while a method runs -/
def r_C (p : Program) (c : Code) (cc : ByteArray) (nL : Nat) (s : State) (m : MethodId) (args : Array Value) (own : String) (D : RG) (b : Nat) : Prop := CallFix p m c cc nL s args wsL_law own ∧ r_K D s ∧ r_E D b s s.heap ∧ b ≤ s.heap.size
def r_B (D : RG) (b : Nat) (s : State) (h : AH) (H : Heap) (locs : List Loc) : Prop := r_P D b h H ∧ va_S (fun q => b ≤ q) s.heap H locs
theorem r_K.warm {D : RG} {s U : State} (hW : s.WarmedH U.vm) (h : r_K D s) : r_K D U := by
  obtain ⟨h1, h2, h3, h5, h6, h7⟩ := h
  refine ⟨va_K.moved hW.alike h1, fun ty ht => ⟨arrOfT_moved hW.alike (h2 ty ht).1, (h2 ty ht).2.moved hW.alike⟩, fun w hw => ?_, fun i hi => vk_R.warm hW (h5 i hi), va_AO.moved hW.alike h6, va_AO.moved hW.alike h7⟩
  have h4 := h3 w hw
  simp only [r_nw, List.mem_cons, List.not_mem_nil, or_false] at hw
  rcases hw with rfl | rfl | rfl | rfl | rfl <;> exact va_Nw.warmM hW h4
theorem r_K.same {D : RG} {s U : State} (hv : s.vm = U.vm) (h : r_K D s) : r_K D U := by
  obtain ⟨h1, h2, h3, h5, h6, h7⟩ := h
  have hW : s.vm.Alike U.vm := by rw [← hv]; exact Vm.Alike.refl _
  refine ⟨va_K.moved hW h1, fun ty ht => ⟨arrOfT_moved hW (h2 ty ht).1, (h2 ty ht).2.moved hW⟩, fun w hw => ?_, fun i hi => vk_R.same hv.symm (h5 i hi), va_AO.moved hW h6, va_AO.moved hW h7⟩
  have h4 := h3 w hw
  simp only [r_nw, List.mem_cons, List.not_mem_nil, or_false] at hw
  rcases hw with rfl | rfl | rfl | rfl | rfl <;> exact va_Nw.same rfl hv h4
theorem r_E.go {D : RG} {b : Nat} {s U : State} {H0 H : Heap} (hv : s.vm.Alike U.vm) (hq : ∀ q : Nat, q < H0.size → ¬ b ≤ q → H[q]? = H0[q]?) (h : r_E D b s H0) : r_E D b U H :=
  ⟨va_Z.moved hv (h.1.kept hq), va_Zq.moved hv (h.2.1.kept hq), vk_S.moved hv (h.2.2.kept hq)⟩
theorem r_blind {D : RG} {b : Nat} {h : AH} (As : List Value) : FrameBlind (va_Pc As (r_I D b h)) := by
  intro a U g mk q
  obtain ⟨q1, q2, q3, q4, q5⟩ := q
  exact ⟨q1, r_K.same (s := U) (U := U.calling g mk a) rfl q2, r_E.go (s := U) (U := U.calling g mk a) (Vm.Alike.refl U.vm) (fun _ _ _ => rfl) q3, q4, q5⟩
theorem r_go {p : Program} {c : Code} {cc : ByteArray} {nL : Nat} {s : State} {m : MethodId} {args : Array Value} {own : String} {D : RG} {b : Nat} {h : AH} {H : Heap} {locs : List Loc} (X : r_C p c cc nL s m args own D b) (B : r_B D b s h H locs) {U : State} (hU : U.heap = H) (hW : s.WarmedH U.vm) : r_I D b h U :=
  ⟨r_K.warm hW X.2.1, by rw [hU]; exact r_E.go hW.alike B.2.2.1 X.2.2.1, by rw [hU]; exact Nat.le_trans X.2.2.2 B.2.1, by rw [hU]; exact B.1⟩
theorem wsL_good : wsL_law.all goodWord = true := by decide +kernel
theorem r_good {y : MethodName} {cc : ByteArray} {n : Nat} {ret : Option FieldType} (h : Cond.code y cc n ret ∈ wsL_law) : GoodIn wsL_law (Cond.code y cc n ret :: wsL_law) := by
  refine goodIn_sub (fun w hw => ?_) ?_
  · rcases List.mem_cons.mp hw with e | e
    · rw [e]; exact h
    · exact e
  · rw [List.all_cons, wsL_good, Bool.and_true]
    exact List.all_eq_true.mp wsL_good _ h
/-! heaps -/
def u2 {α : Type} (f : Nat → Nat → α) (a k : Nat) (x : α) : Nat → Nat → α := fun a' k' => if a' = a ∧ k' = k then x else f a' k'
def setI (h : AH) (a k : Nat) (x : Int32) : AH := (h.1, h.2.1, u2 h.2.2.1 a k x, h.2.2.2)
def setR (h : AH) (a k : Nat) (x : Option Nat) : AH := (h.1, h.2.1, h.2.2.1, u2 h.2.2.2 a k x)
def newS (h : AH) (t : Sh) : AH := (h.1 + 1, fun a => if a = h.1 then some t else h.2.1 a, fun a k => if a = h.1 then 0 else h.2.2.1 a k, fun a k => if a = h.1 then none else h.2.2.2 a k)
theorem u2_ne {α : Type} (f : Nat → Nat → α) {a k : Nat} (x : α) {a' : Nat} (h : a' ≠ a) : (u2 f a k x) a' = f a' := by
  funext k'
  simp [u2, h]
theorem u2_eq {α : Type} (f : Nat → Nat → α) (a k : Nat) (x : α) (k' : Nat) : u2 f a k x a k' = if k' = k then x else f a k' := by simp [u2]
theorem r_at.kept {D : RG} {h h' : AH} {a : Nat} {t : Sh} {H H' : Heap} (q : r_at D h a t H) (e : H'[a]? = H[a]?) (e1 : h'.2.2.1 a = h.2.2.1 a) (e2 : h'.2.2.2 a = h.2.2.2 a) : r_at D h' a t H' := by
  cases t with
  | inl ci =>
    obtain ⟨r, h1, h2⟩ := q
    refine ⟨r, h1, ?_⟩
    rw [e1, e2]
    exact h2.kept e
  | inr t =>
    show H'[a]? = _
    rw [e, e1, e2]
    exact q
theorem r_at.lt {D : RG} {h : AH} {a : Nat} {t : Sh} {H : Heap} (q : r_at D h a t H) : a < H.size := by
  cases t with
  | inl ci =>
    obtain ⟨r, h1, cell, h2, -⟩ := q
    exact (Array.getElem?_eq_some_iff.mp h2).1
  | inr t => exact (Array.getElem?_eq_some_iff.mp q).1
/-- one cell is written -/
theorem r_B.put {D : RG} {b : Nat} {s : State} {h h' : AH} {H H' : Heap} {locs : List Loc} (B : r_B D b s h H locs) {a i : Nat} {t : Sh} (ht : h.2.1 a = some t) (hz : H'.size = H.size) (oq : ∀ q : Nat, q ≠ a → H'[q]? = H[q]?) (e0 : h'.1 = h.1) (e1 : h'.2.1 = h.2.1) (e2 : ∀ q, q ≠ a → h'.2.2.1 q = h.2.2.1 q) (e3 : ∀ q, q ≠ a → h'.2.2.2 q = h.2.2.2 q) (ha : r_at D h' a t H') : r_B D b s h' H' (locs ++ [⟨a, i⟩]) := by
  obtain ⟨⟨z, P⟩, S⟩ := B
  refine ⟨⟨by rw [hz, e0]; exact z, fun q u hq => ?_⟩, S.put hz oq (P a t ht).1⟩
  rw [e1] at hq
  by_cases e : q = a
  · subst e
    cases hq.symm.trans ht
    exact ⟨(P _ _ ht).1, ha⟩
  · exact ⟨(P q u hq).1, (P q u hq).2.kept (oq q e) (e2 q e) (e3 q e)⟩
/-- a cell comes -/
theorem r_B.new {D : RG} {b : Nat} {s : State} {h : AH} {H H' : Heap} {locs : List Loc} (B : r_B D b s h H locs) (hb : b ≤ s.heap.size) {t : Sh} (hz : H'.size = h.1 + 1) (oq : ∀ q : Nat, q < h.1 → H'[q]? = H[q]?) (ha : r_at D (newS h t) h.1 t H') : r_B D b s (newS h t) H' locs := by
  obtain ⟨⟨z, P⟩, S⟩ := B
  refine ⟨⟨hz, fun q u hq => ?_⟩, by rw [hz, ← z]; exact Nat.le_succ_of_le S.1, fun q h1 h2 => ?_, S.2.2⟩
  · by_cases e : q = h.1
    · subst e
      have : u = t := by simpa [newS] using hq.symm
      subst this
      exact ⟨by rw [← z]; exact Nat.le_trans hb S.1, ha⟩
    · have hq' : h.2.1 q = some u := by simpa [newS, e] using hq
      have hl := (P q u hq').2.lt
      exact ⟨(P q u hq').1, (P q u hq').2.kept (oq q (by omega)) (by funext k; simp [newS, e]) (by funext k; simp [newS, e])⟩
  · rw [oq q (by have := S.1; omega)]
    exact S.2.1 q h1 h2
/-! what a program does, as a function -/
section FN
variable {α β : Type}
def gI (h : AH) (r : Option Nat) (ci k : Nat) (K : Int32 → Option α) : Option α := match r with
  | none => none
  | some a => if h.2.1 a = some (.inl ci) then K (h.2.2.1 a k) else none
def gR (h : AH) (r : Option Nat) (ci k : Nat) (K : Option Nat → Option α) : Option α := match r with
  | none => none
  | some a => if h.2.1 a = some (.inl ci) then K (h.2.2.2 a k) else none
def pI (h : AH) (r : Option Nat) (ci k : Nat) (x : Int32) (K : AH → Option α) : Option α := match r with
  | none => none
  | some a => if h.2.1 a = some (.inl ci) then K (setI h a k x) else none
def pZ (h : AH) (r : Option Nat) (ci k : Nat) (x : Int32) (K : AH → Option α) : Option α := match r with
  | none => none
  | some a => if h.2.1 a = some (.inl ci) ∧ (x = 0 ∨ x = 1) then K (setI h a k x) else none
def pR (h : AH) (r : Option Nat) (ci k : Nat) (x : Option Nat) (K : AH → Option α) : Option α := match r with
  | none => none
  | some a => if h.2.1 a = some (.inl ci) then K (setR h a k x) else none
def arl (h : AH) (r : Option Nat) (ty : FieldType) : Option (Nat × Nat) := match r with
  | none => none
  | some a => match h.2.1 a with
    | some (.inr t) => if t.1 = ty then some (a, t.2) else none
    | _ => none
def aL (ty : FieldType) (h : AH) (r : Option Nat) (K : Int32 → Option α) : Option α := match arl h r ty with
  | none => none
  | some q => K (Int32.ofNat q.2)
def aI (ty : FieldType) (h : AH) (r : Option Nat) (i : Int32) (K : Int32 → Option α) : Option α := match arl h r ty with
  | none => none
  | some q => if i < 0 ∨ q.2 ≤ i.toNatClampNeg then none else K (h.2.2.1 q.1 i.toNatClampNeg)
def aR (ty : FieldType) (h : AH) (r : Option Nat) (i : Int32) (K : Option Nat → Option α) : Option α := match arl h r ty with
  | none => none
  | some q => if i < 0 ∨ q.2 ≤ i.toNatClampNeg then none else K (h.2.2.2 q.1 i.toNatClampNeg)
def sI (ty : FieldType) (h : AH) (r : Option Nat) (i x : Int32) (K : AH → Option α) : Option α := match arl h r ty with
  | none => none
  | some q => if i < 0 ∨ q.2 ≤ i.toNatClampNeg then none else K (setI h q.1 i.toNatClampNeg (vp_nar ty x))
/-- an object of class ci is put into an array of its class -/
def sR (ty : FieldType) (ci : Nat) (h : AH) (r : Option Nat) (i : Int32) (x : Option Nat) (K : AH → Option α) : Option α := match arl h r ty with
  | none => none
  | some q => match x with
    | none => none
    | some v => if (i < 0 ∨ q.2 ≤ i.toNatClampNeg) ∨ ¬ h.2.1 v = some (.inl ci) then none else K (setR h q.1 i.toNatClampNeg (some v))
def bd (x : α) (K : α → Option β) : Option β := K x
def rcv (h : AH) (r : Option Nat) (ci : Nat) (K : Nat → Option α) : Option α := match r with
  | none => none
  | some a => if h.2.1 a = some (.inl ci) then K a else none
def cal (F : Option (α × AH)) (K : α → AH → Option β) : Option β := match F with
  | none => none
  | some q => K q.1 q.2
def dv (x y : Int32) (K : Int32 → Option α) : Option α := if y = 0 then none else K (x / y)
def rm (x y : Int32) (K : Int32 → Option α) : Option α := if y = 0 then none else K (x - x / y * y)
def rZ (x : Int32) (h : AH) : Option (Int32 × AH) := if x = 0 ∨ x = 1 then some (x, h) else none
def nul (r : Option Nat) (A B : Option α) : Option α := match r with
  | none => A
  | some _ => B
theorem gI_inv {h : AH} {r : Option Nat} {ci k : Nat} {K : Int32 → Option α} {Z : α} (hf : gI h r ci k K = some Z) : ∃ a, r = some a ∧ h.2.1 a = some (.inl ci) ∧ K (h.2.2.1 a k) = some Z := by
  cases r with
  | none => cases hf
  | some a =>
    by_cases q : h.2.1 a = some (.inl ci)
    · exact ⟨a, rfl, q, by simpa [gI, q] using hf⟩
    · simp [gI, q] at hf
theorem gR_inv {h : AH} {r : Option Nat} {ci k : Nat} {K : Option Nat → Option α} {Z : α} (hf : gR h r ci k K = some Z) : ∃ a, r = some a ∧ h.2.1 a = some (.inl ci) ∧ K (h.2.2.2 a k) = some Z := by
  cases r with
  | none => cases hf
  | some a =>
    by_cases q : h.2.1 a = some (.inl ci)
    · exact ⟨a, rfl, q, by simpa [gR, q] using hf⟩
    · simp [gR, q] at hf
theorem pI_inv {h : AH} {r : Option Nat} {ci k : Nat} {x : Int32} {K : AH → Option α} {Z : α} (hf : pI h r ci k x K = some Z) : ∃ a, r = some a ∧ h.2.1 a = some (.inl ci) ∧ K (setI h a k x) = some Z := by
  cases r with
  | none => cases hf
  | some a =>
    by_cases q : h.2.1 a = some (.inl ci)
    · exact ⟨a, rfl, q, by simpa [pI, q] using hf⟩
    · simp [pI, q] at hf
theorem pZ_inv {h : AH} {r : Option Nat} {ci k : Nat} {x : Int32} {K : AH → Option α} {Z : α} (hf : pZ h r ci k x K = some Z) : ∃ a, r = some a ∧ h.2.1 a = some (.inl ci) ∧ (x = 0 ∨ x = 1) ∧ K (setI h a k x) = some Z := by
  cases r with
  | none => cases hf
  | some a =>
    by_cases q : h.2.1 a = some (.inl ci) ∧ (x = 0 ∨ x = 1)
    · refine ⟨a, rfl, q.1, q.2, ?_⟩
      unfold pZ at hf
      simp only [if_pos q] at hf
      exact hf
    · unfold pZ at hf
      simp only [if_neg q] at hf
      cases hf
theorem pR_inv {h : AH} {r : Option Nat} {ci k : Nat} {x : Option Nat} {K : AH → Option α} {Z : α} (hf : pR h r ci k x K = some Z) : ∃ a, r = some a ∧ h.2.1 a = some (.inl ci) ∧ K (setR h a k x) = some Z := by
  cases r with
  | none => cases hf
  | some a =>
    by_cases q : h.2.1 a = some (.inl ci)
    · exact ⟨a, rfl, q, by simpa [pR, q] using hf⟩
    · simp [pR, q] at hf
theorem arl_inv {h : AH} {r : Option Nat} {ty : FieldType} {q : Nat × Nat} (hf : arl h r ty = some q) : r = some q.1 ∧ h.2.1 q.1 = some (.inr (ty, q.2)) := by
  cases r with
  | none => cases hf
  | some a =>
    unfold arl at hf
    cases hs : h.2.1 a with
    | none => simp [hs] at hf
    | some t =>
      cases t with
      | inl ci => simp [hs] at hf
      | inr t =>
        simp only [hs] at hf
        by_cases e : t.1 = ty
        · rw [if_pos e] at hf
          cases hf
          subst e
          exact ⟨rfl, hs⟩
        · rw [if_neg e] at hf
          cases hf
theorem aL_inv {ty : FieldType} {h : AH} {r : Option Nat} {K : Int32 → Option α} {Z : α} (hf : aL ty h r K = some Z) : ∃ a n, r = some a ∧ h.2.1 a = some (.inr (ty, n)) ∧ K (Int32.ofNat n) = some Z := by
  unfold aL at hf
  cases e : arl h r ty with
  | none => simp [e] at hf
  | some q =>
    simp only [e] at hf
    exact ⟨q.1, q.2, (arl_inv e).1, (arl_inv e).2, hf⟩
theorem aI_inv {ty : FieldType} {h : AH} {r : Option Nat} {i : Int32} {K : Int32 → Option α} {Z : α} (hf : aI ty h r i K = some Z) : ∃ a n, r = some a ∧ h.2.1 a = some (.inr (ty, n)) ∧ vp_in i n ∧ K (h.2.2.1 a i.toNatClampNeg) = some Z := by
  unfold aI at hf
  cases e : arl h r ty with
  | none => simp [e] at hf
  | some q =>
    simp only [e] at hf
    by_cases e1 : i < 0 ∨ q.2 ≤ i.toNatClampNeg
    · rw [if_pos e1] at hf
      cases hf
    · rw [if_neg e1] at hf
      exact ⟨q.1, q.2, (arl_inv e).1, (arl_inv e).2, e1, hf⟩
theorem aR_inv {ty : FieldType} {h : AH} {r : Option Nat} {i : Int32} {K : Option Nat → Option α} {Z : α} (hf : aR ty h r i K = some Z) : ∃ a n, r = some a ∧ h.2.1 a = some (.inr (ty, n)) ∧ vp_in i n ∧ K (h.2.2.2 a i.toNatClampNeg) = some Z := by
  unfold aR at hf
  cases e : arl h r ty with
  | none => simp [e] at hf
  | some q =>
    simp only [e] at hf
    by_cases e1 : i < 0 ∨ q.2 ≤ i.toNatClampNeg
    · rw [if_pos e1] at hf
      cases hf
    · rw [if_neg e1] at hf
      exact ⟨q.1, q.2, (arl_inv e).1, (arl_inv e).2, e1, hf⟩
theorem sI_inv {ty : FieldType} {h : AH} {r : Option Nat} {i x : Int32} {K : AH → Option α} {Z : α} (hf : sI ty h r i x K = some Z) : ∃ a n, r = some a ∧ h.2.1 a = some (.inr (ty, n)) ∧ vp_in i n ∧ K (setI h a i.toNatClampNeg (vp_nar ty x)) = some Z := by
  unfold sI at hf
  cases e : arl h r ty with
  | none => simp [e] at hf
  | some q =>
    simp only [e] at hf
    by_cases e1 : i < 0 ∨ q.2 ≤ i.toNatClampNeg
    · rw [if_pos e1] at hf
      cases hf
    · rw [if_neg e1] at hf
      exact ⟨q.1, q.2, (arl_inv e).1, (arl_inv e).2, e1, hf⟩
theorem sR_inv {ty : FieldType} {ci : Nat} {h : AH} {r : Option Nat} {i : Int32} {x : Option Nat} {K : AH → Option α} {Z : α} (hf : sR ty ci h r i x K = some Z) : ∃ a n v, r = some a ∧ h.2.1 a = some (.inr (ty, n)) ∧ vp_in i n ∧ x = some v ∧ h.2.1 v = some (.inl ci) ∧ K (setR h a i.toNatClampNeg (some v)) = some Z := by
  unfold sR at hf
  cases e : arl h r ty with
  | none => simp [e] at hf
  | some q =>
    cases x with
    | none => simp [e] at hf
    | some v =>
      simp only [e] at hf
      by_cases e1 : (i < 0 ∨ q.2 ≤ i.toNatClampNeg) ∨ ¬ h.2.1 v = some (.inl ci)
      · rw [if_pos e1] at hf
        cases hf
      · rw [if_neg e1] at hf
        exact ⟨q.1, q.2, v, (arl_inv e).1, (arl_inv e).2, fun z => e1 (Or.inl z), rfl, Classical.byContradiction fun z => e1 (Or.inr z), hf⟩
theorem rcv_inv {h : AH} {r : Option Nat} {ci : Nat} {K : Nat → Option α} {Z : α} (hf : rcv h r ci K = some Z) {G : Prop} (k : ∀ a, r = some a → h.2.1 a = some (.inl ci) → K a = some Z → G) : G := by
  cases r with
  | none => cases hf
  | some a =>
    by_cases q : h.2.1 a = some (.inl ci)
    · exact k a rfl q (by simpa [rcv, q] using hf)
    · simp [rcv, q] at hf
theorem cal_inv {F : Option (α × AH)} {K : α → AH → Option β} {Z : β} (hf : cal F K = some Z) {G : Prop} (k : ∀ v h, F = some (v, h) → K v h = some Z → G) : G := by
  cases F with
  | none => cases hf
  | some q => exact k q.1 q.2 rfl hf
theorem bd_inv {x : α} {K : α → Option β} {Z : β} (hf : bd x K = some Z) : K x = some Z := hf
theorem dv_inv {x y : Int32} {K : Int32 → Option α} {Z : α} (hf : dv x y K = some Z) : ¬ y = 0 ∧ K (x / y) = some Z := by
  unfold dv at hf
  by_cases q : y = 0
  · rw [if_pos q] at hf
    cases hf
  · rw [if_neg q] at hf
    exact ⟨q, hf⟩
theorem rm_inv {x y : Int32} {K : Int32 → Option α} {Z : α} (hf : rm x y K = some Z) : ¬ y = 0 ∧ K (x - x / y * y) = some Z := by
  unfold rm at hf
  by_cases q : y = 0
  · rw [if_pos q] at hf
    cases hf
  · rw [if_neg q] at hf
    exact ⟨q, hf⟩
theorem rZ_inv {x v : Int32} {h h' : AH} (hf : rZ x h = some (v, h')) : narrow .boolean (.int x) = .int x ∧ x = v ∧ h = h' := by
  unfold rZ at hf
  by_cases q : x = 0 ∨ x = 1
  · rw [if_pos q] at hf
    cases hf
    refine ⟨?_, rfl, rfl⟩
    rcases q with rfl | rfl <;> rfl
  · rw [if_neg q] at hf
    cases hf
end FN
