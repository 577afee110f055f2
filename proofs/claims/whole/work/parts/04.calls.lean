/-! ===== rows: locals and branches, new cells, calls, a method's start and end ===== -/
theorem va_cat (r : Option Nat) : (va_rf r).category = 1 := by cases r <;> rfl
theorem cat_i (x : Int32) : (Value.int x).category = 1 := rfl
theorem cat_r (x : Nat) : (Value.ref x).category = 1 := rfl
theorem cat_l (x : Int64) : (Value.long x).category = 2 := rfl
def mx (x y : Int32) : Int32 := if x < y then y else x
def mn (x y : Int32) : Int32 := if y < x then y else x
section RW2
variable {p : Program} {l : Launch} {e : Env} {R : Room} {s : State} {m : MethodId} {args : Array Value} {below : List Frame} {meth : Method} {c : Code} {H : Heap} {locs : List Loc} {cells slots : Nat} {Q : State → Prop}
variable {cc : ByteArray} {nL : Nat} {own : String} {D : RG} {b : Nat} {h : AH} {pc : Nat} {ls : Array Slot} {rest : List Value} {α : Type} {Z : α}
theorem r_aload_n (hexec : p.tables.exec = Jvm.exec) (hb : c.code = cc) {k : Fin 4} {i : Nat} {r : Option Nat} (hdg : decode cc pc = .ok (.aload_n k, 1)) (hi : (k : Nat) = i) (hl : ls[i]? = some (.val (va_rf r)))
    (kk : W p l e R s m args below meth c H locs cells slots Q (F0 m (pc + 1) ls (va_rf r :: rest))) : W p l e R s m args below meth c H locs cells slots Q (F0 m pc ls rest) := by
  cases r with
  | none => exact lv_aload_nN hexec hb hdg hi hl kk
  | some a => exact lv_aload_n hexec hb hdg hi hl kk
theorem r_aload (hexec : p.tables.exec = Jvm.exec) (hb : c.code = cc) {i : Nat} {r : Option Nat} (hdg : decode cc pc = .ok (.aload i, 2)) (hl : ls[i]? = some (.val (va_rf r)))
    (kk : W p l e R s m args below meth c H locs cells slots Q (F0 m (pc + 2) ls (va_rf r :: rest))) : W p l e R s m args below meth c H locs cells slots Q (F0 m pc ls rest) := by
  cases r with
  | none => exact lv_aloadN hexec hb hdg hl kk
  | some a => exact lv_aload hexec hb hdg hl kk
theorem r_astore_n (hexec : p.tables.exec = Jvm.exec) (hb : c.code = cc) {k : Fin 4} {i nL : Nat} {r : Option Nat} {lv lv' : List (Nat × Value)} (hdg : decode cc pc = .ok (.astore_n k, 1)) (hi : (k : Nat) = i) (h : lv_has ls nL lv) (hn : i < nL) (hl : (i, va_rf r) :: lv.filter (fun q => !(q.1 == i) && !(q.1 + 1 == i && q.2.category == 2)) = lv')
    (kk : ∀ ls' : Array Slot, lv_has ls' nL lv' → W p l e R s m args below meth c H locs cells slots Q (F0 m (pc + 1) ls' rest)) : W p l e R s m args below meth c H locs cells slots Q (F0 m pc ls (va_rf r :: rest)) := by
  cases r with
  | none => exact lv_astore_nN hexec hb hdg hi h hn hl kk
  | some a => exact lv_astore_n hexec hb hdg hi h hn hl kk
theorem r_astore (hexec : p.tables.exec = Jvm.exec) (hb : c.code = cc) {i nL : Nat} {r : Option Nat} {lv lv' : List (Nat × Value)} (hdg : decode cc pc = .ok (.astore i, 2)) (h : lv_has ls nL lv) (hn : i < nL) (hl : (i, va_rf r) :: lv.filter (fun q => !(q.1 == i) && !(q.1 + 1 == i && q.2.category == 2)) = lv')
    (kk : ∀ ls' : Array Slot, lv_has ls' nL lv' → W p l e R s m args below meth c H locs cells slots Q (F0 m (pc + 2) ls' rest)) : W p l e R s m args below meth c H locs cells slots Q (F0 m pc ls (va_rf r :: rest)) := by
  cases r with
  | none => exact lv_astoreN hexec hb hdg h hn hl kk
  | some a => exact lv_astore hexec hb hdg h hn hl kk
theorem r_null (hexec : p.tables.exec = Jvm.exec) (hb : c.code = cc) (hdg : decode cc pc = .ok (.aconst_null, 1)) (kk : W p l e R s m args below meth c H locs cells slots Q (F0 m (pc + 1) ls (va_rf none :: rest))) : W p l e R s m args below meth c H locs cells slots Q (F0 m pc ls rest) := lv_null hexec hb hdg kk
theorem r_ifnull (hexec : p.tables.exec = Jvm.exec) (hb : c.code = cc) {r : Option Nat} {A1 A2 : Option α} {off : Int} {tgt : Nat} (hf : nul r A1 A2 = some Z) (hdg : decode cc pc = .ok (.ifnull off, 3)) (ht : (pc : Int) + off = (tgt : Int))
    (k1 : A1 = some Z → r = none → W p l e R s m args below meth c H locs cells slots Q (F0 m tgt ls rest)) (k2 : A2 = some Z → (∃ a, r = some a) → W p l e R s m args below meth c H locs cells slots Q (F0 m (pc + 3) ls rest)) : W p l e R s m args below meth c H locs cells slots Q (F0 m pc ls (va_rf r :: rest)) := by
  cases r with
  | none => exact lv_ifnullN hexec hb hdg ht (k1 hf rfl)
  | some a => exact lv_ifnull hexec hb hdg (k2 hf ⟨a, rfl⟩)
theorem r_ifnonnull (hexec : p.tables.exec = Jvm.exec) (hb : c.code = cc) {r : Option Nat} {A1 A2 : Option α} {off : Int} {tgt : Nat} (hf : nul r A1 A2 = some Z) (hdg : decode cc pc = .ok (.ifnonnull off, 3)) (ht : (pc : Int) + off = (tgt : Int))
    (k1 : A1 = some Z → r = none → W p l e R s m args below meth c H locs cells slots Q (F0 m (pc + 3) ls rest)) (k2 : A2 = some Z → (∃ a, r = some a) → W p l e R s m args below meth c H locs cells slots Q (F0 m tgt ls rest)) : W p l e R s m args below meth c H locs cells slots Q (F0 m pc ls (va_rf r :: rest)) := by
  cases r with
  | none => exact lv_ifnonnullN hexec hb hdg (k1 hf rfl)
  | some a => exact lv_ifnonnull hexec hb hdg ht (k2 hf ⟨a, rfl⟩)
/-- a choice in the function -/
theorem r_ite {P : Prop} [Decidable P] {A1 A2 : Option α} (hf : (if P then A1 else A2) = some Z) : (P → A1 = some Z) ∧ (¬ P → A2 = some Z) := by
  by_cases q : P
  · rw [if_pos q] at hf
    exact ⟨fun _ => hf, fun z => absurd q z⟩
  · rw [if_neg q] at hf
    exact ⟨fun z => absurd z q, fun _ => hf⟩
theorem r_div (hexec : p.tables.exec = Jvm.exec) (hb : c.code = cc) {x y : Int32} {K : Int32 → Option α} (hf : dv x y K = some Z) (hdg : decode cc pc = .ok (.idiv, 1))
    (kk : ∀ v : Int32, K v = some Z → W p l e R s m args below meth c H locs cells slots Q (F0 m (pc + 1) ls (.int v :: rest))) : W p l e R s m args below meth c H locs cells slots Q (F0 m pc ls (.int y :: .int x :: rest)) :=
  lv_idiv hexec hb hdg (dv_inv hf).1 (kk _ (dv_inv hf).2)
theorem r_rem (hexec : p.tables.exec = Jvm.exec) (hb : c.code = cc) {x y : Int32} {K : Int32 → Option α} (hf : rm x y K = some Z) (hdg : decode cc pc = .ok (.irem, 1))
    (kk : ∀ v : Int32, K v = some Z → W p l e R s m args below meth c H locs cells slots Q (F0 m (pc + 1) ls (.int v :: rest))) : W p l e R s m args below meth c H locs cells slots Q (F0 m pc ls (.int y :: .int x :: rest)) :=
  lv_irem hexec hb hdg (rm_inv hf).1 (kk _ (rm_inv hf).2)
/-- a name for what is on the stack -/
theorem r_bd {x : Int32} {K : Int32 → Option α} (hf : bd x K = some Z) (kk : ∀ v : Int32, K v = some Z → W p l e R s m args below meth c H locs cells slots Q (F0 m pc ls (.int v :: rest))) : W p l e R s m args below meth c H locs cells slots Q (F0 m pc ls (.int x :: rest)) := kk x hf
theorem r_bdl {x : Int64} {K : Int64 → Option α} (hf : bd x K = some Z) (kk : ∀ v : Int64, K v = some Z → W p l e R s m args below meth c H locs cells slots Q (F0 m pc ls (.long v :: rest))) : W p l e R s m args below meth c H locs cells slots Q (F0 m pc ls (.long x :: rest)) := kk x hf
/-- a local grows -/
theorem r_iinc (hexec : p.tables.exec = Jvm.exec) (hb : c.code = cc) {i nL k : Nat} {n : Int} {x d : Int32} {lv : List (Nat × Value)} {lv' : Int32 → List (Nat × Value)} {K : Int32 → Option α} (hf : bd (x + d) K = some Z) (hdg : decode cc pc = .ok (.iinc i n, 3)) (h : lv_has ls nL lv) (hk : lv[k]? = some (i, .int x)) (hd : Int32.ofInt n = d) (hn : i < nL) (hl : ∀ v : Int32, (i, Value.int v) :: lv.filter (fun q => !(q.1 == i) && !(q.1 + 1 == i && q.2.category == 2)) = lv' v)
    (kk : ∀ (v : Int32) (ls' : Array Slot), lv_has ls' nL (lv' v) → K v = some Z → W p l e R s m args below meth c H locs cells slots Q (F0 m (pc + 3) ls' rest)) : W p l e R s m args below meth c H locs cells slots Q (F0 m pc ls rest) :=
  lv_iinc hexec hb hdg h hk (v := x + d) (by rw [hd]) hn (hl _) (fun ls' h' => kk _ ls' h' hf)
/-! new cells -/
def nO (h : AH) (ci : Nat) (K : Nat → AH → Option α) : Option α := K h.1 (newS h (.inl ci))
/-- an array of n cells -/
def nA (h : AH) (ty : FieldType) (x : Int32) (N : Nat) (K : Nat → AH → Option α) : Option α := if x < 0 ∨ N < x.toNatClampNeg then none else K h.1 (newS h (.inr (ty, x.toNatClampNeg)))
theorem r_new (X : r_C p c cc nL s m args own D b) (B : r_B D b s h H locs) {ci : Nat} {C : String} {T : u_T} {N index : Nat} {K : Nat → AH → Option α} (hf : nO h ci K = some Z) (hc : vwCl[ci]? = some (C, T, N)) (hin : ∀ w ∈ u_ws C T N, w ∈ wsL_law) (hty : ∀ k, k < N → parseFieldDescriptor (T k).2.2.1 = some (r_ty ci k)) (hcl : Cond.classLink own index C ∈ wsL_law) (hinst : Cond.instantiable C N ∈ wsL_law) (hini : Cond.initialized C ∈ wsL_law) (hcells : cells + 1 ≤ R.cells) (hslots : slots + N ≤ R.slots) (hdg : decode cc pc = .ok (.new index, 3))
    (hdf : ∀ k, k < N → defaultValue (r_ty ci k) = r_val (r_ty ci k) 0 none)
    (kk : ∀ (a : Nat) (h' : AH) (H1 : Heap), r_B D b s h' H1 locs → K a h' = some Z → W p l e R s m args below meth c H1 locs (cells + 1) (slots + N) Q (F0 m (pc + 3) ls (va_rf (some a) :: rest))) : W p l e R s m args below meth c H locs cells slots Q (F0 m pc ls rest) := by
  obtain ⟨⟨hx, hb, -, hown, hts⟩, hK, -, hbs⟩ := X
  have hKn := hK.1.1 ci _ hc
  refine W.newcK hx hb hown (hts _ hcl) (hts _ hinst) (hts _ hini) rfl hdg hcells hslots hKn.2.1 B.1.1 fun H1 kC hkC e1 z1 o1 => ?_
  refine kk h.1 _ H1 (B.new (t := .inl ci) hbs z1 o1 ⟨_, hc, ?_⟩) hf
  refine (u_born (r_ty ci) hts hin hKn hkC e1 hty).to (fun k hk => ?_)
  simp [newS]
  exact hdf k hk
theorem r_newA (X : r_C p c cc nL s m args own D b) (B : r_B D b s h H locs) {atype : ArrayType} {ty : FieldType} {x : Int32} {N : Nat} {K : Nat → AH → Option α} (hf : nA h ty x N K = some Z) (hat : newarray.typeOf atype = ty) (ht : ty ∈ r_tys) (harr : Cond.arrayClass ty ∈ wsL_law) (hN : N * componentBytes ty ≤ 536870912) (hcells : cells + 1 ≤ R.cells) (hslots : slots + N ≤ R.slots) (hdf : defaultValue ty = r_val ty 0 none) (hRA : ∀ U cA, va_RA U cA ty → U.vm.findClass ("[" ++ ty.toString) = some cA) (hdg : decode cc pc = .ok (.newarray atype, 2))
    (kk : ∀ (a : Nat) (h' : AH) (H1 : Heap), r_B D b s h' H1 locs → K a h' = some Z → W p l e R s m args below meth c H1 locs (cells + 1) (slots + N) Q (F0 m (pc + 2) ls (va_rf (some a) :: rest))) : W p l e R s m args below meth c H locs cells slots Q (F0 m pc ls (.int x :: rest)) := by
  obtain ⟨⟨hx, hb, -, hown, hts⟩, hK, -, hbs⟩ := X
  subst hat
  unfold nA at hf
  by_cases q : x < 0 ∨ N < x.toNatClampNeg
  · rw [if_pos q] at hf
    cases hf
  · rw [if_neg q] at hf
    have hx0 : ¬ x < 0 := fun z => q (Or.inl z)
    have hxN : x.toNatClampNeg ≤ N := Nat.not_lt.mp fun z => q (Or.inr z)
    refine va_newaK hx hb (hts _ harr) rfl hdg rfl hx0 rfl (Nat.le_trans (Nat.mul_le_mul_right _ hxN) hN) hcells (by omega) B.1.1 fun H1 cA e1 z1 o1 hAr hNm => ?_
    refine W.widen (k := cells + 1) (n := slots + N) (Nat.le_refl _) (by omega) ?_
    refine kk h.1 _ H1 (B.new (t := .inr (newarray.typeOf atype, x.toNatClampNeg)) hbs z1 o1 ?_) hf
    have hcA : cA = D.2.2.1 (newarray.typeOf atype) := Option.some.inj (hNm.symm.trans (hRA _ _ (hK.2.1 _ ht).2))
    subst hcA
    show H1[h.1]? = _
    rw [e1, hdf]
    congr 2
    funext k
    simp [newS]
theorem r_newQ (X : r_C p c cc nL s m args own D b) (B : r_B D b s h H locs) {C : String} {index : Nat} {x : Int32} {N : Nat} {K : Nat → AH → Option α} (hf : nA h (.object C) x N K = some Z) (ht : .object C ∈ r_tys) (hcl : Cond.classLink own index C ∈ wsL_law) (hov : va_AO C s) (hN : N * 4 ≤ 536870912) (hcells : cells + 1 ≤ R.cells) (hslots : slots + N ≤ R.slots) (hdg : decode cc pc = .ok (.anewarray index, 3))
    (kk : ∀ (a : Nat) (h' : AH) (H1 : Heap), r_B D b s h' H1 locs → K a h' = some Z → W p l e R s m args below meth c H1 locs (cells + 1) (slots + N) Q (F0 m (pc + 3) ls (va_rf (some a) :: rest))) : W p l e R s m args below meth c H locs cells slots Q (F0 m pc ls (.int x :: rest)) := by
  obtain ⟨⟨hx, hb, -, hown, hts⟩, hK, -, hbs⟩ := X
  unfold nA at hf
  by_cases q : x < 0 ∨ N < x.toNatClampNeg
  · rw [if_pos q] at hf
    cases hf
  · rw [if_neg q] at hf
    have hx0 : ¬ x < 0 := fun z => q (Or.inl z)
    have hxN : x.toNatClampNeg ≤ N := Nat.not_lt.mp fun z => q (Or.inr z)
    refine W.anew hx hb hown (hts _ hcl) (va_AO.use hov) rfl hdg rfl hx0 (by omega) hcells (by omega) fun cA kA comp f1 f2 f3 f4 => ?_
    generalize hH1 : H.push ({ cls := cA, slots := Array.replicate x.toNatClampNeg .null, vm := .none } : Cell) = H1
    have z1 : H1.size = h.1 + 1 := by rw [← hH1, Array.size_push, B.1.1]
    have e1 : H1[h.1]? = some (arrV cA x.toNatClampNeg (fun _ => .null)) := by rw [← hH1, ← B.1.1, Array.getElem?_push_size, ← arrV_new]
    have o1 : ∀ q : Nat, q < h.1 → H1[q]? = H[q]? := fun q hq => by rw [← hH1, Array.getElem?_push, if_neg (by rw [B.1.1]; exact Nat.ne_of_lt hq)]
    refine W.widen (k := cells + 1) (n := slots + N) (Nat.le_refl _) (by omega) ?_
    have hsz : H.size = h.1 := B.1.1
    rw [hsz]
    refine kk h.1 _ H1 (B.new (t := .inr (.object C, x.toNatClampNeg)) hbs z1 o1 ?_) hf
    obtain ⟨kA', comp', g1, g2, g3, g4⟩ := (hK.2.1 _ ht).2
    have hcA : cA = D.2.2.1 (.object C) := Option.some.inj (f1.symm.trans g4)
    subst hcA
    show H1[h.1]? = _
    rw [e1]
    congr 2
    funext k
    simp [newS, r_val, va_rf]
/-! calls -/
theorem r_call (B : r_B D b s h H locs) {st0 : List Value} {mc ms : Nat} {v : Option Value} {h' : AH} {a : Array Value} (hr : va_Run p l e R s m args below meth c H locs cells slots mc ms (F0 m pc ls st0) rest (r_Q D b v h' a) (fun q => b ≤ q))
    (kk : ∀ (H1 : Heap) (locs1 : List Loc), r_B D b s h' H1 locs1 → W p l e R s m args below meth c H1 locs1 (cells + mc) (slots + ms) Q (F0 m (pc + 3) ls (v.toList ++ rest))) : W p l e R s m args below meth c H locs cells slots Q (F0 m pc ls st0) := by
  intro T hT X
  obtain ⟨v', st₀, t, T', L, h0, X', hL, e1, e2, ⟨hv, hp, hz, hk⟩, st⟩ := hr T hT X
  cases hv
  rw [h0] at hz hk
  obtain ⟨hP, hS⟩ := B
  obtain ⟨t2, a1, b1⟩ := kk T'.heap (locs ++ L) ⟨by rw [e1]; exact hp, Nat.le_trans hS.1 (by rw [e1]; exact hz), fun q h1 h2 => by rw [e1, hk q (Nat.lt_of_lt_of_le h1 hS.1) h2]; exact hS.2.1 q h1 h2, fun q hq => by
      rcases List.mem_append.mp hq with h | h
      · exact hS.2.2 q h
      · exact hL q h⟩ T' rfl X'
  exact ⟨t2, st t2 a1, b1⟩
theorem r_cwV (X : r_C p c cc nL s m args own D b) {y : MethodName} {bytes : ByteArray} {maxL index n mc ms : Nat} {ret : Option FieldType} {rm : Room} {C : String} (hC : y.cls = C) (h1 : Cond.methodLink own index y ∈ wsL_law) (h2 : Cond.instanceMethod y ∈ wsL_law) (h3 : Cond.selects C y y ∈ wsL_law) (h4 : Cond.initialized C ∈ wsL_law) (h5 : Cond.code y bytes maxL ret ∈ wsL_law) (hrc : rm.cells = mc) (hrs : rm.slots = ms)
    (hd : y.cls ≠ "java/lang/invoke/MethodHandle" ∧ y.cls ≠ "java/lang/invoke/VarHandle" ∧ (parseMethodDescriptor y.desc).map (fun d => d.parameters.length) = some n) (hR : rm.frames + 1 ≤ R.frames ∧ 8 + (maxL + 11) + rm.locals ≤ R.locals) : CallW R s args own C index y bytes maxL ret (Cond.code y bytes maxL ret :: wsL_law) rm mc ms n := by
  obtain ⟨⟨-, -, -, -, hts⟩, -⟩ := X
  exact ⟨callB_of n hts (r_good h5) rfl hrc hrs (by rw [hC]; exact hts _ h4) (hts _ h1) hd hR, hts _ h2, hts _ h3⟩
theorem r_cwS (X : r_C p c cc nL s m args own D b) {y : MethodName} {bytes : ByteArray} {maxL index n mc ms : Nat} {ret : Option FieldType} {rm : Room} (h1 : Cond.methodLink own index y ∈ wsL_law) (h2 : Cond.static y ∈ wsL_law) (h4 : Cond.initialized y.cls ∈ wsL_law) (h5 : Cond.code y bytes maxL ret ∈ wsL_law) (hrc : rm.cells = mc) (hrs : rm.slots = ms)
    (hd : y.cls ≠ "java/lang/invoke/MethodHandle" ∧ y.cls ≠ "java/lang/invoke/VarHandle" ∧ (parseMethodDescriptor y.desc).map (fun d => d.parameters.length) = some n) (hR : rm.frames + 1 ≤ R.frames ∧ 8 + (maxL + 11) + rm.locals ≤ R.locals) : CallB R s args own index y bytes maxL ret (Cond.code y bytes maxL ret :: wsL_law) rm mc ms n ∧ (Cond.static y).before args s = true := by
  obtain ⟨⟨-, -, -, -, hts⟩, -⟩ := X
  exact ⟨callB_of n hts (r_good h5) rfl hrc hrs (hts _ h4) (hts _ h1) hd hR, hts _ h2⟩
theorem r_cwI (X : r_C p c cc nL s m args own D b) {y : MethodName} {bytes : ByteArray} {maxL index n mc ms : Nat} {ret : Option FieldType} {rm : Room} (hy : y.name = "<init>") (h1 : Cond.methodLink own index y ∈ wsL_law) (h2 : Cond.instanceMethod y ∈ wsL_law) (h4 : Cond.initialized y.cls ∈ wsL_law) (h5 : Cond.code y bytes maxL ret ∈ wsL_law) (hrc : rm.cells = mc) (hrs : rm.slots = ms)
    (hd : y.cls ≠ "java/lang/invoke/MethodHandle" ∧ y.cls ≠ "java/lang/invoke/VarHandle" ∧ (parseMethodDescriptor y.desc).map (fun d => d.parameters.length) = some n) (hR : rm.frames + 1 ≤ R.frames ∧ 8 + (maxL + 11) + rm.locals ≤ R.locals) : CallB R s args own index y bytes maxL ret (Cond.code y bytes maxL ret :: wsL_law) rm mc ms n ∧ y.name = "<init>" ∧ (Cond.instanceMethod y).before args s = true := by
  obtain ⟨⟨-, -, -, -, hts⟩, -⟩ := X
  exact ⟨callB_of n hts (r_good h5) rfl hrc hrs (hts _ h4) (hts _ h1) hd hR, hy, hts _ h2⟩
theorem r_cwN (X : r_C p c cc nL s m args own D b) {y : MethodName} {bytes : ByteArray} {maxL index n mc ms : Nat} {ret : Option FieldType} {rm : Room} {host : String} (hy : y.name = "<init>") (h1 : Cond.methodLinkNest own index y host ∈ r_nw) (h2 : Cond.instanceMethod y ∈ wsL_law) (h4 : Cond.initialized y.cls ∈ wsL_law) (h5 : Cond.code y bytes maxL ret ∈ wsL_law) (hrc : rm.cells = mc) (hrs : rm.slots = ms)
    (hd : y.cls ≠ "java/lang/invoke/MethodHandle" ∧ y.cls ≠ "java/lang/invoke/VarHandle" ∧ (parseMethodDescriptor y.desc).map (fun d => d.parameters.length) = some n) (hR : rm.frames + 1 ≤ R.frames ∧ 8 + (maxL + 11) + rm.locals ≤ R.locals) : va_CN R s args own index y host bytes maxL ret (Cond.code y bytes maxL ret :: wsL_law) rm mc ms n ∧ y.name = "<init>" ∧ (Cond.instanceMethod y).before args s = true := by
  obtain ⟨⟨-, -, -, -, hts⟩, hK, -⟩ := X
  exact ⟨va_cnB n hts (r_good h5) rfl hrc hrs (hK.2.2.1 _ h1) (hts _ h4) hd hR, hy, hts _ h2⟩
theorem r_preS (X : r_C p c cc nL s m args own D b) (B : r_B D b s h H locs) (As : List Value) : PreS s H (va_Pc As (r_I D b h)) As := ⟨r_blind As, fun U hU hW => ⟨rfl, r_go X B hU hW⟩⟩
theorem r_preV (X : r_C p c cc nL s m args own D b) (B : r_B D b s h H locs) {a ci : Nat} {C : String} {T : u_T} {N : Nat} (hs : h.2.1 a = some (.inl ci)) (hc : vwCl[ci]? = some (C, T, N)) (As : List Value) : PreV s H C a (va_Pc (.ref a :: As) (r_I D b h)) As := by
  refine ⟨r_blind _, ?_, fun U hU hW => ⟨rfl, r_go X B hU hW⟩⟩
  obtain ⟨-, q, hq, cell, q1, q2, q3, -⟩ := B.1.2 a _ hs
  cases hq.symm.trans hc
  exact ⟨cell, q1, by rw [q3]; rfl, by rw [q2]; exact (X.2.1.1.1 ci _ hc).2.1⟩
/-! a method's start and end -/
theorem r_ofW {y : MethodName} {cc : ByteArray} {maxL : Nat} {ret : Option FieldType} {rm : Room} {Qc : Array Value → State → Outcome → State → Prop} {mc ms : Nat} {As : List Value} (ho : y.cls = own) (hy : plainName y.cls = true) (hA : (lg_sl As).length ≤ maxL)
    (body : ∀ (p : Program) (e : Env) (s : State) (m : MethodId) (args : Array Value) (below : List Frame) (meth : Method) (c : Code) (ls : Array Slot), r_C p c cc maxL s m args own D b → r_B D b s h s.heap [] → meth.sig.returnType = ret → meth.locks = false → meth.name = y.name → lv_has ls maxL (lv_args 0 As) →
      W p l e rm s m args below meth c s.heap [] 0 0 (MQ below Qc args s mc ms (fun q => b ≤ q)) (F0 m 0 ls [])) : Met l y (Cond.code y cc maxL ret :: wsL_law) rm (va_Pc As (r_I D b h)) Qc mc ms (fun q => b ≤ q) := by
  refine Met.ofW (cc := cc) (maxL := maxL) (ret := ret) hy rfl ?_
  intro p e s m args below meth c s₁ B hml hv
  obtain ⟨rfl, hK, hE, hbs, hP⟩ := hv
  have hts := atoms_spec (ws := Cond.code y cc maxL ret :: wsL_law) B.pre
  rw [lg_entry_eq]
  exact body p e s m _ below meth c _ ⟨⟨B.exec, B.bytes, hml, by rw [← ho]; exact findClass_of_methodNamed B.named, fun w hw => hts w (List.mem_cons_of_mem _ hw)⟩, hK, hE, hbs⟩ ⟨hP, va_S.rf⟩ B.returns B.notSynchronized (name_of_methodNamed B.named B.method).1 (lv_entry As hA)
theorem r_endQ (B : r_B D b s h H locs) (v : Option Value) : ∀ t : State, t.heap = H → s.WarmedH t.vm → r_Q D b v h args s (.returned v) t := fun t ht _ => ⟨rfl, by rw [ht]; exact B.1, B.2.F ht⟩
theorem r_endL (B : r_B D b s h H locs) : ∀ q ∈ locs, b ≤ q.base := B.2.2.2
theorem r_iret (X : r_C p c cc nL s m args own D b) (B : r_B D b s h H locs) (hr : meth.sig.returnType = some .int) (hlocks : meth.locks = false) {x v : Int32} {h' : AH} (hf : some (x, h) = some (v, h')) (hdg : decode cc pc = .ok (.ireturn, 1)) : W p l e R s m args below meth c H locs cells slots (MQ below (r_Q D b (some (.int v)) h') args s cells slots (fun q => b ≤ q)) (F0 m pc ls [.int x]) := by
  cases hf
  exact W.iret X.1.1 X.1.2.1 hr (r_endQ B _) (r_endL B) hdg
theorem r_zret (X : r_C p c cc nL s m args own D b) (B : r_B D b s h H locs) (hr : meth.sig.returnType = some .boolean) (hlocks : meth.locks = false) {x v : Int32} {h' : AH} (hf : rZ x h = some (v, h')) (hdg : decode cc pc = .ok (.ireturn, 1)) : W p l e R s m args below meth c H locs cells slots (MQ below (r_Q D b (some (.int v)) h') args s cells slots (fun q => b ≤ q)) (F0 m pc ls [.int x]) := by
  obtain ⟨hn, rfl, rfl⟩ := rZ_inv hf
  exact W.zret X.1.1 X.1.2.1 hr hn (r_endQ B _) (r_endL B) hdg
theorem r_lret (X : r_C p c cc nL s m args own D b) (B : r_B D b s h H locs) (hr : meth.sig.returnType = some .long) (hlocks : meth.locks = false) {x v : Int64} {h' : AH} (hf : some (x, h) = some (v, h')) (hdg : decode cc pc = .ok (.lreturn, 1)) : W p l e R s m args below meth c H locs cells slots (MQ below (r_Q D b (some (.long v)) h') args s cells slots (fun q => b ≤ q)) (F0 m pc ls [.long x]) := by
  cases hf
  exact W.lret X.1.1 X.1.2.1 hr (r_endQ B _) (r_endL B) hdg
theorem r_aret (X : r_C p c cc nL s m args own D b) (B : r_B D b s h H locs) {C : String} (hr : meth.sig.returnType = some (.object C)) (hlocks : meth.locks = false) {x v : Option Nat} {h' : AH} (hf : some (x, h) = some (v, h')) (hdg : decode cc pc = .ok (.areturn, 1)) : W p l e R s m args below meth c H locs cells slots (MQ below (r_Q D b (some (va_rf v)) h') args s cells slots (fun q => b ≤ q)) (F0 m pc ls [va_rf x]) := by
  cases hf
  exact W.aret X.1.1 X.1.2.1 hr (Or.inl ⟨_, rfl⟩) (va_rf_or x) (r_endQ B _) (r_endL B) hdg
theorem r_vret (X : r_C p c cc nL s m args own D b) (B : r_B D b s h H locs) (hr : meth.sig.returnType = none) (hlocks : meth.locks = false) {v : Unit} {h' : AH} (hf : some ((), h) = some (v, h')) (hdg : decode cc pc = .ok (.return_, 1)) : W p l e R s m args below meth c H locs cells slots (MQ below (r_Q D b none h') args s cells slots (fun q => b ≤ q)) (F0 m pc ls []) := by
  cases hf
  exact W.vret X.1.1 X.1.2.1 hr (r_endQ B _) (r_endL B) hdg
end RW2
