/-! THE CLAIM OUT OF ONE WALK OF THE LAW'S BODY. Your part is whole_start (and what it stands on); all else here is the same for every law, but numbers. -/
def R_law : String := "TankChainLaw"
def lw_P (b : Addr) (xs : List Int32) (args : Array Value) (s : State) : Prop := args = #[.ref b] ∧ s.IntsAt b xs ∧ xs.length ≤ 3073 ∧ (Jvm.Cond.and given_1 narrow_1).before args s = true
def lw_Q (_ : Array Value) (s : State) (o : Outcome) (t : State) : Prop := o = .returned (some (.int 1)) ∧ Framed s o t [] 600000 7302250
def lw_Z (below : List Frame) (a : Array Value) (s : State) : State → Prop := fun t => ∃ o, t.status = .running ∧ Ended t below o ∧ lw_Q a s o t
/-- the law's own end, with 1 on the stack, nothing written that was there before, its room as the claim has it -/
theorem lw_ret {p : Program} {l : Launch} {e : Env} {s : State} {m : MethodId} {below : List Frame} {meth : Method} {c : Code} {b : Nat} (hx : p.tables.exec = Jvm.exec) (hb : c.code = code) (hr : meth.sig.returnType = ret) (hlocks : meth.locks = false) {pc : Nat} {H : Heap} {ls : Array Slot} (hdg : decode code pc = .ok (.ireturn, 1)) : W p l e room_1 s m #[Value.ref b] below meth c H [] 600000 7302250 (lw_Z below #[Value.ref b] s) (F0 m pc ls [.int 1]) := by
  intro T hT X
  obtain ⟨fs, hret, hrun, hended, hW, hframe⟩ := X.leave (v := some (.int 1)) (hlocks := hlocks) (fun h => by rw [hr] at h; cases h)
  have hmeth' : T.vm.method? m = some meth := X.method'
  refine ⟨T.setFrames fs, ?_, .returned (some (.int 1)), hrun, hended, rfl, ⟨_, rfl⟩, hW, hframe⟩
  jvm_step X.here [X.here.top, hx, hb, hdg, hmeth', hr, ret, narrow_b1]
  (try refine ⟨rfl, ?_⟩); (try refine ⟨rfl, ?_⟩)
  first | (intro acts; rw [hret _ acts rfl rfl rfl]) | rw [hret _ _ rfl rfl rfl]
  exact Steps.refl _
/-- what holds at the law's entry: the machine, the code, the tables' words (any of lw_tbl by 'hts w (by decide +kernel)'), the script of L ints xs at the cell b, what the Statement gives of the start (any of its parts by flat_of_before) -/
def lw_At (p : Program) (s : State) (m : MethodId) (meth : Method) (c : Code) (b L : Nat) (xs : Nat → Int32) : Prop :=
  p.tables.exec = Jvm.exec ∧ c.code = code ∧ meth.sig.returnType = ret ∧ c.maxLocals = 4 ∧ s.vm.findClass R_law = some m.cls ∧ (∀ w ∈ lw_tbl, w.before #[Value.ref b] s = true) ∧ va_X b L xs s s.heap ∧ b < s.heap.size ∧ meth.locks = false ∧ (Jvm.Cond.and given_1 narrow_1).before #[Value.ref b] s = true

/-! the law's script, and cell() of it -/
def cellF (xs : Nat → Int32) (L : Nat) : Int32 := if Int32.ofNat L ≤ 0 then 0 else xs 0
def scr {α : Type} (xs : Nat → Int32) (L : Nat) (i : Int32) (K : Int32 → Option α) : Option α := if i < 0 ∨ L ≤ i.toNatClampNeg then none else K (xs i.toNatClampNeg)
section LW
variable {p : Program} {l : Launch} {e : Env} {R : Room} {s : State} {m : MethodId} {args : Array Value} {below : List Frame} {meth : Method} {c : Code} {H : Heap} {locs : List Loc} {cells slots : Nat} {Q : State → Prop}
variable {cc : ByteArray} {nL : Nat} {own : String} {D : RG} {b : Nat} {h : AH} {pc : Nat} {ls : Array Slot} {rest : List Value} {α : Type} {Z : α}
theorem r_scr (X : r_C p c cc nL s m args own D b) {b0 L : Nat} {xs : Nat → Int32} (hX : va_X b0 L xs s s.heap) (hbl : b0 < b) (B : r_B D b s h H locs) {i : Int32} {K : Int32 → Option α} (hf : scr xs L i K = some Z) (hdg : decode cc pc = .ok (.iaload, 1))
    (kk : ∀ v : Int32, K v = some Z → W p l e R s m args below meth c H locs cells slots Q (F0 m (pc + 1) ls (.int v :: rest))) : W p l e R s m args below meth c H locs cells slots Q (F0 m pc ls (.int i :: .ref b0 :: rest)) := by
  unfold scr at hf
  by_cases q : i < 0 ∨ L ≤ i.toNatClampNeg
  · rw [if_pos q] at hf
    cases hf
  · rw [if_neg q] at hf
    exact va_sld X.1.1 X.1.2.1 hX (Nat.lt_of_lt_of_le hbl X.2.2.2) (Nat.not_le.mpr hbl) B.2 q hdg (kk _ hf)
set_option maxRecDepth 100000 in
set_option maxHeartbeats 4000000 in
theorem c_L_cell {b0 L : Nat} {xs : Nat → Int32} (hbb : b0 < b) (hLs : L < 2 ^ 31) : Met l yL_cell (Cond.code yL_cell cL_cell 2 (some .int) :: wsL_law) ({ frames := 0, cells := 0, slots := 0, locals := 0 } : Room) (va_Pc [.ref b0, .int 0] (fun U => r_I D b h U ∧ va_X b0 L xs U U.heap)) (r_Q D b (some (.int (cellF xs L))) h) 0 0 (fun q => b ≤ q) := by
  refine Met.ofW (cc := cL_cell) (maxL := 2) (ret := some .int) (by decide +kernel) rfl ?_
  intro p e s m args below meth c s₁ B0 hml hv
  obtain ⟨rfl, ⟨hK, hE, hbs, hP⟩, hX⟩ := hv
  have hts0 := atoms_spec (ws := Cond.code yL_cell cL_cell 2 (some .int) :: wsL_law) B0.pre
  rw [lg_entry_eq]
  have X : r_C p c cL_cell 2 s m [Value.ref b0, Value.int 0].toArray RL D b := ⟨⟨B0.exec, B0.bytes, hml, findClass_of_methodNamed B0.named, fun w hw => hts0 w (List.mem_cons_of_mem _ hw)⟩, hK, hE, hbs⟩
  have B : r_B D b s h s.heap [] := ⟨hP, va_S.rf⟩
  have hr := B0.returns
  have hk := B0.notSynchronized
  have hl := lv_entry ([.ref b0, .int 0]) (n := 2) (Nat.le_of_ble_eq_true rfl)
  generalize (lg_sl ([.ref b0, .int 0]) ++ List.replicate (2 - (lg_sl ([.ref b0, .int 0])).length) Slot.unset).toArray = ls at hl ⊢
  have hl : lv_has ls 2 [(0, .ref b0), (1, .int 0)] := hl
  obtain ⟨⟨hx, hb, hml, hown, hts⟩, -⟩ := id X
  refine lv_iload_n hx hb dL_cell_0 rfl (lv_at hl 1 rfl) ?_
  refine lv_aload_n hx hb dL_cell_1 rfl (lv_at hl 0 rfl) ?_
  refine va_slen hx hb hX (Nat.lt_of_lt_of_le hbb hbs) (Nat.not_le.mpr hbb) B.2 dL_cell_2 ?_
  refine lv_icmp_ge (tgt := 12) hx hb dL_cell_3 (by decide) (fun q_ => ?_) (fun q_ => ?_)
  · refine lv_iconst (v := 0) hx hb dL_cell_12 (by decide) ?_
    have e0 : cellF xs L = 0 := if_pos q_
    rw [e0]
    exact W.iret hx hb hr (r_endQ B _) (r_endL B) dL_cell_13
  · refine lv_aload_n hx hb dL_cell_6 rfl (lv_at hl 0 rfl) ?_
    refine lv_iload_n hx hb dL_cell_7 rfl (lv_at hl 1 rfl) ?_
    have hL0 : 0 < L := by
      rcases Nat.eq_zero_or_pos L with z | z
      · exact absurd (by rw [z]; decide) q_
      · exact z
    refine va_sld hx hb hX (Nat.lt_of_lt_of_le hbb hbs) (Nat.not_le.mpr hbb) B.2 (i := 0) (vp_in_nI (n := 0) hL0 hLs) dL_cell_8 ?_
    refine lv_goto (tgt := 13) hx hb dL_cell_9 (by decide) ?_
    have e0 : cellF xs L = xs 0 := if_neg q_
    rw [e0]
    exact W.iret hx hb hr (r_endQ B _) (r_endL B) dL_cell_13
theorem r_lcell {b0 L : Nat} {xs : Nat → Int32} (X : r_C p c cc nL s m args RL D b) (hX : va_X b0 L xs s s.heap) (hbl : b0 < b) (B : r_B D b s h H locs) (hLs : L < 2 ^ 31) (hl : ls.size = nL) (hroom : (rest.map fun v => v.category).sum ≤ 8) (hcs : cells ≤ R.cells ∧ slots ≤ R.slots) (hfr : 0 + 1 ≤ R.frames) (hlo : 8 + (2 + 11) + 0 ≤ R.locals) (hdg : decode cc pc = .ok (.invokestatic 9, 3))
    (kk : ∀ (H1 : Heap) (locs1 : List Loc), r_B D b s h H1 locs1 → W p l e R s m args below meth c H1 locs1 cells slots Q (F0 m (pc + 3) ls (.int (cellF xs L) :: rest))) : W p l e R s m args below meth c H locs cells slots Q (F0 m pc ls (.int 0 :: .ref b0 :: rest)) := by
  have hcell : ∀ U : State, U.heap = H → s.WarmedH U.vm → va_X b0 L xs U U.heap := fun U hU hW => va_X.moved hW.alike (hX.kept (by rw [hU]; exact B.2.2.1 b0 (Nat.lt_of_lt_of_le hbl X.2.2.2) (Nat.not_le.mpr hbl)))
  refine r_call B (va_runS (As := [.ref b0, .int 0]) (rest := rest) X.1 (c_L_cell (l := l) (D := D) (b := b) (h := h) (xs := xs) hbl hLs) (r_cwS (n := 2) X m_6 m_7 m_8 m_9 rfl rfl (by decide +kernel) ⟨hfr, hlo⟩) ⟨?_, fun U hU hW => ⟨rfl, r_go X B hU hW, hcell U hU hW⟩⟩ rfl rfl hl rfl (lv_room hroom) hdg ⟨hcs.1, hcs.2⟩) ?_
  · intro a U g mk q
    obtain ⟨q1, q2, q3⟩ := q
    exact ⟨q1, ((r_blind (D := D) (b := b) (h := h) [.ref b0, .int 0]) a U g mk ⟨q1, q2⟩).2, va_X.moved (U := U.calling g mk a) (Vm.Alike.refl U.vm) q3⟩
  · exact kk
end LW
