/-! ===== what a tank gives: the reference, all ===== -/
/-- what giving reads is the same -/
def Sta (z n : Nat) (I I' : Nat → Nat → Int32) : Prop := (∀ j, (j = 0 ∨ j = 1 ∨ j = 2 ∨ j = 5 ∨ j = 10 ∨ j = 11 ∨ j = 12 ∨ j = 17) → I' (aJ z n j) = I (aJ z n j)) ∧ (∀ w d, w < 14 → cusV z n I' w d = cusV z n I w d) ∧ I' (z + 4) 1 = I (z + 4) 1 ∧ I' (z + 5) = I (z + 5)
section STA
variable {z n nf : Nat} {I I' : Nat → Nat → Int32}
theorem Sta.rf : Sta z n I I := ⟨fun _ _ => rfl, fun _ _ _ => rfl, rfl, rfl⟩
theorem Sta.tr {I'' : Nat → Nat → Int32} (p : Sta z n I I') (q : Sta z n I' I'') : Sta z n I I'' := ⟨fun j hj => (q.1 j hj).trans (p.1 j hj), fun w d hw => (q.2.1 w d hw).trans (p.2.1 w d hw), q.2.2.1.trans p.2.2.1, q.2.2.2.trans p.2.2.2⟩
theorem Sta.ordl (p : Sta z n I I') (i : Nat) : ordl z n nf I' i = Jvm.Pilot.CTankChainLaw_law_r9987_5d9d7e.ordl z n nf I i := ordl_congr (p.1 10 (by omega)) (p.1 11 (by omega)) (p.1 12 (by omega)) (p.1 17 (by omega)) p.2.2.1 p.2.2.2
theorem Sta.out (p : Sta z n I I') (i : Nat) (has : Int32) : outF z n I' i has = outF z n I i has := by
  funext f
  unfold outF
  rw [p.1 1 (by omega), p.1 11 (by omega), p.2.1 11 9 (by omega)]
theorem Sta.cFr (p : Sta z n I I') (i : Nat) (has : Int32) : cFr z n I' i has = Jvm.Pilot.CTankChainLaw_law_r9987_5d9d7e.cFr z n I i has := by
  funext f
  unfold Jvm.Pilot.CTankChainLaw_law_r9987_5d9d7e.cFr cAr
  rw [p.out, p.1 12 (by omega)]
theorem Sta.giv (p : Sta z n I I') (i : Nat) (has op : Int32) : givI z n I' i has op = givI z n I i has op := by
  unfold givI
  rw [p.1 1 (by omega), p.2.1 12 0 (by omega)]
theorem Sta.gShr (p : Sta z n I I') (i : Nat) (has op : Int32) (l : List Nat) : gShr z n I' i has op l = Jvm.Pilot.CTankChainLaw_law_r9987_5d9d7e.gShr z n I i has op l := by
  unfold Jvm.Pilot.CTankChainLaw_law_r9987_5d9d7e.gShr
  rw [p.giv, p.cFr, p.out, p.2.1 13 0 (by omega), p.1 12 (by omega)]
end STA
theorem sN_le {c : Nat → Nat} {k : Nat} : ∀ (l : List Nat), (∀ f ∈ l, c f ≤ k) → sN c l ≤ k * l.length := by
  intro l
  induction l with
  | nil => intro _; simp [sN]
  | cons f l ih =>
    intro h
    rw [sN, List.length_cons, Nat.mul_succ]
    have := h f List.mem_cons_self
    have := ih (fun x hx => h x (List.mem_cons_of_mem _ hx))
    omega
/-- only rows 22 to 24 have changed -/
def On3 (z n : Nat) (h h' : AH) : Prop := h'.1 = h.1 ∧ h'.2.1 = h.2.1 ∧ h'.2.2.2 = h.2.2.2 ∧ ∀ a, a ≠ aJ z n 22 → a ≠ aJ z n 23 → a ≠ aJ z n 24 → h'.2.2.1 a = h.2.2.1 a
section G8C
variable {z n nf : Nat} {h : AH}
theorem On3.scr {h' : AH} (p : On3 z n h h') : Scr z n h h' := ⟨p.1, p.2.1, p.2.2.1, fun a k s => by
  rw [p.2.2.2 a (by unfold sc at s; (first | omega | (simp only [aT, aN, aA, aJ, aM, aF, aFl, aFs]; omega))) (by unfold sc at s; (first | omega | (simp only [aT, aN, aA, aJ, aM, aF, aFl, aFs]; omega))) (by unfold sc at s; (first | omega | (simp only [aT, aN, aA, aJ, aM, aF, aFl, aFs]; omega)))]⟩
theorem ordl_len (i : Nat) (I : Nat → Nat → Int32) : (ordl z n nf I i).length ≤ nf := ordp_len nf
theorem v_gives8 (A : AF z n nf h) {i q : Nat} (hi : i < 11) (hq : q ≤ 20) (has : Int32) : ∃ h', f_X8_gives h (aM z n) (nI i) has (nI q) = some (sumI (gShr z n h.2.2.1 i has (nI q) (ordl z n nf h.2.2.1 i)) (ordl z n nf h.2.2.1 i) 0, h') ∧ On3 z n h h' ∧ ∀ f ∈ ordl z n nf h.2.2.1 i, h'.2.2.1 (aJ z n 23) f = gShr z n h.2.2.1 i has (nI q) (ordl z n nf h.2.2.1 i) f := by
  have W := A.1
  have V := A.2.1
  have hnf := A.2.2.1
  have sM := W_M W
  have s1 := W_J1 W
  obtain ⟨g, hg, eg⟩ := givI_nI (z := z) (n := n) (I := h.2.2.1) (i := i) (has := has) (op := nI q) rfl hq
  obtain ⟨h1, e1, o1, r1⟩ := v_ordered A i
  have hlen : (ordl z n nf h.2.2.1 i).length ≤ 40 := by
    have := ordl_len (z := z) (n := n) (nf := nf) i h.2.2.1
    omega
  have A1 := AF_only A o1
  have W1 := A1.1
  have V1 := A1.2.1
  have hd : (ordl z n nf h.2.2.1 i).Nodup := ordl_nodup
  have hmem : ∀ f ∈ ordl z n nf h.2.2.1 i, f < nf ∧ MD z n h1.2.2.1 f := fun f hf => ⟨(ordl_mem.mp hf).1, A1.2.2.2.2.2 f (ordl_mem.mp hf).1⟩
  have st : Sta z n h.2.2.1 h1.2.2.1 := ⟨fun j hj => o1.2.2.2 _ (by (first | omega | (simp only [aT, aN, aA, aJ, aM, aF, aFl, aFs]; omega))), fun w d hw => by
    unfold cusV
    rw [o1.2.2.2 (aM z n) (by (first | omega | (simp only [aT, aN, aA, aJ, aM, aF, aFl, aFs]; omega))), o1.2.2.2 (aJ z n 21) (by (first | omega | (simp only [aT, aN, aA, aJ, aM, aF, aFl, aFs]; omega)))], by rw [o1.2.2.2 (z + 4) (by (first | omega | (simp only [aT, aN, aA, aJ, aM, aF, aFl, aFs]; omega)))], o1.2.2.2 (z + 5) (by (first | omega | (simp only [aT, aN, aA, aJ, aM, aF, aFl, aFs]; omega)))⟩
  obtain ⟨h2, e2, o2, p2, -⟩ := l_gives42 W1 V1 hnf hi (has := has) (giv := nI g) r1 hmem hd hlen (ordl z n nf h.2.2.1 i) [] FU 0 h1 rfl (by rw [fu_big]; omega) On2.rf
  have W2 := o2.W W1
  have V2 := o2.V V1
  rw [st.cFr, Nat.zero_add] at e2
  have fin : ∀ (S : Nat → Int32) (h' : AH), On2 z n h1 h' → (∀ f ∈ ordl z n nf h.2.2.1 i, h'.2.2.1 (aJ z n 23) f = S f) → f_X8_gives_381 h' (aM z n) (nI (ordl z n nf h.2.2.1 i).length) = some (sumI S (ordl z n nf h.2.2.1 i) 0, h') := by
    intro S h' o' hS
    unfold f_X8_gives_381
    have := l_gives387 (o'.W W1) (o'.V V1) hnf (l := ordl z n nf h.2.2.1 i) (by unfold Row; rw [o'.J 22 (by omega)]; exact r1) (fun f hf => (hmem f hf).1) hlen (ordl z n nf h.2.2.1 i) [] FU 0 rfl (by rw [fu_big]; omega)
    rw [show (0 : Int32) = nI ([] : List Nat).length from rfl] at this ⊢
    rw [this, sumI_congr _ _ hS]
  have on3 : ∀ h', On2 z n h1 h' → On3 z n h h' := fun h' o' => ⟨o'.1.trans o1.1, o'.2.1.trans o1.2.1, o'.2.2.1.trans o1.2.2.1, fun a a1 a2 a3 => (o'.2.2.2 a a2 a3).trans (o1.2.2.2 a a1)⟩
  have beg : f_X8_gives h (aM z n) (nI i) has (nI q) = g42e h2 (aM z n) (nI g) (nI (ordl z n nf h.2.2.1 i).length) (nI (sN (cFr z n h.2.2.1 i has) (ordl z n nf h.2.2.1 i))) := by
    unfold f_X8_gives
    rw [ev_rcv sM, cal_eq (v_cus12 W V), ev_gR sM, V_J1 V, ev_aI s1 hi (by omega), ev_dv (by decide), ev_bd, ev_bd, ev_rcv sM, cal_eq e1]
    have : mn (nI q) (mx 0 (has - cusV z n h.2.2.1 12 0 * h.2.2.1 (aJ z n 1) i / 100)) = nI g := eg
    rw [this]
    exact e2
  rw [beg]
  have har : sN (cFr z n h.2.2.1 i has) (ordl z n nf h.2.2.1 i) < 1000 := by
    have := sN_le (c := cFr z n h.2.2.1 i has) (k := 20) (ordl z n nf h.2.2.1 i) (fun f hf => by
      obtain ⟨-, ⟨a, a1, a2, ea⟩, -⟩ := A.2.2.2.2.2 f (ordl_mem.mp hf).1
      unfold cFr cAr
      split
      · omega
      · rw [ea, nI_clamp (by omega)]; exact a2)
    omega
  unfold g42e
  have es13 : cusV z n h2.2.2.1 13 0 = cusV z n h.2.2.1 13 0 := by rw [o2.cus, st.2.1 13 0 (by omega)]
  have eg' : (givI z n h.2.2.1 i has (nI q)).toNatClampNeg = g := by rw [eg, nI_clamp (by omega)]
  have rl2 : Row z n h2.2.2.1 (ordl z n nf h.2.2.1 i) := by unfold Row; rw [o2.J 22 (by omega)]; exact r1
  -- in order
  have ino : ¬ (cusV z n h.2.2.1 13 0 = 1 ∧ ¬ nI (sN (cFr z n h.2.2.1 i has) (ordl z n nf h.2.2.1 i)) ≤ givI z n h.2.2.1 i has (nI q)) → ∃ h', f_X8_gives_155 h2 (aM z n) (nI g) (nI (ordl z n nf h.2.2.1 i).length) (nI (sN (cFr z n h.2.2.1 i has) (ordl z n nf h.2.2.1 i))) = some (sumI (gShr z n h.2.2.1 i has (nI q) (ordl z n nf h.2.2.1 i)) (ordl z n nf h.2.2.1 i) 0, h') ∧ On3 z n h h' ∧ ∀ f ∈ ordl z n nf h.2.2.1 i, h'.2.2.1 (aJ z n 23) f = gShr z n h.2.2.1 i has (nI q) (ordl z n nf h.2.2.1 i) f := by
    intro hno
    unfold f_X8_gives_155 f_X8_gives_156
    obtain ⟨h3, left', e3, o3, p3, -⟩ := l_gives165o W2 V2 hnf (giv := nI g) (ar := nI (sN (cFr z n h.2.2.1 i has) (ordl z n nf h.2.2.1 i))) (o := outF z n h.2.2.1 i has) rl2 (fun f hf => (hmem f hf).1) hd hlen (ordl z n nf h.2.2.1 i) [] FU (nI g) h2 rfl (by rw [fu_big]; omega) On2.rf (fun f hf => (p2 f hf).1) (fun f hf => by rw [(p2 f hf).2, st.out])
    rw [show (0 : Int32) = nI ([] : List Nat).length from rfl] at e3 ⊢
    rw [e3]
    have hS : gShr z n h.2.2.1 i has (nI q) (ordl z n nf h.2.2.1 i) = shI (outF z n h.2.2.1 i has) (h2.2.2.1 (aJ z n 12)) (ordl z n nf h.2.2.1 i) (nI g) := by
      unfold gShr
      rw [if_neg hno, eg, o2.J 12 (by omega), st.1 12 (by omega)]
    obtain ⟨m, em⟩ : ∃ m, FU = m + 1 := ⟨999, rfl⟩
    have e4 : f_X8_gives_263 FU h3 (aM z n) left' (nI (ordl z n nf h.2.2.1 i).length) (nI (sN (cFr z n h.2.2.1 i has) (ordl z n nf h.2.2.1 i))) (nI ([] : List Nat).length) (nI g) = f_X8_gives_381 h3 (aM z n) (nI (ordl z n nf h.2.2.1 i).length) := by
      rw [em]
      unfold f_X8_gives_263
      rw [if_pos (show nI ([] : List Nat).length = 0 from rfl)]
    rw [e4, hS]
    refine ⟨h3, fin _ h3 (o2.tr o3) p3, on3 _ (o2.tr o3), p3⟩
  rw [ev_rcv (W_M W2), cal_eq (v_cus13 W2 V2), es13]
  by_cases e13 : cusV z n h.2.2.1 13 0 = 1
  · rw [if_pos e13]
    by_cases e14 : nI (sN (cFr z n h.2.2.1 i has) (ordl z n nf h.2.2.1 i)) ≤ nI g
    · rw [if_pos e14]
      exact ino (fun q => q.2 (by rw [eg]; exact e14))
    · rw [if_neg e14]
      have hgar : g < sN (cFr z n h.2.2.1 i has) (ordl z n nf h.2.2.1 i) := by
        rw [nI_le_iff (by omega) (by omega)] at e14
        omega
      obtain ⟨b1, b2⟩ := sN_base_le (c := cFr z n h.2.2.1 i has) (g := g) (l := ordl z n nf h.2.2.1 i) rfl (by omega)
      have hl2 : ∀ f ∈ ordl z n nf h.2.2.1 i, ∃ a, a ≤ 20 ∧ h2.2.2.1 (aJ z n 12) f = nI a ∧ cFr z n h.2.2.1 i has f = if outF z n h.2.2.1 i has f = true then 0 else a := by
        intro f hf
        obtain ⟨-, ⟨a, a1, a2, ea⟩, -⟩ := A.2.2.2.2.2 f (ordl_mem.mp hf).1
        refine ⟨a, a2, by rw [o2.J 12 (by omega), st.1 12 (by omega)]; exact ea, ?_⟩
        unfold cFr cAr
        rw [ea, nI_clamp (by omega)]
      unfold f_X8_gives_156
      obtain ⟨h3, e3, o3, p3, -, p4⟩ := l_gives165f W2 V2 hnf hg (ar := sN (cFr z n h.2.2.1 i has) (ordl z n nf h.2.2.1 i)) (by omega) har (o := outF z n h.2.2.1 i has) (c := cFr z n h.2.2.1 i has) rl2 (fun f hf => ⟨(hmem f hf).1, hl2 f hf⟩) hd hlen (ordl z n nf h.2.2.1 i) [] FU 0 h2 rfl (by rw [fu_big]; omega) (by omega) On2.rf (fun f hf => (p2 f hf).1) (fun f hf => by rw [(p2 f hf).2, st.out])
      rw [Nat.sub_zero] at e3
      rw [show (0 : Int32) = nI ([] : List Nat).length from rfl, e3]
      have o3' := o2.tr o3
      obtain ⟨h4, e4, o4, p5⟩ := l_gives263 W2 V2 hnf hg (ar := sN (cFr z n h.2.2.1 i has) (ordl z n nf h.2.2.1 i)) (by omega) har (r := fun f => g * cFr z n h.2.2.1 i has f % sN (cFr z n h.2.2.1 i has) (ordl z n nf h.2.2.1 i)) rl2 hd hlen (g - sN (fun f => g * cFr z n h.2.2.1 i has f / sN (cFr z n h.2.2.1 i has) (ordl z n nf h.2.2.1 i)) (ordl z n nf h.2.2.1 i)) FU h3 (fun f => g * cFr z n h.2.2.1 i has f / sN (cFr z n h.2.2.1 i has) (ordl z n nf h.2.2.1 i)) (fun f => g * cFr z n h.2.2.1 i has f % sN (cFr z n h.2.2.1 i has) (ordl z n nf h.2.2.1 i)) (outF z n h.2.2.1 i has) (by rw [fu_big]; omega) o3 (fun f hf => by
        obtain ⟨a, a1, a2, a3⟩ := hl2 f hf
        refine ⟨(hmem f hf).1, ?_, p3 f hf, ?_, Nat.mod_lt _ (by omega), a, a1, a2, ?_⟩
        · rw [p4, (p2 f hf).2, st.out]
        · show _ = if outF z n h.2.2.1 i has f = true then 0 else _
          by_cases x : outF z n h.2.2.1 i has f = true
          · rw [if_pos x]
            rw [if_pos x] at a3
            show g * cFr z n h.2.2.1 i has f % _ = 0
            rw [a3, Nat.mul_zero, Nat.zero_mod]
          · rw [if_neg x]
        · intro x
          show g * cFr z n h.2.2.1 i has f % _ = _
          rw [a3, if_neg (by rw [x]; decide)]) (by rw [b2]; exact Nat.le_refl _) (by omega)
      rw [e4]
      have hS : ∀ f ∈ ordl z n nf h.2.2.1 i, h4.2.2.1 (aJ z n 23) f = gShr z n h.2.2.1 i has (nI q) (ordl z n nf h.2.2.1 i) f := by
        intro f hf
        rw [p5 f hf]
        unfold gShr
        rw [if_pos ⟨e13, by rw [eg]; exact e14⟩, eg']
      exact ⟨h4, fin _ h4 (o2.tr o4) hS, on3 _ (o2.tr o4), hS⟩
  · rw [if_neg e13]
    exact ino (fun q => e13 q.1)
end G8C
