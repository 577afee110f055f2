/-! ===== most ===== -/
section MO3
variable {z n nf dN hN : Nat} {h0 : AH}
theorem l_most8 (C : Cpl z n nf dN hN h0) (rain : Int32) {kk mm d wh N : Nat} (hmm : 1 ≤ mm ∧ mm ≤ 3) (hk : kk + mm ≤ n) (hd : d ≤ 10) (hwh : wh ≤ mm) (hN1 : N ≤ 125) : ∀ (m c : Nat) (h : AH), N - c < m → c ≤ N → Scr z n h0 h → (∀ j, j < n → (kk ≤ j ∧ j < kk + mm) ∨ h.2.2.1 (aJ z n 26) j = h0.2.2.1 (aJ z n 4) j) → ∃ h', f_X8_most_80 m h (aM z n) (nI kk) (nI mm) (nI d) rain (nI wh) (nI N) (bst (fedBy z n nf h0.2.2.1 rain kk mm d) c).1 (nI (bst (fedBy z n nf h0.2.2.1 rain kk mm d) c).2) (nI c) = some ((if wh = 0 then (bst (fedBy z n nf h0.2.2.1 rain kk mm d) N).1 else nI (opI (bst (fedBy z n nf h0.2.2.1 rain kk mm d) N).2 (mm - wh))), h') ∧ Scr z n h0 h' := by
  have hn := C.1.2.1
  intro m
  induction m with
  | zero => intro c h h1; omega
  | succ m ih =>
    intro c h h1 h2 p t
    rw [f_X8_most_80]
    by_cases hc : c < N
    · obtain ⟨h', l10, e1, p1, t1⟩ := l_set8 C (f_X8_most_80 m) (o := h0.2.2.1 (aJ z n 4)) (c := c) (by omega) hmm hk (nI d) rain (nI wh) (nI N) (bst (fedBy z n nf h0.2.2.1 rain kk mm d) c).1 (nI (bst (fedBy z n nf h0.2.2.1 rain kk mm d) c).2) (nI c) mm FU h (by rw [fu_big]; omega) (Nat.le_refl mm) p (fun j hj => by
        rcases t j hj with q | q
        · exact Or.inl q
        · by_cases w : kk ≤ j ∧ j < kk + mm
          · exact Or.inl w
          · right
            rw [q]
            unfold opC
            rw [if_neg w])
      rw [Nat.sub_self, Nat.pow_zero, Nat.div_one] at e1
      have W1 := WS_scr C.2.1 p1
      obtain ⟨h2', e2, p2, t2⟩ := v_tries C p1 rain (ho_opC (c := c) (kk := kk) (mm := mm) (i := mm) (ho_of C)) hd t1
      have e2' : f_X8_tries h' (aM z n) (nI d) rain = some (fedBy z n nf h0.2.2.1 rain kk mm d c, h2') := e2
      have nx := ih (c + 1) h2' (by omega) (by omega) p2 (fun j hj => by
        by_cases w : kk ≤ j ∧ j < kk + mm
        · exact Or.inl w
        · right
          rw [(t2 j hj).2.1]
          unfold opC
          rw [if_neg w])
      rw [if_neg (nI_ge hc (by omega)), ev_bd, e1]
      obtain ⟨y, hy, ey⟩ := trF_nI C rain (h0.2.2.1 (aJ z n 3)) (h0.2.2.1 (aJ z n 9)) (opC (h0.2.2.1 (aJ z n 4)) c kk mm mm) d
      have ey' : fedBy z n nf h0.2.2.1 rain kk mm d c = nI y := ey
      rw [f_X8_most_96, if_pos (by decide : nI 0 - 1 < 0), ev_rcv (W_M W1), cal_eq e2']
      unfold f_X8_most_153 f_X8_most_161
      rw [ev_bd, ev_bd, nI_1]
      rw [bst] at nx
      by_cases e : fedBy z n nf h0.2.2.1 rain kk mm d c ≤ (bst (fedBy z n nf h0.2.2.1 rain kk mm d) c).1
      · rw [if_pos e] at nx
        have ne : ¬ (bst (fedBy z n nf h0.2.2.1 rain kk mm d) c).1 = -1 := by
          intro q
          rw [q, ey', Int32.le_iff_toInt_le, nI_toInt (by omega)] at e
          have : (-1 : Int32).toInt = -1 := by decide
          omega
        rw [if_neg ne, if_neg (Int32.not_lt.mpr e)]
        exact nx
      · rw [if_neg e] at nx
        by_cases q : (bst (fedBy z n nf h0.2.2.1 rain kk mm d) c).1 = -1
        · rw [if_pos q]
          exact nx
        · rw [if_neg q, if_pos (Int32.not_le.mp e)]
          exact nx
    · have e : c = N := by omega
      subst e
      rw [if_pos (nI_le (Nat.le_refl c) (by omega))]
      by_cases e2 : wh = 0
      · subst e2
        rw [if_pos (show nI 0 = 0 from rfl), if_pos rfl]
        exact ⟨h, rfl, p⟩
      · have := bst_lt (F := fedBy z n nf h0.2.2.1 rain kk mm d) c
        have ne : ¬ nI wh = 0 := fun q => e2 (nI_inj (b := 0) (by omega) (by omega) q)
        have := l_179 (h := h) (mm - wh) (bst (fedBy z n nf h0.2.2.1 rain kk mm d) c).2 wh FU (by rw [fu_big]; omega) (by omega) (by omega)
        rw [show wh + (mm - wh) = mm by omega] at this
        rw [if_neg ne, if_neg e2, this]
        exact ⟨h, rfl, p⟩
theorem l_68 {h : AH} (l0 : Nat) (l1 l3 l4 l5 : Int32) {mm : Nat} (hmm : mm ≤ 3) : ∀ (m i : Nat), mm - i < m → i ≤ mm → f_X7_most_68 m h l0 l1 (nI mm) l3 l4 l5 (nI (5 ^ i)) (nI i) = f_X7_most_95 FU h l0 l1 (nI mm) l3 l4 l5 (nI (5 ^ mm)) (-1) 0 0 := by
  intro m
  induction m with
  | zero => intro i h1; omega
  | succ m ih =>
    intro i h1 h2
    unfold f_X7_most_68
    by_cases hi : i < mm
    · rw [if_neg (nI_ge hi (by omega)), ev_bd, ev_bd, nI_1, show (5 : Int32) = nI 5 from rfl, nI_mul, ← Nat.pow_succ]
      exact ih (i + 1) (by omega) (by omega)
    · have e : i = mm := by omega
      subst e
      rw [if_pos (nI_le (Nat.le_refl i) (by omega))]
end MO3
