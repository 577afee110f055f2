theorem nI_subI {a b : Nat} (ha : a < 2 ^ 31) (hb : b < 2 ^ 31) : (nI a - nI b).toInt = (a : Int) - b := i32_toInt_ofNat_sub ha hb
section MO4
variable {z n nf dN hN : Nat} {h0 : AH}
theorem wi_kk {k : Int32} {mm : Nat} (hn : n ≤ 11) (hmm : 1 ≤ mm ∧ mm ≤ 3) (hk : ¬ ∃ kk, k = nI kk ∧ kk + mm ≤ n) : wi k 0 (nI n - nI mm) = 0 := by
  rcases wi_01 k 0 (nI n - nI mm) with w | w
  · exact w
  · exfalso
    have h1 := wi_ne (x := k) (a := 0) (b := nI n - nI mm) (by rw [w]; decide)
    obtain ⟨kk, hkk, rfl⟩ := nI_of h1.1
    have h2 := h1.2
    rw [Int32.lt_iff_toInt_lt, nI_subI (by omega) (by omega), nI_toInt hkk] at h2
    exact hk ⟨kk, rfl, by omega⟩
theorem o_most (C : Cpl z n nf dN hN h0) (k m d rain what : Int32) : ∃ r h1 h2, f_X7_most h0 z k m d rain what = some (r, h1) ∧ f_X8_most h1 (aM z n) k m d rain what = some (r, h2) ∧ Cpl z n nf dN hN h2 ∧ h1.2.1 (aM z n) = some (.inl 8) := by
  obtain ⟨b, W, V, ct, K, KX', cx⟩ := o_start C
  obtain ⟨b1, b2, b3, b4, b5⟩ := id b
  have hm := hM0 cx
  have s0 := W_z W
  have sM := W_M W
  have no : f_X7_most_52 h0 z k m d rain what = some (-1, h0) := by
    unfold f_X7_most_52 f_X7_most_53
    rw [if_pos rfl]
  unfold f_X7_most f_X8_most f_X8_most_42
  by_cases wm : wi m 1 3 = 0
  · refine ⟨-1, h0, h0, ?_, ?_, C, sM⟩
    · rw [ev_rcv s0, k_tankAt W V b2]
      by_cases ht : isT n k
      · rw [if_pos ht, ev_nulS, k_isWithin, if_pos wm, no]
      · rw [if_neg ht, ev_nulN, no]
    · rw [k_isIn, if_pos wm]
  obtain ⟨mm, m1, m2, rfl⟩ := wi_nI (a := 1) (b := 3) wm (by omega) (by omega)
  by_cases hk : ∃ kk, k = nI kk ∧ kk + mm ≤ n
  case neg =>
    refine ⟨-1, h0, h0, ?_, ?_, C, sM⟩
    · rw [ev_rcv s0, k_tankAt W V b2]
      by_cases ht : isT n k
      · obtain ⟨kk, hkk, rfl⟩ := isT_nI ht (by omega)
        have ht2 : ¬ isT n (nI kk + nI mm - 1) := by
          obtain ⟨mp, rfl⟩ : ∃ mp, mm = mp + 1 := ⟨mm - 1, by omega⟩
          rw [nI_ad, ← Nat.add_assoc, nI_prd]
          intro q
          have := q.2
          rw [nI_le_iff (by omega) (by omega)] at this
          exact hk ⟨kk, rfl, by omega⟩
        rw [if_pos ht, ev_nulS, k_isWithin, if_neg wm, ev_rcv s0, k_tankOut W V b2 ht2, ev_nulN, no]
      · rw [if_neg ht, ev_nulN, no]
    · rw [k_isIn, if_neg wm, ev_gI sM, hm, k_isIn, wi_kk b2 ⟨m1, m2⟩ hk, if_pos rfl]
  obtain ⟨kk, rfl, hkn⟩ := hk
  have wk : ¬ wi (nI kk) 0 (nI n - nI mm) = 0 := by
    rw [wi_1 (nI_pos (by omega)) (by
      rw [Int32.lt_iff_toInt_lt, nI_subI (by omega) (by omega), nI_toInt (by omega)]
      omega)]
    exact one_ne
  have e1 : nI kk + nI mm - 1 = nI (kk + mm - 1) := by
    obtain ⟨mp, rfl⟩ : ∃ mp, mm = mp + 1 := ⟨mm - 1, by omega⟩
    rw [nI_ad, ← Nat.add_assoc, nI_prd]
    rfl
  by_cases hy : wi d 1 10 = 0 ∨ wi rain 0 50 = 0
  · refine ⟨-1, h0, h0, ?_, ?_, C, sM⟩
    · rw [ev_rcv s0, k_tankIn W V b2 (show kk < n by omega), ev_nulS, k_isWithin, if_neg wm, ev_rcv s0, e1, k_tankIn W V b2 (show kk + mm - 1 < n by omega), ev_nulS, cal_eq (v_mayTry h0 d rain), if_pos hy, if_pos rfl, no]
    · rw [k_isIn, if_neg wm, ev_gI sM, hm, k_isIn, if_neg wk, cal_eq (v_isTrial h0 d rain), if_pos hy, if_pos rfl]
  by_cases ww : wi what 0 (nI mm) = 0
  · refine ⟨-1, h0, h0, ?_, ?_, C, sM⟩
    · rw [ev_rcv s0, k_tankIn W V b2 (show kk < n by omega), ev_nulS, k_isWithin, if_neg wm, ev_rcv s0, e1, k_tankIn W V b2 (show kk + mm - 1 < n by omega), ev_nulS, cal_eq (v_mayTry h0 d rain), if_neg hy, if_neg one_ne, k_isWithin, if_pos ww, no]
    · rw [k_isIn, if_neg wm, ev_gI sM, hm, k_isIn, if_neg wk, cal_eq (v_isTrial h0 d rain), if_neg hy, if_neg one_ne, k_isIn, if_pos ww]
  obtain ⟨wh, -, w2, rfl⟩ := wi_nI (a := 0) (b := mm) ww (by omega) (by omega)
  obtain ⟨dd, d1, d2, rfl⟩ := wi_nI (a := 1) (b := 10) (fun q => hy (Or.inl q)) (by omega) (by omega)
  have hN : 5 ^ mm ≤ 125 := by
    have : mm = 1 ∨ mm = 2 ∨ mm = 3 := by omega
    rcases this with rfl | rfl | rfl <;> decide
  obtain ⟨h1, x1, p1⟩ := l_most7 C rain (wh := wh) ⟨m1, m2⟩ hkn d2 w2 hN FU 0 h0 (by rw [fu_big]; omega) (Nat.zero_le _) Scr.rf
  have W1 := WS_scr W p1
  have V1 := WR_scr V p1
  have sM1 := W_M W1
  have hm1 := hM0 (Cpl_scr C p1).2.2.2.2.2.1
  obtain ⟨h2, x2, p2, q2⟩ := v_open8 C p1
  obtain ⟨h3, x3, p3⟩ := l_most8 C rain (wh := wh) (N := 5 ^ mm) ⟨m1, m2⟩ hkn d2 w2 hN FU 0 h2 (by rw [fu_big]; omega) (Nat.zero_le _) p2 (fun j hj => Or.inr (q2 j hj))
  refine ⟨(if wh = 0 then (bst (fedBy z n nf h0.2.2.1 rain kk mm dd) (5 ^ mm)).1 else nI (opI (bst (fedBy z n nf h0.2.2.1 rain kk mm dd) (5 ^ mm)).2 (mm - wh))), h1, h3, ?_, ?_, Cpl_scr C p3, sM1⟩
  · rw [ev_rcv s0, k_tankIn W V b2 (show kk < n by omega), ev_nulS, k_isWithin, if_neg wm, ev_rcv s0, e1, k_tankIn W V b2 (show kk + mm - 1 < n by omega), ev_nulS, cal_eq (v_mayTry h0 _ rain), if_neg hy, if_neg one_ne, k_isWithin, if_neg ww]
    unfold f_X7_most_53
    rw [if_neg one_ne]
    have := l_68 (h := h0) z (nI kk) (nI dd) rain (nI wh) m2 FU 0 (by rw [fu_big]; omega) (by omega)
    rw [show nI (5 ^ 0) = (1 : Int32) from rfl, show nI 0 = (0 : Int32) from rfl] at this
    rw [this]
    exact x1
  · rw [k_isIn, if_neg wm, ev_gI sM1, hm1, k_isIn, if_neg wk, cal_eq (v_isTrial h1 _ rain), if_neg hy, if_neg one_ne, k_isIn, if_neg ww, ev_rcv sM1, cal_eq x2]
    unfold f_X8_most_69
    have : mm = 1 ∨ mm = 2 ∨ mm = 3 := by omega
    rcases this with rfl | rfl | rfl
    · rw [if_pos (show nI 1 = 1 from rfl)]
      exact x3
    · rw [if_neg (by decide : ¬ nI 2 = 1), if_pos (show nI 2 = 2 from rfl)]
      exact x3
    · rw [if_neg (by decide : ¬ nI 3 = 1), if_neg (by decide : ¬ nI 3 = 2)]
      exact x3
end MO4
