/-! ===== the calls that touch a cell or two ===== -/
section OP
variable {z n nf dN hN : Nat} {h : AH}
theorem o_open (C : Cpl z n nf dN hN h) (t u : Int32) : ∃ r h1 h2, f_X7_open h z t u = some (r, h1) ∧ f_X8_open h1 (aM z n) t u = some (r, h2) ∧ Cpl z n nf dN hN h2 := by
  obtain ⟨⟨b1, b2, b3, b4, b5⟩, W, V, ct, K⟩ := id C
  have hm : h.2.2.1 (aM z n) 0 = nI n := K.2.1.2.2.2.2.2.2.2.2.1
  have s0 := W.2.1
  have sM : h.2.1 (aM z n) = some (.inl 8) := W.2.2.2.2.2.2.2.2.2.2.2.2.2.2.1
  unfold f_X7_open f_X7_open_20
  rw [ev_rcv s0, v_tankAt W V b2, ev_cal]
  obtain ⟨q, hq, q1, q0⟩ := v_isTank W hm b2 b1 t
  by_cases ht : isT n t
  · obtain ⟨i, hi, rfl⟩ := isT_nI ht (by omega)
    rw [if_pos ht, ev_nulS, v_isWithin, ev_cal]
    obtain ⟨rT0, rT1, rT2, rT3⟩ := V.2.2.2.2.2.2.2.2.2.2.2.2.2.1 i hi
    obtain ⟨sT, sN, sA⟩ := W.2.2.2.2.2.2.2.2.2.2.2.1 i hi
    have sJ := W.2.2.2.2.2.2.2.2.2.2.2.2.2.2.2.1 4 (by omega)
    have rJ := V.2.2.2.2.2.2.2.2.2.2.2.2.2.2.2 4 (by omega)
    by_cases hw : wi u 0 20 = 0
    · refine ⟨0, h, h, by rw [if_pos hw]; exact ev_rZ0, ?_, C⟩
      unfold f_X8_open f_X8_open_18
      rw [ev_rcv sM, hq, ev_cal, q1 ht, if_neg (by decide), v_isIn, ev_cal, if_pos hw]
      exact ev_rZ0
    · obtain ⟨u0, u1⟩ := wi_ne hw
      obtain ⟨w, hw31, rfl⟩ := nI_of u0
      have hw20 : w ≤ 20 := by
        have : ¬ nI 20 < nI w := u1
        rw [nI_lt_iff (by omega) hw31] at this
        omega
      refine ⟨1, setI h (aN z n i) 1 (nI w), setI (setI h (aN z n i) 1 (nI w)) (aJ z n 4) i (nI w), ?_, ?_, ⟨b1, b2, b3, b4, b5⟩, W, V, CT_op z n i hi b2 _ ct w hw20, KT_u (KT_u K (by (simp only [aT, aN, aA, aJ, aM, aF, aFl, aFs]; omega))) (by (simp only [aT, aN, aA, aJ, aM, aF, aFl, aFs]; omega))⟩
      · rw [if_neg hw, nI_clamp (by omega)]
        simp (disch := first | assumption | (simp only [sI_s, sR_s, sI_r, sI_1, sR_1]; assumption) | omega | (simp only [aT, aN, aA, aJ, aM, aF, aFl, aFs]; omega)) only [ev_rcv, ev_cal, ev_bd, ev_gI, ev_gR, ev_pI, ev_pR, ev_rZ0, ev_rZ1, ev_nulN, ev_nulS, ev_aI, ev_sI, ev_aR, ev_aL, sI_1, sI_s, sI_r, sI_u, sR_1, sR_s, sR_i, vn_i, u2n, u2s, if_true, if_false, rT2]
      · obtain ⟨q', hq', q1', -⟩ := v_isTank (h := setI h (aN z n i) 1 (nI w)) W (by rw [sI_i, if_neg (by (simp only [aT, aN, aA, aJ, aM, aF, aFl, aFs]; omega))]; exact hm) b2 b1 (nI i)
        have rJ : h.2.2.2 (aM z n) 8 = some (aJ z n 4) := rJ
        have sJ : h.2.1 (aJ z n 4) = some (.inr (.int, 11)) := sJ
        unfold f_X8_open f_X8_open_18
        simp (disch := first | assumption | (simp only [sI_s, sR_s, sI_r, sI_1, sR_1]; assumption) | omega | (simp only [aT, aN, aA, aJ, aM, aF, aFl, aFs]; omega)) only [ev_rcv, ev_cal, ev_bd, ev_gI, ev_gR, ev_pI, ev_pR, ev_rZ0, ev_rZ1, ev_nulN, ev_nulS, ev_aI, ev_sI, ev_aR, ev_aL, sI_1, sI_s, sI_r, sI_u, sR_1, sR_s, sR_i, vn_i, u2n, u2s, if_true, if_false, hq', q1' ht, v_isIn, if_neg hw, rJ, if_neg (show ¬ (1 : Int32) = 0 by decide)]
  · rw [if_neg ht, ev_nulN]
    refine ⟨0, h, h, ev_rZ0, ?_, C⟩
    unfold f_X8_open f_X8_open_18
    rw [ev_rcv sM, hq, ev_cal, q0 ht, if_pos rfl]
    exact ev_rZ0
end OP
