/-! ===== the calls that only read ===== -/
section RD
variable {z n nf dN hN : Nat} {h : AH}
theorem o_told (C : Cpl z n nf dN hN h) (t u : Int32) : ∃ r h1 h2, f_X7_told h z t u = some (r, h1) ∧ f_X8_told h1 (aM z n) t u = some (r, h2) ∧ Cpl z n nf dN hN h2 := by
  obtain ⟨b, W, V, ct, K, KX', cx⟩ := o_start C
  obtain ⟨b1, b2, b3, b4, b5⟩ := id b
  have hm := hM0 cx
  have s0 := W_z W
  have sM := W_M W
  unfold f_X7_told f_X8_told
  obtain ⟨q, hq, q1, q0⟩ := v_isTank W hm b2 b1 t
  by_cases ht : isT n t
  · obtain ⟨i, hi, rfl⟩ := isT_nI ht (by omega)
    have sT := W_T W hi
    have sN := W_N W hi
    have rN := V_N V hi
    have s00 := W_J0 W
    have s1 := W_J1 W
    have s2 := W_J2 W
    have s3 := W_J3 W
    have s4 := W_J4 W
    have s5 := W_J5 W
    have s6 := W_J6 W
    have s7 := W_J7 W
    have s8 := W_J8 W
    have s9 := W_J9 W
    obtain ⟨c1, c2, c3, c4, c5, c6, c7, c8, c9, c10, c11, c12, c13⟩ := ct i hi
    by_cases e0 : u = 0
    · refine ⟨h.2.2.1 (aJ z n 0) i, h, h, ?_, ?_, C⟩
      · simp (disch := first | assumption | (simp only [sI_s, sR_s, sI_r, sI_1, sR_1]; assumption) | omega | (simp only [aT, aN, aA, aJ, aM, aF, aFl, aFs]; omega) | decide) only [↓ev_pZ0, ↓ev_pZ1, ↓ev_dv, ↓ev_rm, ↓ev_rcv, ↓ev_cal, ↓ev_bd, ↓ev_gI, ↓ev_gR, ↓ev_pI, ↓ev_pR, ↓ev_rZ0, ↓ev_rZ1, ↓ev_nulN, ↓ev_nulS, ↓ev_aI, ↓ev_sI, ↓ev_aR, ↓ev_aL, sI_1, sI_s, sI_r, sI_u, sR_1, sR_s, sR_i, vn_i, u2n, u2s, ↓if_true, ↓if_false, ↓k_tankIn W V b2 hi, rN, ↓k_asn, ↓k_roomIf W hi, ↓k_bad7 W hi, c2, c3, c4, c5, c6, c7, c8, c9, c10, c11, ↓if_pos e0]
      · simp (disch := first | assumption | (simp only [sI_s, sR_s, sI_r, sI_1, sR_1]; assumption) | omega | (simp only [aT, aN, aA, aJ, aM, aF, aFl, aFs]; omega) | decide) only [↓ev_pZ0, ↓ev_pZ1, ↓ev_dv, ↓ev_rm, ↓ev_rcv, ↓ev_cal, ↓ev_bd, ↓ev_gI, ↓ev_gR, ↓ev_pI, ↓ev_pR, ↓ev_rZ0, ↓ev_rZ1, ↓ev_nulN, ↓ev_nulS, ↓ev_aI, ↓ev_sI, ↓ev_aR, ↓ev_aL, sI_1, sI_s, sI_r, sI_u, sR_1, sR_s, sR_i, vn_i, u2n, u2s, ↓if_true, ↓if_false, ↓k_isTankIn W hm b2 b1 hi, ↓if_neg one_ne, ↓k_one, ↓k_room W V (show i < 11 by omega), ↓k_bad8 W V (show i < 11 by omega), V_J0 V, V_J1 V, V_J2 V, V_J3 V, V_J4 V, V_J5 V, V_J6 V, V_J7 V, V_J8 V, V_J9 V, ↓if_pos e0]
    by_cases e1 : u = 1
    · refine ⟨h.2.2.1 (aJ z n 1) i, h, h, ?_, ?_, C⟩
      · simp (disch := first | assumption | (simp only [sI_s, sR_s, sI_r, sI_1, sR_1]; assumption) | omega | (simp only [aT, aN, aA, aJ, aM, aF, aFl, aFs]; omega) | decide) only [↓ev_pZ0, ↓ev_pZ1, ↓ev_dv, ↓ev_rm, ↓ev_rcv, ↓ev_cal, ↓ev_bd, ↓ev_gI, ↓ev_gR, ↓ev_pI, ↓ev_pR, ↓ev_rZ0, ↓ev_rZ1, ↓ev_nulN, ↓ev_nulS, ↓ev_aI, ↓ev_sI, ↓ev_aR, ↓ev_aL, sI_1, sI_s, sI_r, sI_u, sR_1, sR_s, sR_i, vn_i, u2n, u2s, ↓if_true, ↓if_false, ↓k_tankIn W V b2 hi, rN, ↓k_asn, ↓k_roomIf W hi, ↓k_bad7 W hi, c2, c3, c4, c5, c6, c7, c8, c9, c10, c11, ↓if_neg e0, ↓if_pos e1]
      · simp (disch := first | assumption | (simp only [sI_s, sR_s, sI_r, sI_1, sR_1]; assumption) | omega | (simp only [aT, aN, aA, aJ, aM, aF, aFl, aFs]; omega) | decide) only [↓ev_pZ0, ↓ev_pZ1, ↓ev_dv, ↓ev_rm, ↓ev_rcv, ↓ev_cal, ↓ev_bd, ↓ev_gI, ↓ev_gR, ↓ev_pI, ↓ev_pR, ↓ev_rZ0, ↓ev_rZ1, ↓ev_nulN, ↓ev_nulS, ↓ev_aI, ↓ev_sI, ↓ev_aR, ↓ev_aL, sI_1, sI_s, sI_r, sI_u, sR_1, sR_s, sR_i, vn_i, u2n, u2s, ↓if_true, ↓if_false, ↓k_isTankIn W hm b2 b1 hi, ↓if_neg one_ne, ↓k_one, ↓k_room W V (show i < 11 by omega), ↓k_bad8 W V (show i < 11 by omega), V_J0 V, V_J1 V, V_J2 V, V_J3 V, V_J4 V, V_J5 V, V_J6 V, V_J7 V, V_J8 V, V_J9 V, ↓if_neg e0, ↓if_pos e1]
    by_cases e2 : u = 2
    · refine ⟨h.2.2.1 (aJ z n 2) i, h, h, ?_, ?_, C⟩
      · simp (disch := first | assumption | (simp only [sI_s, sR_s, sI_r, sI_1, sR_1]; assumption) | omega | (simp only [aT, aN, aA, aJ, aM, aF, aFl, aFs]; omega) | decide) only [↓ev_pZ0, ↓ev_pZ1, ↓ev_dv, ↓ev_rm, ↓ev_rcv, ↓ev_cal, ↓ev_bd, ↓ev_gI, ↓ev_gR, ↓ev_pI, ↓ev_pR, ↓ev_rZ0, ↓ev_rZ1, ↓ev_nulN, ↓ev_nulS, ↓ev_aI, ↓ev_sI, ↓ev_aR, ↓ev_aL, sI_1, sI_s, sI_r, sI_u, sR_1, sR_s, sR_i, vn_i, u2n, u2s, ↓if_true, ↓if_false, ↓k_tankIn W V b2 hi, rN, ↓k_asn, ↓k_roomIf W hi, ↓k_bad7 W hi, c2, c3, c4, c5, c6, c7, c8, c9, c10, c11, ↓if_neg e0, ↓if_neg e1, ↓if_pos e2]
      · simp (disch := first | assumption | (simp only [sI_s, sR_s, sI_r, sI_1, sR_1]; assumption) | omega | (simp only [aT, aN, aA, aJ, aM, aF, aFl, aFs]; omega) | decide) only [↓ev_pZ0, ↓ev_pZ1, ↓ev_dv, ↓ev_rm, ↓ev_rcv, ↓ev_cal, ↓ev_bd, ↓ev_gI, ↓ev_gR, ↓ev_pI, ↓ev_pR, ↓ev_rZ0, ↓ev_rZ1, ↓ev_nulN, ↓ev_nulS, ↓ev_aI, ↓ev_sI, ↓ev_aR, ↓ev_aL, sI_1, sI_s, sI_r, sI_u, sR_1, sR_s, sR_i, vn_i, u2n, u2s, ↓if_true, ↓if_false, ↓k_isTankIn W hm b2 b1 hi, ↓if_neg one_ne, ↓k_one, ↓k_room W V (show i < 11 by omega), ↓k_bad8 W V (show i < 11 by omega), V_J0 V, V_J1 V, V_J2 V, V_J3 V, V_J4 V, V_J5 V, V_J6 V, V_J7 V, V_J8 V, V_J9 V, ↓if_neg e0, ↓if_neg e1, ↓if_pos e2]
    by_cases e3 : u = 3
    · refine ⟨h.2.2.1 (aJ z n 3) i, h, h, ?_, ?_, C⟩
      · simp (disch := first | assumption | (simp only [sI_s, sR_s, sI_r, sI_1, sR_1]; assumption) | omega | (simp only [aT, aN, aA, aJ, aM, aF, aFl, aFs]; omega) | decide) only [↓ev_pZ0, ↓ev_pZ1, ↓ev_dv, ↓ev_rm, ↓ev_rcv, ↓ev_cal, ↓ev_bd, ↓ev_gI, ↓ev_gR, ↓ev_pI, ↓ev_pR, ↓ev_rZ0, ↓ev_rZ1, ↓ev_nulN, ↓ev_nulS, ↓ev_aI, ↓ev_sI, ↓ev_aR, ↓ev_aL, sI_1, sI_s, sI_r, sI_u, sR_1, sR_s, sR_i, vn_i, u2n, u2s, ↓if_true, ↓if_false, ↓k_tankIn W V b2 hi, rN, ↓k_asn, ↓k_roomIf W hi, ↓k_bad7 W hi, c2, c3, c4, c5, c6, c7, c8, c9, c10, c11, ↓if_neg e0, ↓if_neg e1, ↓if_neg e2, ↓if_pos e3]
      · simp (disch := first | assumption | (simp only [sI_s, sR_s, sI_r, sI_1, sR_1]; assumption) | omega | (simp only [aT, aN, aA, aJ, aM, aF, aFl, aFs]; omega) | decide) only [↓ev_pZ0, ↓ev_pZ1, ↓ev_dv, ↓ev_rm, ↓ev_rcv, ↓ev_cal, ↓ev_bd, ↓ev_gI, ↓ev_gR, ↓ev_pI, ↓ev_pR, ↓ev_rZ0, ↓ev_rZ1, ↓ev_nulN, ↓ev_nulS, ↓ev_aI, ↓ev_sI, ↓ev_aR, ↓ev_aL, sI_1, sI_s, sI_r, sI_u, sR_1, sR_s, sR_i, vn_i, u2n, u2s, ↓if_true, ↓if_false, ↓k_isTankIn W hm b2 b1 hi, ↓if_neg one_ne, ↓k_one, ↓k_room W V (show i < 11 by omega), ↓k_bad8 W V (show i < 11 by omega), V_J0 V, V_J1 V, V_J2 V, V_J3 V, V_J4 V, V_J5 V, V_J6 V, V_J7 V, V_J8 V, V_J9 V, ↓if_neg e0, ↓if_neg e1, ↓if_neg e2, ↓if_pos e3]
    by_cases e4 : u = 4
    · refine ⟨h.2.2.1 (aJ z n 4) i, h, h, ?_, ?_, C⟩
      · simp (disch := first | assumption | (simp only [sI_s, sR_s, sI_r, sI_1, sR_1]; assumption) | omega | (simp only [aT, aN, aA, aJ, aM, aF, aFl, aFs]; omega) | decide) only [↓ev_pZ0, ↓ev_pZ1, ↓ev_dv, ↓ev_rm, ↓ev_rcv, ↓ev_cal, ↓ev_bd, ↓ev_gI, ↓ev_gR, ↓ev_pI, ↓ev_pR, ↓ev_rZ0, ↓ev_rZ1, ↓ev_nulN, ↓ev_nulS, ↓ev_aI, ↓ev_sI, ↓ev_aR, ↓ev_aL, sI_1, sI_s, sI_r, sI_u, sR_1, sR_s, sR_i, vn_i, u2n, u2s, ↓if_true, ↓if_false, ↓k_tankIn W V b2 hi, rN, ↓k_asn, ↓k_roomIf W hi, ↓k_bad7 W hi, c2, c3, c4, c5, c6, c7, c8, c9, c10, c11, ↓if_neg e0, ↓if_neg e1, ↓if_neg e2, ↓if_neg e3, ↓if_pos e4]
      · simp (disch := first | assumption | (simp only [sI_s, sR_s, sI_r, sI_1, sR_1]; assumption) | omega | (simp only [aT, aN, aA, aJ, aM, aF, aFl, aFs]; omega) | decide) only [↓ev_pZ0, ↓ev_pZ1, ↓ev_dv, ↓ev_rm, ↓ev_rcv, ↓ev_cal, ↓ev_bd, ↓ev_gI, ↓ev_gR, ↓ev_pI, ↓ev_pR, ↓ev_rZ0, ↓ev_rZ1, ↓ev_nulN, ↓ev_nulS, ↓ev_aI, ↓ev_sI, ↓ev_aR, ↓ev_aL, sI_1, sI_s, sI_r, sI_u, sR_1, sR_s, sR_i, vn_i, u2n, u2s, ↓if_true, ↓if_false, ↓k_isTankIn W hm b2 b1 hi, ↓if_neg one_ne, ↓k_one, ↓k_room W V (show i < 11 by omega), ↓k_bad8 W V (show i < 11 by omega), V_J0 V, V_J1 V, V_J2 V, V_J3 V, V_J4 V, V_J5 V, V_J6 V, V_J7 V, V_J8 V, V_J9 V, ↓if_neg e0, ↓if_neg e1, ↓if_neg e2, ↓if_neg e3, ↓if_pos e4]
    by_cases e5 : u = 5
    · refine ⟨h.2.2.1 (aJ z n 5) i, h, h, ?_, ?_, C⟩
      · simp (disch := first | assumption | (simp only [sI_s, sR_s, sI_r, sI_1, sR_1]; assumption) | omega | (simp only [aT, aN, aA, aJ, aM, aF, aFl, aFs]; omega) | decide) only [↓ev_pZ0, ↓ev_pZ1, ↓ev_dv, ↓ev_rm, ↓ev_rcv, ↓ev_cal, ↓ev_bd, ↓ev_gI, ↓ev_gR, ↓ev_pI, ↓ev_pR, ↓ev_rZ0, ↓ev_rZ1, ↓ev_nulN, ↓ev_nulS, ↓ev_aI, ↓ev_sI, ↓ev_aR, ↓ev_aL, sI_1, sI_s, sI_r, sI_u, sR_1, sR_s, sR_i, vn_i, u2n, u2s, ↓if_true, ↓if_false, ↓k_tankIn W V b2 hi, rN, ↓k_asn, ↓k_roomIf W hi, ↓k_bad7 W hi, c2, c3, c4, c5, c6, c7, c8, c9, c10, c11, ↓if_neg e0, ↓if_neg e1, ↓if_neg e2, ↓if_neg e3, ↓if_neg e4, ↓if_pos e5]
      · simp (disch := first | assumption | (simp only [sI_s, sR_s, sI_r, sI_1, sR_1]; assumption) | omega | (simp only [aT, aN, aA, aJ, aM, aF, aFl, aFs]; omega) | decide) only [↓ev_pZ0, ↓ev_pZ1, ↓ev_dv, ↓ev_rm, ↓ev_rcv, ↓ev_cal, ↓ev_bd, ↓ev_gI, ↓ev_gR, ↓ev_pI, ↓ev_pR, ↓ev_rZ0, ↓ev_rZ1, ↓ev_nulN, ↓ev_nulS, ↓ev_aI, ↓ev_sI, ↓ev_aR, ↓ev_aL, sI_1, sI_s, sI_r, sI_u, sR_1, sR_s, sR_i, vn_i, u2n, u2s, ↓if_true, ↓if_false, ↓k_isTankIn W hm b2 b1 hi, ↓if_neg one_ne, ↓k_one, ↓k_room W V (show i < 11 by omega), ↓k_bad8 W V (show i < 11 by omega), V_J0 V, V_J1 V, V_J2 V, V_J3 V, V_J4 V, V_J5 V, V_J6 V, V_J7 V, V_J8 V, V_J9 V, ↓if_neg e0, ↓if_neg e1, ↓if_neg e2, ↓if_neg e3, ↓if_neg e4, ↓if_pos e5]
    by_cases e6 : u = 6
    · refine ⟨asn (h.2.2.1 (aJ z n 9) i), h, h, ?_, ?_, C⟩
      · simp (disch := first | assumption | (simp only [sI_s, sR_s, sI_r, sI_1, sR_1]; assumption) | omega | (simp only [aT, aN, aA, aJ, aM, aF, aFl, aFs]; omega) | decide) only [↓ev_pZ0, ↓ev_pZ1, ↓ev_dv, ↓ev_rm, ↓ev_rcv, ↓ev_cal, ↓ev_bd, ↓ev_gI, ↓ev_gR, ↓ev_pI, ↓ev_pR, ↓ev_rZ0, ↓ev_rZ1, ↓ev_nulN, ↓ev_nulS, ↓ev_aI, ↓ev_sI, ↓ev_aR, ↓ev_aL, sI_1, sI_s, sI_r, sI_u, sR_1, sR_s, sR_i, vn_i, u2n, u2s, ↓if_true, ↓if_false, ↓k_tankIn W V b2 hi, rN, ↓k_asn, ↓k_roomIf W hi, ↓k_bad7 W hi, c2, c3, c4, c5, c6, c7, c8, c9, c10, c11, ↓if_neg e0, ↓if_neg e1, ↓if_neg e2, ↓if_neg e3, ↓if_neg e4, ↓if_neg e5, ↓if_pos e6]
      · simp (disch := first | assumption | (simp only [sI_s, sR_s, sI_r, sI_1, sR_1]; assumption) | omega | (simp only [aT, aN, aA, aJ, aM, aF, aFl, aFs]; omega) | decide) only [↓ev_pZ0, ↓ev_pZ1, ↓ev_dv, ↓ev_rm, ↓ev_rcv, ↓ev_cal, ↓ev_bd, ↓ev_gI, ↓ev_gR, ↓ev_pI, ↓ev_pR, ↓ev_rZ0, ↓ev_rZ1, ↓ev_nulN, ↓ev_nulS, ↓ev_aI, ↓ev_sI, ↓ev_aR, ↓ev_aL, sI_1, sI_s, sI_r, sI_u, sR_1, sR_s, sR_i, vn_i, u2n, u2s, ↓if_true, ↓if_false, ↓k_isTankIn W hm b2 b1 hi, ↓if_neg one_ne, ↓k_one, ↓k_room W V (show i < 11 by omega), ↓k_bad8 W V (show i < 11 by omega), V_J0 V, V_J1 V, V_J2 V, V_J3 V, V_J4 V, V_J5 V, V_J6 V, V_J7 V, V_J8 V, V_J9 V, ↓if_neg e0, ↓if_neg e1, ↓if_neg e2, ↓if_neg e3, ↓if_neg e4, ↓if_neg e5, ↓if_pos e6]
    by_cases e7 : u = 7
    · refine ⟨rmv (h.2.2.1 (aJ z n 9) i) (h.2.2.1 (aJ z n 1) i) (h.2.2.1 (aJ z n 5) i), h, h, ?_, ?_, C⟩
      · simp (disch := first | assumption | (simp only [sI_s, sR_s, sI_r, sI_1, sR_1]; assumption) | omega | (simp only [aT, aN, aA, aJ, aM, aF, aFl, aFs]; omega) | decide) only [↓ev_pZ0, ↓ev_pZ1, ↓ev_dv, ↓ev_rm, ↓ev_rcv, ↓ev_cal, ↓ev_bd, ↓ev_gI, ↓ev_gR, ↓ev_pI, ↓ev_pR, ↓ev_rZ0, ↓ev_rZ1, ↓ev_nulN, ↓ev_nulS, ↓ev_aI, ↓ev_sI, ↓ev_aR, ↓ev_aL, sI_1, sI_s, sI_r, sI_u, sR_1, sR_s, sR_i, vn_i, u2n, u2s, ↓if_true, ↓if_false, ↓k_tankIn W V b2 hi, rN, ↓k_asn, ↓k_roomIf W hi, ↓k_bad7 W hi, c2, c3, c4, c5, c6, c7, c8, c9, c10, c11, ↓if_neg e0, ↓if_neg e1, ↓if_neg e2, ↓if_neg e3, ↓if_neg e4, ↓if_neg e5, ↓if_neg e6, ↓if_pos e7]
      · simp (disch := first | assumption | (simp only [sI_s, sR_s, sI_r, sI_1, sR_1]; assumption) | omega | (simp only [aT, aN, aA, aJ, aM, aF, aFl, aFs]; omega) | decide) only [↓ev_pZ0, ↓ev_pZ1, ↓ev_dv, ↓ev_rm, ↓ev_rcv, ↓ev_cal, ↓ev_bd, ↓ev_gI, ↓ev_gR, ↓ev_pI, ↓ev_pR, ↓ev_rZ0, ↓ev_rZ1, ↓ev_nulN, ↓ev_nulS, ↓ev_aI, ↓ev_sI, ↓ev_aR, ↓ev_aL, sI_1, sI_s, sI_r, sI_u, sR_1, sR_s, sR_i, vn_i, u2n, u2s, ↓if_true, ↓if_false, ↓k_isTankIn W hm b2 b1 hi, ↓if_neg one_ne, ↓k_one, ↓k_room W V (show i < 11 by omega), ↓k_bad8 W V (show i < 11 by omega), V_J0 V, V_J1 V, V_J2 V, V_J3 V, V_J4 V, V_J5 V, V_J6 V, V_J7 V, V_J8 V, V_J9 V, ↓if_neg e0, ↓if_neg e1, ↓if_neg e2, ↓if_neg e3, ↓if_neg e4, ↓if_neg e5, ↓if_neg e6, ↓if_pos e7]
    by_cases e8 : u = 8
    · refine ⟨h.2.2.1 (aJ z n 6) i, h, h, ?_, ?_, C⟩
      · simp (disch := first | assumption | (simp only [sI_s, sR_s, sI_r, sI_1, sR_1]; assumption) | omega | (simp only [aT, aN, aA, aJ, aM, aF, aFl, aFs]; omega) | decide) only [↓ev_pZ0, ↓ev_pZ1, ↓ev_dv, ↓ev_rm, ↓ev_rcv, ↓ev_cal, ↓ev_bd, ↓ev_gI, ↓ev_gR, ↓ev_pI, ↓ev_pR, ↓ev_rZ0, ↓ev_rZ1, ↓ev_nulN, ↓ev_nulS, ↓ev_aI, ↓ev_sI, ↓ev_aR, ↓ev_aL, sI_1, sI_s, sI_r, sI_u, sR_1, sR_s, sR_i, vn_i, u2n, u2s, ↓if_true, ↓if_false, ↓k_tankIn W V b2 hi, rN, ↓k_asn, ↓k_roomIf W hi, ↓k_bad7 W hi, c2, c3, c4, c5, c6, c7, c8, c9, c10, c11, ↓if_neg e0, ↓if_neg e1, ↓if_neg e2, ↓if_neg e3, ↓if_neg e4, ↓if_neg e5, ↓if_neg e6, ↓if_neg e7, ↓if_pos e8]
      · simp (disch := first | assumption | (simp only [sI_s, sR_s, sI_r, sI_1, sR_1]; assumption) | omega | (simp only [aT, aN, aA, aJ, aM, aF, aFl, aFs]; omega) | decide) only [↓ev_pZ0, ↓ev_pZ1, ↓ev_dv, ↓ev_rm, ↓ev_rcv, ↓ev_cal, ↓ev_bd, ↓ev_gI, ↓ev_gR, ↓ev_pI, ↓ev_pR, ↓ev_rZ0, ↓ev_rZ1, ↓ev_nulN, ↓ev_nulS, ↓ev_aI, ↓ev_sI, ↓ev_aR, ↓ev_aL, sI_1, sI_s, sI_r, sI_u, sR_1, sR_s, sR_i, vn_i, u2n, u2s, ↓if_true, ↓if_false, ↓k_isTankIn W hm b2 b1 hi, ↓if_neg one_ne, ↓k_one, ↓k_room W V (show i < 11 by omega), ↓k_bad8 W V (show i < 11 by omega), V_J0 V, V_J1 V, V_J2 V, V_J3 V, V_J4 V, V_J5 V, V_J6 V, V_J7 V, V_J8 V, V_J9 V, ↓if_neg e0, ↓if_neg e1, ↓if_neg e2, ↓if_neg e3, ↓if_neg e4, ↓if_neg e5, ↓if_neg e6, ↓if_neg e7, ↓if_pos e8]
    by_cases e9 : u = 9
    · refine ⟨h.2.2.1 (aJ z n 7) i, h, h, ?_, ?_, C⟩
      · simp (disch := first | assumption | (simp only [sI_s, sR_s, sI_r, sI_1, sR_1]; assumption) | omega | (simp only [aT, aN, aA, aJ, aM, aF, aFl, aFs]; omega) | decide) only [↓ev_pZ0, ↓ev_pZ1, ↓ev_dv, ↓ev_rm, ↓ev_rcv, ↓ev_cal, ↓ev_bd, ↓ev_gI, ↓ev_gR, ↓ev_pI, ↓ev_pR, ↓ev_rZ0, ↓ev_rZ1, ↓ev_nulN, ↓ev_nulS, ↓ev_aI, ↓ev_sI, ↓ev_aR, ↓ev_aL, sI_1, sI_s, sI_r, sI_u, sR_1, sR_s, sR_i, vn_i, u2n, u2s, ↓if_true, ↓if_false, ↓k_tankIn W V b2 hi, rN, ↓k_asn, ↓k_roomIf W hi, ↓k_bad7 W hi, c2, c3, c4, c5, c6, c7, c8, c9, c10, c11, ↓if_neg e0, ↓if_neg e1, ↓if_neg e2, ↓if_neg e3, ↓if_neg e4, ↓if_neg e5, ↓if_neg e6, ↓if_neg e7, ↓if_neg e8, ↓if_pos e9]
      · simp (disch := first | assumption | (simp only [sI_s, sR_s, sI_r, sI_1, sR_1]; assumption) | omega | (simp only [aT, aN, aA, aJ, aM, aF, aFl, aFs]; omega) | decide) only [↓ev_pZ0, ↓ev_pZ1, ↓ev_dv, ↓ev_rm, ↓ev_rcv, ↓ev_cal, ↓ev_bd, ↓ev_gI, ↓ev_gR, ↓ev_pI, ↓ev_pR, ↓ev_rZ0, ↓ev_rZ1, ↓ev_nulN, ↓ev_nulS, ↓ev_aI, ↓ev_sI, ↓ev_aR, ↓ev_aL, sI_1, sI_s, sI_r, sI_u, sR_1, sR_s, sR_i, vn_i, u2n, u2s, ↓if_true, ↓if_false, ↓k_isTankIn W hm b2 b1 hi, ↓if_neg one_ne, ↓k_one, ↓k_room W V (show i < 11 by omega), ↓k_bad8 W V (show i < 11 by omega), V_J0 V, V_J1 V, V_J2 V, V_J3 V, V_J4 V, V_J5 V, V_J6 V, V_J7 V, V_J8 V, V_J9 V, ↓if_neg e0, ↓if_neg e1, ↓if_neg e2, ↓if_neg e3, ↓if_neg e4, ↓if_neg e5, ↓if_neg e6, ↓if_neg e7, ↓if_neg e8, ↓if_pos e9]
    by_cases e10 : u = 10
    · refine ⟨h.2.2.1 (aJ z n 8) i, h, h, ?_, ?_, C⟩
      · simp (disch := first | assumption | (simp only [sI_s, sR_s, sI_r, sI_1, sR_1]; assumption) | omega | (simp only [aT, aN, aA, aJ, aM, aF, aFl, aFs]; omega) | decide) only [↓ev_pZ0, ↓ev_pZ1, ↓ev_dv, ↓ev_rm, ↓ev_rcv, ↓ev_cal, ↓ev_bd, ↓ev_gI, ↓ev_gR, ↓ev_pI, ↓ev_pR, ↓ev_rZ0, ↓ev_rZ1, ↓ev_nulN, ↓ev_nulS, ↓ev_aI, ↓ev_sI, ↓ev_aR, ↓ev_aL, sI_1, sI_s, sI_r, sI_u, sR_1, sR_s, sR_i, vn_i, u2n, u2s, ↓if_true, ↓if_false, ↓k_tankIn W V b2 hi, rN, ↓k_asn, ↓k_roomIf W hi, ↓k_bad7 W hi, c2, c3, c4, c5, c6, c7, c8, c9, c10, c11, ↓if_neg e0, ↓if_neg e1, ↓if_neg e2, ↓if_neg e3, ↓if_neg e4, ↓if_neg e5, ↓if_neg e6, ↓if_neg e7, ↓if_neg e8, ↓if_neg e9, ↓if_pos e10]
      · simp (disch := first | assumption | (simp only [sI_s, sR_s, sI_r, sI_1, sR_1]; assumption) | omega | (simp only [aT, aN, aA, aJ, aM, aF, aFl, aFs]; omega) | decide) only [↓ev_pZ0, ↓ev_pZ1, ↓ev_dv, ↓ev_rm, ↓ev_rcv, ↓ev_cal, ↓ev_bd, ↓ev_gI, ↓ev_gR, ↓ev_pI, ↓ev_pR, ↓ev_rZ0, ↓ev_rZ1, ↓ev_nulN, ↓ev_nulS, ↓ev_aI, ↓ev_sI, ↓ev_aR, ↓ev_aL, sI_1, sI_s, sI_r, sI_u, sR_1, sR_s, sR_i, vn_i, u2n, u2s, ↓if_true, ↓if_false, ↓k_isTankIn W hm b2 b1 hi, ↓if_neg one_ne, ↓k_one, ↓k_room W V (show i < 11 by omega), ↓k_bad8 W V (show i < 11 by omega), V_J0 V, V_J1 V, V_J2 V, V_J3 V, V_J4 V, V_J5 V, V_J6 V, V_J7 V, V_J8 V, V_J9 V, ↓if_neg e0, ↓if_neg e1, ↓if_neg e2, ↓if_neg e3, ↓if_neg e4, ↓if_neg e5, ↓if_neg e6, ↓if_neg e7, ↓if_neg e8, ↓if_neg e9, ↓if_pos e10]
    by_cases e11 : u = 11
    · refine ⟨asn (bad (h.2.2.1 (aJ z n 1) i) (h.2.2.1 (aJ z n 3) i)), h, h, ?_, ?_, C⟩
      · simp (disch := first | assumption | (simp only [sI_s, sR_s, sI_r, sI_1, sR_1]; assumption) | omega | (simp only [aT, aN, aA, aJ, aM, aF, aFl, aFs]; omega) | decide) only [↓ev_pZ0, ↓ev_pZ1, ↓ev_dv, ↓ev_rm, ↓ev_rcv, ↓ev_cal, ↓ev_bd, ↓ev_gI, ↓ev_gR, ↓ev_pI, ↓ev_pR, ↓ev_rZ0, ↓ev_rZ1, ↓ev_nulN, ↓ev_nulS, ↓ev_aI, ↓ev_sI, ↓ev_aR, ↓ev_aL, sI_1, sI_s, sI_r, sI_u, sR_1, sR_s, sR_i, vn_i, u2n, u2s, ↓if_true, ↓if_false, ↓k_tankIn W V b2 hi, rN, ↓k_asn, ↓k_roomIf W hi, ↓k_bad7 W hi, c2, c3, c4, c5, c6, c7, c8, c9, c10, c11, ↓if_neg e0, ↓if_neg e1, ↓if_neg e2, ↓if_neg e3, ↓if_neg e4, ↓if_neg e5, ↓if_neg e6, ↓if_neg e7, ↓if_neg e8, ↓if_neg e9, ↓if_neg e10, ↓if_pos e11]
      · simp (disch := first | assumption | (simp only [sI_s, sR_s, sI_r, sI_1, sR_1]; assumption) | omega | (simp only [aT, aN, aA, aJ, aM, aF, aFl, aFs]; omega) | decide) only [↓ev_pZ0, ↓ev_pZ1, ↓ev_dv, ↓ev_rm, ↓ev_rcv, ↓ev_cal, ↓ev_bd, ↓ev_gI, ↓ev_gR, ↓ev_pI, ↓ev_pR, ↓ev_rZ0, ↓ev_rZ1, ↓ev_nulN, ↓ev_nulS, ↓ev_aI, ↓ev_sI, ↓ev_aR, ↓ev_aL, sI_1, sI_s, sI_r, sI_u, sR_1, sR_s, sR_i, vn_i, u2n, u2s, ↓if_true, ↓if_false, ↓k_isTankIn W hm b2 b1 hi, ↓if_neg one_ne, ↓k_one, ↓k_room W V (show i < 11 by omega), ↓k_bad8 W V (show i < 11 by omega), V_J0 V, V_J1 V, V_J2 V, V_J3 V, V_J4 V, V_J5 V, V_J6 V, V_J7 V, V_J8 V, V_J9 V, ↓if_neg e0, ↓if_neg e1, ↓if_neg e2, ↓if_neg e3, ↓if_neg e4, ↓if_neg e5, ↓if_neg e6, ↓if_neg e7, ↓if_neg e8, ↓if_neg e9, ↓if_neg e10, ↓if_pos e11]
    · refine ⟨-1, h, h, ?_, ?_, C⟩
      · simp (disch := first | assumption | (simp only [sI_s, sR_s, sI_r, sI_1, sR_1]; assumption) | omega | (simp only [aT, aN, aA, aJ, aM, aF, aFl, aFs]; omega) | decide) only [↓ev_pZ0, ↓ev_pZ1, ↓ev_dv, ↓ev_rm, ↓ev_rcv, ↓ev_cal, ↓ev_bd, ↓ev_gI, ↓ev_gR, ↓ev_pI, ↓ev_pR, ↓ev_rZ0, ↓ev_rZ1, ↓ev_nulN, ↓ev_nulS, ↓ev_aI, ↓ev_sI, ↓ev_aR, ↓ev_aL, sI_1, sI_s, sI_r, sI_u, sR_1, sR_s, sR_i, vn_i, u2n, u2s, ↓if_true, ↓if_false, ↓k_tankIn W V b2 hi, ↓if_neg e0, ↓if_neg e1, ↓if_neg e2, ↓if_neg e3, ↓if_neg e4, ↓if_neg e5, ↓if_neg e6, ↓if_neg e7, ↓if_neg e8, ↓if_neg e9, ↓if_neg e10, ↓if_neg e11]
      · simp (config := { maxSteps := 1000000 }) (disch := first | assumption | (simp only [sI_s, sR_s, sI_r, sI_1, sR_1]; assumption) | omega | (simp only [aT, aN, aA, aJ, aM, aF, aFl, aFs]; omega) | decide) only [↓ev_pZ0, ↓ev_pZ1, ↓ev_dv, ↓ev_rm, ↓ev_rcv, ↓ev_cal, ↓ev_bd, ↓ev_gI, ↓ev_gR, ↓ev_pI, ↓ev_pR, ↓ev_rZ0, ↓ev_rZ1, ↓ev_nulN, ↓ev_nulS, ↓ev_aI, ↓ev_sI, ↓ev_aR, ↓ev_aL, sI_1, sI_s, sI_r, sI_u, sR_1, sR_s, sR_i, vn_i, u2n, u2s, ↓if_true, ↓if_false, ↓k_isTankIn W hm b2 b1 hi, ↓if_neg one_ne, ↓if_neg e0, ↓if_neg e1, ↓if_neg e2, ↓if_neg e3, ↓if_neg e4, ↓if_neg e5, ↓if_neg e6, ↓if_neg e7, ↓if_neg e8, ↓if_neg e9, ↓if_neg e10, ↓if_neg e11]
  · refine ⟨-1, h, h, ?_, ?_, C⟩
    · simp (disch := first | assumption | (simp only [sI_s, sR_s, sI_r, sI_1, sR_1]; assumption) | omega | (simp only [aT, aN, aA, aJ, aM, aF, aFl, aFs]; omega) | decide) only [↓ev_pZ0, ↓ev_pZ1, ↓ev_dv, ↓ev_rm, ↓ev_rcv, ↓ev_cal, ↓ev_bd, ↓ev_gI, ↓ev_gR, ↓ev_pI, ↓ev_pR, ↓ev_rZ0, ↓ev_rZ1, ↓ev_nulN, ↓ev_nulS, ↓ev_aI, ↓ev_sI, ↓ev_aR, ↓ev_aL, sI_1, sI_s, sI_r, sI_u, sR_1, sR_s, sR_i, vn_i, u2n, u2s, ↓if_true, ↓if_false, ↓k_tankOut W V b2 ht]
    · rw [ev_rcv sM, k_isTankOut W hm b2 b1 ht, if_pos rfl]
theorem o_fieldOf (C : Cpl z n nf dN hN h) (t u : Int32) : ∃ r h1 h2, f_X7_fieldOf h z t u = some (r, h1) ∧ f_X8_fieldOf h1 (aM z n) t u = some (r, h2) ∧ Cpl z n nf dN hN h2 := by
  obtain ⟨b, W, V, ct, K, KX', cx⟩ := o_start C
  obtain ⟨b1, b2, b3, b4, b5⟩ := id b
  have s0 := W_z W
  have sM := W_M W
  have e3 : h.2.2.1 (aM z n) 3 = nI nf := cx.2.2.2.2.2.2.2.2.2.2.1
  unfold f_X7_fieldOf f_X8_fieldOf
  by_cases ht : ∃ f, f < nf ∧ t = nI f
  · obtain ⟨f, hf, rfl⟩ := ht
    have hw : wi (nI f) 0 (nI nf - 1) = 1 := by
      have e : nI nf - 1 = nI (nf - 1) := by
        have : nI nf = nI (nf - 1) + 1 := by rw [nI_1]; congr 1; omega
        rw [this, Int32.add_sub_cancel]
      refine wi_1 (nI_pos (by omega)) ?_
      rw [e, nI_lt_iff (by omega) (by omega)]
      omega
    have ha : f_X7_fieldAt h z (nI f) = some (some (aF z n f), h) := by
      rw [v_fieldAt W V, if_pos ⟨nI_pos (by omega), fun q => by
        have q : nI 40 ≤ nI f := q
        rw [nI_le_iff (by omega) (by omega)] at q
        omega⟩, nI_clamp (by omega), if_pos hf]
    have sF := W_F W hf
    have s10 := W_J10 W
    have s11 := W_J11 W
    have s12 := W_J12 W
    have s13 := W_J13 W
    have s14 := W_J14 W
    have s15 := W_J15 W
    have s16 := W_J16 W
    have s17 := W_J17 W
    obtain ⟨g1, g2, g3, g4, g5, g6, g7, g8, g9, -⟩ := K.1 f hf
    by_cases e0 : u = 0
    · refine ⟨h.2.2.1 (aJ z n 10) f, h, h, ?_, ?_, C⟩
      · simp (disch := first | assumption | (simp only [sI_s, sR_s, sI_r, sI_1, sR_1]; assumption) | omega | (simp only [aT, aN, aA, aJ, aM, aF, aFl, aFs]; omega) | decide) only [↓ev_pZ0, ↓ev_pZ1, ↓ev_dv, ↓ev_rm, ↓ev_rcv, ↓ev_cal, ↓ev_bd, ↓ev_gI, ↓ev_gR, ↓ev_pI, ↓ev_pR, ↓ev_rZ0, ↓ev_rZ1, ↓ev_nulN, ↓ev_nulS, ↓ev_aI, ↓ev_sI, ↓ev_aR, ↓ev_aL, sI_1, sI_s, sI_r, sI_u, sR_1, sR_s, sR_i, vn_i, u2n, u2s, ↓if_true, ↓if_false, ↓cal_eq ha, ↓k_asn, g2, g3, g4, g5, g6, g7, g8, g9, ↓if_pos e0]
      · simp (disch := first | assumption | (simp only [sI_s, sR_s, sI_r, sI_1, sR_1]; assumption) | omega | (simp only [aT, aN, aA, aJ, aM, aF, aFl, aFs]; omega) | decide) only [↓ev_pZ0, ↓ev_pZ1, ↓ev_dv, ↓ev_rm, ↓ev_rcv, ↓ev_cal, ↓ev_bd, ↓ev_gI, ↓ev_gR, ↓ev_pI, ↓ev_pR, ↓ev_rZ0, ↓ev_rZ1, ↓ev_nulN, ↓ev_nulS, ↓ev_aI, ↓ev_sI, ↓ev_aR, ↓ev_aL, sI_1, sI_s, sI_r, sI_u, sR_1, sR_s, sR_i, vn_i, u2n, u2s, ↓if_true, ↓if_false, e3, ↓k_isIn, hw, ↓if_neg one_ne, ↓k_one, V_J10 V, V_J11 V, V_J12 V, V_J13 V, V_J14 V, V_J15 V, V_J16 V, V_J17 V, ↓if_pos e0]
    by_cases e1 : u = 1
    · refine ⟨h.2.2.1 (aJ z n 11) f, h, h, ?_, ?_, C⟩
      · simp (disch := first | assumption | (simp only [sI_s, sR_s, sI_r, sI_1, sR_1]; assumption) | omega | (simp only [aT, aN, aA, aJ, aM, aF, aFl, aFs]; omega) | decide) only [↓ev_pZ0, ↓ev_pZ1, ↓ev_dv, ↓ev_rm, ↓ev_rcv, ↓ev_cal, ↓ev_bd, ↓ev_gI, ↓ev_gR, ↓ev_pI, ↓ev_pR, ↓ev_rZ0, ↓ev_rZ1, ↓ev_nulN, ↓ev_nulS, ↓ev_aI, ↓ev_sI, ↓ev_aR, ↓ev_aL, sI_1, sI_s, sI_r, sI_u, sR_1, sR_s, sR_i, vn_i, u2n, u2s, ↓if_true, ↓if_false, ↓cal_eq ha, ↓k_asn, g2, g3, g4, g5, g6, g7, g8, g9, ↓if_neg e0, ↓if_pos e1]
      · simp (disch := first | assumption | (simp only [sI_s, sR_s, sI_r, sI_1, sR_1]; assumption) | omega | (simp only [aT, aN, aA, aJ, aM, aF, aFl, aFs]; omega) | decide) only [↓ev_pZ0, ↓ev_pZ1, ↓ev_dv, ↓ev_rm, ↓ev_rcv, ↓ev_cal, ↓ev_bd, ↓ev_gI, ↓ev_gR, ↓ev_pI, ↓ev_pR, ↓ev_rZ0, ↓ev_rZ1, ↓ev_nulN, ↓ev_nulS, ↓ev_aI, ↓ev_sI, ↓ev_aR, ↓ev_aL, sI_1, sI_s, sI_r, sI_u, sR_1, sR_s, sR_i, vn_i, u2n, u2s, ↓if_true, ↓if_false, e3, ↓k_isIn, hw, ↓if_neg one_ne, ↓k_one, V_J10 V, V_J11 V, V_J12 V, V_J13 V, V_J14 V, V_J15 V, V_J16 V, V_J17 V, ↓if_neg e0, ↓if_pos e1]
    by_cases e2 : u = 2
    · refine ⟨h.2.2.1 (aJ z n 12) f, h, h, ?_, ?_, C⟩
      · simp (disch := first | assumption | (simp only [sI_s, sR_s, sI_r, sI_1, sR_1]; assumption) | omega | (simp only [aT, aN, aA, aJ, aM, aF, aFl, aFs]; omega) | decide) only [↓ev_pZ0, ↓ev_pZ1, ↓ev_dv, ↓ev_rm, ↓ev_rcv, ↓ev_cal, ↓ev_bd, ↓ev_gI, ↓ev_gR, ↓ev_pI, ↓ev_pR, ↓ev_rZ0, ↓ev_rZ1, ↓ev_nulN, ↓ev_nulS, ↓ev_aI, ↓ev_sI, ↓ev_aR, ↓ev_aL, sI_1, sI_s, sI_r, sI_u, sR_1, sR_s, sR_i, vn_i, u2n, u2s, ↓if_true, ↓if_false, ↓cal_eq ha, ↓k_asn, g2, g3, g4, g5, g6, g7, g8, g9, ↓if_neg e0, ↓if_neg e1, ↓if_pos e2]
      · simp (disch := first | assumption | (simp only [sI_s, sR_s, sI_r, sI_1, sR_1]; assumption) | omega | (simp only [aT, aN, aA, aJ, aM, aF, aFl, aFs]; omega) | decide) only [↓ev_pZ0, ↓ev_pZ1, ↓ev_dv, ↓ev_rm, ↓ev_rcv, ↓ev_cal, ↓ev_bd, ↓ev_gI, ↓ev_gR, ↓ev_pI, ↓ev_pR, ↓ev_rZ0, ↓ev_rZ1, ↓ev_nulN, ↓ev_nulS, ↓ev_aI, ↓ev_sI, ↓ev_aR, ↓ev_aL, sI_1, sI_s, sI_r, sI_u, sR_1, sR_s, sR_i, vn_i, u2n, u2s, ↓if_true, ↓if_false, e3, ↓k_isIn, hw, ↓if_neg one_ne, ↓k_one, V_J10 V, V_J11 V, V_J12 V, V_J13 V, V_J14 V, V_J15 V, V_J16 V, V_J17 V, ↓if_neg e0, ↓if_neg e1, ↓if_pos e2]
    by_cases e33 : u = 3
    · refine ⟨h.2.2.1 (aJ z n 13) f, h, h, ?_, ?_, C⟩
      · simp (disch := first | assumption | (simp only [sI_s, sR_s, sI_r, sI_1, sR_1]; assumption) | omega | (simp only [aT, aN, aA, aJ, aM, aF, aFl, aFs]; omega) | decide) only [↓ev_pZ0, ↓ev_pZ1, ↓ev_dv, ↓ev_rm, ↓ev_rcv, ↓ev_cal, ↓ev_bd, ↓ev_gI, ↓ev_gR, ↓ev_pI, ↓ev_pR, ↓ev_rZ0, ↓ev_rZ1, ↓ev_nulN, ↓ev_nulS, ↓ev_aI, ↓ev_sI, ↓ev_aR, ↓ev_aL, sI_1, sI_s, sI_r, sI_u, sR_1, sR_s, sR_i, vn_i, u2n, u2s, ↓if_true, ↓if_false, ↓cal_eq ha, ↓k_asn, g2, g3, g4, g5, g6, g7, g8, g9, ↓if_neg e0, ↓if_neg e1, ↓if_neg e2, ↓if_pos e33]
      · simp (disch := first | assumption | (simp only [sI_s, sR_s, sI_r, sI_1, sR_1]; assumption) | omega | (simp only [aT, aN, aA, aJ, aM, aF, aFl, aFs]; omega) | decide) only [↓ev_pZ0, ↓ev_pZ1, ↓ev_dv, ↓ev_rm, ↓ev_rcv, ↓ev_cal, ↓ev_bd, ↓ev_gI, ↓ev_gR, ↓ev_pI, ↓ev_pR, ↓ev_rZ0, ↓ev_rZ1, ↓ev_nulN, ↓ev_nulS, ↓ev_aI, ↓ev_sI, ↓ev_aR, ↓ev_aL, sI_1, sI_s, sI_r, sI_u, sR_1, sR_s, sR_i, vn_i, u2n, u2s, ↓if_true, ↓if_false, e3, ↓k_isIn, hw, ↓if_neg one_ne, ↓k_one, V_J10 V, V_J11 V, V_J12 V, V_J13 V, V_J14 V, V_J15 V, V_J16 V, V_J17 V, ↓if_neg e0, ↓if_neg e1, ↓if_neg e2, ↓if_pos e33]
    by_cases e4 : u = 4
    · refine ⟨asn (h.2.2.1 (aJ z n 17) f), h, h, ?_, ?_, C⟩
      · simp (disch := first | assumption | (simp only [sI_s, sR_s, sI_r, sI_1, sR_1]; assumption) | omega | (simp only [aT, aN, aA, aJ, aM, aF, aFl, aFs]; omega) | decide) only [↓ev_pZ0, ↓ev_pZ1, ↓ev_dv, ↓ev_rm, ↓ev_rcv, ↓ev_cal, ↓ev_bd, ↓ev_gI, ↓ev_gR, ↓ev_pI, ↓ev_pR, ↓ev_rZ0, ↓ev_rZ1, ↓ev_nulN, ↓ev_nulS, ↓ev_aI, ↓ev_sI, ↓ev_aR, ↓ev_aL, sI_1, sI_s, sI_r, sI_u, sR_1, sR_s, sR_i, vn_i, u2n, u2s, ↓if_true, ↓if_false, ↓cal_eq ha, ↓k_asn, g2, g3, g4, g5, g6, g7, g8, g9, ↓if_neg e0, ↓if_neg e1, ↓if_neg e2, ↓if_neg e33, ↓if_pos e4]
      · simp (disch := first | assumption | (simp only [sI_s, sR_s, sI_r, sI_1, sR_1]; assumption) | omega | (simp only [aT, aN, aA, aJ, aM, aF, aFl, aFs]; omega) | decide) only [↓ev_pZ0, ↓ev_pZ1, ↓ev_dv, ↓ev_rm, ↓ev_rcv, ↓ev_cal, ↓ev_bd, ↓ev_gI, ↓ev_gR, ↓ev_pI, ↓ev_pR, ↓ev_rZ0, ↓ev_rZ1, ↓ev_nulN, ↓ev_nulS, ↓ev_aI, ↓ev_sI, ↓ev_aR, ↓ev_aL, sI_1, sI_s, sI_r, sI_u, sR_1, sR_s, sR_i, vn_i, u2n, u2s, ↓if_true, ↓if_false, e3, ↓k_isIn, hw, ↓if_neg one_ne, ↓k_one, V_J10 V, V_J11 V, V_J12 V, V_J13 V, V_J14 V, V_J15 V, V_J16 V, V_J17 V, ↓if_neg e0, ↓if_neg e1, ↓if_neg e2, ↓if_neg e33, ↓if_pos e4]
    by_cases e5 : u = 5
    · refine ⟨h.2.2.1 (aJ z n 14) f, h, h, ?_, ?_, C⟩
      · simp (disch := first | assumption | (simp only [sI_s, sR_s, sI_r, sI_1, sR_1]; assumption) | omega | (simp only [aT, aN, aA, aJ, aM, aF, aFl, aFs]; omega) | decide) only [↓ev_pZ0, ↓ev_pZ1, ↓ev_dv, ↓ev_rm, ↓ev_rcv, ↓ev_cal, ↓ev_bd, ↓ev_gI, ↓ev_gR, ↓ev_pI, ↓ev_pR, ↓ev_rZ0, ↓ev_rZ1, ↓ev_nulN, ↓ev_nulS, ↓ev_aI, ↓ev_sI, ↓ev_aR, ↓ev_aL, sI_1, sI_s, sI_r, sI_u, sR_1, sR_s, sR_i, vn_i, u2n, u2s, ↓if_true, ↓if_false, ↓cal_eq ha, ↓k_asn, g2, g3, g4, g5, g6, g7, g8, g9, ↓if_neg e0, ↓if_neg e1, ↓if_neg e2, ↓if_neg e33, ↓if_neg e4, ↓if_pos e5]
      · simp (disch := first | assumption | (simp only [sI_s, sR_s, sI_r, sI_1, sR_1]; assumption) | omega | (simp only [aT, aN, aA, aJ, aM, aF, aFl, aFs]; omega) | decide) only [↓ev_pZ0, ↓ev_pZ1, ↓ev_dv, ↓ev_rm, ↓ev_rcv, ↓ev_cal, ↓ev_bd, ↓ev_gI, ↓ev_gR, ↓ev_pI, ↓ev_pR, ↓ev_rZ0, ↓ev_rZ1, ↓ev_nulN, ↓ev_nulS, ↓ev_aI, ↓ev_sI, ↓ev_aR, ↓ev_aL, sI_1, sI_s, sI_r, sI_u, sR_1, sR_s, sR_i, vn_i, u2n, u2s, ↓if_true, ↓if_false, e3, ↓k_isIn, hw, ↓if_neg one_ne, ↓k_one, V_J10 V, V_J11 V, V_J12 V, V_J13 V, V_J14 V, V_J15 V, V_J16 V, V_J17 V, ↓if_neg e0, ↓if_neg e1, ↓if_neg e2, ↓if_neg e33, ↓if_neg e4, ↓if_pos e5]
    by_cases e6 : u = 6
    · refine ⟨h.2.2.1 (aJ z n 15) f, h, h, ?_, ?_, C⟩
      · simp (disch := first | assumption | (simp only [sI_s, sR_s, sI_r, sI_1, sR_1]; assumption) | omega | (simp only [aT, aN, aA, aJ, aM, aF, aFl, aFs]; omega) | decide) only [↓ev_pZ0, ↓ev_pZ1, ↓ev_dv, ↓ev_rm, ↓ev_rcv, ↓ev_cal, ↓ev_bd, ↓ev_gI, ↓ev_gR, ↓ev_pI, ↓ev_pR, ↓ev_rZ0, ↓ev_rZ1, ↓ev_nulN, ↓ev_nulS, ↓ev_aI, ↓ev_sI, ↓ev_aR, ↓ev_aL, sI_1, sI_s, sI_r, sI_u, sR_1, sR_s, sR_i, vn_i, u2n, u2s, ↓if_true, ↓if_false, ↓cal_eq ha, ↓k_asn, g2, g3, g4, g5, g6, g7, g8, g9, ↓if_neg e0, ↓if_neg e1, ↓if_neg e2, ↓if_neg e33, ↓if_neg e4, ↓if_neg e5, ↓if_pos e6]
      · simp (disch := first | assumption | (simp only [sI_s, sR_s, sI_r, sI_1, sR_1]; assumption) | omega | (simp only [aT, aN, aA, aJ, aM, aF, aFl, aFs]; omega) | decide) only [↓ev_pZ0, ↓ev_pZ1, ↓ev_dv, ↓ev_rm, ↓ev_rcv, ↓ev_cal, ↓ev_bd, ↓ev_gI, ↓ev_gR, ↓ev_pI, ↓ev_pR, ↓ev_rZ0, ↓ev_rZ1, ↓ev_nulN, ↓ev_nulS, ↓ev_aI, ↓ev_sI, ↓ev_aR, ↓ev_aL, sI_1, sI_s, sI_r, sI_u, sR_1, sR_s, sR_i, vn_i, u2n, u2s, ↓if_true, ↓if_false, e3, ↓k_isIn, hw, ↓if_neg one_ne, ↓k_one, V_J10 V, V_J11 V, V_J12 V, V_J13 V, V_J14 V, V_J15 V, V_J16 V, V_J17 V, ↓if_neg e0, ↓if_neg e1, ↓if_neg e2, ↓if_neg e33, ↓if_neg e4, ↓if_neg e5, ↓if_pos e6]
    by_cases e7 : u = 7
    · refine ⟨h.2.2.1 (aJ z n 16) f, h, h, ?_, ?_, C⟩
      · simp (disch := first | assumption | (simp only [sI_s, sR_s, sI_r, sI_1, sR_1]; assumption) | omega | (simp only [aT, aN, aA, aJ, aM, aF, aFl, aFs]; omega) | decide) only [↓ev_pZ0, ↓ev_pZ1, ↓ev_dv, ↓ev_rm, ↓ev_rcv, ↓ev_cal, ↓ev_bd, ↓ev_gI, ↓ev_gR, ↓ev_pI, ↓ev_pR, ↓ev_rZ0, ↓ev_rZ1, ↓ev_nulN, ↓ev_nulS, ↓ev_aI, ↓ev_sI, ↓ev_aR, ↓ev_aL, sI_1, sI_s, sI_r, sI_u, sR_1, sR_s, sR_i, vn_i, u2n, u2s, ↓if_true, ↓if_false, ↓cal_eq ha, ↓k_asn, g2, g3, g4, g5, g6, g7, g8, g9, ↓if_neg e0, ↓if_neg e1, ↓if_neg e2, ↓if_neg e33, ↓if_neg e4, ↓if_neg e5, ↓if_neg e6, ↓if_pos e7]
      · simp (disch := first | assumption | (simp only [sI_s, sR_s, sI_r, sI_1, sR_1]; assumption) | omega | (simp only [aT, aN, aA, aJ, aM, aF, aFl, aFs]; omega) | decide) only [↓ev_pZ0, ↓ev_pZ1, ↓ev_dv, ↓ev_rm, ↓ev_rcv, ↓ev_cal, ↓ev_bd, ↓ev_gI, ↓ev_gR, ↓ev_pI, ↓ev_pR, ↓ev_rZ0, ↓ev_rZ1, ↓ev_nulN, ↓ev_nulS, ↓ev_aI, ↓ev_sI, ↓ev_aR, ↓ev_aL, sI_1, sI_s, sI_r, sI_u, sR_1, sR_s, sR_i, vn_i, u2n, u2s, ↓if_true, ↓if_false, e3, ↓k_isIn, hw, ↓if_neg one_ne, ↓k_one, V_J10 V, V_J11 V, V_J12 V, V_J13 V, V_J14 V, V_J15 V, V_J16 V, V_J17 V, ↓if_neg e0, ↓if_neg e1, ↓if_neg e2, ↓if_neg e33, ↓if_neg e4, ↓if_neg e5, ↓if_neg e6, ↓if_pos e7]
    · refine ⟨-1, h, h, ?_, ?_, C⟩
      · simp (disch := first | assumption | (simp only [sI_s, sR_s, sI_r, sI_1, sR_1]; assumption) | omega | (simp only [aT, aN, aA, aJ, aM, aF, aFl, aFs]; omega) | decide) only [↓ev_pZ0, ↓ev_pZ1, ↓ev_dv, ↓ev_rm, ↓ev_rcv, ↓ev_cal, ↓ev_bd, ↓ev_gI, ↓ev_gR, ↓ev_pI, ↓ev_pR, ↓ev_rZ0, ↓ev_rZ1, ↓ev_nulN, ↓ev_nulS, ↓ev_aI, ↓ev_sI, ↓ev_aR, ↓ev_aL, sI_1, sI_s, sI_r, sI_u, sR_1, sR_s, sR_i, vn_i, u2n, u2s, ↓if_true, ↓if_false, ↓cal_eq ha, ↓if_neg e0, ↓if_neg e1, ↓if_neg e2, ↓if_neg e33, ↓if_neg e4, ↓if_neg e5, ↓if_neg e6, ↓if_neg e7]
      · simp (disch := first | assumption | (simp only [sI_s, sR_s, sI_r, sI_1, sR_1]; assumption) | omega | (simp only [aT, aN, aA, aJ, aM, aF, aFl, aFs]; omega) | decide) only [↓ev_pZ0, ↓ev_pZ1, ↓ev_dv, ↓ev_rm, ↓ev_rcv, ↓ev_cal, ↓ev_bd, ↓ev_gI, ↓ev_gR, ↓ev_pI, ↓ev_pR, ↓ev_rZ0, ↓ev_rZ1, ↓ev_nulN, ↓ev_nulS, ↓ev_aI, ↓ev_sI, ↓ev_aR, ↓ev_aL, sI_1, sI_s, sI_r, sI_u, sR_1, sR_s, sR_i, vn_i, u2n, u2s, ↓if_true, ↓if_false, e3, ↓k_isIn, hw, ↓if_neg one_ne, ↓if_neg e0, ↓if_neg e1, ↓if_neg e2, ↓if_neg e33, ↓if_neg e4, ↓if_neg e5, ↓if_neg e6, ↓if_neg e7]
  · have ha : f_X7_fieldAt h z t = some (none, h) := by
      rw [v_fieldAt W V]
      by_cases q : ¬ t < 0 ∧ ¬ 40 ≤ t
      · rw [if_pos q]
        obtain ⟨i, hi, rfl⟩ := isT_nI (n := 40) q (by omega)
        rw [nI_clamp (by omega), if_neg (fun q => ht ⟨i, q, rfl⟩)]
      · rw [if_neg q]
    have hw : wi t 0 (nI nf - 1) = 0 := by
      rcases wi_01 t 0 (nI nf - 1) with w | w
      · exact w
      · exfalso
        have w1 := wi_ne (x := t) (a := 0) (b := nI nf - 1) (by rw [w]; decide)
        obtain ⟨i, hi, rfl⟩ := nI_of w1.1
        have h2 := w1.2
        rcases Nat.eq_zero_or_pos nf with q | q
        · rw [q] at h2
          exact h2 (by
            rw [Int32.lt_iff_toInt_lt, nI_toInt hi]
            have : (nI 0 - 1).toInt = -1 := by decide
            omega)
        · have e : nI nf - 1 = nI (nf - 1) := by
            have : nI nf = nI (nf - 1) + 1 := by rw [nI_1]; congr 1; omega
            rw [this, Int32.add_sub_cancel]
          rw [e, nI_lt_iff (by omega) hi] at h2
          exact ht ⟨i, by omega, rfl⟩
    refine ⟨-1, h, h, ?_, ?_, C⟩
    · simp (disch := first | assumption | (simp only [sI_s, sR_s, sI_r, sI_1, sR_1]; assumption) | omega | (simp only [aT, aN, aA, aJ, aM, aF, aFl, aFs]; omega) | decide) only [↓ev_pZ0, ↓ev_pZ1, ↓ev_dv, ↓ev_rm, ↓ev_rcv, ↓ev_cal, ↓ev_bd, ↓ev_gI, ↓ev_gR, ↓ev_pI, ↓ev_pR, ↓ev_rZ0, ↓ev_rZ1, ↓ev_nulN, ↓ev_nulS, ↓ev_aI, ↓ev_sI, ↓ev_aR, ↓ev_aL, sI_1, sI_s, sI_r, sI_u, sR_1, sR_s, sR_i, vn_i, u2n, u2s, ↓if_true, ↓if_false, ↓cal_eq ha]
    · simp (disch := first | assumption | (simp only [sI_s, sR_s, sI_r, sI_1, sR_1]; assumption) | omega | (simp only [aT, aN, aA, aJ, aM, aF, aFl, aFs]; omega) | decide) only [↓ev_pZ0, ↓ev_pZ1, ↓ev_dv, ↓ev_rm, ↓ev_rcv, ↓ev_cal, ↓ev_bd, ↓ev_gI, ↓ev_gR, ↓ev_pI, ↓ev_pR, ↓ev_rZ0, ↓ev_rZ1, ↓ev_nulN, ↓ev_nulS, ↓ev_aI, ↓ev_sI, ↓ev_aR, ↓ev_aL, sI_1, sI_s, sI_r, sI_u, sR_1, sR_s, sR_i, vn_i, u2n, u2s, ↓if_true, ↓if_false, e3, ↓k_isIn, hw]
end RD
