/-! ===== sums, owner, count, feed ===== -/
section SM
variable {z n nf dN hN : Nat} {h : AH}
theorem fu_big : FU = 1000 := rfl
theorem l_allWater (W : WS z n nf h) (V : WR z n nf h) : ∀ (m i : Nat), n - i < m → i ≤ n → f_X7_allWater_10 m h (sumF i (fun j => h.2.2.1 (aN z n j) 0)) (if i < n then some (aT z n i) else none) = some (sumF n (fun j => h.2.2.1 (aN z n j) 0), h) := by
  intro m
  induction m with
  | zero => intro i h1; omega
  | succ m ih =>
    intro i h1 h2
    unfold f_X7_allWater_10
    by_cases hi : i < n
    · have sT := W_T W hi
      have sN := W_N W hi
      simp (disch := first | assumption | (simp only [sI_s, sR_s, sI_r, sI_1, sR_1]; assumption) | omega | (simp only [aT, aN, aA, aJ, aM, aF, aFl, aFs]; omega) | decide) only [↓ev_pZ0, ↓ev_pZ1, ↓ev_dv, ↓ev_rm, ↓ev_rcv, ↓ev_cal, ↓ev_bd, ↓ev_gI, ↓ev_gR, ↓ev_pI, ↓ev_pR, ↓ev_rZ0, ↓ev_rZ1, ↓ev_nulN, ↓ev_nulS, ↓ev_aI, ↓ev_sI, ↓ev_aR, ↓ev_aL, sI_1, sI_s, sI_r, sI_u, sR_1, sR_s, sR_i, vn_i, u2n, u2s, ↓if_true, ↓if_false, ↓if_pos hi, V_N V hi, V_bel V hi]
      exact ih (i + 1) (by omega) (by omega)
    · have e : i = n := by omega
      subst e
      rw [if_neg hi, ev_nulN]
theorem l_count (W : WS z n nf h) (V : WR z n nf h) (hm : h.2.2.1 (aM z n) 0 = nI n) (hn : n ≤ 11) : ∀ (m i : Nat), n - i < m → i ≤ n → f_X8_count_75 m h (aM z n) (sumF i (fun j => h.2.2.1 (aJ z n 3) j)) (nI i) = some (sumF n (fun j => h.2.2.1 (aJ z n 3) j), h) := by
  intro m
  induction m with
  | zero => intro i h1; omega
  | succ m ih =>
    intro i h1 h2
    have sM := W_M W
    have s3 := W_J3 W
    unfold f_X8_count_75
    by_cases hi : i < n
    · simp (disch := first | assumption | (simp only [sI_s, sR_s, sI_r, sI_1, sR_1]; assumption) | omega | (simp only [aT, aN, aA, aJ, aM, aF, aFl, aFs]; omega) | decide) only [↓ev_pZ0, ↓ev_pZ1, ↓ev_dv, ↓ev_rm, ↓ev_rcv, ↓ev_cal, ↓ev_bd, ↓ev_gI, ↓ev_gR, ↓ev_pI, ↓ev_pR, ↓ev_rZ0, ↓ev_rZ1, ↓ev_nulN, ↓ev_nulS, ↓ev_aI, ↓ev_sI, ↓ev_aR, ↓ev_aL, sI_1, sI_s, sI_r, sI_u, sR_1, sR_s, sR_i, vn_i, u2n, u2s, ↓if_true, ↓if_false, hm, ↓if_neg (nI_ge hi (by omega)), V_J3 V, nI_1]
      exact ih (i + 1) (by omega) (by omega)
    · have e : i = n := by omega
      subst e
      simp (disch := first | assumption | (simp only [sI_s, sR_s, sI_r, sI_1, sR_1]; assumption) | omega | (simp only [aT, aN, aA, aJ, aM, aF, aFl, aFs]; omega) | decide) only [↓ev_pZ0, ↓ev_pZ1, ↓ev_dv, ↓ev_rm, ↓ev_rcv, ↓ev_cal, ↓ev_bd, ↓ev_gI, ↓ev_gR, ↓ev_pI, ↓ev_pR, ↓ev_rZ0, ↓ev_rZ1, ↓ev_nulN, ↓ev_nulS, ↓ev_aI, ↓ev_sI, ↓ev_aR, ↓ev_aL, sI_1, sI_s, sI_r, sI_u, sR_1, sR_s, sR_i, vn_i, u2n, u2s, ↓if_true, ↓if_false, hm, ↓if_pos (nI_le (Nat.le_refl i) (by omega))]
theorem l_owner (W : WS z n nf h) (V : WR z n nf h) (hc : h.2.2.1 z 7 = nI nf) (hnf : nf ≤ 40) (cf : CF z n nf h.2.2.1) (o : Nat) (ho : o < 10) : ∀ (m i : Nat), nf - i < m → i ≤ nf → f_X7_owner_16 m h z (nI o) (sumF i (fun f => if h.2.2.1 (aJ z n 13) f = nI o then h.2.2.1 (aJ z n 12) f * h.2.2.1 (aJ z n 14) f else 0)) (nI i) = some (sumF nf (fun f => if h.2.2.1 (aJ z n 13) f = nI o then h.2.2.1 (aJ z n 12) f * h.2.2.1 (aJ z n 14) f else 0), h) := by
  intro m
  induction m with
  | zero => intro i h1; omega
  | succ m ih =>
    intro i h1 h2
    have s0 := W_z W
    unfold f_X7_owner_16
    by_cases hi : i < nf
    · have sF := W_F W hi
      obtain ⟨g1, g2, g3, g4, g5, g6, g7, g8, g9, -⟩ := cf i hi
      have ha : f_X7_fieldAt h z (nI i) = some (some (aF z n i), h) := by
        rw [v_fieldAt W V, if_pos ⟨nI_pos (by omega), fun q => by
          have q : nI 40 ≤ nI i := q
          rw [nI_le_iff (by omega) (by omega)] at q
          omega⟩, nI_clamp (by omega), if_pos hi]
      have hs := ih (i + 1) (by omega) (by omega)
      unfold f_X7_owner_59
      rw [sumF] at hs
      by_cases e : h.2.2.1 (aJ z n 13) i = nI o
      · rw [if_pos e] at hs
        simp (disch := first | assumption | (simp only [sI_s, sR_s, sI_r, sI_1, sR_1]; assumption) | omega | (simp only [aT, aN, aA, aJ, aM, aF, aFl, aFs]; omega) | decide) only [↓ev_pZ0, ↓ev_pZ1, ↓ev_dv, ↓ev_rm, ↓ev_rcv, ↓ev_cal, ↓ev_bd, ↓ev_gI, ↓ev_gR, ↓ev_pI, ↓ev_pR, ↓ev_rZ0, ↓ev_rZ1, ↓ev_nulN, ↓ev_nulS, ↓ev_aI, ↓ev_sI, ↓ev_aR, ↓ev_aL, sI_1, sI_s, sI_r, sI_u, sR_1, sR_s, sR_i, vn_i, u2n, u2s, ↓if_true, ↓if_false, hc, ↓if_neg (nI_ge hi (by omega)), ↓cal_eq ha, g5, ↓if_pos e, g4, g7, nI_1]
        exact hs
      · rw [if_neg e, Int32.add_zero] at hs
        simp (disch := first | assumption | (simp only [sI_s, sR_s, sI_r, sI_1, sR_1]; assumption) | omega | (simp only [aT, aN, aA, aJ, aM, aF, aFl, aFs]; omega) | decide) only [↓ev_pZ0, ↓ev_pZ1, ↓ev_dv, ↓ev_rm, ↓ev_rcv, ↓ev_cal, ↓ev_bd, ↓ev_gI, ↓ev_gR, ↓ev_pI, ↓ev_pR, ↓ev_rZ0, ↓ev_rZ1, ↓ev_nulN, ↓ev_nulS, ↓ev_aI, ↓ev_sI, ↓ev_aR, ↓ev_aL, sI_1, sI_s, sI_r, sI_u, sR_1, sR_s, sR_i, vn_i, u2n, u2s, ↓if_true, ↓if_false, hc, ↓if_neg (nI_ge hi (by omega)), ↓cal_eq ha, g5, ↓if_neg e, nI_1]
        exact hs
    · have e : i = nf := by omega
      subst e
      simp (disch := first | assumption | (simp only [sI_s, sR_s, sI_r, sI_1, sR_1]; assumption) | omega | (simp only [aT, aN, aA, aJ, aM, aF, aFl, aFs]; omega) | decide) only [↓ev_pZ0, ↓ev_pZ1, ↓ev_dv, ↓ev_rm, ↓ev_rcv, ↓ev_cal, ↓ev_bd, ↓ev_gI, ↓ev_gR, ↓ev_pI, ↓ev_pR, ↓ev_rZ0, ↓ev_rZ1, ↓ev_nulN, ↓ev_nulS, ↓ev_aI, ↓ev_sI, ↓ev_aR, ↓ev_aL, sI_1, sI_s, sI_r, sI_u, sR_1, sR_s, sR_i, vn_i, u2n, u2s, ↓if_true, ↓if_false, hc, ↓if_pos (nI_le (Nat.le_refl i) (by omega))]
theorem o_owner (C : Cpl z n nf dN hN h) (u : Int32) : ∃ r h1 h2, f_X7_owner h z u = some (r, h1) ∧ f_X8_owner h1 (aM z n) u = some (r, h2) ∧ Cpl z n nf dN hN h2 ∧ h1.2.1 (aM z n) = some (.inl 8) := by
  obtain ⟨b, W, V, ct, K, KX', cx⟩ := o_start C
  obtain ⟨b1, b2, b3, b4, b5⟩ := id b
  have s0 := W_z W
  have sM := W_M W
  have s18 := W_J18 W
  unfold f_X7_owner f_X8_owner f_X8_owner_20
  by_cases hu : wi u 0 9 = 0
  · refine ⟨-1, h, h, ?_, ?_, C, sM⟩
    · rw [k_isWithin, if_pos hu]
    · rw [k_isIn, if_pos hu]
  · obtain ⟨o, -, ho, rfl⟩ := wi_nI (a := 0) (b := 9) hu (by omega) (by omega)
    refine ⟨h.2.2.1 (aJ z n 18) o, h, h, ?_, ?_, C, sM⟩
    · rw [k_isWithin, if_neg hu]
      have := l_owner W V cx.1 b3 K.1 o (by omega) FU 0 (by rw [fu_big]; omega) (by omega)
      rw [K.2.2.2.2.1.1 o (by omega)]
      exact this
    · rw [k_isIn, if_neg hu]
      simp (disch := first | assumption | (simp only [sI_s, sR_s, sI_r, sI_1, sR_1]; assumption) | omega | (simp only [aT, aN, aA, aJ, aM, aF, aFl, aFs]; omega) | decide) only [↓ev_pZ0, ↓ev_pZ1, ↓ev_dv, ↓ev_rm, ↓ev_rcv, ↓ev_cal, ↓ev_bd, ↓ev_gI, ↓ev_gR, ↓ev_pI, ↓ev_pR, ↓ev_rZ0, ↓ev_rZ1, ↓ev_nulN, ↓ev_nulS, ↓ev_aI, ↓ev_sI, ↓ev_aR, ↓ev_aL, sI_1, sI_s, sI_r, sI_u, sR_1, sR_s, sR_i, vn_i, u2n, u2s, ↓if_true, ↓if_false, V_J18 V]
theorem o_count (C : Cpl z n nf dN hN h) (u : Int32) : ∃ r h1 h2, f_X7_count h z u = some (r, h1) ∧ f_X8_count h1 (aM z n) u = some (r, h2) ∧ Cpl z n nf dN hN h2 ∧ h1.2.1 (aM z n) = some (.inl 8) := by
  obtain ⟨b, W, V, ct, K, KX', cx⟩ := o_start C
  obtain ⟨b1, b2, b3, b4, b5⟩ := id b
  have s0 := W_z W
  have sM := W_M W
  have s2 := W_tp W
  have s8 := W_ev W
  have s9 := W_ta W
  have sfl := W_fl W
  have hm := hM0 cx
  obtain ⟨x1, x2, x3, x4, x5, x6, x7, x8, x9, x10, x11, x12, x13, x14, x15, x16, x17⟩ := cx
  unfold f_X7_count f_X8_count
  by_cases e0 : u = 0
  · refine ⟨nI dN, h, h, ?_, ?_, C, sM⟩
    · simp (disch := first | assumption | (simp only [sI_s, sR_s, sI_r, sI_1, sR_1]; assumption) | omega | (simp only [aT, aN, aA, aJ, aM, aF, aFl, aFs]; omega) | decide) only [↓ev_pZ0, ↓ev_pZ1, ↓ev_dv, ↓ev_rm, ↓ev_rcv, ↓ev_cal, ↓ev_bd, ↓ev_gI, ↓ev_gR, ↓ev_pI, ↓ev_pR, ↓ev_rZ0, ↓ev_rZ1, ↓ev_nulN, ↓ev_nulS, ↓ev_aI, ↓ev_sI, ↓ev_aR, ↓ev_aL, sI_1, sI_s, sI_r, sI_u, sR_1, sR_s, sR_i, vn_i, u2n, u2s, ↓if_true, ↓if_false, ↓if_pos e0, x2]
    · simp (disch := first | assumption | (simp only [sI_s, sR_s, sI_r, sI_1, sR_1]; assumption) | omega | (simp only [aT, aN, aA, aJ, aM, aF, aFl, aFs]; omega) | decide) only [↓ev_pZ0, ↓ev_pZ1, ↓ev_dv, ↓ev_rm, ↓ev_rcv, ↓ev_cal, ↓ev_bd, ↓ev_gI, ↓ev_gR, ↓ev_pI, ↓ev_pR, ↓ev_rZ0, ↓ev_rZ1, ↓ev_nulN, ↓ev_nulS, ↓ev_aI, ↓ev_sI, ↓ev_aR, ↓ev_aL, sI_1, sI_s, sI_r, sI_u, sR_1, sR_s, sR_i, vn_i, u2n, u2s, ↓if_true, ↓if_false, ↓if_pos e0, x10]
  by_cases e1 : u = 1
  · refine ⟨nI n, h, h, ?_, ?_, C, sM⟩
    · simp (disch := first | assumption | (simp only [sI_s, sR_s, sI_r, sI_1, sR_1]; assumption) | omega | (simp only [aT, aN, aA, aJ, aM, aF, aFl, aFs]; omega) | decide) only [↓ev_pZ0, ↓ev_pZ1, ↓ev_dv, ↓ev_rm, ↓ev_rcv, ↓ev_cal, ↓ev_bd, ↓ev_gI, ↓ev_gR, ↓ev_pI, ↓ev_pR, ↓ev_rZ0, ↓ev_rZ1, ↓ev_nulN, ↓ev_nulS, ↓ev_aI, ↓ev_sI, ↓ev_aR, ↓ev_aL, sI_1, sI_s, sI_r, sI_u, sR_1, sR_s, sR_i, vn_i, u2n, u2s, ↓if_true, ↓if_false, ↓if_neg e0, ↓if_pos e1, V_ta V, show Int32.ofNat n = nI n from rfl]
    · simp (disch := first | assumption | (simp only [sI_s, sR_s, sI_r, sI_1, sR_1]; assumption) | omega | (simp only [aT, aN, aA, aJ, aM, aF, aFl, aFs]; omega) | decide) only [↓ev_pZ0, ↓ev_pZ1, ↓ev_dv, ↓ev_rm, ↓ev_rcv, ↓ev_cal, ↓ev_bd, ↓ev_gI, ↓ev_gR, ↓ev_pI, ↓ev_pR, ↓ev_rZ0, ↓ev_rZ1, ↓ev_nulN, ↓ev_nulS, ↓ev_aI, ↓ev_sI, ↓ev_aR, ↓ev_aL, sI_1, sI_s, sI_r, sI_u, sR_1, sR_s, sR_i, vn_i, u2n, u2s, ↓if_true, ↓if_false, ↓if_neg e0, ↓if_pos e1, x9]
  by_cases e2 : u = 2
  · refine ⟨nI nf, h, h, ?_, ?_, C, sM⟩
    · simp (disch := first | assumption | (simp only [sI_s, sR_s, sI_r, sI_1, sR_1]; assumption) | omega | (simp only [aT, aN, aA, aJ, aM, aF, aFl, aFs]; omega) | decide) only [↓ev_pZ0, ↓ev_pZ1, ↓ev_dv, ↓ev_rm, ↓ev_rcv, ↓ev_cal, ↓ev_bd, ↓ev_gI, ↓ev_gR, ↓ev_pI, ↓ev_pR, ↓ev_rZ0, ↓ev_rZ1, ↓ev_nulN, ↓ev_nulS, ↓ev_aI, ↓ev_sI, ↓ev_aR, ↓ev_aL, sI_1, sI_s, sI_r, sI_u, sR_1, sR_s, sR_i, vn_i, u2n, u2s, ↓if_true, ↓if_false, ↓if_neg e0, ↓if_neg e1, ↓if_pos e2, x1]
    · simp (disch := first | assumption | (simp only [sI_s, sR_s, sI_r, sI_1, sR_1]; assumption) | omega | (simp only [aT, aN, aA, aJ, aM, aF, aFl, aFs]; omega) | decide) only [↓ev_pZ0, ↓ev_pZ1, ↓ev_dv, ↓ev_rm, ↓ev_rcv, ↓ev_cal, ↓ev_bd, ↓ev_gI, ↓ev_gR, ↓ev_pI, ↓ev_pR, ↓ev_rZ0, ↓ev_rZ1, ↓ev_nulN, ↓ev_nulS, ↓ev_aI, ↓ev_sI, ↓ev_aR, ↓ev_aL, sI_1, sI_s, sI_r, sI_u, sR_1, sR_s, sR_i, vn_i, u2n, u2s, ↓if_true, ↓if_false, ↓if_neg e0, ↓if_neg e1, ↓if_pos e2, x11]
  by_cases e3 : u = 3
  · have hw : sumF n (fun j => h.2.2.1 (aN z n j) 0) = sumF n (fun j => h.2.2.1 (aJ z n 3) j) := sumF_congr (fun j hj => (ct j hj).2.2.2.2.2.2.1)
    have hA : f_X7_allWater h z = some (sumF n (fun j => h.2.2.1 (aN z n j) 0), h) := by
      have q := l_allWater W V FU 0 (by rw [fu_big]; omega) (by omega)
      rw [if_pos (show 0 < n by omega)] at q
      unfold f_X7_allWater
      simp (disch := first | assumption | (simp only [sI_s, sR_s, sI_r, sI_1, sR_1]; assumption) | omega | (simp only [aT, aN, aA, aJ, aM, aF, aFl, aFs]; omega) | decide) only [↓ev_pZ0, ↓ev_pZ1, ↓ev_dv, ↓ev_rm, ↓ev_rcv, ↓ev_cal, ↓ev_bd, ↓ev_gI, ↓ev_gR, ↓ev_pI, ↓ev_pR, ↓ev_rZ0, ↓ev_rZ1, ↓ev_nulN, ↓ev_nulS, ↓ev_aI, ↓ev_sI, ↓ev_aR, ↓ev_aL, sI_1, sI_s, sI_r, sI_u, sR_1, sR_s, sR_i, vn_i, u2n, u2s, ↓if_true, ↓if_false, V_fl V, V_fl0 V]
      exact q
    have hB := l_count W V hm b2 FU 0 (by rw [fu_big]; omega) (by omega)
    refine ⟨sumF n (fun j => h.2.2.1 (aJ z n 3) j), h, h, ?_, ?_, C, sM⟩
    · rw [if_neg e0, if_neg e1, if_neg e2, if_pos e3, ev_rcv s0, cal_eq hA, hw]
    · rw [if_neg e0, if_neg e1, if_neg e2, if_pos e3]
      exact hB
  by_cases e4 : u = 4
  · refine ⟨h.2.2.1 (aM z n) 23, h, h, ?_, ?_, C, sM⟩
    · simp (disch := first | assumption | (simp only [sI_s, sR_s, sI_r, sI_1, sR_1]; assumption) | omega | (simp only [aT, aN, aA, aJ, aM, aF, aFl, aFs]; omega) | decide) only [↓ev_pZ0, ↓ev_pZ1, ↓ev_dv, ↓ev_rm, ↓ev_rcv, ↓ev_cal, ↓ev_bd, ↓ev_gI, ↓ev_gR, ↓ev_pI, ↓ev_pR, ↓ev_rZ0, ↓ev_rZ1, ↓ev_nulN, ↓ev_nulS, ↓ev_aI, ↓ev_sI, ↓ev_aR, ↓ev_aL, sI_1, sI_s, sI_r, sI_u, sR_1, sR_s, sR_i, vn_i, u2n, u2s, ↓if_true, ↓if_false, ↓if_neg e0, ↓if_neg e1, ↓if_neg e2, ↓if_neg e3, ↓if_pos e4, V_ev V, x15]
    · simp (disch := first | assumption | (simp only [sI_s, sR_s, sI_r, sI_1, sR_1]; assumption) | omega | (simp only [aT, aN, aA, aJ, aM, aF, aFl, aFs]; omega) | decide) only [↓ev_pZ0, ↓ev_pZ1, ↓ev_dv, ↓ev_rm, ↓ev_rcv, ↓ev_cal, ↓ev_bd, ↓ev_gI, ↓ev_gR, ↓ev_pI, ↓ev_pR, ↓ev_rZ0, ↓ev_rZ1, ↓ev_nulN, ↓ev_nulS, ↓ev_aI, ↓ev_sI, ↓ev_aR, ↓ev_aL, sI_1, sI_s, sI_r, sI_u, sR_1, sR_s, sR_i, vn_i, u2n, u2s, ↓if_true, ↓if_false, ↓if_neg e0, ↓if_neg e1, ↓if_neg e2, ↓if_neg e3, ↓if_pos e4, x1]
  by_cases e5 : u = 5
  · refine ⟨h.2.2.1 (aM z n) 24, h, h, ?_, ?_, C, sM⟩
    · simp (disch := first | assumption | (simp only [sI_s, sR_s, sI_r, sI_1, sR_1]; assumption) | omega | (simp only [aT, aN, aA, aJ, aM, aF, aFl, aFs]; omega) | decide) only [↓ev_pZ0, ↓ev_pZ1, ↓ev_dv, ↓ev_rm, ↓ev_rcv, ↓ev_cal, ↓ev_bd, ↓ev_gI, ↓ev_gR, ↓ev_pI, ↓ev_pR, ↓ev_rZ0, ↓ev_rZ1, ↓ev_nulN, ↓ev_nulS, ↓ev_aI, ↓ev_sI, ↓ev_aR, ↓ev_aL, sI_1, sI_s, sI_r, sI_u, sR_1, sR_s, sR_i, vn_i, u2n, u2s, ↓if_true, ↓if_false, ↓if_neg e0, ↓if_neg e1, ↓if_neg e2, ↓if_neg e3, ↓if_neg e4, ↓if_pos e5, V_ev V, x13]
    · simp (disch := first | assumption | (simp only [sI_s, sR_s, sI_r, sI_1, sR_1]; assumption) | omega | (simp only [aT, aN, aA, aJ, aM, aF, aFl, aFs]; omega) | decide) only [↓ev_pZ0, ↓ev_pZ1, ↓ev_dv, ↓ev_rm, ↓ev_rcv, ↓ev_cal, ↓ev_bd, ↓ev_gI, ↓ev_gR, ↓ev_pI, ↓ev_pR, ↓ev_rZ0, ↓ev_rZ1, ↓ev_nulN, ↓ev_nulS, ↓ev_aI, ↓ev_sI, ↓ev_aR, ↓ev_aL, sI_1, sI_s, sI_r, sI_u, sR_1, sR_s, sR_i, vn_i, u2n, u2s, ↓if_true, ↓if_false, ↓if_neg e0, ↓if_neg e1, ↓if_neg e2, ↓if_neg e3, ↓if_neg e4, ↓if_pos e5, x1]
  by_cases e6 : u = 6
  · refine ⟨h.2.2.1 (aM z n) 25, h, h, ?_, ?_, C, sM⟩
    · simp (disch := first | assumption | (simp only [sI_s, sR_s, sI_r, sI_1, sR_1]; assumption) | omega | (simp only [aT, aN, aA, aJ, aM, aF, aFl, aFs]; omega) | decide) only [↓ev_pZ0, ↓ev_pZ1, ↓ev_dv, ↓ev_rm, ↓ev_rcv, ↓ev_cal, ↓ev_bd, ↓ev_gI, ↓ev_gR, ↓ev_pI, ↓ev_pR, ↓ev_rZ0, ↓ev_rZ1, ↓ev_nulN, ↓ev_nulS, ↓ev_aI, ↓ev_sI, ↓ev_aR, ↓ev_aL, sI_1, sI_s, sI_r, sI_u, sR_1, sR_s, sR_i, vn_i, u2n, u2s, ↓if_true, ↓if_false, ↓if_neg e0, ↓if_neg e1, ↓if_neg e2, ↓if_neg e3, ↓if_neg e4, ↓if_neg e5, ↓if_pos e6, V_ev V, x14]
    · simp (disch := first | assumption | (simp only [sI_s, sR_s, sI_r, sI_1, sR_1]; assumption) | omega | (simp only [aT, aN, aA, aJ, aM, aF, aFl, aFs]; omega) | decide) only [↓ev_pZ0, ↓ev_pZ1, ↓ev_dv, ↓ev_rm, ↓ev_rcv, ↓ev_cal, ↓ev_bd, ↓ev_gI, ↓ev_gR, ↓ev_pI, ↓ev_pR, ↓ev_rZ0, ↓ev_rZ1, ↓ev_nulN, ↓ev_nulS, ↓ev_aI, ↓ev_sI, ↓ev_aR, ↓ev_aL, sI_1, sI_s, sI_r, sI_u, sR_1, sR_s, sR_i, vn_i, u2n, u2s, ↓if_true, ↓if_false, ↓if_neg e0, ↓if_neg e1, ↓if_neg e2, ↓if_neg e3, ↓if_neg e4, ↓if_neg e5, ↓if_pos e6, x1]
  by_cases e7 : u = 7
  · refine ⟨h.2.2.1 (aM z n) 26, h, h, ?_, ?_, C, sM⟩
    · simp (disch := first | assumption | (simp only [sI_s, sR_s, sI_r, sI_1, sR_1]; assumption) | omega | (simp only [aT, aN, aA, aJ, aM, aF, aFl, aFs]; omega) | decide) only [↓ev_pZ0, ↓ev_pZ1, ↓ev_dv, ↓ev_rm, ↓ev_rcv, ↓ev_cal, ↓ev_bd, ↓ev_gI, ↓ev_gR, ↓ev_pI, ↓ev_pR, ↓ev_rZ0, ↓ev_rZ1, ↓ev_nulN, ↓ev_nulS, ↓ev_aI, ↓ev_sI, ↓ev_aR, ↓ev_aL, sI_1, sI_s, sI_r, sI_u, sR_1, sR_s, sR_i, vn_i, u2n, u2s, ↓if_true, ↓if_false, ↓if_neg e0, ↓if_neg e1, ↓if_neg e2, ↓if_neg e3, ↓if_neg e4, ↓if_neg e5, ↓if_neg e6, ↓if_pos e7, V_ev V, x12]
    · simp (disch := first | assumption | (simp only [sI_s, sR_s, sI_r, sI_1, sR_1]; assumption) | omega | (simp only [aT, aN, aA, aJ, aM, aF, aFl, aFs]; omega) | decide) only [↓ev_pZ0, ↓ev_pZ1, ↓ev_dv, ↓ev_rm, ↓ev_rcv, ↓ev_cal, ↓ev_bd, ↓ev_gI, ↓ev_gR, ↓ev_pI, ↓ev_pR, ↓ev_rZ0, ↓ev_rZ1, ↓ev_nulN, ↓ev_nulS, ↓ev_aI, ↓ev_sI, ↓ev_aR, ↓ev_aL, sI_1, sI_s, sI_r, sI_u, sR_1, sR_s, sR_i, vn_i, u2n, u2s, ↓if_true, ↓if_false, ↓if_neg e0, ↓if_neg e1, ↓if_neg e2, ↓if_neg e3, ↓if_neg e4, ↓if_neg e5, ↓if_neg e6, ↓if_pos e7, x1]
  by_cases e8 : u = 8
  · refine ⟨nI hN, h, h, ?_, ?_, C, sM⟩
    · simp (disch := first | assumption | (simp only [sI_s, sR_s, sI_r, sI_1, sR_1]; assumption) | omega | (simp only [aT, aN, aA, aJ, aM, aF, aFl, aFs]; omega) | decide) only [↓ev_pZ0, ↓ev_pZ1, ↓ev_dv, ↓ev_rm, ↓ev_rcv, ↓ev_cal, ↓ev_bd, ↓ev_gI, ↓ev_gR, ↓ev_pI, ↓ev_pR, ↓ev_rZ0, ↓ev_rZ1, ↓ev_nulN, ↓ev_nulS, ↓ev_aI, ↓ev_sI, ↓ev_aR, ↓ev_aL, sI_1, sI_s, sI_r, sI_u, sR_1, sR_s, sR_i, vn_i, u2n, u2s, ↓if_true, ↓if_false, ↓if_neg e0, ↓if_neg e1, ↓if_neg e2, ↓if_neg e3, ↓if_neg e4, ↓if_neg e5, ↓if_neg e6, ↓if_neg e7, ↓if_pos e8, V_tp V, x16]
    · simp (disch := first | assumption | (simp only [sI_s, sR_s, sI_r, sI_1, sR_1]; assumption) | omega | (simp only [aT, aN, aA, aJ, aM, aF, aFl, aFs]; omega) | decide) only [↓ev_pZ0, ↓ev_pZ1, ↓ev_dv, ↓ev_rm, ↓ev_rcv, ↓ev_cal, ↓ev_bd, ↓ev_gI, ↓ev_gR, ↓ev_pI, ↓ev_pR, ↓ev_rZ0, ↓ev_rZ1, ↓ev_nulN, ↓ev_nulS, ↓ev_aI, ↓ev_sI, ↓ev_aR, ↓ev_aL, sI_1, sI_s, sI_r, sI_u, sR_1, sR_s, sR_i, vn_i, u2n, u2s, ↓if_true, ↓if_false, ↓if_neg e0, ↓if_neg e1, ↓if_neg e2, ↓if_neg e3, ↓if_neg e4, ↓if_neg e5, ↓if_neg e6, ↓if_neg e7, ↓if_pos e8, x17]
  by_cases e9 : u = 9
  · refine ⟨h.2.2.1 (aM z n) 27, h, h, ?_, ?_, C, sM⟩
    · simp (disch := first | assumption | (simp only [sI_s, sR_s, sI_r, sI_1, sR_1]; assumption) | omega | (simp only [aT, aN, aA, aJ, aM, aF, aFl, aFs]; omega) | decide) only [↓ev_pZ0, ↓ev_pZ1, ↓ev_dv, ↓ev_rm, ↓ev_rcv, ↓ev_cal, ↓ev_bd, ↓ev_gI, ↓ev_gR, ↓ev_pI, ↓ev_pR, ↓ev_rZ0, ↓ev_rZ1, ↓ev_nulN, ↓ev_nulS, ↓ev_aI, ↓ev_sI, ↓ev_aR, ↓ev_aL, sI_1, sI_s, sI_r, sI_u, sR_1, sR_s, sR_i, vn_i, u2n, u2s, ↓if_true, ↓if_false, ↓if_neg e0, ↓if_neg e1, ↓if_neg e2, ↓if_neg e3, ↓if_neg e4, ↓if_neg e5, ↓if_neg e6, ↓if_neg e7, ↓if_neg e8, ↓if_pos e9, x4]
    · simp (disch := first | assumption | (simp only [sI_s, sR_s, sI_r, sI_1, sR_1]; assumption) | omega | (simp only [aT, aN, aA, aJ, aM, aF, aFl, aFs]; omega) | decide) only [↓ev_pZ0, ↓ev_pZ1, ↓ev_dv, ↓ev_rm, ↓ev_rcv, ↓ev_cal, ↓ev_bd, ↓ev_gI, ↓ev_gR, ↓ev_pI, ↓ev_pR, ↓ev_rZ0, ↓ev_rZ1, ↓ev_nulN, ↓ev_nulS, ↓ev_aI, ↓ev_sI, ↓ev_aR, ↓ev_aL, sI_1, sI_s, sI_r, sI_u, sR_1, sR_s, sR_i, vn_i, u2n, u2s, ↓if_true, ↓if_false, ↓if_neg e0, ↓if_neg e1, ↓if_neg e2, ↓if_neg e3, ↓if_neg e4, ↓if_neg e5, ↓if_neg e6, ↓if_neg e7, ↓if_neg e8, ↓if_pos e9, x1]
  · exact ⟨-1, h, h, by rw [if_neg e0, if_neg e1, if_neg e2, if_neg e3, if_neg e4, if_neg e5, if_neg e6, if_neg e7, if_neg e8, if_neg e9], by rw [if_neg e0, if_neg e1, if_neg e2, if_neg e3, if_neg e4, if_neg e5, if_neg e6, if_neg e7, if_neg e8, if_neg e9], C, sM⟩
end SM
