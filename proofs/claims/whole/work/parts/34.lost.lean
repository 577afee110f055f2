section LOS
variable {z n nf dN hN : Nat} {h0 : AH}
/-- the openings with tank k's shut -/
def shut (o : Nat → Int32) (k : Nat) (j : Nat) : Int32 := if j = k then 0 else o j
theorem ho_shut {o : Nat → Int32} {k : Nat} (ho : ∀ i, i < n → ∃ q, q ≤ 20 ∧ o i = nI q) : ∀ i, i < n → ∃ q, q ≤ 20 ∧ shut o k i = nI q := by
  intro i hi
  unfold shut
  split
  · exact ⟨0, by omega, rfl⟩
  · exact ho i hi
theorem o_lost (C : Cpl z n nf dN hN h0) (k t d rain : Int32) : ∃ r h1 h2, f_X7_lost h0 z k t d rain = some (r, h1) ∧ f_X8_lost h1 (aM z n) k t d rain = some (r, h2) ∧ Cpl z n nf dN hN h2 := by
  obtain ⟨b, W, V, ct, K, KX', cx⟩ := o_start C
  obtain ⟨b1, b2, b3, b4, b5⟩ := id b
  have hm := hM0 cx
  have s0 := W_z W
  have sM := W_M W
  unfold f_X7_lost f_X7_lost_38 f_X8_lost f_X8_lost_30
  by_cases hk : isT n k
  case neg =>
    refine ⟨-100000, h0, h0, ?_, ?_, C⟩
    · rw [ev_rcv s0, k_tankOut W V b2 hk, ev_rcv s0, k_tankAt W V b2, ev_nulN]
    · rw [ev_rcv sM, k_isTankOut W hm b2 b1 hk, if_pos rfl]
  by_cases ht : isT n t
  case neg =>
    obtain ⟨i, hi, rfl⟩ := isT_nI hk (by omega)
    refine ⟨-100000, h0, h0, ?_, ?_, C⟩
    · rw [ev_rcv s0, k_tankIn W V b2 hi, ev_rcv s0, k_tankOut W V b2 ht, ev_nulS, ev_nulN]
    · rw [ev_rcv sM, k_isTankIn W hm b2 b1 hi, if_neg one_ne, ev_rcv sM, k_isTankOut W hm b2 b1 ht, if_pos rfl]
  obtain ⟨i, hi, rfl⟩ := isT_nI hk (by omega)
  obtain ⟨j, hj, rfl⟩ := isT_nI ht (by omega)
  by_cases hij : nI j ≤ nI i
  · refine ⟨-100000, h0, h0, ?_, ?_, C⟩
    · rw [ev_rcv s0, k_tankIn W V b2 hi, ev_rcv s0, k_tankIn W V b2 hj, ev_nulS, ev_nulS, if_pos hij]
    · rw [ev_rcv sM, k_isTankIn W hm b2 b1 hi, if_neg one_ne, ev_rcv sM, k_isTankIn W hm b2 b1 hj, if_neg one_ne, if_pos hij]
  by_cases hy : wi d 1 10 = 0 ∨ wi rain 0 50 = 0
  · refine ⟨-100000, h0, h0, ?_, ?_, C⟩
    · rw [ev_rcv s0, k_tankIn W V b2 hi, ev_rcv s0, k_tankIn W V b2 hj, ev_nulS, ev_nulS, if_neg hij, cal_eq (v_mayTry h0 d rain), if_pos hy, if_pos rfl]
    · rw [ev_rcv sM, k_isTankIn W hm b2 b1 hi, if_neg one_ne, ev_rcv sM, k_isTankIn W hm b2 b1 hj, if_neg one_ne, if_neg hij, cal_eq (v_isTrial h0 d rain), if_pos hy, if_pos rfl]
  obtain ⟨m, m1, m2, rfl⟩ := wi_nI (a := 1) (b := 10) (fun q => hy (Or.inl q)) (by omega) (by omega)
  have ho := ho_of C
  -- the class: shut, then as it is
  obtain ⟨h1, e1, p1, t1⟩ := v_from7 C Scr.rf
  have W1 := WS_scr W p1
  have V1 := WR_scr V p1
  have p1' : Scr z n h0 (setI h1 (aA z n i) 1 0) := p1.set (by unfold sc aA; omega)
  obtain ⟨h2, e2, p2⟩ := l_water7 C rain (w := h0.2.2.1 (aJ z n 3)) (b := h0.2.2.1 (aJ z n 9)) (ho_shut (k := i) ho) hj m2 FU 0 (setI h1 (aA z n i) 1 0) (by rw [fu_big]; omega) (by omega) p1' (fun x hx => by
    rw [trl]
    obtain ⟨t0, tt1, t2⟩ := t1 x hx
    by_cases e : x = i
    · subst e
      refine ⟨?_, ?_, ?_⟩
      · rw [sI_u, u2n (Or.inr (by omega))]; exact t0
      · rw [sI_u, u2s]; unfold shut; rw [if_pos rfl]
      · rw [sI_u, u2n (Or.inr (by omega))]; exact t2
    · have ne : aA z n x ≠ aA z n i := by unfold aA; omega
      refine ⟨?_, ?_, ?_⟩
      · rw [sI_u, u2_ne _ _ ne]; exact t0
      · rw [sI_u, u2_ne _ _ ne]; unfold shut; rw [if_neg e]; exact tt1
      · rw [sI_u, u2_ne _ _ ne]; exact t2)
  have W2 := WS_scr W p2
  have V2 := WR_scr V p2
  obtain ⟨h3, e3, p3, t3⟩ := v_from7 C p2
  obtain ⟨h4, e4, p4⟩ := l_water7 C rain (w := h0.2.2.1 (aJ z n 3)) (b := h0.2.2.1 (aJ z n 9)) ho hj m2 FU 0 h3 (by rw [fu_big]; omega) (by omega) p3 t3
  -- the reference
  have W4 := WS_scr W p4
  have V4 := WR_scr V p4
  have hm4 := hM0 (Cpl_scr C p4).2.2.2.2.2.1
  obtain ⟨h5, e5, p5, q5⟩ := v_open8 C p4
  have W5 := WS_scr W p5
  obtain ⟨h6, e6, p6, t6⟩ := v_tries C p5 rain ho m2 q5
  have W6 := WS_scr W p6
  have V6 := WR_scr V p6
  have p6' : Scr z n h0 (setI h6 (aJ z n 26) i 0) := p6.set (by unfold sc aJ; omega)
  have W7 := WS_scr W p6'
  obtain ⟨h7, e7, p7, t7⟩ := v_tries C p6' rain (ho_shut (k := i) ho) m2 (fun x hx => by
    unfold shut
    by_cases e : x = i
    · subst e; rw [sI_u, u2s, if_pos rfl]
    · rw [sI_u, u2n (Or.inr e), if_neg e]; exact (t6 x hx).2.1)
  have W8 := WS_scr W p7
  have V8 := WR_scr V p7
  refine ⟨(trl z n nf h0.2.2.1 rain (h0.2.2.1 (aJ z n 3)) (h0.2.2.1 (aJ z n 9)) (shut (h0.2.2.1 (aJ z n 4)) i) m).1 j - (trl z n nf h0.2.2.1 rain (h0.2.2.1 (aJ z n 3)) (h0.2.2.1 (aJ z n 9)) (h0.2.2.1 (aJ z n 4)) m).1 j, h4, h7, ?_, ?_, Cpl_scr C p7⟩
  · have x1 : f_X7_waterTried h0 z (some (aT z n j)) (some (aT z n i)) (nI m) rain = some ((trl z n nf h0.2.2.1 rain (h0.2.2.1 (aJ z n 3)) (h0.2.2.1 (aJ z n 9)) (shut (h0.2.2.1 (aJ z n 4)) i) m).1 j, h2) := by
      unfold f_X7_waterTried f_X7_waterTried_19
      rw [ev_gR s0, V_fl V, ev_rcv (W_fl W), cal_eq e1, ev_nulS, ev_gR (W_T W1 hi), V_A V1 hi, ev_pI (W_A W1 hi)]
      exact e2
    have x2 : f_X7_waterTried h2 z (some (aT z n j)) none (nI m) rain = some ((trl z n nf h0.2.2.1 rain (h0.2.2.1 (aJ z n 3)) (h0.2.2.1 (aJ z n 9)) (h0.2.2.1 (aJ z n 4)) m).1 j, h4) := by
      unfold f_X7_waterTried f_X7_waterTried_19
      rw [ev_gR (W_z W2), V_fl V2, ev_rcv (W_fl W2), cal_eq e3, ev_nulN]
      exact e4
    rw [ev_rcv s0, k_tankIn W V b2 hi, ev_rcv s0, k_tankIn W V b2 hj, ev_nulS, ev_nulS, if_neg hij, cal_eq (v_mayTry h0 _ rain), if_neg hy, if_neg one_ne, ev_rcv s0, cal_eq x1, ev_rcv (W_z W2), cal_eq x2]
  · rw [ev_rcv (W_M W4), k_isTankIn W4 hm4 b2 b1 hi, if_neg one_ne, ev_rcv (W_M W4), k_isTankIn W4 hm4 b2 b1 hj, if_neg one_ne, if_neg hij, cal_eq (v_isTrial h4 _ rain), if_neg hy, if_neg one_ne, ev_rcv (W_M W4), cal_eq e5, ev_rcv (W_M W5), cal_eq e6, ev_gR (W_M W6), V_J25 V6, ev_aI (W_J25 W6) (by omega) (by omega), (t6 j hj).1, ev_gR (W_M W6), V_J26 V6, ev_sI (W_J26 W6) (by omega) (by omega), vn_i, ev_rcv (W_M W7), cal_eq e7, ev_gR (W_M W8), V_J25 V8, ev_aI (W_J25 W8) (by omega) (by omega), (t7 j hj).1]
end LOS
