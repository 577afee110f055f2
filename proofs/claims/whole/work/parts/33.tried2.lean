/-! ===== tried, lost ===== -/
section TR2
variable {z n nf dN hN : Nat} {h0 : AH}
theorem v_mayTry (h : AH) (d rain : Int32) : f_X7_mayTry h d rain = some ((if wi d 1 10 = 0 ∨ wi rain 0 50 = 0 then 0 else 1), h) := by
  unfold f_X7_mayTry f_X7_mayTry_24 f_X7_mayTry_25
  rw [k_isWithin]
  by_cases e : wi d 1 10 = 0
  · rw [if_pos e, if_pos (Or.inl e)]
    exact ev_rZ0
  · rw [if_neg e, k_isWithin]
    by_cases e2 : wi rain 0 50 = 0
    · rw [if_pos e2, if_pos (Or.inr e2)]
      exact ev_rZ0
    · rw [if_neg e2, if_neg (fun q => by rcases q with q | q; exact e q; exact e2 q)]
      exact ev_rZ1
theorem v_isTrial (h : AH) (d rain : Int32) : f_X8_isTrial h d rain = some ((if wi d 1 10 = 0 ∨ wi rain 0 50 = 0 then 0 else 1), h) := by
  unfold f_X8_isTrial f_X8_isTrial_24 f_X8_isTrial_25
  rw [k_isIn]
  by_cases e : wi d 1 10 = 0
  · rw [if_pos e, if_pos (Or.inl e)]
    exact ev_rZ0
  · rw [if_neg e, k_isIn]
    by_cases e2 : wi rain 0 50 = 0
    · rw [if_pos e2, if_pos (Or.inr e2)]
      exact ev_rZ0
    · rw [if_neg e2, if_neg (fun q => by rcases q with q | q; exact e q; exact e2 q)]
      exact ev_rZ1
theorem ho_of (C : Cpl z n nf dN hN h0) : ∀ i, i < n → ∃ q, q ≤ 20 ∧ h0.2.2.1 (aJ z n 4) i = nI q := fun i hi => (C.2.2.2.1 i hi).2.2.2.2.2.2.2.2.2.2.2.1
theorem l_open8 (C : Cpl z n nf dN hN h0) : ∀ (m i : Nat) (h : AH), n - i < m → i ≤ n → Scr z n h0 h → (∀ j, j < i → h.2.2.1 (aJ z n 26) j = h0.2.2.1 (aJ z n 4) j) → ∃ h', f_X8_openings_2 m h (aM z n) (nI i) = some ((), h') ∧ Scr z n h0 h' ∧ ∀ j, j < n → h'.2.2.1 (aJ z n 26) j = h0.2.2.1 (aJ z n 4) j := by
  have hn := C.1.2.1
  intro m
  induction m with
  | zero => intro i h h1; omega
  | succ m ih =>
    intro i h h1 h2 p hd
    have W := WS_scr C.2.1 p
    have V := WR_scr C.2.2.1 p
    have sM := W_M W
    have hm := hM0 (Cpl_scr C p).2.2.2.2.2.1
    unfold f_X8_openings_2
    rw [ev_gI sM, hm]
    by_cases hi : i < n
    · rw [if_neg (nI_ge hi (by omega)), ev_gR sM, V_J26 V, ev_gR sM, V_J4 V, ev_aI (W_J4 W) (by omega) (by omega), p.J 4 (by omega), ev_sI (W_J26 W) (by omega) (by omega), vn_i, ev_bd, nI_1]
      refine ih (i + 1) _ (by omega) (by omega) (p.set (by unfold sc aJ; omega)) (fun j hj => ?_)
      by_cases e : j = i
      · subst e
        rw [sI_u, u2s]
      · rw [sI_u, u2n (Or.inr e)]
        exact hd j (by omega)
    · have e : i = n := by omega
      subst e
      rw [if_pos (nI_le (Nat.le_refl i) (by omega))]
      exact ⟨h, rfl, p, hd⟩
theorem v_open8 (C : Cpl z n nf dN hN h0) {h : AH} (p : Scr z n h0 h) : ∃ h', f_X8_openings h (aM z n) = some ((), h') ∧ Scr z n h0 h' ∧ ∀ j, j < n → h'.2.2.1 (aJ z n 26) j = h0.2.2.1 (aJ z n 4) j := by
  unfold f_X8_openings
  exact l_open8 C FU 0 h (by have := C.1.2.1; rw [fu_big]; omega) (by omega) p (fun j hj => by omega)
theorem l_tries2 (C : Cpl z n nf dN hN h0) (rain : Int32) {o : Nat → Int32} (ho : ∀ i, i < n → ∃ q, q ≤ 20 ∧ o i = nI q) {d : Nat} (hd : d ≤ 10) : ∀ (m i : Nat) (h : AH), n - i < m → i ≤ n → Scr z n h0 h → (∀ j, j < n → h.2.2.1 (aJ z n 26) j = o j) → (∀ j, j < i → h.2.2.1 (aJ z n 25) j = h0.2.2.1 (aJ z n 3) j ∧ h.2.2.1 (aJ z n 27) j = h0.2.2.1 (aJ z n 9) j) → ∃ h', f_X8_tries_2 m h (aM z n) (nI d) rain (nI i) = some (trF z n nf h0.2.2.1 rain (h0.2.2.1 (aJ z n 3)) (h0.2.2.1 (aJ z n 9)) o d, h') ∧ Scr z n h0 h' ∧ TS8 z n (trl z n nf h0.2.2.1 rain (h0.2.2.1 (aJ z n 3)) (h0.2.2.1 (aJ z n 9)) o d).1 (trl z n nf h0.2.2.1 rain (h0.2.2.1 (aJ z n 3)) (h0.2.2.1 (aJ z n 9)) o d).2 o h' := by
  have hn := C.1.2.1
  intro m
  induction m with
  | zero => intro i h h1; omega
  | succ m ih =>
    intro i h h1 h2 p hop hdn
    have W := WS_scr C.2.1 p
    have V := WR_scr C.2.2.1 p
    have sM := W_M W
    have hm := hM0 (Cpl_scr C p).2.2.2.2.2.1
    unfold f_X8_tries_2
    rw [ev_gI sM, hm]
    by_cases hi : i < n
    · have c13 := (C.2.2.2.1 i hi).2.2.2.2.2.2.2.2.2.2.2.2
      rw [if_neg (nI_ge hi (by omega)), ev_gR sM, V_J25 V, ev_gR sM, V_J3 V, ev_aI (W_J3 W) (by omega) (by omega), p.J 3 (by omega), ev_sI (W_J25 W) (by omega) (by omega), vn_i, ev_gR (by rw [sI_s]; exact sM), sI_r, V_J27 V, ev_gR (by rw [sI_s]; exact sM), sI_r, V_J9 V, ev_aI (by rw [sI_s]; exact W_J9 W) (by omega) (by omega), sI_u, u2_ne _ _ (by (first | omega | (simp only [aT, aN, aA, aJ, aM, aF, aFl, aFs]; omega))), p.J 9 (by omega), ev_sI (by rw [sI_s]; exact W_J27 W) (by omega) (by omega), vn_z c13, ev_bd, nI_1]
      refine ih (i + 1) _ (by omega) (by omega) ((p.set (by unfold sc aJ; omega)).set (by unfold sc aJ; omega)) (fun j hj => ?_) (fun j hj => ?_)
      · rw [sI_u, u2_ne _ _ (by (first | omega | (simp only [aT, aN, aA, aJ, aM, aF, aFl, aFs]; omega))), sI_u, u2_ne _ _ (by (first | omega | (simp only [aT, aN, aA, aJ, aM, aF, aFl, aFs]; omega)))]
        exact hop j hj
      · by_cases e : j = i
        · subst e
          refine ⟨?_, ?_⟩
          · rw [sI_u, u2_ne _ _ (by (first | omega | (simp only [aT, aN, aA, aJ, aM, aF, aFl, aFs]; omega))), sI_u, u2s]
          · rw [sI_u, u2s]
        · refine ⟨?_, ?_⟩
          · rw [sI_u, u2_ne _ _ (by (first | omega | (simp only [aT, aN, aA, aJ, aM, aF, aFl, aFs]; omega))), sI_u, u2n (Or.inr e)]
            exact (hdn j (by omega)).1
          · rw [sI_u, u2n (Or.inr e), sI_u, u2_ne _ _ (by (first | omega | (simp only [aT, aN, aA, aJ, aM, aF, aFl, aFs]; omega)))]
            exact (hdn j (by omega)).2
    · have e : i = n := by omega
      subst e
      rw [if_pos (nI_le (Nat.le_refl i) (by omega))]
      have nx := l_tries45 C rain (w := h0.2.2.1 (aJ z i 3)) (b := h0.2.2.1 (aJ z i 9)) ho hd FU 0 h (by rw [fu_big]; omega) (by omega) p (fun j hj => by rw [trl]; exact ⟨(hdn j hj).1, hop j hj, (hdn j hj).2⟩)
      rw [trF] at nx
      exact nx
theorem v_tries (C : Cpl z n nf dN hN h0) {h : AH} (p : Scr z n h0 h) (rain : Int32) {o : Nat → Int32} (ho : ∀ i, i < n → ∃ q, q ≤ 20 ∧ o i = nI q) {d : Nat} (hd : d ≤ 10) (hop : ∀ j, j < n → h.2.2.1 (aJ z n 26) j = o j) : ∃ h', f_X8_tries h (aM z n) (nI d) rain = some (trF z n nf h0.2.2.1 rain (h0.2.2.1 (aJ z n 3)) (h0.2.2.1 (aJ z n 9)) o d, h') ∧ Scr z n h0 h' ∧ TS8 z n (trl z n nf h0.2.2.1 rain (h0.2.2.1 (aJ z n 3)) (h0.2.2.1 (aJ z n 9)) o d).1 (trl z n nf h0.2.2.1 rain (h0.2.2.1 (aJ z n 3)) (h0.2.2.1 (aJ z n 9)) o d).2 o h' := by
  unfold f_X8_tries
  exact l_tries2 C rain ho hd FU 0 h (by have := C.1.2.1; rw [fu_big]; omega) (by omega) p hop (fun j hj => by omega)
theorem o_tried (C : Cpl z n nf dN hN h0) (t d rain : Int32) : ∃ r h1 h2, f_X7_tried h0 z t d rain = some (r, h1) ∧ f_X8_tried h1 (aM z n) t d rain = some (r, h2) ∧ Cpl z n nf dN hN h2 := by
  obtain ⟨b, W, V, ct, K, KX', cx⟩ := o_start C
  obtain ⟨b1, b2, b3, b4, b5⟩ := id b
  have hm := hM0 cx
  have s0 := W_z W
  have sM := W_M W
  unfold f_X7_tried f_X7_tried_20 f_X8_tried f_X8_tried_16
  by_cases ht : isT n t
  case neg =>
    refine ⟨-1, h0, h0, ?_, ?_, C⟩
    · rw [ev_rcv s0, k_tankOut W V b2 ht, ev_nulN]
    · rw [ev_rcv sM, k_isTankOut W hm b2 b1 ht, if_pos rfl]
  obtain ⟨i, hi, rfl⟩ := isT_nI ht (by omega)
  by_cases hy : wi d 1 10 = 0 ∨ wi rain 0 50 = 0
  · refine ⟨-1, h0, h0, ?_, ?_, C⟩
    · rw [ev_rcv s0, k_tankIn W V b2 hi, ev_nulS, cal_eq (v_mayTry h0 d rain), if_pos hy, if_pos rfl]
    · rw [ev_rcv sM, k_isTankIn W hm b2 b1 hi, if_neg one_ne, cal_eq (v_isTrial h0 d rain), if_pos hy, if_pos rfl]
  obtain ⟨k, k1, k2, rfl⟩ := wi_nI (a := 1) (b := 10) (fun q => hy (Or.inl q)) (by omega) (by omega)
  have ho := ho_of C
  obtain ⟨h1, e1, p1, t1⟩ := v_from7 C Scr.rf
  obtain ⟨h2, e2, p2⟩ := l_water7 C rain (w := h0.2.2.1 (aJ z n 3)) (b := h0.2.2.1 (aJ z n 9)) ho hi k2 FU 0 h1 (by rw [fu_big]; omega) (by omega) p1 t1
  have C2 := Cpl_scr C p2
  have W2 := C2.2.1
  have V2 := C2.2.2.1
  have hm2 := hM0 C2.2.2.2.2.2.1
  obtain ⟨h3, e3, p3, q3⟩ := v_open8 C2 Scr.rf
  obtain ⟨h4, e4, p4, t4⟩ := v_tries C2 p3 rain (o := h2.2.2.1 (aJ z n 4)) (ho_of C2) k2 q3
  have W3 := WS_scr W2 p3
  have W4 := WS_scr W2 p4
  have V4 := WR_scr V2 p4
  refine ⟨(trl z n nf h0.2.2.1 rain (h0.2.2.1 (aJ z n 3)) (h0.2.2.1 (aJ z n 9)) (h0.2.2.1 (aJ z n 4)) k).1 i, h2, h4, ?_, ?_, Cpl_scr C2 p4⟩
  · rw [ev_rcv s0, k_tankIn W V b2 hi, ev_nulS, cal_eq (v_mayTry h0 _ rain), if_neg hy, if_neg one_ne, ev_rcv s0]
    have e5 : f_X7_waterTried h0 z (some (aT z n i)) none (nI k) rain = some ((trl z n nf h0.2.2.1 rain (h0.2.2.1 (aJ z n 3)) (h0.2.2.1 (aJ z n 9)) (h0.2.2.1 (aJ z n 4)) k).1 i, h2) := by
      unfold f_X7_waterTried f_X7_waterTried_19
      rw [ev_gR s0, V_fl V, ev_rcv (W_fl W), cal_eq e1, ev_nulN]
      exact e2
    rw [cal_eq e5]
  · rw [ev_rcv (W_M W2), k_isTankIn W2 hm2 b2 b1 hi, if_neg one_ne, cal_eq (v_isTrial h2 _ rain), if_neg hy, if_neg one_ne, ev_rcv (W_M W2), cal_eq e3, ev_rcv (W_M W3), cal_eq e4, ev_gR (W_M W4), V_J25 V4, ev_aI (W_J25 W4) (by omega) (by omega), (t4 i hi).1, p2.J 3 (by omega), p2.J 9 (by omega), p2.J 4 (by omega), trl_sta p2.sta]
end TR2
