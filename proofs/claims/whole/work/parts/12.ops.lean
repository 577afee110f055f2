/-! ===== the calls that touch a cell or two ===== -/
section OP
variable {z n nf dN hN : Nat} {h : AH}
/-- what each proof begins with -/
theorem o_start (C : Cpl z n nf dN hN h) : (2 ≤ n ∧ n ≤ 11 ∧ nf ≤ 40 ∧ dN ≤ 1000 ∧ hN ≤ 300) ∧ WS z n nf h ∧ WR z n nf h ∧ CT z n h.2.2.1 ∧ KT z n nf dN hN h ∧ KX z n nf h ∧ CX z n nf dN hN h.2.2.1 := by
  obtain ⟨b, W, V, ct, cf, cx, cp, cc, co, ch⟩ := C
  exact ⟨b, W, V, ct, ⟨cf, cx, cp, cc, co, ch⟩, ⟨ct, cf, cp, cc, co, ch⟩, cx⟩
theorem Cpl_T (b : 2 ≤ n ∧ n ≤ 11 ∧ nf ≤ 40 ∧ dN ≤ 1000 ∧ hN ≤ 300) (W : WS z n nf h) (V : WR z n nf h) (ct : CT z n h.2.2.1) (K : KT z n nf dN hN h) : Cpl z n nf dN hN h := ⟨b, W, V, ct, K⟩
theorem Cpl_X (b : 2 ≤ n ∧ n ≤ 11 ∧ nf ≤ 40 ∧ dN ≤ 1000 ∧ hN ≤ 300) (W : WS z n nf h) (V : WR z n nf h) (cx : CX z n nf dN hN h.2.2.1) (K : KX z n nf h) : Cpl z n nf dN hN h := ⟨b, W, V, K.1, K.2.1, cx, K.2.2⟩
theorem hM0 (cx : CX z n nf dN hN h.2.2.1) : h.2.2.1 (aM z n) 0 = nI n := cx.2.2.2.2.2.2.2.2.1
theorem wi_nI {x : Int32} {a b : Nat} (h : ¬ wi x (nI a) (nI b) = 0) (ha : a < 2 ^ 31) (hb : b < 2 ^ 31) : ∃ w, a ≤ w ∧ w ≤ b ∧ x = nI w := by
  obtain ⟨u0, u1⟩ := wi_ne h
  have hx : ¬ x < 0 := by
    intro q
    rw [Int32.lt_iff_toInt_lt] at q u0
    rw [nI_toInt ha] at u0
    have := Int32.toInt_zero
    omega
  obtain ⟨w, hw, rfl⟩ := nI_of hx
  rw [nI_lt_iff hw ha] at u0
  rw [nI_lt_iff hb hw] at u1
  exact ⟨w, by omega, by omega, rfl⟩
/-! small functions -/
def rmv (b s t : Int32) : Int32 := if b = 0 then s - t else 0
def bad (s w : Int32) : Int32 := if s / 2 ≤ w then 0 else 1
def asn (b : Int32) : Int32 := if b = 0 then 0 else 1
theorem v_roomIf (W : WS z n nf h) {i : Nat} (hi : i < n) (b : Int32) : f_X5_roomIf h (aT z n i) b = some (rmv b (h.2.2.1 (aT z n i) 5) (h.2.2.1 (aT z n i) 7), h) := by
  have sT := W_T W hi
  unfold f_X5_roomIf f_X5_roomIf_17 rmv
  by_cases e : b = 0
  · simp (disch := first | assumption | (simp only [sI_s, sR_s, sI_r, sI_1, sR_1]; assumption) | omega | (simp only [aT, aN, aA, aJ, aM, aF, aFl, aFs]; omega) | decide) only [↓ev_pZ0, ↓ev_pZ1, ↓ev_dv, ↓ev_rm, ↓ev_rcv, ↓ev_cal, ↓ev_bd, ↓ev_gI, ↓ev_gR, ↓ev_pI, ↓ev_pR, ↓ev_rZ0, ↓ev_rZ1, ↓ev_nulN, ↓ev_nulS, ↓ev_aI, ↓ev_sI, ↓ev_aR, ↓ev_aL, sI_1, sI_s, sI_r, sI_u, sR_1, sR_s, sR_i, vn_i, u2n, u2s, ↓if_true, ↓if_false, if_pos e]
  · simp (disch := first | assumption | (simp only [sI_s, sR_s, sI_r, sI_1, sR_1]; assumption) | omega | (simp only [aT, aN, aA, aJ, aM, aF, aFl, aFs]; omega) | decide) only [↓ev_pZ0, ↓ev_pZ1, ↓ev_dv, ↓ev_rm, ↓ev_rcv, ↓ev_cal, ↓ev_bd, ↓ev_gI, ↓ev_gR, ↓ev_pI, ↓ev_pR, ↓ev_rZ0, ↓ev_rZ1, ↓ev_nulN, ↓ev_nulS, ↓ev_aI, ↓ev_sI, ↓ev_aR, ↓ev_aL, sI_1, sI_s, sI_r, sI_u, sR_1, sR_s, sR_i, vn_i, u2n, u2s, ↓if_true, ↓if_false, if_neg e]
theorem v_room (W : WS z n nf h) (V : WR z n nf h) {i : Nat} (hi : i < 11) (b : Int32) : f_X8_room h (aM z n) (nI i) b = some (rmv b (h.2.2.1 (aJ z n 1) i) (h.2.2.1 (aJ z n 5) i), h) := by
  have sM := W_M W
  have s1 := W_J1 W
  have s5 := W_J5 W
  unfold f_X8_room f_X8_room_21 rmv
  by_cases e : b = 0
  · simp (disch := first | assumption | (simp only [sI_s, sR_s, sI_r, sI_1, sR_1]; assumption) | omega | (simp only [aT, aN, aA, aJ, aM, aF, aFl, aFs]; omega) | decide) only [↓ev_pZ0, ↓ev_pZ1, ↓ev_dv, ↓ev_rm, ↓ev_rcv, ↓ev_cal, ↓ev_bd, ↓ev_gI, ↓ev_gR, ↓ev_pI, ↓ev_pR, ↓ev_rZ0, ↓ev_rZ1, ↓ev_nulN, ↓ev_nulS, ↓ev_aI, ↓ev_sI, ↓ev_aR, ↓ev_aL, sI_1, sI_s, sI_r, sI_u, sR_1, sR_s, sR_i, vn_i, u2n, u2s, ↓if_true, ↓if_false, if_pos e, V_J1 V, V_J5 V]
  · simp (disch := first | assumption | (simp only [sI_s, sR_s, sI_r, sI_1, sR_1]; assumption) | omega | (simp only [aT, aN, aA, aJ, aM, aF, aFl, aFs]; omega) | decide) only [↓ev_pZ0, ↓ev_pZ1, ↓ev_dv, ↓ev_rm, ↓ev_rcv, ↓ev_cal, ↓ev_bd, ↓ev_gI, ↓ev_gR, ↓ev_pI, ↓ev_pR, ↓ev_rZ0, ↓ev_rZ1, ↓ev_nulN, ↓ev_nulS, ↓ev_aI, ↓ev_sI, ↓ev_aR, ↓ev_aL, sI_1, sI_s, sI_r, sI_u, sR_1, sR_s, sR_i, vn_i, u2n, u2s, ↓if_true, ↓if_false, if_neg e]
theorem v_bad7 (W : WS z n nf h) {i : Nat} (hi : i < n) (w : Int32) : f_X5_isBadYearWith h (aT z n i) w = some (bad (h.2.2.1 (aT z n i) 5) w, h) := by
  have sT := W_T W hi
  unfold f_X5_isBadYearWith f_X5_isBadYearWith_15 bad
  by_cases e : h.2.2.1 (aT z n i) 5 / 2 ≤ w
  · simp (disch := first | assumption | (simp only [sI_s, sR_s, sI_r, sI_1, sR_1]; assumption) | omega | (simp only [aT, aN, aA, aJ, aM, aF, aFl, aFs]; omega) | decide) only [↓ev_pZ0, ↓ev_pZ1, ↓ev_dv, ↓ev_rm, ↓ev_rcv, ↓ev_cal, ↓ev_bd, ↓ev_gI, ↓ev_gR, ↓ev_pI, ↓ev_pR, ↓ev_rZ0, ↓ev_rZ1, ↓ev_nulN, ↓ev_nulS, ↓ev_aI, ↓ev_sI, ↓ev_aR, ↓ev_aL, sI_1, sI_s, sI_r, sI_u, sR_1, sR_s, sR_i, vn_i, u2n, u2s, ↓if_true, ↓if_false, if_pos e]
  · simp (disch := first | assumption | (simp only [sI_s, sR_s, sI_r, sI_1, sR_1]; assumption) | omega | (simp only [aT, aN, aA, aJ, aM, aF, aFl, aFs]; omega) | decide) only [↓ev_pZ0, ↓ev_pZ1, ↓ev_dv, ↓ev_rm, ↓ev_rcv, ↓ev_cal, ↓ev_bd, ↓ev_gI, ↓ev_gR, ↓ev_pI, ↓ev_pR, ↓ev_rZ0, ↓ev_rZ1, ↓ev_nulN, ↓ev_nulS, ↓ev_aI, ↓ev_sI, ↓ev_aR, ↓ev_aL, sI_1, sI_s, sI_r, sI_u, sR_1, sR_s, sR_i, vn_i, u2n, u2s, ↓if_true, ↓if_false, if_neg e]
theorem v_bad8 (W : WS z n nf h) (V : WR z n nf h) {i : Nat} (hi : i < 11) (w : Int32) : f_X8_isBad h (aM z n) (nI i) w = some (bad (h.2.2.1 (aJ z n 1) i) w, h) := by
  have sM := W_M W
  have s1 := W_J1 W
  unfold f_X8_isBad f_X8_isBad_17 bad
  by_cases e : h.2.2.1 (aJ z n 1) i / 2 ≤ w
  · simp (disch := first | assumption | (simp only [sI_s, sR_s, sI_r, sI_1, sR_1]; assumption) | omega | (simp only [aT, aN, aA, aJ, aM, aF, aFl, aFs]; omega) | decide) only [↓ev_pZ0, ↓ev_pZ1, ↓ev_dv, ↓ev_rm, ↓ev_rcv, ↓ev_cal, ↓ev_bd, ↓ev_gI, ↓ev_gR, ↓ev_pI, ↓ev_pR, ↓ev_rZ0, ↓ev_rZ1, ↓ev_nulN, ↓ev_nulS, ↓ev_aI, ↓ev_sI, ↓ev_aR, ↓ev_aL, sI_1, sI_s, sI_r, sI_u, sR_1, sR_s, sR_i, vn_i, u2n, u2s, ↓if_true, ↓if_false, if_pos e, V_J1 V]
  · simp (disch := first | assumption | (simp only [sI_s, sR_s, sI_r, sI_1, sR_1]; assumption) | omega | (simp only [aT, aN, aA, aJ, aM, aF, aFl, aFs]; omega) | decide) only [↓ev_pZ0, ↓ev_pZ1, ↓ev_dv, ↓ev_rm, ↓ev_rcv, ↓ev_cal, ↓ev_bd, ↓ev_gI, ↓ev_gR, ↓ev_pI, ↓ev_pR, ↓ev_rZ0, ↓ev_rZ1, ↓ev_nulN, ↓ev_nulS, ↓ev_aI, ↓ev_sI, ↓ev_aR, ↓ev_aL, sI_1, sI_s, sI_r, sI_u, sR_1, sR_s, sR_i, vn_i, u2n, u2s, ↓if_true, ↓if_false, if_neg e, V_J1 V]
theorem v_asn (b : Int32) : f_X7_asNumber h b = some (asn b, h) := by
  unfold f_X7_asNumber f_X7_asNumber_9 asn
  split <;> rfl
theorem v_one (b : Int32) : f_X8_one h b = some (asn b, h) := by
  unfold f_X8_one f_X8_one_9 asn
  split <;> rfl
theorem v_fieldAt (W : WS z n nf h) (V : WR z n nf h) (t : Int32) : f_X7_fieldAt h z t = some ((if ¬ t < 0 ∧ ¬ 40 ≤ t then (if t.toNatClampNeg < nf then some (aF z n t.toNatClampNeg) else none) else none), h) := by
  have s0 := W_z W
  have sf := W_fa W
  unfold f_X7_fieldAt f_X7_fieldAt_22 f_X7_fieldAt_23
  by_cases h0 : t < 0
  · rw [if_pos h0, if_neg (fun q => q.1 h0)]
  · rw [if_neg h0, ev_gR s0, V_fa V, ev_aL sf]
    by_cases h1 : (40 : Int32) ≤ t
    · rw [if_pos (show Int32.ofNat 40 ≤ t from h1), if_neg (fun q => q.2 h1)]
    · rw [if_neg (show ¬ Int32.ofNat 40 ≤ t from h1), if_pos ⟨h0, h1⟩]
      obtain ⟨i, hi, rfl⟩ := isT_nI (n := 40) ⟨h0, h1⟩ (by omega)
      rw [ev_gR s0, V_fa V, ev_aR sf hi (by omega), V_fai V hi, nI_clamp (by omega)]
theorem cal_eq {α β : Type} {F : Option (α × AH)} {x : α} {h1 : AH} {K : α → AH → Option β} (e : F = some (x, h1)) : cal F K = K x h1 := by rw [e]; rfl
section KK
variable {β : Type}
theorem k_tankAt (W : WS z n nf h) (V : WR z n nf h) (hn : n ≤ 11) (t : Int32) (K : Option Nat → AH → Option β) : cal (f_X7_tankAt h z t) K = K (if isT n t then some (aT z n t.toNatClampNeg) else none) h := cal_eq (v_tankAt W V hn t)
theorem k_tankIn (W : WS z n nf h) (V : WR z n nf h) (hn : n ≤ 11) {i : Nat} (hi : i < n) (K : Option Nat → AH → Option β) : cal (f_X7_tankAt h z (nI i)) K = K (some (aT z n i)) h := by
  rw [k_tankAt W V hn, if_pos ⟨nI_pos (by omega), nI_ge hi (by omega)⟩, nI_clamp (by omega)]
theorem k_tankOut (W : WS z n nf h) (V : WR z n nf h) (hn : n ≤ 11) {t : Int32} (ht : ¬ isT n t) (K : Option Nat → AH → Option β) : cal (f_X7_tankAt h z t) K = K none h := by
  rw [k_tankAt W V hn, if_neg ht]
theorem k_isTankIn (W : WS z n nf h) (hm : h.2.2.1 (aM z n) 0 = nI n) (hn : n ≤ 11) (hn2 : 2 ≤ n) {i : Nat} (hi : i < n) (K : Int32 → AH → Option β) : cal (f_X8_isTank h (aM z n) (nI i)) K = K 1 h := by
  obtain ⟨q, hq, q1, -⟩ := v_isTank W hm hn hn2 (nI i)
  rw [cal_eq hq, q1 ⟨nI_pos (by omega), nI_ge hi (by omega)⟩]
theorem k_isTankOut (W : WS z n nf h) (hm : h.2.2.1 (aM z n) 0 = nI n) (hn : n ≤ 11) (hn2 : 2 ≤ n) {t : Int32} (ht : ¬ isT n t) (K : Int32 → AH → Option β) : cal (f_X8_isTank h (aM z n) t) K = K 0 h := by
  obtain ⟨q, hq, -, q0⟩ := v_isTank W hm hn hn2 t
  rw [cal_eq hq, q0 ht]
theorem k_roomIf (W : WS z n nf h) {i : Nat} (hi : i < n) (b : Int32) (K : Int32 → AH → Option β) : cal (f_X5_roomIf h (aT z n i) b) K = K (rmv b (h.2.2.1 (aT z n i) 5) (h.2.2.1 (aT z n i) 7)) h := cal_eq (v_roomIf W hi b)
theorem k_room (W : WS z n nf h) (V : WR z n nf h) {i : Nat} (hi : i < 11) (b : Int32) (K : Int32 → AH → Option β) : cal (f_X8_room h (aM z n) (nI i) b) K = K (rmv b (h.2.2.1 (aJ z n 1) i) (h.2.2.1 (aJ z n 5) i)) h := cal_eq (v_room W V hi b)
theorem k_bad7 (W : WS z n nf h) {i : Nat} (hi : i < n) (w : Int32) (K : Int32 → AH → Option β) : cal (f_X5_isBadYearWith h (aT z n i) w) K = K (bad (h.2.2.1 (aT z n i) 5) w) h := cal_eq (v_bad7 W hi w)
theorem k_bad8 (W : WS z n nf h) (V : WR z n nf h) {i : Nat} (hi : i < 11) (w : Int32) (K : Int32 → AH → Option β) : cal (f_X8_isBad h (aM z n) (nI i) w) K = K (bad (h.2.2.1 (aJ z n 1) i) w) h := cal_eq (v_bad8 W V hi w)
theorem k_asn (b : Int32) (K : Int32 → AH → Option β) : cal (f_X7_asNumber h b) K = K (asn b) h := cal_eq (v_asn b)
theorem k_one (b : Int32) (K : Int32 → AH → Option β) : cal (f_X8_one h b) K = K (asn b) h := cal_eq (v_one b)
theorem k_isWithin (x a b : Int32) (K : Int32 → AH → Option β) : cal (f_X7_isWithin h x a b) K = K (wi x a b) h := cal_eq (v_isWithin h x a b)
theorem k_isIn (x a b : Int32) (K : Int32 → AH → Option β) : cal (f_X8_isIn h x a b) K = K (wi x a b) h := cal_eq (v_isIn h x a b)
end KK
theorem o_open (C : Cpl z n nf dN hN h) (t u : Int32) : ∃ r h1 h2, f_X7_open h z t u = some (r, h1) ∧ f_X8_open h1 (aM z n) t u = some (r, h2) ∧ Cpl z n nf dN hN h2 := by
  obtain ⟨b, W, V, ct, K, -, cx⟩ := o_start C
  obtain ⟨b1, b2, b3, b4, b5⟩ := id b
  have hm := hM0 cx
  have s0 := W_z W
  have sM := W_M W
  unfold f_X7_open f_X7_open_20 f_X8_open f_X8_open_18
  obtain ⟨q, hq, q1, q0⟩ := v_isTank W hm b2 b1 t
  by_cases ht : isT n t
  · obtain ⟨i, hi, rfl⟩ := isT_nI ht (by omega)
    have rN := V_N V hi
    have sT := W_T W hi
    have sN := W_N W hi
    have sJ := W_J4 W
    have rJ := V_J4 V
    by_cases hw : wi u 0 20 = 0
    · refine ⟨0, h, h, ?_, ?_, C⟩
      · simp (disch := first | assumption | (simp only [sI_s, sR_s, sI_r, sI_1, sR_1]; assumption) | omega | (simp only [aT, aN, aA, aJ, aM, aF, aFl, aFs]; omega) | decide) only [↓ev_pZ0, ↓ev_pZ1, ↓ev_dv, ↓ev_rm, ↓ev_rcv, ↓ev_cal, ↓ev_bd, ↓ev_gI, ↓ev_gR, ↓ev_pI, ↓ev_pR, ↓ev_rZ0, ↓ev_rZ1, ↓ev_nulN, ↓ev_nulS, ↓ev_aI, ↓ev_sI, ↓ev_aR, ↓ev_aL, sI_1, sI_s, sI_r, sI_u, sR_1, sR_s, sR_i, vn_i, u2n, u2s, ↓if_true, ↓if_false, ↓k_tankIn W V b2 hi, ↓k_isWithin, ↓if_pos hw]
      · simp (disch := first | assumption | (simp only [sI_s, sR_s, sI_r, sI_1, sR_1]; assumption) | omega | (simp only [aT, aN, aA, aJ, aM, aF, aFl, aFs]; omega) | decide) only [↓ev_pZ0, ↓ev_pZ1, ↓ev_dv, ↓ev_rm, ↓ev_rcv, ↓ev_cal, ↓ev_bd, ↓ev_gI, ↓ev_gR, ↓ev_pI, ↓ev_pR, ↓ev_rZ0, ↓ev_rZ1, ↓ev_nulN, ↓ev_nulS, ↓ev_aI, ↓ev_sI, ↓ev_aR, ↓ev_aL, sI_1, sI_s, sI_r, sI_u, sR_1, sR_s, sR_i, vn_i, u2n, u2s, ↓if_true, ↓if_false, ↓k_isTankIn W hm b2 b1 hi, ↓k_isIn, ↓if_pos hw, ↓if_neg one_ne]
    · obtain ⟨w, -, hw20, rfl⟩ := wi_nI (a := 0) (b := 20) hw (by omega) (by omega)
      refine ⟨1, setI h (aN z n i) 1 (nI w), setI (setI h (aN z n i) 1 (nI w)) (aJ z n 4) i (nI w), ?_, ?_, Cpl_T b W V (CT_op z n i hi b2 _ ct w hw20) (KT_u (KT_u K (by (first | omega | (simp only [aT, aN, aA, aJ, aM, aF, aFl, aFs]; omega)))) (by (first | omega | (simp only [aT, aN, aA, aJ, aM, aF, aFl, aFs]; omega))))⟩
      · simp (disch := first | assumption | (simp only [sI_s, sR_s, sI_r, sI_1, sR_1]; assumption) | omega | (simp only [aT, aN, aA, aJ, aM, aF, aFl, aFs]; omega) | decide) only [↓ev_pZ0, ↓ev_pZ1, ↓ev_dv, ↓ev_rm, ↓ev_rcv, ↓ev_cal, ↓ev_bd, ↓ev_gI, ↓ev_gR, ↓ev_pI, ↓ev_pR, ↓ev_rZ0, ↓ev_rZ1, ↓ev_nulN, ↓ev_nulS, ↓ev_aI, ↓ev_sI, ↓ev_aR, ↓ev_aL, sI_1, sI_s, sI_r, sI_u, sR_1, sR_s, sR_i, vn_i, u2n, u2s, ↓if_true, ↓if_false, ↓k_tankIn W V b2 hi, ↓k_isWithin, ↓if_neg hw, nI_clamp, rN]
      · obtain ⟨q', hq', q1', -⟩ := v_isTank (h := setI h (aN z n i) 1 (nI w)) W (by rw [sI_i, if_neg (by (first | omega | (simp only [aT, aN, aA, aJ, aM, aF, aFl, aFs]; omega)))]; exact hm) b2 b1 (nI i)
        simp (disch := first | assumption | (simp only [sI_s, sR_s, sI_r, sI_1, sR_1]; assumption) | omega | (simp only [aT, aN, aA, aJ, aM, aF, aFl, aFs]; omega) | decide) only [↓ev_pZ0, ↓ev_pZ1, ↓ev_dv, ↓ev_rm, ↓ev_rcv, ↓ev_cal, ↓ev_bd, ↓ev_gI, ↓ev_gR, ↓ev_pI, ↓ev_pR, ↓ev_rZ0, ↓ev_rZ1, ↓ev_nulN, ↓ev_nulS, ↓ev_aI, ↓ev_sI, ↓ev_aR, ↓ev_aL, sI_1, sI_s, sI_r, sI_u, sR_1, sR_s, sR_i, vn_i, u2n, u2s, ↓if_true, ↓if_false, ↓cal_eq hq', q1' ht, ↓k_isIn, ↓if_neg hw, rJ, ↓if_neg one_ne]
  · refine ⟨0, h, h, ?_, ?_, C⟩
    · simp (disch := first | assumption | (simp only [sI_s, sR_s, sI_r, sI_1, sR_1]; assumption) | omega | (simp only [aT, aN, aA, aJ, aM, aF, aFl, aFs]; omega) | decide) only [↓ev_pZ0, ↓ev_pZ1, ↓ev_dv, ↓ev_rm, ↓ev_rcv, ↓ev_cal, ↓ev_bd, ↓ev_gI, ↓ev_gR, ↓ev_pI, ↓ev_pR, ↓ev_rZ0, ↓ev_rZ1, ↓ev_nulN, ↓ev_nulS, ↓ev_aI, ↓ev_sI, ↓ev_aR, ↓ev_aL, sI_1, sI_s, sI_r, sI_u, sR_1, sR_s, sR_i, vn_i, u2n, u2s, ↓if_true, ↓if_false, ↓k_tankOut W V b2 ht]
    · rw [ev_rcv sM, k_isTankOut W hm b2 b1 ht, if_pos rfl]
      try exact ev_rZ0
theorem o_mend (C : Cpl z n nf dN hN h) (t u : Int32) : ∃ r h1 h2, f_X7_mend h z t u = some (r, h1) ∧ f_X8_mend h1 (aM z n) t u = some (r, h2) ∧ Cpl z n nf dN hN h2 := by
  obtain ⟨b, W, V, ct, K, -, cx⟩ := o_start C
  obtain ⟨b1, b2, b3, b4, b5⟩ := id b
  have hm := hM0 cx
  have s0 := W_z W
  have sM := W_M W
  unfold f_X7_mend f_X7_mend_21 f_X8_mend f_X8_mend_19
  obtain ⟨q, hq, q1, q0⟩ := v_isTank W hm b2 b1 t
  by_cases ht : isT n t
  · obtain ⟨i, hi, rfl⟩ := isT_nI ht (by omega)
    have rN := V_N V hi
    have sT := W_T W hi
    have sN := W_N W hi
    have s2 := W_J2 W
    have s9 := W_J9 W
    by_cases hw : wi u 0 500 = 0
    · refine ⟨0, h, h, ?_, ?_, C⟩
      · simp (disch := first | assumption | (simp only [sI_s, sR_s, sI_r, sI_1, sR_1]; assumption) | omega | (simp only [aT, aN, aA, aJ, aM, aF, aFl, aFs]; omega) | decide) only [↓ev_pZ0, ↓ev_pZ1, ↓ev_dv, ↓ev_rm, ↓ev_rcv, ↓ev_cal, ↓ev_bd, ↓ev_gI, ↓ev_gR, ↓ev_pI, ↓ev_pR, ↓ev_rZ0, ↓ev_rZ1, ↓ev_nulN, ↓ev_nulS, ↓ev_aI, ↓ev_sI, ↓ev_aR, ↓ev_aL, sI_1, sI_s, sI_r, sI_u, sR_1, sR_s, sR_i, vn_i, u2n, u2s, ↓if_true, ↓if_false, ↓k_tankIn W V b2 hi, ↓k_isWithin, ↓if_pos hw]
      · simp (disch := first | assumption | (simp only [sI_s, sR_s, sI_r, sI_1, sR_1]; assumption) | omega | (simp only [aT, aN, aA, aJ, aM, aF, aFl, aFs]; omega) | decide) only [↓ev_pZ0, ↓ev_pZ1, ↓ev_dv, ↓ev_rm, ↓ev_rcv, ↓ev_cal, ↓ev_bd, ↓ev_gI, ↓ev_gR, ↓ev_pI, ↓ev_pR, ↓ev_rZ0, ↓ev_rZ1, ↓ev_nulN, ↓ev_nulS, ↓ev_aI, ↓ev_sI, ↓ev_aR, ↓ev_aL, sI_1, sI_s, sI_r, sI_u, sR_1, sR_s, sR_i, vn_i, u2n, u2s, ↓if_true, ↓if_false, ↓k_isTankIn W hm b2 b1 hi, ↓k_isIn, ↓if_pos hw, ↓if_neg one_ne]
    · refine ⟨1, setI (setI h (aN z n i) 2 0) (aT z n i) 6 u, setI (setI (setI (setI h (aN z n i) 2 0) (aT z n i) 6 u) (aJ z n 2) i u) (aJ z n 9) i 0, ?_, ?_, Cpl_T b W V ?_ (KT_u (KT_u (KT_u (KT_u K (by (first | omega | (simp only [aT, aN, aA, aJ, aM, aF, aFl, aFs]; omega)))) (by (first | omega | (simp only [aT, aN, aA, aJ, aM, aF, aFl, aFs]; omega)))) (by (first | omega | (simp only [aT, aN, aA, aJ, aM, aF, aFl, aFs]; omega)))) (by (first | omega | (simp only [aT, aN, aA, aJ, aM, aF, aFl, aFs]; omega))))⟩
      · simp (disch := first | assumption | (simp only [sI_s, sR_s, sI_r, sI_1, sR_1]; assumption) | omega | (simp only [aT, aN, aA, aJ, aM, aF, aFl, aFs]; omega) | decide) only [↓ev_pZ0, ↓ev_pZ1, ↓ev_dv, ↓ev_rm, ↓ev_rcv, ↓ev_cal, ↓ev_bd, ↓ev_gI, ↓ev_gR, ↓ev_pI, ↓ev_pR, ↓ev_rZ0, ↓ev_rZ1, ↓ev_nulN, ↓ev_nulS, ↓ev_aI, ↓ev_sI, ↓ev_aR, ↓ev_aL, sI_1, sI_s, sI_r, sI_u, sR_1, sR_s, sR_i, vn_i, u2n, u2s, ↓if_true, ↓if_false, ↓k_tankIn W V b2 hi, ↓k_isWithin, ↓if_neg hw, nI_clamp, rN]
      · obtain ⟨q', hq', q1', -⟩ := v_isTank (h := setI (setI h (aN z n i) 2 0) (aT z n i) 6 u) W (by rw [sI_i, if_neg (by (first | omega | (simp only [aT, aN, aA, aJ, aM, aF, aFl, aFs]; omega))), sI_i, if_neg (by (first | omega | (simp only [aT, aN, aA, aJ, aM, aF, aFl, aFs]; omega)))]; exact hm) b2 b1 (nI i)
        simp (disch := first | assumption | (simp only [sI_s, sR_s, sI_r, sI_1, sR_1]; assumption) | omega | (simp only [aT, aN, aA, aJ, aM, aF, aFl, aFs]; omega) | decide) only [↓ev_pZ0, ↓ev_pZ1, ↓ev_dv, ↓ev_rm, ↓ev_rcv, ↓ev_cal, ↓ev_bd, ↓ev_gI, ↓ev_gR, ↓ev_pI, ↓ev_pR, ↓ev_rZ0, ↓ev_rZ1, ↓ev_nulN, ↓ev_nulS, ↓ev_aI, ↓ev_sI, ↓ev_aR, ↓ev_aL, sI_1, sI_s, sI_r, sI_u, sR_1, sR_s, sR_i, vn_i, u2n, u2s, ↓if_true, ↓if_false, ↓cal_eq hq', q1' ht, ↓k_isIn, ↓if_neg hw, V_J2 V, V_J9 V, ↓if_neg one_ne, vn_z0]
      · intro j hj
        obtain ⟨c1, c2, c3, c4, c5, c6, c7, c8, c9, c10, c11, c12, c13⟩ := ct j hj
        by_cases e : j = i
        · subst e
          simp (disch := first | omega | (simp only [aT, aN, aA, aJ, aM, aF, aFl, aFs]; omega)) only [sI_u, u2n, u2s]
          exact ⟨c1, c2, c3, trivial, c5, c6, c7, c8, trivial, c10, c11, c12, Or.inl trivial⟩
        · simp (disch := first | omega | (simp only [aT, aN, aA, aJ, aM, aF, aFl, aFs]; omega)) only [sI_u, u2n, u2s]
          exact ⟨c1, c2, c3, c4, c5, c6, c7, c8, c9, c10, c11, c12, c13⟩
  · refine ⟨0, h, h, ?_, ?_, C⟩
    · simp (disch := first | assumption | (simp only [sI_s, sR_s, sI_r, sI_1, sR_1]; assumption) | omega | (simp only [aT, aN, aA, aJ, aM, aF, aFl, aFs]; omega) | decide) only [↓ev_pZ0, ↓ev_pZ1, ↓ev_dv, ↓ev_rm, ↓ev_rcv, ↓ev_cal, ↓ev_bd, ↓ev_gI, ↓ev_gR, ↓ev_pI, ↓ev_pR, ↓ev_rZ0, ↓ev_rZ1, ↓ev_nulN, ↓ev_nulS, ↓ev_aI, ↓ev_sI, ↓ev_aR, ↓ev_aL, sI_1, sI_s, sI_r, sI_u, sR_1, sR_s, sR_i, vn_i, u2n, u2s, ↓if_true, ↓if_false, ↓k_tankOut W V b2 ht]
    · rw [ev_rcv sM, k_isTankOut W hm b2 b1 ht, if_pos rfl]
      try exact ev_rZ0
theorem o_fault (C : Cpl z n nf dN hN h) : ∃ r h1 h2, f_X7_fault h z = some (r, h1) ∧ f_X8_fault h1 (aM z n) = some (r, h2) ∧ Cpl z n nf dN hN h2 := by
  obtain ⟨b, W, V, ct, K, -, cx⟩ := o_start C
  have s0 := W_z W
  have sM := W_M W
  refine ⟨h.2.2.1 z 11, h, h, ?_, ?_, C⟩
  · unfold f_X7_fault
    simp (disch := first | assumption | (simp only [sI_s, sR_s, sI_r, sI_1, sR_1]; assumption) | omega | (simp only [aT, aN, aA, aJ, aM, aF, aFl, aFs]; omega) | decide) only [↓ev_pZ0, ↓ev_pZ1, ↓ev_dv, ↓ev_rm, ↓ev_rcv, ↓ev_cal, ↓ev_bd, ↓ev_gI, ↓ev_gR, ↓ev_pI, ↓ev_pR, ↓ev_rZ0, ↓ev_rZ1, ↓ev_nulN, ↓ev_nulS, ↓ev_aI, ↓ev_sI, ↓ev_aR, ↓ev_aL, sI_1, sI_s, sI_r, sI_u, sR_1, sR_s, sR_i, vn_i, u2n, u2s, ↓if_true, ↓if_false]
  · unfold f_X8_fault
    simp (disch := first | assumption | (simp only [sI_s, sR_s, sI_r, sI_1, sR_1]; assumption) | omega | (simp only [aT, aN, aA, aJ, aM, aF, aFl, aFs]; omega) | decide) only [↓ev_pZ0, ↓ev_pZ1, ↓ev_dv, ↓ev_rm, ↓ev_rcv, ↓ev_cal, ↓ev_bd, ↓ev_gI, ↓ev_gR, ↓ev_pI, ↓ev_pR, ↓ev_rZ0, ↓ev_rZ1, ↓ev_nulN, ↓ev_nulS, ↓ev_aI, ↓ev_sI, ↓ev_aR, ↓ev_aL, sI_1, sI_s, sI_r, sI_u, sR_1, sR_s, sR_i, vn_i, u2n, u2s, ↓if_true, ↓if_false, cx.2.2.2.2.1]
theorem o_breach (C : Cpl z n nf dN hN h) (u : Int32) : ∃ r h1 h2, f_X7_breach h z u = some (r, h1) ∧ f_X8_breach h1 (aM z n) u = some (r, h2) ∧ Cpl z n nf dN hN h2 ∧ h1.2.1 (aM z n) = some (.inl 8) := by
  obtain ⟨b, W, V, ct, K, -, cx⟩ := o_start C
  have s0 := W_z W
  have sM := W_M W
  obtain ⟨-, -, -, -, -, x12, x13, x14, -⟩ := cx
  unfold f_X7_breach f_X8_breach f_X8_breach_36
  by_cases e0 : u = 0
  · refine ⟨h.2.2.1 z 13, h, h, ?_, ?_, C, sM⟩
    · simp (disch := first | assumption | (simp only [sI_s, sR_s, sI_r, sI_1, sR_1]; assumption) | omega | (simp only [aT, aN, aA, aJ, aM, aF, aFl, aFs]; omega) | decide) only [↓ev_pZ0, ↓ev_pZ1, ↓ev_dv, ↓ev_rm, ↓ev_rcv, ↓ev_cal, ↓ev_bd, ↓ev_gI, ↓ev_gR, ↓ev_pI, ↓ev_pR, ↓ev_rZ0, ↓ev_rZ1, ↓ev_nulN, ↓ev_nulS, ↓ev_aI, ↓ev_sI, ↓ev_aR, ↓ev_aL, sI_1, sI_s, sI_r, sI_u, sR_1, sR_s, sR_i, vn_i, u2n, u2s, ↓if_true, ↓if_false, ↓if_pos e0]
    · simp (disch := first | assumption | (simp only [sI_s, sR_s, sI_r, sI_1, sR_1]; assumption) | omega | (simp only [aT, aN, aA, aJ, aM, aF, aFl, aFs]; omega) | decide) only [↓ev_pZ0, ↓ev_pZ1, ↓ev_dv, ↓ev_rm, ↓ev_rcv, ↓ev_cal, ↓ev_bd, ↓ev_gI, ↓ev_gR, ↓ev_pI, ↓ev_pR, ↓ev_rZ0, ↓ev_rZ1, ↓ev_nulN, ↓ev_nulS, ↓ev_aI, ↓ev_sI, ↓ev_aR, ↓ev_aL, sI_1, sI_s, sI_r, sI_u, sR_1, sR_s, sR_i, vn_i, u2n, u2s, ↓if_true, ↓if_false, ↓if_pos e0, x13]
  by_cases e1 : u = 1
  · refine ⟨h.2.2.1 z 14, h, h, ?_, ?_, C, sM⟩
    · simp (disch := first | assumption | (simp only [sI_s, sR_s, sI_r, sI_1, sR_1]; assumption) | omega | (simp only [aT, aN, aA, aJ, aM, aF, aFl, aFs]; omega) | decide) only [↓ev_pZ0, ↓ev_pZ1, ↓ev_dv, ↓ev_rm, ↓ev_rcv, ↓ev_cal, ↓ev_bd, ↓ev_gI, ↓ev_gR, ↓ev_pI, ↓ev_pR, ↓ev_rZ0, ↓ev_rZ1, ↓ev_nulN, ↓ev_nulS, ↓ev_aI, ↓ev_sI, ↓ev_aR, ↓ev_aL, sI_1, sI_s, sI_r, sI_u, sR_1, sR_s, sR_i, vn_i, u2n, u2s, ↓if_true, ↓if_false, ↓if_neg e0, ↓if_pos e1]
    · simp (disch := first | assumption | (simp only [sI_s, sR_s, sI_r, sI_1, sR_1]; assumption) | omega | (simp only [aT, aN, aA, aJ, aM, aF, aFl, aFs]; omega) | decide) only [↓ev_pZ0, ↓ev_pZ1, ↓ev_dv, ↓ev_rm, ↓ev_rcv, ↓ev_cal, ↓ev_bd, ↓ev_gI, ↓ev_gR, ↓ev_pI, ↓ev_pR, ↓ev_rZ0, ↓ev_rZ1, ↓ev_nulN, ↓ev_nulS, ↓ev_aI, ↓ev_sI, ↓ev_aR, ↓ev_aL, sI_1, sI_s, sI_r, sI_u, sR_1, sR_s, sR_i, vn_i, u2n, u2s, ↓if_true, ↓if_false, ↓if_neg e0, ↓if_pos e1, x14]
  by_cases e2 : u = 2
  · refine ⟨h.2.2.1 z 12, h, h, ?_, ?_, C, sM⟩
    · simp (disch := first | assumption | (simp only [sI_s, sR_s, sI_r, sI_1, sR_1]; assumption) | omega | (simp only [aT, aN, aA, aJ, aM, aF, aFl, aFs]; omega) | decide) only [↓ev_pZ0, ↓ev_pZ1, ↓ev_dv, ↓ev_rm, ↓ev_rcv, ↓ev_cal, ↓ev_bd, ↓ev_gI, ↓ev_gR, ↓ev_pI, ↓ev_pR, ↓ev_rZ0, ↓ev_rZ1, ↓ev_nulN, ↓ev_nulS, ↓ev_aI, ↓ev_sI, ↓ev_aR, ↓ev_aL, sI_1, sI_s, sI_r, sI_u, sR_1, sR_s, sR_i, vn_i, u2n, u2s, ↓if_true, ↓if_false, ↓if_neg e0, ↓if_neg e1, ↓if_pos e2]
    · simp (disch := first | assumption | (simp only [sI_s, sR_s, sI_r, sI_1, sR_1]; assumption) | omega | (simp only [aT, aN, aA, aJ, aM, aF, aFl, aFs]; omega) | decide) only [↓ev_pZ0, ↓ev_pZ1, ↓ev_dv, ↓ev_rm, ↓ev_rcv, ↓ev_cal, ↓ev_bd, ↓ev_gI, ↓ev_gR, ↓ev_pI, ↓ev_pR, ↓ev_rZ0, ↓ev_rZ1, ↓ev_nulN, ↓ev_nulS, ↓ev_aI, ↓ev_sI, ↓ev_aR, ↓ev_aL, sI_1, sI_s, sI_r, sI_u, sR_1, sR_s, sR_i, vn_i, u2n, u2s, ↓if_true, ↓if_false, ↓if_neg e0, ↓if_neg e1, ↓if_pos e2, x12]
  · refine ⟨-1, h, h, ?_, ?_, C, sM⟩
    · simp (disch := first | assumption | (simp only [sI_s, sR_s, sI_r, sI_1, sR_1]; assumption) | omega | (simp only [aT, aN, aA, aJ, aM, aF, aFl, aFs]; omega) | decide) only [↓ev_pZ0, ↓ev_pZ1, ↓ev_dv, ↓ev_rm, ↓ev_rcv, ↓ev_cal, ↓ev_bd, ↓ev_gI, ↓ev_gR, ↓ev_pI, ↓ev_pR, ↓ev_rZ0, ↓ev_rZ1, ↓ev_nulN, ↓ev_nulS, ↓ev_aI, ↓ev_sI, ↓ev_aR, ↓ev_aL, sI_1, sI_s, sI_r, sI_u, sR_1, sR_s, sR_i, vn_i, u2n, u2s, ↓if_true, ↓if_false, ↓if_neg e0, ↓if_neg e1, ↓if_neg e2]
    · simp (disch := first | assumption | (simp only [sI_s, sR_s, sI_r, sI_1, sR_1]; assumption) | omega | (simp only [aT, aN, aA, aJ, aM, aF, aFl, aFs]; omega) | decide) only [↓ev_pZ0, ↓ev_pZ1, ↓ev_dv, ↓ev_rm, ↓ev_rcv, ↓ev_cal, ↓ev_bd, ↓ev_gI, ↓ev_gR, ↓ev_pI, ↓ev_pR, ↓ev_rZ0, ↓ev_rZ1, ↓ev_nulN, ↓ev_nulS, ↓ev_aI, ↓ev_sI, ↓ev_aR, ↓ev_aL, sI_1, sI_s, sI_r, sI_u, sR_1, sR_s, sR_i, vn_i, u2n, u2s, ↓if_true, ↓if_false, ↓if_neg e0, ↓if_neg e1, ↓if_neg e2]
theorem o_dredge (C : Cpl z n nf dN hN h) (t u : Int32) : ∃ r h1 h2, f_X7_dredge h z t u = some (r, h1) ∧ f_X8_dredge h1 (aM z n) t u = some (r, h2) ∧ Cpl z n nf dN hN h2 := by
  obtain ⟨b, W, V, ct, K, -, cx⟩ := o_start C
  obtain ⟨b1, b2, b3, b4, b5⟩ := id b
  have hm := hM0 cx
  have s0 := W_z W
  have sM := W_M W
  unfold f_X7_dredge f_X7_dredge_22 f_X8_dredge f_X8_dredge_22
  obtain ⟨q, hq, q1, q0⟩ := v_isTank W hm b2 b1 t
  by_cases ht : isT n t
  · obtain ⟨i, hi, rfl⟩ := isT_nI ht (by omega)
    have sT := W_T W hi
    have s5 := W_J5 W
    have e5 : h.2.2.1 (aT z n i) 7 = h.2.2.1 (aJ z n 5) i := (ct i hi).2.2.2.2.1
    by_cases hw : wi u 1 (h.2.2.1 (aJ z n 5) i) = 0
    · refine ⟨-1, h, h, ?_, ?_, C⟩
      · simp (disch := first | assumption | (simp only [sI_s, sR_s, sI_r, sI_1, sR_1]; assumption) | omega | (simp only [aT, aN, aA, aJ, aM, aF, aFl, aFs]; omega) | decide) only [↓ev_pZ0, ↓ev_pZ1, ↓ev_dv, ↓ev_rm, ↓ev_rcv, ↓ev_cal, ↓ev_bd, ↓ev_gI, ↓ev_gR, ↓ev_pI, ↓ev_pR, ↓ev_rZ0, ↓ev_rZ1, ↓ev_nulN, ↓ev_nulS, ↓ev_aI, ↓ev_sI, ↓ev_aR, ↓ev_aL, sI_1, sI_s, sI_r, sI_u, sR_1, sR_s, sR_i, vn_i, u2n, u2s, ↓if_true, ↓if_false, ↓k_tankIn W V b2 hi, ↓k_isWithin, e5, ↓if_pos hw]
      · simp (disch := first | assumption | (simp only [sI_s, sR_s, sI_r, sI_1, sR_1]; assumption) | omega | (simp only [aT, aN, aA, aJ, aM, aF, aFl, aFs]; omega) | decide) only [↓ev_pZ0, ↓ev_pZ1, ↓ev_dv, ↓ev_rm, ↓ev_rcv, ↓ev_cal, ↓ev_bd, ↓ev_gI, ↓ev_gR, ↓ev_pI, ↓ev_pR, ↓ev_rZ0, ↓ev_rZ1, ↓ev_nulN, ↓ev_nulS, ↓ev_aI, ↓ev_sI, ↓ev_aR, ↓ev_aL, sI_1, sI_s, sI_r, sI_u, sR_1, sR_s, sR_i, vn_i, u2n, u2s, ↓if_true, ↓if_false, ↓k_isTankIn W hm b2 b1 hi, ↓k_isIn, ↓if_pos hw, ↓if_neg one_ne, V_J5 V]
    · refine ⟨h.2.2.1 (aJ z n 5) i - u, setI h (aT z n i) 7 (h.2.2.1 (aJ z n 5) i - u), setI (setI h (aT z n i) 7 (h.2.2.1 (aJ z n 5) i - u)) (aJ z n 5) i (h.2.2.1 (aJ z n 5) i - u), ?_, ?_, Cpl_T b W V ?_ (KT_u (KT_u K (by (first | omega | (simp only [aT, aN, aA, aJ, aM, aF, aFl, aFs]; omega)))) (by (first | omega | (simp only [aT, aN, aA, aJ, aM, aF, aFl, aFs]; omega))))⟩
      · simp (disch := first | assumption | (simp only [sI_s, sR_s, sI_r, sI_1, sR_1]; assumption) | omega | (simp only [aT, aN, aA, aJ, aM, aF, aFl, aFs]; omega) | decide) only [↓ev_pZ0, ↓ev_pZ1, ↓ev_dv, ↓ev_rm, ↓ev_rcv, ↓ev_cal, ↓ev_bd, ↓ev_gI, ↓ev_gR, ↓ev_pI, ↓ev_pR, ↓ev_rZ0, ↓ev_rZ1, ↓ev_nulN, ↓ev_nulS, ↓ev_aI, ↓ev_sI, ↓ev_aR, ↓ev_aL, sI_1, sI_s, sI_r, sI_u, sR_1, sR_s, sR_i, vn_i, u2n, u2s, ↓if_true, ↓if_false, ↓k_tankIn W V b2 hi, ↓k_isWithin, e5, ↓if_neg hw]
      · obtain ⟨q', hq', q1', -⟩ := v_isTank (h := setI h (aT z n i) 7 (h.2.2.1 (aJ z n 5) i - u)) W (by rw [sI_i, if_neg (by (first | omega | (simp only [aT, aN, aA, aJ, aM, aF, aFl, aFs]; omega)))]; exact hm) b2 b1 (nI i)
        simp (disch := first | assumption | (simp only [sI_s, sR_s, sI_r, sI_1, sR_1]; assumption) | omega | (simp only [aT, aN, aA, aJ, aM, aF, aFl, aFs]; omega) | decide) only [↓ev_pZ0, ↓ev_pZ1, ↓ev_dv, ↓ev_rm, ↓ev_rcv, ↓ev_cal, ↓ev_bd, ↓ev_gI, ↓ev_gR, ↓ev_pI, ↓ev_pR, ↓ev_rZ0, ↓ev_rZ1, ↓ev_nulN, ↓ev_nulS, ↓ev_aI, ↓ev_sI, ↓ev_aR, ↓ev_aL, sI_1, sI_s, sI_r, sI_u, sR_1, sR_s, sR_i, vn_i, u2n, u2s, ↓if_true, ↓if_false, ↓cal_eq hq', q1' ht, ↓k_isIn, ↓if_neg hw, V_J5 V, ↓if_neg one_ne]
      · intro j hj
        obtain ⟨c1, c2, c3, c4, c5, c6, c7, c8, c9, c10, c11, c12, c13⟩ := ct j hj
        by_cases e : j = i
        · subst e
          simp (disch := first | omega | (simp only [aT, aN, aA, aJ, aM, aF, aFl, aFs]; omega)) only [sI_u, u2n, u2s]
          exact ⟨c1, c2, c3, c4, trivial, c6, c7, c8, c9, c10, c11, c12, c13⟩
        · simp (disch := first | omega | (simp only [aT, aN, aA, aJ, aM, aF, aFl, aFs]; omega)) only [sI_u, u2n, u2s]
          exact ⟨c1, c2, c3, c4, c5, c6, c7, c8, c9, c10, c11, c12, c13⟩
  · refine ⟨-1, h, h, ?_, ?_, C⟩
    · simp (disch := first | assumption | (simp only [sI_s, sR_s, sI_r, sI_1, sR_1]; assumption) | omega | (simp only [aT, aN, aA, aJ, aM, aF, aFl, aFs]; omega) | decide) only [↓ev_pZ0, ↓ev_pZ1, ↓ev_dv, ↓ev_rm, ↓ev_rcv, ↓ev_cal, ↓ev_bd, ↓ev_gI, ↓ev_gR, ↓ev_pI, ↓ev_pR, ↓ev_rZ0, ↓ev_rZ1, ↓ev_nulN, ↓ev_nulS, ↓ev_aI, ↓ev_sI, ↓ev_aR, ↓ev_aL, sI_1, sI_s, sI_r, sI_u, sR_1, sR_s, sR_i, vn_i, u2n, u2s, ↓if_true, ↓if_false, ↓k_tankOut W V b2 ht]
    · rw [ev_rcv sM, k_isTankOut W hm b2 b1 ht, if_pos rfl]
      try exact ev_rZ0
theorem o_water (C : Cpl z n nf dN hN h) (t u : Int32) : ∃ r h1 h2, f_X7_water h z t u = some (r, h1) ∧ f_X8_water h1 (aM z n) t u = some (r, h2) ∧ Cpl z n nf dN hN h2 := by
  obtain ⟨b, W, V, ct, K, KX', cx⟩ := o_start C
  obtain ⟨b1, b2, b3, b4, b5⟩ := id b
  have hm := hM0 cx
  have s0 := W_z W
  have sM := W_M W
  unfold f_X7_water f_X7_water_29 f_X8_water f_X8_water_27
  obtain ⟨q, hq, q1, q0⟩ := v_isTank W hm b2 b1 t
  by_cases ht : isT n t
  · obtain ⟨i, hi, rfl⟩ := isT_nI ht (by omega)
    have sT := W_T W hi
    have sN := W_N W hi
    have rN := V_N V hi
    have s3 := W_J3 W
    have s9 := W_J9 W
    obtain ⟨-, -, e1, -, e5, -, e3, -, e9, -⟩ := ct i hi
    have eb : h.2.2.1 z 10 = h.2.2.1 (aM z n) 27 := cx.2.2.2.1
    by_cases hw : wi u 0 (rmv (h.2.2.1 (aJ z n 9) i) (h.2.2.1 (aJ z n 1) i) (h.2.2.1 (aJ z n 5) i)) = 0
    · refine ⟨0, h, h, ?_, ?_, C⟩
      · simp (disch := first | assumption | (simp only [sI_s, sR_s, sI_r, sI_1, sR_1]; assumption) | omega | (simp only [aT, aN, aA, aJ, aM, aF, aFl, aFs]; omega) | decide) only [↓ev_pZ0, ↓ev_pZ1, ↓ev_dv, ↓ev_rm, ↓ev_rcv, ↓ev_cal, ↓ev_bd, ↓ev_gI, ↓ev_gR, ↓ev_pI, ↓ev_pR, ↓ev_rZ0, ↓ev_rZ1, ↓ev_nulN, ↓ev_nulS, ↓ev_aI, ↓ev_sI, ↓ev_aR, ↓ev_aL, sI_1, sI_s, sI_r, sI_u, sR_1, sR_s, sR_i, vn_i, u2n, u2s, ↓if_true, ↓if_false, ↓k_tankIn W V b2 hi, ↓k_isWithin, rN, ↓k_roomIf W hi, e1, e5, e9, ↓if_pos hw]
      · simp (disch := first | assumption | (simp only [sI_s, sR_s, sI_r, sI_1, sR_1]; assumption) | omega | (simp only [aT, aN, aA, aJ, aM, aF, aFl, aFs]; omega) | decide) only [↓ev_pZ0, ↓ev_pZ1, ↓ev_dv, ↓ev_rm, ↓ev_rcv, ↓ev_cal, ↓ev_bd, ↓ev_gI, ↓ev_gR, ↓ev_pI, ↓ev_pR, ↓ev_rZ0, ↓ev_rZ1, ↓ev_nulN, ↓ev_nulS, ↓ev_aI, ↓ev_sI, ↓ev_aR, ↓ev_aL, sI_1, sI_s, sI_r, sI_u, sR_1, sR_s, sR_i, vn_i, u2n, u2s, ↓if_true, ↓if_false, ↓k_isTankIn W hm b2 b1 hi, ↓k_isIn, ↓if_pos hw, ↓if_neg one_ne, V_J9 V, ↓k_room W V (show i < 11 by omega)]
    · generalize hx : h.2.2.1 (aM z n) 27 + (u - h.2.2.1 (aJ z n 3) i) = x
      have W1 : WS z n nf (setI (setI h z 10 x) (aN z n i) 0 u) := W
      have V1 : WR z n nf (setI (setI h z 10 x) (aN z n i) 0 u) := V
      refine ⟨1, setI (setI h z 10 x) (aN z n i) 0 u, setI (setI (setI (setI h z 10 x) (aN z n i) 0 u) (aM z n) 27 x) (aJ z n 3) i u, ?_, ?_, Cpl_T b W V ?_ ?_⟩
      · simp (disch := first | assumption | (simp only [sI_s, sR_s, sI_r, sI_1, sR_1]; assumption) | omega | (simp only [aT, aN, aA, aJ, aM, aF, aFl, aFs]; omega) | decide) only [↓ev_pZ0, ↓ev_pZ1, ↓ev_dv, ↓ev_rm, ↓ev_rcv, ↓ev_cal, ↓ev_bd, ↓ev_gI, ↓ev_gR, ↓ev_pI, ↓ev_pR, ↓ev_rZ0, ↓ev_rZ1, ↓ev_nulN, ↓ev_nulS, ↓ev_aI, ↓ev_sI, ↓ev_aR, ↓ev_aL, sI_1, sI_s, sI_r, sI_u, sR_1, sR_s, sR_i, vn_i, u2n, u2s, ↓if_true, ↓if_false, ↓k_tankIn W V b2 hi, ↓k_isWithin, rN, ↓k_roomIf W hi, e1, e5, e9, e3, eb, hx, ↓if_neg hw]
      · obtain ⟨q', hq', q1', -⟩ := v_isTank (h := setI (setI h z 10 x) (aN z n i) 0 u) W (by simp (disch := first | omega | (simp only [aT, aN, aA, aJ, aM, aF, aFl, aFs]; omega)) only [sI_u, u2n]; exact hm) b2 b1 (nI i)
        simp (disch := first | assumption | (simp only [sI_s, sR_s, sI_r, sI_1, sR_1]; assumption) | omega | (simp only [aT, aN, aA, aJ, aM, aF, aFl, aFs]; omega) | decide) only [↓ev_pZ0, ↓ev_pZ1, ↓ev_dv, ↓ev_rm, ↓ev_rcv, ↓ev_cal, ↓ev_bd, ↓ev_gI, ↓ev_gR, ↓ev_pI, ↓ev_pR, ↓ev_rZ0, ↓ev_rZ1, ↓ev_nulN, ↓ev_nulS, ↓ev_aI, ↓ev_sI, ↓ev_aR, ↓ev_aL, sI_1, sI_s, sI_r, sI_u, sR_1, sR_s, sR_i, vn_i, u2n, u2s, ↓if_true, ↓if_false, ↓cal_eq hq', q1' ht, ↓k_isIn, ↓if_neg hw, V_J9 V, V_J3 V, ↓k_room W1 V1 (show i < 11 by omega), ↓if_neg one_ne, hx]
      · intro j hj
        obtain ⟨c1, c2, c3, c4, c5, c6, c7, c8, c9, c10, c11, c12, c13⟩ := ct j hj
        by_cases e : j = i
        · subst e
          simp (disch := first | omega | (simp only [aT, aN, aA, aJ, aM, aF, aFl, aFs]; omega)) only [sI_u, u2n, u2s]
          exact ⟨c1, c2, c3, c4, c5, c6, trivial, c8, c9, c10, c11, c12, c13⟩
        · simp (disch := first | omega | (simp only [aT, aN, aA, aJ, aM, aF, aFl, aFs]; omega)) only [sI_u, u2n, u2s]
          exact ⟨c1, c2, c3, c4, c5, c6, c7, c8, c9, c10, c11, c12, c13⟩
      · have k1 : KX z n nf (setI (setI h z 10 x) (aM z n) 27 x) := KX_u (KX_u KX' (Or.inl rfl)) (Or.inr (Or.inr (Or.inr ⟨rfl, by omega⟩)))
        have x1 : CX z n nf dN hN (setI (setI h z 10 x) (aM z n) 27 x).2.2.1 := by
          obtain ⟨x1, x2, x3, x4, x5, x6, x7, x8, x9, x10, x11, x12, x13, x14, x15, x16, x17⟩ := cx
          unfold CX
          simp (disch := first | omega | (simp only [aT, aN, aA, aJ, aM, aF, aFl, aFs]; omega)) only [sI_u, u2n, u2s]
          exact ⟨x1, x2, x3, trivial, x5, x6, x7, x8, x9, x10, x11, x12, x13, x14, x15, x16, x17⟩
        have k2 : KT z n nf dN hN (setI (setI h z 10 x) (aM z n) 27 x) := ⟨k1.2.1, x1, k1.2.2⟩
        have k3 := KT_u (x := u) (k := 0) (a := aN z n i) k2 (by (first | omega | (simp only [aT, aN, aA, aJ, aM, aF, aFl, aFs]; omega)))
        have k4 := KT_u (x := u) (k := i) (a := aJ z n 3) k3 (by (first | omega | (simp only [aT, aN, aA, aJ, aM, aF, aFl, aFs]; omega)))
        have ec : setI (setI (setI (setI h z 10 x) (aN z n i) 0 u) (aM z n) 27 x) (aJ z n 3) i u = setI (setI (setI (setI h z 10 x) (aM z n) 27 x) (aN z n i) 0 u) (aJ z n 3) i u := by
          rw [setI_comm (a := aN z n i) (b := aM z n) (by (first | omega | (simp only [aT, aN, aA, aJ, aM, aF, aFl, aFs]; omega)))]
        rw [ec]
        exact k4
  · refine ⟨0, h, h, ?_, ?_, C⟩
    · simp (disch := first | assumption | (simp only [sI_s, sR_s, sI_r, sI_1, sR_1]; assumption) | omega | (simp only [aT, aN, aA, aJ, aM, aF, aFl, aFs]; omega) | decide) only [↓ev_pZ0, ↓ev_pZ1, ↓ev_dv, ↓ev_rm, ↓ev_rcv, ↓ev_cal, ↓ev_bd, ↓ev_gI, ↓ev_gR, ↓ev_pI, ↓ev_pR, ↓ev_rZ0, ↓ev_rZ1, ↓ev_nulN, ↓ev_nulS, ↓ev_aI, ↓ev_sI, ↓ev_aR, ↓ev_aL, sI_1, sI_s, sI_r, sI_u, sR_1, sR_s, sR_i, vn_i, u2n, u2s, ↓if_true, ↓if_false, ↓k_tankOut W V b2 ht]
    · rw [ev_rcv sM, k_isTankOut W hm b2 b1 ht, if_pos rfl]
      try exact ev_rZ0
theorem o_tank (C : Cpl z n nf dN hN h) (t u v w : Int32) : ∃ r h1 h2, f_X7_tank h z t u v w = some (r, h1) ∧ f_X8_tank h1 (aM z n) t u v w = some (r, h2) ∧ Cpl z n nf dN hN h2 := by
  obtain ⟨b, W, V, ct, K, -, cx⟩ := o_start C
  obtain ⟨b1, b2, b3, b4, b5⟩ := id b
  have hm := hM0 cx
  have s0 := W_z W
  have sM := W_M W
  have ed : h.2.2.1 z 8 = h.2.2.1 (aM z n) 1 := by rw [cx.2.1, cx.2.2.2.2.2.2.2.2.2.1]
  unfold f_X7_tank f_X7_tank_50 f_X7_tank_51 f_X7_tank_65 f_X8_tank f_X8_tank_49
  obtain ⟨q, hq, q1, q0⟩ := v_isTank W hm b2 b1 t
  by_cases ht : isT n t
  · obtain ⟨i, hi, rfl⟩ := isT_nI ht (by omega)
    have sT := W_T W hi
    have s00 := W_J0 W
    have s1 := W_J1 W
    have s2 := W_J2 W
    by_cases hu : wi u 0 20 = 0
    · refine ⟨0, h, h, ?_, ?_, C⟩
      · simp (disch := first | assumption | (simp only [sI_s, sR_s, sI_r, sI_1, sR_1]; assumption) | omega | (simp only [aT, aN, aA, aJ, aM, aF, aFl, aFs]; omega) | decide) only [↓ev_pZ0, ↓ev_pZ1, ↓ev_dv, ↓ev_rm, ↓ev_rcv, ↓ev_cal, ↓ev_bd, ↓ev_gI, ↓ev_gR, ↓ev_pI, ↓ev_pR, ↓ev_rZ0, ↓ev_rZ1, ↓ev_nulN, ↓ev_nulS, ↓ev_aI, ↓ev_sI, ↓ev_aR, ↓ev_aL, sI_1, sI_s, sI_r, sI_u, sR_1, sR_s, sR_i, vn_i, u2n, u2s, ↓if_true, ↓if_false, ↓k_tankIn W V b2 hi, ↓k_isWithin, ↓if_pos hu]
      · simp (disch := first | assumption | (simp only [sI_s, sR_s, sI_r, sI_1, sR_1]; assumption) | omega | (simp only [aT, aN, aA, aJ, aM, aF, aFl, aFs]; omega) | decide) only [↓ev_pZ0, ↓ev_pZ1, ↓ev_dv, ↓ev_rm, ↓ev_rcv, ↓ev_cal, ↓ev_bd, ↓ev_gI, ↓ev_gR, ↓ev_pI, ↓ev_pR, ↓ev_rZ0, ↓ev_rZ1, ↓ev_nulN, ↓ev_nulS, ↓ev_aI, ↓ev_sI, ↓ev_aR, ↓ev_aL, sI_1, sI_s, sI_r, sI_u, sR_1, sR_s, sR_i, vn_i, u2n, u2s, ↓if_true, ↓if_false, ↓k_isTankIn W hm b2 b1 hi, ↓k_isIn, ↓if_pos hu, ↓if_neg one_ne]
    by_cases hv : wi v 10 1000 = 0
    · refine ⟨0, h, h, ?_, ?_, C⟩
      · simp (disch := first | assumption | (simp only [sI_s, sR_s, sI_r, sI_1, sR_1]; assumption) | omega | (simp only [aT, aN, aA, aJ, aM, aF, aFl, aFs]; omega) | decide) only [↓ev_pZ0, ↓ev_pZ1, ↓ev_dv, ↓ev_rm, ↓ev_rcv, ↓ev_cal, ↓ev_bd, ↓ev_gI, ↓ev_gR, ↓ev_pI, ↓ev_pR, ↓ev_rZ0, ↓ev_rZ1, ↓ev_nulN, ↓ev_nulS, ↓ev_aI, ↓ev_sI, ↓ev_aR, ↓ev_aL, sI_1, sI_s, sI_r, sI_u, sR_1, sR_s, sR_i, vn_i, u2n, u2s, ↓if_true, ↓if_false, ↓k_tankIn W V b2 hi, ↓k_isWithin, ↓if_neg hu, ↓if_pos hv]
      · simp (disch := first | assumption | (simp only [sI_s, sR_s, sI_r, sI_1, sR_1]; assumption) | omega | (simp only [aT, aN, aA, aJ, aM, aF, aFl, aFs]; omega) | decide) only [↓ev_pZ0, ↓ev_pZ1, ↓ev_dv, ↓ev_rm, ↓ev_rcv, ↓ev_cal, ↓ev_bd, ↓ev_gI, ↓ev_gR, ↓ev_pI, ↓ev_pR, ↓ev_rZ0, ↓ev_rZ1, ↓ev_nulN, ↓ev_nulS, ↓ev_aI, ↓ev_sI, ↓ev_aR, ↓ev_aL, sI_1, sI_s, sI_r, sI_u, sR_1, sR_s, sR_i, vn_i, u2n, u2s, ↓if_true, ↓if_false, ↓k_isTankIn W hm b2 b1 hi, ↓k_isIn, ↓if_neg hu, ↓if_pos hv, ↓if_neg one_ne]
    by_cases hw : wi w 0 500 = 0
    · refine ⟨0, h, h, ?_, ?_, C⟩
      · simp (disch := first | assumption | (simp only [sI_s, sR_s, sI_r, sI_1, sR_1]; assumption) | omega | (simp only [aT, aN, aA, aJ, aM, aF, aFl, aFs]; omega) | decide) only [↓ev_pZ0, ↓ev_pZ1, ↓ev_dv, ↓ev_rm, ↓ev_rcv, ↓ev_cal, ↓ev_bd, ↓ev_gI, ↓ev_gR, ↓ev_pI, ↓ev_pR, ↓ev_rZ0, ↓ev_rZ1, ↓ev_nulN, ↓ev_nulS, ↓ev_aI, ↓ev_sI, ↓ev_aR, ↓ev_aL, sI_1, sI_s, sI_r, sI_u, sR_1, sR_s, sR_i, vn_i, u2n, u2s, ↓if_true, ↓if_false, ↓k_tankIn W V b2 hi, ↓k_isWithin, ↓if_neg hu, ↓if_neg hv, ↓if_pos hw]
      · simp (disch := first | assumption | (simp only [sI_s, sR_s, sI_r, sI_1, sR_1]; assumption) | omega | (simp only [aT, aN, aA, aJ, aM, aF, aFl, aFs]; omega) | decide) only [↓ev_pZ0, ↓ev_pZ1, ↓ev_dv, ↓ev_rm, ↓ev_rcv, ↓ev_cal, ↓ev_bd, ↓ev_gI, ↓ev_gR, ↓ev_pI, ↓ev_pR, ↓ev_rZ0, ↓ev_rZ1, ↓ev_nulN, ↓ev_nulS, ↓ev_aI, ↓ev_sI, ↓ev_aR, ↓ev_aL, sI_1, sI_s, sI_r, sI_u, sR_1, sR_s, sR_i, vn_i, u2n, u2s, ↓if_true, ↓if_false, ↓k_isTankIn W hm b2 b1 hi, ↓k_isIn, ↓if_neg hu, ↓if_neg hv, ↓if_pos hw, ↓if_neg one_ne]
    by_cases hd : h.2.2.1 (aM z n) 1 ≤ 0
    · refine ⟨1, setI (setI (setI h (aT z n i) 4 u) (aT z n i) 5 v) (aT z n i) 6 w, setI (setI (setI (setI (setI (setI h (aT z n i) 4 u) (aT z n i) 5 v) (aT z n i) 6 w) (aJ z n 0) i u) (aJ z n 1) i v) (aJ z n 2) i w, ?_, ?_, Cpl_T b W V ?_ (KT_u (KT_u (KT_u (KT_u (KT_u (KT_u K (by (first | omega | (simp only [aT, aN, aA, aJ, aM, aF, aFl, aFs]; omega)))) (by (first | omega | (simp only [aT, aN, aA, aJ, aM, aF, aFl, aFs]; omega)))) (by (first | omega | (simp only [aT, aN, aA, aJ, aM, aF, aFl, aFs]; omega)))) (by (first | omega | (simp only [aT, aN, aA, aJ, aM, aF, aFl, aFs]; omega)))) (by (first | omega | (simp only [aT, aN, aA, aJ, aM, aF, aFl, aFs]; omega)))) (by (first | omega | (simp only [aT, aN, aA, aJ, aM, aF, aFl, aFs]; omega))))⟩
      · simp (disch := first | assumption | (simp only [sI_s, sR_s, sI_r, sI_1, sR_1]; assumption) | omega | (simp only [aT, aN, aA, aJ, aM, aF, aFl, aFs]; omega) | decide) only [↓ev_pZ0, ↓ev_pZ1, ↓ev_dv, ↓ev_rm, ↓ev_rcv, ↓ev_cal, ↓ev_bd, ↓ev_gI, ↓ev_gR, ↓ev_pI, ↓ev_pR, ↓ev_rZ0, ↓ev_rZ1, ↓ev_nulN, ↓ev_nulS, ↓ev_aI, ↓ev_sI, ↓ev_aR, ↓ev_aL, sI_1, sI_s, sI_r, sI_u, sR_1, sR_s, sR_i, vn_i, u2n, u2s, ↓if_true, ↓if_false, ↓k_tankIn W V b2 hi, ↓k_isWithin, ↓if_neg hu, ↓if_neg hv, ↓if_neg hw, ed, ↓if_pos hd, ↓if_neg one_ne]
      · obtain ⟨q', hq', q1', -⟩ := v_isTank (h := setI (setI (setI h (aT z n i) 4 u) (aT z n i) 5 v) (aT z n i) 6 w) W (by simp (disch := first | omega | (simp only [aT, aN, aA, aJ, aM, aF, aFl, aFs]; omega)) only [sI_u, u2n]; exact hm) b2 b1 (nI i)
        simp (disch := first | assumption | (simp only [sI_s, sR_s, sI_r, sI_1, sR_1]; assumption) | omega | (simp only [aT, aN, aA, aJ, aM, aF, aFl, aFs]; omega) | decide) only [↓ev_pZ0, ↓ev_pZ1, ↓ev_dv, ↓ev_rm, ↓ev_rcv, ↓ev_cal, ↓ev_bd, ↓ev_gI, ↓ev_gR, ↓ev_pI, ↓ev_pR, ↓ev_rZ0, ↓ev_rZ1, ↓ev_nulN, ↓ev_nulS, ↓ev_aI, ↓ev_sI, ↓ev_aR, ↓ev_aL, sI_1, sI_s, sI_r, sI_u, sR_1, sR_s, sR_i, vn_i, u2n, u2s, ↓if_true, ↓if_false, ↓cal_eq hq', q1' ht, ↓k_isIn, ↓if_neg hu, ↓if_neg hv, ↓if_neg hw, ↓if_neg one_ne, ↓if_pos hd, V_J0 V, V_J1 V, V_J2 V]
      · intro j hj
        obtain ⟨c1, c2, c3, c4, c5, c6, c7, c8, c9, c10, c11, c12, c13⟩ := ct j hj
        by_cases e : j = i
        · subst e
          simp (disch := first | omega | (simp only [aT, aN, aA, aJ, aM, aF, aFl, aFs]; omega)) only [sI_u, u2n, u2s]
          exact ⟨c1, trivial, trivial, trivial, c5, c6, c7, c8, c9, c10, c11, c12, c13⟩
        · simp (disch := first | omega | (simp only [aT, aN, aA, aJ, aM, aF, aFl, aFs]; omega)) only [sI_u, u2n, u2s]
          exact ⟨c1, c2, c3, c4, c5, c6, c7, c8, c9, c10, c11, c12, c13⟩
    · refine ⟨0, h, h, ?_, ?_, C⟩
      · simp (disch := first | assumption | (simp only [sI_s, sR_s, sI_r, sI_1, sR_1]; assumption) | omega | (simp only [aT, aN, aA, aJ, aM, aF, aFl, aFs]; omega) | decide) only [↓ev_pZ0, ↓ev_pZ1, ↓ev_dv, ↓ev_rm, ↓ev_rcv, ↓ev_cal, ↓ev_bd, ↓ev_gI, ↓ev_gR, ↓ev_pI, ↓ev_pR, ↓ev_rZ0, ↓ev_rZ1, ↓ev_nulN, ↓ev_nulS, ↓ev_aI, ↓ev_sI, ↓ev_aR, ↓ev_aL, sI_1, sI_s, sI_r, sI_u, sR_1, sR_s, sR_i, vn_i, u2n, u2s, ↓if_true, ↓if_false, ↓k_tankIn W V b2 hi, ↓k_isWithin, ↓if_neg hu, ↓if_neg hv, ↓if_neg hw, ed, ↓if_neg hd, ↓if_neg one_ne]
      · simp (disch := first | assumption | (simp only [sI_s, sR_s, sI_r, sI_1, sR_1]; assumption) | omega | (simp only [aT, aN, aA, aJ, aM, aF, aFl, aFs]; omega) | decide) only [↓ev_pZ0, ↓ev_pZ1, ↓ev_dv, ↓ev_rm, ↓ev_rcv, ↓ev_cal, ↓ev_bd, ↓ev_gI, ↓ev_gR, ↓ev_pI, ↓ev_pR, ↓ev_rZ0, ↓ev_rZ1, ↓ev_nulN, ↓ev_nulS, ↓ev_aI, ↓ev_sI, ↓ev_aR, ↓ev_aL, sI_1, sI_s, sI_r, sI_u, sR_1, sR_s, sR_i, vn_i, u2n, u2s, ↓if_true, ↓if_false, ↓k_isTankIn W hm b2 b1 hi, ↓k_isIn, ↓if_neg hu, ↓if_neg hv, ↓if_neg hw, ↓if_neg hd, ↓if_neg one_ne]
  · refine ⟨0, h, h, ?_, ?_, C⟩
    · simp (disch := first | assumption | (simp only [sI_s, sR_s, sI_r, sI_1, sR_1]; assumption) | omega | (simp only [aT, aN, aA, aJ, aM, aF, aFl, aFs]; omega) | decide) only [↓ev_pZ0, ↓ev_pZ1, ↓ev_dv, ↓ev_rm, ↓ev_rcv, ↓ev_cal, ↓ev_bd, ↓ev_gI, ↓ev_gR, ↓ev_pI, ↓ev_pR, ↓ev_rZ0, ↓ev_rZ1, ↓ev_nulN, ↓ev_nulS, ↓ev_aI, ↓ev_sI, ↓ev_aR, ↓ev_aL, sI_1, sI_s, sI_r, sI_u, sR_1, sR_s, sR_i, vn_i, u2n, u2s, ↓if_true, ↓if_false, ↓k_tankOut W V b2 ht]
    · rw [ev_rcv sM, k_isTankOut W hm b2 b1 ht, if_pos rfl]
      try exact ev_rZ0
end OP
