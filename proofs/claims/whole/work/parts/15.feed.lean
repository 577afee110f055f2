/-! ===== feed ===== -/
section FE
variable {z n nf dN hN : Nat} {h : AH}
/-- bytes put behind N, at row a, counter at (b, k) -/
def putsA (a b k : Nat) : AH → Nat → List Int32 → AH
  | h, _, [] => h
  | h, N, x :: l => putsA a b k (setI (setI h a N x) b k (nI (N + 1))) (N + 1) l
theorem putsA_app (a b k : Nat) : ∀ (l m : List Int32) (h : AH) (N : Nat), putsA a b k h N (l ++ m) = putsA a b k (putsA a b k h N l) (N + l.length) m := by
  intro l
  induction l with
  | nil => intro m h N; rfl
  | cons x l ih =>
    intro m h N
    rw [List.cons_append, putsA, putsA, ih, List.length_cons, show N + 1 + l.length = N + (l.length + 1) by omega]
theorem putsA_keep (a b k : Nat) : ∀ (l : List Int32) (h : AH) (N : Nat), (putsA a b k h N l).1 = h.1 ∧ (putsA a b k h N l).2.1 = h.2.1 ∧ (putsA a b k h N l).2.2.2 = h.2.2.2 := by
  intro l
  induction l with
  | nil => intro h N; exact ⟨rfl, rfl, rfl⟩
  | cons x l ih => intro h N; exact ih _ _
theorem putsA_cnt (a b k : Nat) (hab : a ≠ b) : ∀ (l : List Int32) (h : AH) (N : Nat), h.2.2.1 b k = nI N → (putsA a b k h N l).2.2.1 b k = nI (N + l.length) := by
  intro l
  induction l with
  | nil => intro h N e; exact e
  | cons x l ih =>
    intro h N e
    rw [putsA, ih _ _ (by rw [sI_u, u2s]), List.length_cons, show N + 1 + l.length = N + (l.length + 1) by omega]
theorem putsA_oth (a b k : Nat) (c : Nat) (j : Nat) (h1 : c ≠ a) (h2 : c ≠ b ∨ j ≠ k) : ∀ (l : List Int32) (h : AH) (N : Nat), (putsA a b k h N l).2.2.1 c j = h.2.2.1 c j := by
  intro l
  induction l with
  | nil => intro h N; rfl
  | cons x l ih =>
    intro h N
    rw [putsA, ih, sI_u, u2n (by omega), sI_u, u2n (by omega)]
/-- two rows alike stay alike -/
theorem putsA_two (a b k a' b' k' : Nat) (hab : a ≠ b) (hab' : a' ≠ b') : ∀ (l : List Int32) (h h' : AH) (N : Nat), (∀ i, i < 300 → h.2.2.1 a i = h'.2.2.1 a' i) → ∀ i, i < 300 → (putsA a b k h N l).2.2.1 a i = (putsA a' b' k' h' N l).2.2.1 a' i := by
  intro l
  induction l with
  | nil => intro h h' N e; exact e
  | cons x l ih =>
    intro h h' N e
    refine ih _ _ _ (fun i hi => ?_)
    simp only [sI_u]
    rw [u2n (Or.inl hab), u2n (Or.inl hab')]
    by_cases q : i = N
    · subst q
      rw [u2s, u2s]
    · rw [u2n (Or.inr q), u2n (Or.inr q)]
      exact e i hi
/-- narrow bytes stay so -/
theorem putsA_nar (a b k : Nat) (hab : a ≠ b) : ∀ (l : List Int32) (h : AH) (N : Nat), (∀ x ∈ l, vp_nar .byte x = x) → (∀ i, i < 300 → vp_nar .byte (h.2.2.1 a i) = h.2.2.1 a i) → ∀ i, i < 300 → vp_nar .byte ((putsA a b k h N l).2.2.1 a i) = (putsA a b k h N l).2.2.1 a i := by
  intro l
  induction l with
  | nil => intro h N _ e; exact e
  | cons x l ih =>
    intro h N hl e
    refine ih _ _ (fun y hy => hl y (List.mem_cons_of_mem _ hy)) (fun i hi => ?_)
    simp only [sI_u]
    rw [u2n (Or.inl hab)]
    by_cases q : i = N
    · subst q
      rw [u2s]
      exact hl x List.mem_cons_self
    · rw [u2n (Or.inr q)]
      exact e i hi
def bt (x : Int32) : Int32 := vp_nar .byte (Int8.toInt32 (Int32.toInt8 x))
theorem bt_nar (x : Int32) : vp_nar .byte (bt x) = bt x := by
  show Int8.toInt32 (Int32.toInt8 (Int8.toInt32 (Int32.toInt8 (Int8.toInt32 (Int32.toInt8 x))))) = Int8.toInt32 (Int32.toInt8 (Int8.toInt32 (Int32.toInt8 x)))
  rw [Int8.toInt8_toInt32, Int8.toInt8_toInt32]
def four (x : Int32) : List Int32 := [bt (x >>> (24 &&& 31)), bt (x >>> (16 &&& 31)), bt (x >>> (8 &&& 31)), bt x]
theorem v_putByte (W : WS z n nf h) (V : WR z n nf h) (N : Nat) (hN : N < 300) (hc : h.2.2.1 (z + 2) 1 = nI N) (x : Int32) : f_X6_putByte h (z + 2) x = some ((), putsA (z + 3) (z + 2) 1 h N [bt x]) := by
  have s2 := W_tp W
  have s3 := W_tb W
  unfold f_X6_putByte f_X6_putByte_40
  have e1 : ¬ nI N < 0 := nI_pos (by omega)
  have e2 : ¬ Int32.ofNat 300 ≤ nI N := nI_ge hN (by omega)
  simp (disch := first | assumption | (simp only [sI_s, sR_s, sI_r, sI_1, sR_1]; assumption) | omega | (simp only [aT, aN, aA, aJ, aM, aF, aFl, aFs]; omega) | decide) only [↓ev_pZ0, ↓ev_pZ1, ↓ev_dv, ↓ev_rm, ↓ev_rcv, ↓ev_cal, ↓ev_bd, ↓ev_gI, ↓ev_gR, ↓ev_pI, ↓ev_pR, ↓ev_rZ0, ↓ev_rZ1, ↓ev_nulN, ↓ev_nulS, ↓ev_aI, ↓ev_sI, ↓ev_aR, ↓ev_aL, sI_1, sI_s, sI_r, sI_u, sR_1, sR_s, sR_i, vn_i, u2n, u2s, ↓if_true, ↓if_false, hc, ↓if_neg e1, V_tb V, ↓if_neg e2, nI_1]
  rfl
theorem v_putFour (W : WS z n nf h) (V : WR z n nf h) (N : Nat) (hN : N + 4 ≤ 300) (hc : h.2.2.1 (z + 2) 1 = nI N) (x : Int32) : f_X6_putFour h (z + 2) x = some ((), putsA (z + 3) (z + 2) 1 h N (four x)) := by
  have s2 := W_tp W
  have sh : ∀ l, (putsA (z + 3) (z + 2) 1 h N l).2.1 = h.2.1 := fun l => (putsA_keep _ _ _ l h N).2.1
  have key : ∀ (l : List Int32) (x : Int32), l.length ≤ 3 → f_X6_putByte (putsA (z + 3) (z + 2) 1 h N l) (z + 2) x = some ((), putsA (z + 3) (z + 2) 1 h N (l ++ [bt x])) := by
    intro l x hl
    obtain ⟨k1, k2, k3⟩ := putsA_keep (z + 3) (z + 2) 1 l h N
    have W1 : WS z n nf (putsA (z + 3) (z + 2) 1 h N l) := by unfold WS; rw [k1, k2]; exact W
    have V1 : WR z n nf (putsA (z + 3) (z + 2) 1 h N l) := by unfold WR; rw [k3]; exact V
    rw [v_putByte W1 V1 (N + l.length) (by omega) (putsA_cnt _ _ _ (by omega) l h N hc), putsA_app]
  unfold f_X6_putFour
  have k0 : ∀ x, f_X6_putByte h (z + 2) x = some ((), putsA (z + 3) (z + 2) 1 h N ([] ++ [bt x])) := fun x => key [] x (by simp)
  rw [ev_rcv s2, cal_eq (k0 _), ev_rcv (by rw [sh]; exact s2), cal_eq (key _ _ (by simp)), ev_rcv (by rw [sh]; exact s2), cal_eq (key _ _ (by simp)), ev_rcv (by rw [sh]; exact s2), cal_eq (key _ _ (by simp))]
  rfl
theorem v_four (W : WS z n nf h) (V : WR z n nf h) (N : Nat) (hN : N + 4 ≤ 300) (hc : h.2.2.1 (aM z n) 33 = nI N) (x : Int32) : f_X8_four h (aM z n) x = some ((), putsA (aJ z n 19) (aM z n) 33 h N (four x)) := by
  have step : ∀ (m : Nat) (l : List Int32) (k k' : Int32), l.length ≤ 3 → ¬ k < 0 → k + (-8) = k' → f_X8_four_3 (m + 1) (putsA (aJ z n 19) (aM z n) 33 h N l) (aM z n) x k = f_X8_four_3 m (putsA (aJ z n 19) (aM z n) 33 h N (l ++ [bt (x >>> (k &&& 31))])) (aM z n) x k' := by
    intro m l k k' hl hk hk'
    obtain ⟨k1, k2, k3⟩ := putsA_keep (aJ z n 19) (aM z n) 33 l h N
    have W1 : WS z n nf (putsA (aJ z n 19) (aM z n) 33 h N l) := by unfold WS; rw [k1, k2]; exact W
    have V1 : WR z n nf (putsA (aJ z n 19) (aM z n) 33 h N l) := by unfold WR; rw [k3]; exact V
    have c1 := putsA_cnt (aJ z n 19) (aM z n) 33 (by (first | omega | (simp only [aT, aN, aA, aJ, aM, aF, aFl, aFs]; omega))) l h N hc
    rw [putsA_app]
    generalize putsA (aJ z n 19) (aM z n) 33 h N l = g at W1 V1 c1 ⊢
    have sM := W_M W1
    have s19 := W_J19 W1
    rw [f_X8_four_3]
    simp (disch := first | assumption | (simp only [sI_s, sR_s, sI_r, sI_1, sR_1]; assumption) | omega | (simp only [aT, aN, aA, aJ, aM, aF, aFl, aFs]; omega) | decide) only [↓ev_pZ0, ↓ev_pZ1, ↓ev_dv, ↓ev_rm, ↓ev_rcv, ↓ev_cal, ↓ev_bd, ↓ev_gI, ↓ev_gR, ↓ev_pI, ↓ev_pR, ↓ev_rZ0, ↓ev_rZ1, ↓ev_nulN, ↓ev_nulS, ↓ev_aI, ↓ev_sI, ↓ev_aR, ↓ev_aL, sI_1, sI_s, sI_r, sI_u, sR_1, sR_s, sR_i, vn_i, u2n, u2s, ↓if_true, ↓if_false, ↓if_neg hk, V_J19 V1, c1, nI_1, hk']
    rfl
  unfold f_X8_four
  rw [show FU = 995 + 1 + 1 + 1 + 1 + 1 from rfl]
  have e0 : h = putsA (aJ z n 19) (aM z n) 33 h N [] := rfl
  rw [show f_X8_four_3 (995 + 1 + 1 + 1 + 1 + 1) h (aM z n) x 24 = f_X8_four_3 (995 + 1 + 1 + 1 + 1 + 1) (putsA (aJ z n 19) (aM z n) 33 h N []) (aM z n) x 24 from rfl]
  rw [step _ [] 24 16 (by simp) (by decide) (by decide), step _ _ 16 8 (by simp) (by decide) (by decide), step _ _ 8 0 (by simp) (by decide) (by decide), step _ _ 0 (-8) (by simp) (by decide) (by decide)]
  rw [f_X8_four_3, if_pos (by decide)]
  have e : x >>> ((0 : Int32) &&& 31) = x := by
    rw [show ((0 : Int32) &&& 31) = 0 by decide]
    exact Int32.shiftRight_zero
  rw [e]
  rfl
/-- all but numbers and tape -/
theorem KF_u {I : Nat → Nat → Int32} {Rr : Nat → Nat → Option Nat} {a k : Nat} {x : Int32} (C : CT z n I ∧ CF z n nf I ∧ CC z n I ∧ CO z n nf I ∧ CH z n nf I Rr) (hb : a = z + 2 ∨ a = z + 3 ∨ a = aJ z n 19 ∨ (a = aM z n ∧ k = 33)) : CT z n (u2 I a k x) ∧ CF z n nf (u2 I a k x) ∧ CC z n (u2 I a k x) ∧ CO z n nf (u2 I a k x) ∧ CH z n nf (u2 I a k x) Rr := by
  obtain ⟨ct, cf, cc, co, ch⟩ := C
  have hb2 : a = z + 2 ∨ a = z + 3 ∨ a = z + 32 + 3 * n ∨ (a = z + 12 + 3 * n ∧ k = 33) := by
    unfold aJ aM at hb
    omega
  refine ⟨CT_u ct (fun i hi => ⟨?_, ?_⟩) (fun j hj => ?_), CF_u cf (fun f hf => ?_) (fun j h1 h2 => ?_), CC_u cc ?_ ?_ ?_ ?_, CO_u co ?_ ?_ ?_ ?_ ?_ ?_, CH_u ch (fun j h1 h2 => ?_) (Or.inl ?_) ?_⟩
  all_goals first | omega | (first | omega | (simp only [aT, aN, aA, aJ, aM, aF, aFl, aFs]; omega))
theorem KF_puts (a b k : Nat) (ha : a = z + 3 ∨ a = aJ z n 19) (hb : b = z + 2 ∨ (b = aM z n ∧ k = 33)) : ∀ (l : List Int32) (h : AH) (N : Nat), (CT z n h.2.2.1 ∧ CF z n nf h.2.2.1 ∧ CC z n h.2.2.1 ∧ CO z n nf h.2.2.1 ∧ CH z n nf h.2.2.1 h.2.2.2) → (CT z n (putsA a b k h N l).2.2.1 ∧ CF z n nf (putsA a b k h N l).2.2.1 ∧ CC z n (putsA a b k h N l).2.2.1 ∧ CO z n nf (putsA a b k h N l).2.2.1 ∧ CH z n nf (putsA a b k h N l).2.2.1 h.2.2.2) := by
  intro l
  induction l with
  | nil => intro h N C; exact C
  | cons x l ih =>
    intro h N C
    refine ih _ _ ?_
    refine KF_u (KF_u C ?_) ?_
    · rcases ha with q | q
      · exact Or.inr (Or.inl q)
      · exact Or.inr (Or.inr (Or.inl q))
    · rcases hb with q | q
      · exact Or.inl q
      · exact Or.inr (Or.inr (Or.inr q))
theorem four_len (x : Int32) : (four x).length = 4 := rfl
def twenty (a b c d e : Int32) : List Int32 := (((four a ++ four b) ++ four c) ++ four d) ++ four e
theorem o_feed (C : Cpl z n nf dN hN h) (a b c d e : Int32) : ∃ r h1 h2 hN', f_X7_feed h z a b c d e = some (r, h1) ∧ f_X8_feed h1 (aM z n) a b c d e = some (r, h2) ∧ Cpl z n nf dN hN' h2 := by
  obtain ⟨bb, W, V, ct, K, KX', cx⟩ := o_start C
  obtain ⟨b1, b2, b3, b4, b5⟩ := id bb
  have s0 := W_z W
  have sM := W_M W
  have s2 := W_tp W
  have x16 : h.2.2.1 (z + 2) 1 = nI hN := cx.2.2.2.2.2.2.2.2.2.2.2.2.2.2.2.1
  have x17 : h.2.2.1 (aM z n) 33 = nI hN := cx.2.2.2.2.2.2.2.2.2.2.2.2.2.2.2.2
  have e20 : nI hN + 20 = nI (hN + 20) := nI_add hN 20
  unfold f_X7_feed f_X8_feed
  by_cases hh : hN + 20 ≤ 300
  · have hle : nI (hN + 20) ≤ 300 := nI_le (b := 300) hh (by omega)
    generalize hc1 : putsA (z + 3) (z + 2) 1 h hN (twenty a b c d e) = hC
    have hne : z + 3 ≠ z + 2 := by omega
    have key : ∀ (g : AH) (l : List Int32) (x : Int32) (N : Nat), g = putsA (z + 3) (z + 2) 1 h hN l → N = hN + l.length → N + 4 ≤ 300 → f_X6_putFour g (z + 2) x = some ((), putsA (z + 3) (z + 2) 1 h hN (l ++ four x)) := by
      intro g l x N hg hN1 hN2
      subst hg
      subst hN1
      obtain ⟨k1, k2, k3⟩ := putsA_keep (z + 3) (z + 2) 1 l h hN
      have W1 : WS z n nf (putsA (z + 3) (z + 2) 1 h hN l) := by unfold WS; rw [k1, k2]; exact W
      have V1 : WR z n nf (putsA (z + 3) (z + 2) 1 h hN l) := by unfold WR; rw [k3]; exact V
      rw [v_putFour W1 V1 _ hN2 (putsA_cnt _ _ _ hne l h hN x16), putsA_app]
    have keyM : ∀ (h0 : AH) (W0 : WS z n nf h0) (V0 : WR z n nf h0) (hc0 : h0.2.2.1 (aM z n) 33 = nI hN) (g : AH) (l : List Int32) (x : Int32) (N : Nat), g = putsA (aJ z n 19) (aM z n) 33 h0 hN l → N = hN + l.length → N + 4 ≤ 300 → f_X8_four g (aM z n) x = some ((), putsA (aJ z n 19) (aM z n) 33 h0 hN (l ++ four x)) := by
      intro h0 W0 V0 hc0 g l x N hg hN1 hN2
      subst hg
      subst hN1
      obtain ⟨k1, k2, k3⟩ := putsA_keep (aJ z n 19) (aM z n) 33 l h0 hN
      have W1 : WS z n nf (putsA (aJ z n 19) (aM z n) 33 h0 hN l) := by unfold WS; rw [k1, k2]; exact W0
      have V1 : WR z n nf (putsA (aJ z n 19) (aM z n) 33 h0 hN l) := by unfold WR; rw [k3]; exact V0
      rw [v_four W1 V1 _ hN2 (putsA_cnt _ _ _ (by (first | omega | (simp only [aT, aN, aA, aJ, aM, aF, aFl, aFs]; omega))) l h0 hN hc0), putsA_app]
    have sh : ∀ l, (putsA (z + 3) (z + 2) 1 h hN l).2.1 = h.2.1 := fun l => (putsA_keep _ _ _ l h hN).2.1
    have rr : ∀ l, (putsA (z + 3) (z + 2) 1 h hN l).2.2.2 = h.2.2.2 := fun l => (putsA_keep _ _ _ l h hN).2.2
    have hC1 : hC.2.1 = h.2.1 := by rw [← hc1]; exact sh _
    have hC2 : hC.2.2.2 = h.2.2.2 := by rw [← hc1]; exact rr _
    have WC : WS z n nf hC := by unfold WS; rw [← hc1, (putsA_keep _ _ _ _ h hN).1, sh]; exact W
    have VC : WR z n nf hC := by unfold WR; rw [hC2]; exact V
    have cC : hC.2.2.1 (aM z n) 33 = nI hN := by rw [← hc1, putsA_oth _ _ _ _ _ (by (first | omega | (simp only [aT, aN, aA, aJ, aM, aF, aFl, aFs]; omega))) (by (first | omega | (simp only [aT, aN, aA, aJ, aM, aF, aFl, aFs]; omega)))]; exact x17
    have shM : ∀ l, (putsA (aJ z n 19) (aM z n) 33 hC hN l).2.1 = h.2.1 := fun l => by rw [(putsA_keep _ _ _ l hC hN).2.1, hC1]
    refine ⟨nI (hN + 20), hC, putsA (aJ z n 19) (aM z n) 33 hC hN (twenty a b c d e), hN + 20, ?_, ?_, ?_⟩
    · rw [ev_gR s0, V_tp V, ev_gI s2, x16, e20, if_pos hle, ev_gR s0, V_tp V, ev_rcv s2, cal_eq (key h [] a hN rfl rfl (by omega))]
      rw [ev_gR (by rw [sh]; exact s0), rr, V_tp V, ev_rcv (by rw [sh]; exact s2), cal_eq (key _ ([] ++ four a) b (hN + 4) rfl rfl (by omega))]
      rw [ev_gR (by rw [sh]; exact s0), rr, V_tp V, ev_rcv (by rw [sh]; exact s2), cal_eq (key _ (([] ++ four a) ++ four b) c (hN + 8) rfl rfl (by omega))]
      rw [ev_gR (by rw [sh]; exact s0), rr, V_tp V, ev_rcv (by rw [sh]; exact s2), cal_eq (key _ ((([] ++ four a) ++ four b) ++ four c) d (hN + 12) rfl rfl (by omega))]
      rw [ev_gR (by rw [sh]; exact s0), rr, V_tp V, ev_rcv (by rw [sh]; exact s2), cal_eq (key _ (((([] ++ four a) ++ four b) ++ four c) ++ four d) e (hN + 16) rfl rfl (by omega))]
      rw [ev_gR (by rw [sh]; exact s0), rr, V_tp V, ev_gI (by rw [sh]; exact s2), putsA_cnt _ _ _ hne _ h hN x16, ← hc1]
      rfl
    · rw [ev_gI (by rw [hC1]; exact sM), cC, e20, if_pos hle, ev_rcv (by rw [hC1]; exact sM), cal_eq (keyM hC WC VC cC hC [] a hN rfl rfl (by omega))]
      rw [ev_rcv (by rw [shM]; exact sM), cal_eq (keyM hC WC VC cC _ ([] ++ four a) b (hN + 4) rfl rfl (by omega))]
      rw [ev_rcv (by rw [shM]; exact sM), cal_eq (keyM hC WC VC cC _ (([] ++ four a) ++ four b) c (hN + 8) rfl rfl (by omega))]
      rw [ev_rcv (by rw [shM]; exact sM), cal_eq (keyM hC WC VC cC _ ((([] ++ four a) ++ four b) ++ four c) d (hN + 12) rfl rfl (by omega))]
      rw [ev_rcv (by rw [shM]; exact sM), cal_eq (keyM hC WC VC cC _ (((([] ++ four a) ++ four b) ++ four c) ++ four d) e (hN + 16) rfl rfl (by omega))]
      rw [ev_gI (by rw [shM]; exact sM), putsA_cnt _ _ _ (by (first | omega | (simp only [aT, aN, aA, aJ, aM, aF, aFl, aFs]; omega))) _ hC hN cC]
      rfl
    · have k0 : CT z n h.2.2.1 ∧ CF z n nf h.2.2.1 ∧ CC z n h.2.2.1 ∧ CO z n nf h.2.2.1 ∧ CH z n nf h.2.2.1 h.2.2.2 := ⟨ct, K.1, K.2.2.2.1, K.2.2.2.2.1, K.2.2.2.2.2⟩
      have k1 := KF_puts (z + 3) (z + 2) 1 (Or.inl rfl) (Or.inl rfl) (twenty a b c d e) h hN k0
      rw [hc1] at k1
      rw [← hC2] at k1
      have k2 := KF_puts (aJ z n 19) (aM z n) 33 (Or.inr rfl) (Or.inr ⟨rfl, rfl⟩) (twenty a b c d e) hC hN k1
      obtain ⟨p1, p2, p3⟩ := putsA_keep (aJ z n 19) (aM z n) 33 (twenty a b c d e) hC hN
      have tw : (twenty a b c d e).length = 20 := rfl
      have cN : hC.2.2.1 (z + 2) 1 = nI (hN + 20) := by rw [← hc1, putsA_cnt _ _ _ hne _ h hN x16, tw]
      have oth : ∀ c1 j1, c1 ≠ z + 3 → (c1 ≠ z + 2 ∨ j1 ≠ 1) → c1 ≠ aJ z n 19 → (c1 ≠ aM z n ∨ j1 ≠ 33) → (putsA (aJ z n 19) (aM z n) 33 hC hN (twenty a b c d e)).2.2.1 c1 j1 = h.2.2.1 c1 j1 := fun c' j q1 q2 q3 q4 => by
        rw [putsA_oth _ _ _ _ _ q3 q4, ← hc1, putsA_oth _ _ _ _ _ q1 q2]
      refine ⟨⟨b1, b2, b3, b4, by omega⟩, by unfold WS; rw [p1, p2]; exact WC, by unfold WR; rw [p3]; exact VC, k2.1, k2.2.1, ?_, ?_, k2.2.2.1, k2.2.2.2.1, by rw [p3]; exact k2.2.2.2.2⟩
      · obtain ⟨x1, x2, x3, x4, x5, x6, x7, x8, x9, x10, x11, x12, x13, x14, x15, -, -⟩ := cx
        unfold CX
        rw [putsA_cnt _ _ _ (by (first | omega | (simp only [aT, aN, aA, aJ, aM, aF, aFl, aFs]; omega))) _ hC hN cC, tw, putsA_oth _ _ _ (z + 2) 1 (by (first | omega | (simp only [aT, aN, aA, aJ, aM, aF, aFl, aFs]; omega))) (by (first | omega | (simp only [aT, aN, aA, aJ, aM, aF, aFl, aFs]; omega))), cN]
        simp (disch := first | omega | (simp only [aT, aN, aA, aJ, aM, aF, aFl, aFs]; omega)) only [oth]
        exact ⟨x1, x2, x3, x4, x5, x6, x7, x8, x9, x10, x11, x12, x13, x14, x15, trivial, trivial⟩
      · intro i hi
        rw [putsA_oth _ _ _ (z + 3) i (by (first | omega | (simp only [aT, aN, aA, aJ, aM, aF, aFl, aFs]; omega))) (by (first | omega | (simp only [aT, aN, aA, aJ, aM, aF, aFl, aFs]; omega)))]
        rw [← hc1]
        refine ⟨?_, putsA_nar _ _ _ hne _ _ _ (fun x hx => ?_) (fun i hi => (K.2.2.1 i hi).2) i hi⟩
        case refine_2 =>
          have tw2 : ∀ x ∈ twenty a b c d e, ∃ y, x = bt y := by
            intro x hx
            simp only [twenty, four, List.cons_append, List.nil_append, List.mem_cons, List.not_mem_nil, or_false] at hx
            rcases hx with q | q | q | q | q | q | q | q | q | q | q | q | q | q | q | q | q | q | q | q <;> exact ⟨_, q⟩
          obtain ⟨y, rfl⟩ := tw2 x hx
          exact bt_nar y
        refine putsA_two _ _ _ _ _ _ hne (by (first | omega | (simp only [aT, aN, aA, aJ, aM, aF, aFl, aFs]; omega))) _ _ _ _ (fun i hi => ?_) i hi
        rw [putsA_oth _ _ _ (aJ z n 19) i (by (first | omega | (simp only [aT, aN, aA, aJ, aM, aF, aFl, aFs]; omega))) (by (first | omega | (simp only [aT, aN, aA, aJ, aM, aF, aFl, aFs]; omega)))]
        exact (K.2.2.1 i hi).1
  · have hle : ¬ nI (hN + 20) ≤ 300 := fun q => hh (by
      have q : nI (hN + 20) ≤ nI 300 := q
      rw [nI_le_iff (by omega) (by omega)] at q
      exact q)
    refine ⟨-1, h, h, hN, ?_, ?_, C⟩
    · rw [ev_gR s0, V_tp V, ev_gI s2, x16, e20, if_neg hle]
    · rw [ev_gI sM, x17, e20, if_neg hle]
end FE
