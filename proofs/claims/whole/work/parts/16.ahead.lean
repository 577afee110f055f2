/-! ===== which field is ahead ===== -/
section AHD
variable {z n nf dN hN : Nat} {h : AH}
def b2i (b : Bool) : Int32 := if b then 1 else 0
/-- a field's key by the class's own cells -/
def kyC (z n : Nat) (I : Nat → Nat → Int32) (c : Int32) (f : Nat) : Nat := if c = 0 then (if I (aF z n f) 5 = 0 then 1 else 0) else if c = 1 then (I (aF z n f) 3).toNatClampNeg else (I (aF z n f) 2).toNatClampNeg
/-- what the class's cells of a field hold -/
def FD (z n : Nat) (I : Nat → Nat → Int32) (f : Nat) : Prop := I (aF z n f) 0 = nI f ∧ (∃ q, q ≤ 9 ∧ I (aF z n f) 2 = nI q) ∧ (∃ q, 1 ≤ q ∧ q ≤ 20 ∧ I (aF z n f) 3 = nI q) ∧ (I (aF z n f) 5 = 0 ∨ I (aF z n f) 5 = 1)
theorem FD_of {I : Nat → Nat → Int32} (cf : CF z n nf I) {f : Nat} (hf : f < nf) : FD z n I f := by
  obtain ⟨g1, g2, g3, g4, g5, g6, g7, g8, g9, -, r2, r3, r4, r5⟩ := cf f hf
  exact ⟨g1, by rw [g3]; exact r2, by rw [g4]; exact r3, by rw [g6]; exact r5⟩
theorem nI_sub20 : ∀ a, a < 21 → ∀ b, b < 21 → (nI a - nI b = 0 ↔ a = b) ∧ (0 ≤ nI a - nI b ↔ b ≤ a) ∧ (nI a - nI b ≤ 0 ↔ a ≤ b) := by decide +kernel
theorem kyC_lt {I : Nat → Nat → Int32} {f : Nat} (F : FD z n I f) (c : Int32) : kyC z n I c f < 21 := by
  obtain ⟨-, ⟨q2, h2, e2⟩, ⟨q3, h31, h32, e3⟩, -⟩ := F
  unfold kyC
  split
  · split <;> omega
  · split
    · rw [e3, nI_clamp (by omega)]; omega
    · rw [e2, nI_clamp (by omega)]; omega
theorem v_rank {f : Nat} (sF : h.2.1 (aF z n f) = some (.inl 1)) (F : FD z n h.2.2.1 f) (c : Int32) : f_X0_rank h (some (aF z n f)) c = some (nI (kyC z n h.2.2.1 c f), h) := by
  obtain ⟨-, ⟨q2, h2, e2⟩, ⟨q3, h31, h32, e3⟩, e5⟩ := F
  unfold f_X0_rank f_X0_rank_40 kyC
  by_cases c0 : c = 0
  · rw [if_pos c0, if_pos c0, ev_gI sF]
    split <;> rfl
  · rw [if_neg c0, if_neg c0]
    by_cases c1 : c = 1
    · rw [if_pos c1, if_pos c1, ev_gI sF, e3, nI_clamp (by omega)]
    · rw [if_neg c1, if_neg c1, ev_gI sF, e2, nI_clamp (by omega)]
theorem ahd_b2i {K : Int32 → Nat → Nat} {f g : Nat} (c : Int32) (cs : List Int32) (hf : K c f < 21) (hg : K c g < 21) : (if nI (K c f) - nI (K c g) = 0 then some (b2i (ahd K cs f g), h) else if 0 ≤ nI (K c f) - nI (K c g) then some (0, h) else some (1, h)) = some (b2i (ahd K (c :: cs) f g), h) := by
  obtain ⟨s1, s2, s3⟩ := nI_sub20 _ hf _ hg
  rw [ahd]
  by_cases e : K c f = K c g
  · rw [if_pos (s1.mpr e), if_pos e]
  · rw [if_neg (fun q => e (s1.mp q)), if_neg e]
    by_cases e2 : K c g ≤ K c f
    · rw [if_pos (s2.mpr e2)]
      simp [b2i, show ¬ K c f < K c g by omega]
    · rw [if_neg (fun q => e2 (s2.mp q))]
      simp [b2i, show K c f < K c g by omega]
theorem fsts_drop {I : Nat → Nat → Int32} {k i : Nat} (hk : I (z + 4) 1 = nI k) (hk10 : k ≤ 10) (hi : i < k) : (fsts z I).drop i = I (z + 5) i :: (fsts z I).drop (i + 1) := by
  unfold fsts
  rw [hk, nI_clamp (by omega)]
  rw [List.drop_eq_getElem_cons (by simp; exact hi)]
  simp
theorem fsts_end {I : Nat → Nat → Int32} {k i : Nat} (hk : I (z + 4) 1 = nI k) (hk10 : k ≤ 10) (hi : k ≤ i) : (fsts z I).drop i = [] := by
  unfold fsts
  rw [hk, nI_clamp (by omega)]
  exact List.drop_eq_nil_of_le (by simp; exact hi)
theorem ahd_nil_b2i {K : Int32 → Nat → Nat} {f g : Nat} (hf : f < 40) (hg : g < 40) : (if nI g ≤ nI f then some ((0 : Int32), h) else some (1, h)) = some (b2i (ahd K [] f g), h) := by
  rw [ahd]
  by_cases e : g ≤ f
  · rw [if_pos (nI_le e (by omega))]
    simp [b2i, show ¬ f < g by omega]
  · rw [if_neg (fun q => e ((nI_le_iff (by omega) (by omega)).mp q))]
    simp [b2i, show f < g by omega]
theorem v_ahead7 (W : WS z n nf h) (V : WR z n nf h) {k : Nat} (hk : h.2.2.1 (z + 4) 1 = nI k) (hk10 : k ≤ 10) {f g : Nat} (hf : f < 40) (hg : g < 40) (sF : h.2.1 (aF z n f) = some (.inl 1)) (sG : h.2.1 (aF z n g) = some (.inl 1)) (F : FD z n h.2.2.1 f) (G : FD z n h.2.2.1 g) : f_X0_isAhead h (z + 4) (some (aF z n f)) (some (aF z n g)) = some (b2i (ahd (kyC z n h.2.2.1) (fsts z h.2.2.1) f g), h) := by
  have s4 := W_cu W
  have s5 := W_cf W
  have main : ∀ (m i : Nat), k - i < m → i ≤ k → f_X0_isAhead_2 m h (z + 4) (some (aF z n f)) (some (aF z n g)) (nI i) = some (b2i (ahd (kyC z n h.2.2.1) ((fsts z h.2.2.1).drop i) f g), h) := by
    intro m
    induction m with
    | zero => intro i h1; omega
    | succ m ih =>
      intro i h1 h2
      unfold f_X0_isAhead_2 f_X0_isAhead_57
      rw [ev_gI s4, hk]
      by_cases hi : i < k
      · rw [if_neg (nI_ge hi (by omega)), ev_gR s4, V_cf V, ev_aL s5, if_neg (show ¬ Int32.ofNat 10 ≤ nI i from nI_ge (by omega) (by omega)), ev_gR s4, V_cf V, ev_aI s5 (by omega) (by omega), cal_eq (v_rank sF F _), ev_gR s4, V_cf V, ev_aI s5 (by omega) (by omega), cal_eq (v_rank sG G _), ev_bd, ev_bd, nI_1, ih (i + 1) (by omega) (by omega), fsts_drop hk hk10 hi, ev_rZ0, ev_rZ1]
        exact ahd_b2i _ _ (kyC_lt F _) (kyC_lt G _)
      · rw [if_pos (nI_le (show k ≤ i by omega) (by omega)), fsts_end hk hk10 (by omega)]
        unfold f_X0_isAhead_64 f_X0_isAhead_80
        rw [ev_gI sF, F.1, ev_gI sG, G.1, ev_rZ0, ev_rZ1]
        exact ahd_nil_b2i hf hg
  unfold f_X0_isAhead
  have := main FU 0 (by rw [fu_big]; omega) (by omega)
  rw [List.drop_zero] at this
  exact this
/-! the reference's custom -/
def cusV (z n : Nat) (I : Nat → Nat → Int32) (w : Nat) (d : Int32) : Int32 := if I (aM z n) 38 = 0 then d else I (aJ z n 21) w
theorem v_custom (W : WS z n nf h) (V : WR z n nf h) {w : Nat} (hw : w < 28) (d : Int32) : f_X8_custom h (aM z n) (nI w) d = some (cusV z n h.2.2.1 w d, h) := by
  have sM := W_M W
  have s21 := W_J21 W
  unfold f_X8_custom f_X8_custom_17 cusV
  rw [ev_gI sM]
  by_cases e : h.2.2.1 (aM z n) 38 = 0
  · rw [if_pos e, if_pos e]
  · rw [if_neg e, if_neg e, ev_gR sM, V_J21 V, ev_aI s21 hw (by omega)]
theorem v_cus0 (W : WS z n nf h) (V : WR z n nf h) : f_X8_custom h (aM z n) 0 0 = some (cusV z n h.2.2.1 0 0, h) := v_custom W V (w := 0) (by omega) 0
theorem v_cus11 (W : WS z n nf h) (V : WR z n nf h) : f_X8_custom h (aM z n) 11 9 = some (cusV z n h.2.2.1 11 9, h) := v_custom W V (w := 11) (by omega) 9
theorem v_cus12 (W : WS z n nf h) (V : WR z n nf h) : f_X8_custom h (aM z n) 12 0 = some (cusV z n h.2.2.1 12 0, h) := v_custom W V (w := 12) (by omega) 0
theorem v_cus13 (W : WS z n nf h) (V : WR z n nf h) : f_X8_custom h (aM z n) 13 0 = some (cusV z n h.2.2.1 13 0, h) := v_custom W V (w := 13) (by omega) 0
/-- the custom in both -/
theorem CC_use {I : Nat → Nat → Int32} (cc : CC z n I) : ∃ k, k ≤ 10 ∧ I (z + 4) 1 = nI k ∧ cusV z n I 0 0 = nI k ∧ cusV z n I 11 9 = I (z + 4) 2 ∧ cusV z n I 12 0 = I (z + 4) 3 ∧ cusV z n I 13 0 = I (z + 4) 4 ∧ (I (z + 4) 4 = 0 ∨ I (z + 4) 4 = 1) ∧ ∀ j, j < k → I (z + 5) j = I (aJ z n 21) (j + 1) := by
  obtain ⟨k, hk, e1, e4, q⟩ := cc
  refine ⟨k, hk, e1, ?_⟩
  unfold cusV
  rcases q with ⟨q, rfl, q2, q3, q4⟩ | ⟨q, q0, q2, q3, q4, qj⟩
  · rw [if_pos q, if_pos q, if_pos q, if_pos q]
    exact ⟨rfl, q2.symm, q3.symm, q4.symm, e4, fun j hj => absurd hj (by omega)⟩
  · rw [if_neg (by rw [q]; decide), if_neg (by rw [q]; decide), if_neg (by rw [q]; decide), if_neg (by rw [q]; decide)]
    exact ⟨q0, q2.symm, q3.symm, q4.symm, e4, qj⟩
/-- what the reference's rows of a field hold -/
def MD (z n : Nat) (I : Nat → Nat → Int32) (f : Nat) : Prop := (∃ q, q ≤ 9 ∧ I (aJ z n 11) f = nI q) ∧ (∃ q, 1 ≤ q ∧ q ≤ 20 ∧ I (aJ z n 12) f = nI q) ∧ (I (aJ z n 17) f = 0 ∨ I (aJ z n 17) f = 1)
theorem MD_of {I : Nat → Nat → Int32} (cf : CF z n nf I) {f : Nat} (hf : f < nf) : MD z n I f := by
  obtain ⟨-, -, -, -, -, -, -, -, -, -, r2, r3, -, r5⟩ := cf f hf
  exact ⟨r2, r3, r5⟩
theorem ky_lt {I : Nat → Nat → Int32} {f : Nat} (F : MD z n I f) (c : Int32) : ky z n I c f < 21 := by
  obtain ⟨⟨q2, h2, e2⟩, ⟨q3, h31, h32, e3⟩, -⟩ := F
  unfold ky
  split
  · split <;> omega
  · split
    · rw [e3, nI_clamp (by omega)]; omega
    · rw [e2, nI_clamp (by omega)]; omega
/-- the reference's way round: the difference is of the other one -/
theorem ahd_b2i8 {K : Int32 → Nat → Nat} {f g : Nat} (c : Int32) (cs : List Int32) (hf : K c f < 21) (hg : K c g < 21) {d : Int32} (hd : d = nI (K c g) - nI (K c f)) : (if d = 0 then some (b2i (ahd K cs f g), h) else if d ≤ 0 then some (0, h) else some (1, h)) = some (b2i (ahd K (c :: cs) f g), h) := by
  subst hd
  obtain ⟨s1, s2, s3⟩ := nI_sub20 _ hg _ hf
  rw [ahd]
  by_cases e : K c f = K c g
  · rw [if_pos (s1.mpr e.symm), if_pos e]
  · rw [if_neg (fun q => e (s1.mp q).symm), if_neg e]
    by_cases e2 : K c g ≤ K c f
    · rw [if_pos (s3.mpr e2)]
      simp [b2i, show ¬ K c f < K c g by omega]
    · rw [if_neg (fun q => e2 (s3.mp q))]
      simp [b2i, show K c f < K c g by omega]
theorem v_ahead8 (W : WS z n nf h) (V : WR z n nf h) {k : Nat} (hk : h.2.2.1 (z + 4) 1 = nI k) (hk10 : k ≤ 10) (hc : cusV z n h.2.2.1 0 0 = nI k) (hj : ∀ j, j < k → h.2.2.1 (z + 5) j = h.2.2.1 (aJ z n 21) (j + 1)) {f g : Nat} (hf : f < 40) (hg : g < 40) (F : MD z n h.2.2.1 f) (G : MD z n h.2.2.1 g) : f_X8_isAhead h (aM z n) (nI f) (nI g) = some (b2i (ahd (ky z n h.2.2.1) (fsts z h.2.2.1) f g), h) := by
  have sM := W_M W
  have s11 := W_J11 W
  have s12 := W_J12 W
  have s17 := W_J17 W
  have s21 := W_J21 W
  have main : ∀ (m i : Nat), k - i < m → i ≤ k → f_X8_isAhead_2 m h (aM z n) (nI f) (nI g) (nI (i + 1)) = some (b2i (ahd (ky z n h.2.2.1) ((fsts z h.2.2.1).drop i) f g), h) := by
    intro m
    induction m with
    | zero => intro i h1; omega
    | succ m ih =>
      intro i h1 h2
      unfold f_X8_isAhead_2 f_X8_isAhead_82 f_X8_isAhead_99 f_X8_isAhead_116
      rw [ev_rcv sM, cal_eq (v_cus0 W V), hc]
      by_cases hi : i < k
      · have hcond : ¬ nI k < nI (i + 1) := by rw [nI_lt_iff (by omega) (by omega)]; omega
        have hih := ih (i + 1) (by omega) (by omega)
        rw [if_neg hcond, ev_gR sM, V_J21 V, ev_aI s21 (by omega) (by omega), ← hj i hi, fsts_drop hk hk10 hi]
        generalize hcv : h.2.2.1 (z + 5) i = c
        by_cases c0 : c = 0
        · subst c0
          rw [if_pos rfl, ev_gR sM, V_J17 V, ev_aI s17 (by omega) (by omega), k_one, ev_gR sM, V_J17 V, ev_aI s17 (by omega) (by omega), k_one, ev_bd, nI_1, hih, ev_rZ0, ev_rZ1]
          refine ahd_b2i8 _ _ (ky_lt F _) (ky_lt G _) ?_
          have e : ∀ f, MD z n h.2.2.1 f → ky z n h.2.2.1 0 f = if h.2.2.1 (aJ z n 17) f = 0 then 1 else 0 := fun f _ => by rw [ky, if_pos rfl]
          rw [e f F, e g G]
          rcases F.2.2 with x | x <;> rcases G.2.2 with y | y <;> rw [x, y] <;> decide
        · rw [if_neg c0, ev_gR sM, V_J21 V, ev_aI s21 (by omega) (by omega), ← hj i hi, hcv]
          by_cases c1 : c = 1
          · subst c1
            rw [if_pos rfl, ev_gR sM, V_J12 V, ev_aI s12 (by omega) (by omega), ev_gR sM, V_J12 V, ev_aI s12 (by omega) (by omega), ev_bd, nI_1, hih, ev_rZ0, ev_rZ1]
            refine ahd_b2i8 _ _ (ky_lt F _) (ky_lt G _) ?_
            obtain ⟨-, ⟨q, -, hq, eq⟩, -⟩ := F
            obtain ⟨-, ⟨r, -, hr, er⟩, -⟩ := G
            rw [ky, ky, if_neg c0, if_neg c0, if_pos rfl, if_pos rfl, eq, er, nI_clamp (by omega), nI_clamp (by omega)]
          · rw [if_neg c1, ev_gR sM, V_J11 V, ev_aI s11 (by omega) (by omega), ev_gR sM, V_J11 V, ev_aI s11 (by omega) (by omega), ev_bd, nI_1, hih, ev_rZ0, ev_rZ1]
            refine ahd_b2i8 _ _ (ky_lt F _) (ky_lt G _) ?_
            obtain ⟨⟨q, hq, eq⟩, -, -⟩ := F
            obtain ⟨⟨r, hr, er⟩, -, -⟩ := G
            rw [ky, ky, if_neg c0, if_neg c0, if_neg c1, if_neg c1, eq, er, nI_clamp (by omega), nI_clamp (by omega)]
      · have hcond : nI k < nI (i + 1) := nI_lt (by omega) (by omega)
        rw [if_pos hcond, fsts_end hk hk10 (by omega), ev_rZ0, ev_rZ1]
        exact ahd_nil_b2i hf hg
  unfold f_X8_isAhead
  have := main FU 0 (by rw [fu_big]; omega) (by omega)
  rw [List.drop_zero] at this
  exact this
end AHD
