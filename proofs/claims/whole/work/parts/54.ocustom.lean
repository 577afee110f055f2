/-! ===== the call of custom ===== -/
section RC
variable {z n nf : Nat} {h : AH}
/-- the text is copied -/
theorem l_cp17 {T : Nat → Int32} {e : Nat} (he : e ≤ 300) {h0 : AH} (W0 : WS z n nf h0) (V0 : WR z n nf h0) (hT : ∀ k, k < 300 → h0.2.2.1 (aJ z n 19) k = T k ∧ vp_nar .byte (T k) = T k) : ∀ (m k : Nat) (h : AH), e - k < m → k ≤ e → Ag (fun a _ => a = aJ z n 20) h0 h → (∀ j, j < k → h.2.2.1 (aJ z n 20) j = T j) → ∃ h', f_X8_custom__17 m h (aM z n) (nI e) (nI k) = f_X8_custom__57 FU (setI (setI (setI h' (aM z n) 35 (nI e)) (aM z n) 33 0) (aM z n) 34 0) (aM z n) 0 ∧ Ag (fun a _ => a = aJ z n 20) h0 h' ∧ ∀ j, j < e → h'.2.2.1 (aJ z n 20) j = T j := by
  intro m
  induction m with
  | zero => intro k h h1; omega
  | succ m ih =>
    intro k h h1 h2 p hd
    have W := WS_ag W0 p
    have V := WR_ag V0 p
    have sM := W_M W
    unfold f_X8_custom__17
    by_cases hk : k < e
    · have e19 : h.2.2.1 (aJ z n 19) k = T k := (p.2.2.2 _ _ (by (first | omega | (simp only [aT, aN, aA, aJ, aM, aF, aFl, aFs]; omega)))).trans (hT k (by omega)).1
      rw [if_neg (nI_ge hk (by omega)), ev_gR sM, V_J20 V, ev_gR sM, V_J19 V, ev_aI (W_J19 W) (by omega) (by omega), e19, ev_sI (W_J20 W) (by omega) (by omega), (hT k (by omega)).2, ev_bd, nI_1]
      refine ih (k + 1) _ (by omega) (by omega) (p.set rfl) (fun j hj => ?_)
      rw [sI_u]
      by_cases q : j = k
      · subst q
        rw [u2s]
      · rw [u2n (Or.inr q)]
        exact hd j (by omega)
    · have q : k = e := by omega
      subst q
      rw [if_pos (nI_le (Nat.le_refl _) (by omega)), ev_pI sM, ev_pI (by rw [sI_s]; exact sM), ev_pI (by simp only [sI_s]; exact sM)]
      exact ⟨h, rfl, p, hd⟩
theorem l_57 {h0 : AH} (W0 : WS z n nf h0) (V0 : WR z n nf h0) : ∀ (m k : Nat) (h : AH), 14 - k < m → k ≤ 14 → Ag (fun a k => a = aJ z n 21 ∧ 14 ≤ k) h0 h → (∀ j, j < k → h.2.2.1 (aJ z n 21) (14 + j) = if j = 11 then 9 else 0) → ∃ h', f_X8_custom__57 m h (aM z n) (nI k) = cal (f_X8_blanks h' (aM z n)) (fun _ h27 => f_X8_custom__98 FU h27 (aM z n) 0 1) ∧ Ag (fun a k => a = aJ z n 21 ∧ 14 ≤ k) h0 h' ∧ ∀ j, j < 14 → h'.2.2.1 (aJ z n 21) (14 + j) = if j = 11 then 9 else 0 := by
  intro m
  induction m with
  | zero => intro k h h1; omega
  | succ m ih =>
    intro k h h1 h2 p hd
    have W := WS_ag W0 p
    have V := WR_ag V0 p
    have sM := W_M W
    have s21 := W_J21 W
    have e14 : (14 : Int32) + nI k = nI (14 + k) := nI_ad 14 k
    unfold f_X8_custom__57
    by_cases hk : k < 14
    · have go : ∀ x : Int32, x = (if k = 11 then 9 else 0) → ∃ h', f_X8_custom__83 (f_X8_custom__57 m) h (aM z n) (nI k) (some (aJ z n 21)) (14 + nI k) x = cal (f_X8_blanks h' (aM z n)) (fun _ h27 => f_X8_custom__98 FU h27 (aM z n) 0 1) ∧ Ag (fun a k => a = aJ z n 21 ∧ 14 ≤ k) h0 h' ∧ ∀ j, j < 14 → h'.2.2.1 (aJ z n 21) (14 + j) = if j = 11 then 9 else 0 := by
        intro x hx
        unfold f_X8_custom__83
        rw [e14, ev_sI s21 (by omega) (by omega), vn_i, ev_bd, nI_1]
        refine ih (k + 1) _ (by omega) (by omega) (p.set ⟨rfl, by omega⟩) (fun j hj => ?_)
        rw [sI_u]
        by_cases q : j = k
        · subst q
          rw [u2s, hx]
        · rw [u2n (Or.inr (by omega))]
          exact hd j (by omega)
      rw [if_neg (show ¬ (14 : Int32) ≤ nI k from fun x => by have := (nI_le_iff (a := 14) (by omega) (by omega)).mp x; omega), ev_gR sM, V_J21 V]
      by_cases q : k = 11
      · rw [if_pos (show nI k = 11 by rw [q]; rfl)]
        exact go 9 (by rw [if_pos q])
      · rw [if_neg (show ¬ nI k = 11 from fun x => q (nI_inj (b := 11) (by omega) (by omega) x))]
        exact go 0 (by rw [if_neg q])
    · have q : k = 14 := by omega
      subst q
      rw [if_pos (show (14 : Int32) ≤ nI 14 by decide), ev_rcv sM]
      exact ⟨h, rfl, p, hd⟩
theorem l_171 {h0 : AH} (W0 : WS z n nf h0) (V0 : WR z n nf h0) (many : Int32) : ∀ (m k : Nat) (h : AH), 14 - k < m → k ≤ 14 → Ag (fun a k => a = aJ z n 21 ∧ k < 14) h0 h → (∀ j, j < k → h.2.2.1 (aJ z n 21) j = h0.2.2.1 (aJ z n 21) (14 + j)) → ∃ h', f_X8_custom__171 m h (aM z n) many (nI k) = some (many, setI h' (aM z n) 38 1) ∧ Ag (fun a k => a = aJ z n 21 ∧ k < 14) h0 h' ∧ ∀ j, j < 14 → h'.2.2.1 (aJ z n 21) j = h0.2.2.1 (aJ z n 21) (14 + j) := by
  intro m
  induction m with
  | zero => intro k h h1; omega
  | succ m ih =>
    intro k h h1 h2 p hd
    have W := WS_ag W0 p
    have V := WR_ag V0 p
    have sM := W_M W
    have s21 := W_J21 W
    have e14 : (14 : Int32) + nI k = nI (14 + k) := nI_ad 14 k
    unfold f_X8_custom__171
    by_cases hk : k < 14
    · have er : h.2.2.1 (aJ z n 21) (14 + k) = h0.2.2.1 (aJ z n 21) (14 + k) := p.2.2.2 _ _ (by omega)
      rw [if_neg (show ¬ (14 : Int32) ≤ nI k from fun x => by have := (nI_le_iff (a := 14) (by omega) (by omega)).mp x; omega), ev_gR sM, V_J21 V, ev_gR sM, V_J21 V, e14, ev_aI s21 (by omega) (by omega), er, ev_sI s21 (by omega) (by omega), vn_i, ev_bd, nI_1]
      refine ih (k + 1) _ (by omega) (by omega) (p.set ⟨rfl, by omega⟩) (fun j hj => ?_)
      rw [sI_u]
      by_cases q : j = k
      · subst q
        rw [u2s]
      · rw [u2n (Or.inr q)]
        exact hd j (by omega)
    · have q : k = 14 := by omega
      subst q
      rw [if_pos (show (14 : Int32) ≤ nI 14 by decide), ev_pZ1 sM]
      exact ⟨h, rfl, p, hd⟩
/-- the reference's whole call, of a length that is there -/
def cr8 (z n a k : Nat) : Prop := (a = aM z n ∧ (k = 33 ∨ k = 34 ∨ k = 35 ∨ k = 36 ∨ k = 39 ∨ k = 40)) ∨ a = aJ z n 20 ∨ (a = aJ z n 21 ∧ 14 ≤ k)
def cr9 (z n a k : Nat) : Prop := cr8 z n a k ∨ (a = aJ z n 21 ∧ k < 14) ∨ (a = aM z n ∧ k = 38)
theorem cs_cr {h' : AH} (p : Ag (cs8 z n) h h') : Ag (cr8 z n) h h' := p.mo (fun a k q => by
  rcases q with ⟨q1, q2⟩ | q
  · exact Or.inl ⟨q1, by omega⟩
  · exact Or.inr (Or.inr q))
theorem v_cust8 {T : Nat → Int32} {e : Nat} (he : e ≤ 300) (W : WS z n nf h) (V : WR z n nf h) (hT : ∀ k, k < 300 → h.2.2.1 (aJ z n 19) k = T k ∧ vp_nar .byte (T k) = T k) : ∃ h', f_X8_custom__17 FU h (aM z n) (nI e) 0 = some ((if (prs T e 10 (rn blk T e 0) d00).1 = -1 then nI (10 - (prs T e 10 (rn blk T e 0) d00).2.1) else -1), h') ∧ Ag (cr9 z n) h h' ∧ h'.2.2.1 (aM z n) 33 = 0 ∧ h'.2.2.1 (aM z n) 36 = (prs T e 10 (rn blk T e 0) d00).1 ∧ ((prs T e 10 (rn blk T e 0) d00).1 ≠ -1 → Ag (cr8 z n) h h') ∧ ((prs T e 10 (rn blk T e 0) d00).1 = -1 → h'.2.2.1 (aM z n) 38 = 1 ∧ h'.2.2.1 (aJ z n 21) 0 = nI (prs T e 10 (rn blk T e 0) d00).2.2.1.length ∧ (∀ j, j < (prs T e 10 (rn blk T e 0) d00).2.2.1.length → h'.2.2.1 (aJ z n 21) (j + 1) = (prs T e 10 (rn blk T e 0) d00).2.2.1.getD j 0) ∧ h'.2.2.1 (aJ z n 21) 11 = (prs T e 10 (rn blk T e 0) d00).2.2.2.1 ∧ h'.2.2.1 (aJ z n 21) 12 = (prs T e 10 (rn blk T e 0) d00).2.2.2.2.1 ∧ h'.2.2.1 (aJ z n 21) 13 = (prs T e 10 (rn blk T e 0) d00).2.2.2.2.2) := by
  obtain ⟨h1, x1, x2, x3⟩ := l_cp17 (T := T) he W V hT FU 0 h (by rw [fu_big]; omega) (by omega) Ag.rf (fun j hj => by omega)
  have pa : Ag (cr8 z n) h (setI (setI (setI h1 (aM z n) 35 (nI e)) (aM z n) 33 0) (aM z n) 34 0) := (((x2.mo (fun a k q => Or.inr (Or.inl q))).set (Or.inl ⟨rfl, by omega⟩)).set (Or.inl ⟨rfl, by omega⟩)).set (Or.inl ⟨rfl, by omega⟩)
  have a35 : (setI (setI (setI h1 (aM z n) 35 (nI e)) (aM z n) 33 0) (aM z n) 34 0).2.2.1 (aM z n) 35 = nI e := by simp (disch := (refine Or.inr ?_; omega)) only [sI_u, u2n, u2s]
  have a33 : (setI (setI (setI h1 (aM z n) 35 (nI e)) (aM z n) 33 0) (aM z n) 34 0).2.2.1 (aM z n) 33 = 0 := by simp (disch := (refine Or.inr ?_; omega)) only [sI_u, u2n, u2s]
  have a34 : (setI (setI (setI h1 (aM z n) 35 (nI e)) (aM z n) 33 0) (aM z n) 34 0).2.2.1 (aM z n) 34 = nI 0 := by rw [sI_u, u2s]; rfl
  have a20 : ∀ k, k < e → (setI (setI (setI h1 (aM z n) 35 (nI e)) (aM z n) 33 0) (aM z n) 34 0).2.2.1 (aJ z n 20) k = T k := fun k hk => by
    have ne : aJ z n 20 ≠ aM z n := by (first | omega | (simp only [aT, aN, aA, aJ, aM, aF, aFl, aFs]; omega))
    simp only [sI_u, u2_ne _ _ ne]
    exact x3 k hk
  rw [show (0 : Int32) = nI 0 from rfl, x1]
  generalize setI (setI (setI h1 (aM z n) 35 (nI e)) (aM z n) 33 0) (aM z n) 34 0 = g at pa a35 a33 a34 a20
  have Wg := WS_ag W pa
  have Vg := WR_ag V pa
  obtain ⟨h2, y1, y2, y3⟩ := l_57 Wg Vg FU 0 g (by rw [fu_big]; omega) (by omega) Ag.rf (fun j hj => by omega)
  have pb : Ag (cr8 z n) h h2 := pa.tr (y2.mo (fun a k q => Or.inr (Or.inr q)))
  have t2 : Tx8 z n T e h2 := ⟨fun k hk => by rw [y2.2.2.2 _ _ (by (first | omega | (simp only [aT, aN, aA, aJ, aM, aF, aFl, aFs]; omega)))]; exact a20 k hk, by rw [y2.2.2.2 _ _ (by (first | omega | (simp only [aT, aN, aA, aJ, aM, aF, aFl, aFs]; omega)))]; exact a35⟩
  have W2 := WS_ag W pb
  have V2 := WR_ag V pb
  obtain ⟨h3, z1, z2, z3⟩ := v_blanks (p := 0) he (by omega) W2 V2 t2 (by rw [y2.2.2.2 _ _ (by (first | omega | (simp only [aT, aN, aA, aJ, aM, aF, aFl, aFs]; omega)))]; exact a34)
  rw [show (0 : Int32) = nI 0 from rfl, y1, cal_eq z1]
  have D2 : D8 z n d00 h2 := ⟨y3 0 (by omega), fun j hj => absurd hj (Nat.not_lt_zero j), y3 11 (by omega), y3 12 (by omega), y3 13 (by omega)⟩
  have pc : Ag (cr8 z n) h h3 := pb.tr (cs_cr (mk_c8 (by simp) z2))
  obtain ⟨h4, many, w1, w2, w3, w4⟩ := l_parse8 he FU 10 (rn blk T e 0) d00 h3 (by rw [fu_big]; omega) (by omega) (rn_le (by omega)) (rn_id (by omega)) (WS_ag W pc) (WR_ag V pc) (mk_Tx z2 (by simp) t2) z3 (D8_mk D2 z2) (by show 0 + 10 ≤ 10; omega)
  rw [show nI (10 - 10) = (0 : Int32) from rfl] at w1
  rw [w1]
  have pd : Ag (cr8 z n) h h4 := pc.tr (cs_cr w2)
  have W4 := WS_ag W pd
  have V4 := WR_ag V pd
  have sM := W_M W4
  have m33 : h4.2.2.1 (aM z n) 33 = 0 := by
    rw [w2.2.2.2 _ _ (by unfold cs8; (first | omega | (simp only [aT, aN, aA, aJ, aM, aF, aFl, aFs]; omega))), mk_k z2 (by simp), y2.2.2.2 _ _ (by (first | omega | (simp only [aT, aN, aA, aJ, aM, aF, aFl, aFs]; omega)))]
    exact a33
  have plen := prs_len (T := T) (e := e) 10 (rn blk T e 0) d00 (by show 0 + 10 ≤ 10; omega)
  generalize prs T e 10 (rn blk T e 0) d00 = r at w3 w4 plen
  unfold f_X8_custom__146 f_X8_custom__159
  by_cases c : r.1 = -1
  · obtain ⟨q1, q2, q3, q4, q5, q6⟩ := w3 c
    rw [if_pos c, if_neg one_ne, ev_pI sM, if_neg one_ne, if_pos c]
    have pe : Ag (cr8 z n) h (setI h4 (aM z n) 36 (-1)) := pd.set (Or.inl ⟨rfl, by omega⟩)
    obtain ⟨h5, v1, v2, v3⟩ := l_171 (WS_ag W pe) (WR_ag V pe) many FU 0 (setI h4 (aM z n) 36 (-1)) (by rw [fu_big]; omega) (by omega) Ag.rf (fun j hj => by omega)
    rw [show (0 : Int32) = nI 0 from rfl, v1, q1]
    have n21 : aJ z n 21 ≠ aM z n := by (first | omega | (simp only [aT, aN, aA, aJ, aM, aF, aFl, aFs]; omega))
    refine ⟨_, rfl, (((pe.mo (fun a k q => Or.inl q)).tr (v2.mo (fun a k q => Or.inr (Or.inl q)))).set (Or.inr (Or.inr ⟨rfl, rfl⟩))), ?_, ?_, fun q => absurd c q, fun _ => ⟨?_, ?_, fun j hj => ?_, ?_, ?_, ?_⟩⟩
    · rw [sI_u, u2n (Or.inr (by omega)), v2.2.2.2 _ _ (by (first | omega | (simp only [aT, aN, aA, aJ, aM, aF, aFl, aFs]; omega))), sI_u, u2n (Or.inr (by omega))]; exact m33
    · rw [sI_u, u2n (Or.inr (by omega)), v2.2.2.2 _ _ (by (first | omega | (simp only [aT, aN, aA, aJ, aM, aF, aFl, aFs]; omega))), sI_u, u2s]; exact c.symm
    · rw [sI_u, u2s]
    · rw [sI_u, u2_ne _ _ n21, v3 0 (by omega), sI_u, u2_ne _ _ n21]; exact q2
    · rw [sI_u, u2_ne _ _ n21, v3 (j + 1) (by omega), sI_u, u2_ne _ _ n21, show 14 + (j + 1) = 15 + j by omega]; exact q3 j hj
    · rw [sI_u, u2_ne _ _ n21, v3 11 (by omega), sI_u, u2_ne _ _ n21]; exact q4
    · rw [sI_u, u2_ne _ _ n21, v3 12 (by omega), sI_u, u2_ne _ _ n21]; exact q5
    · rw [sI_u, u2_ne _ _ n21, v3 13 (by omega), sI_u, u2_ne _ _ n21]; exact q6
  · rw [if_neg c, if_pos rfl, ev_gI sM, w4 c, ev_pI sM, if_pos rfl, if_neg c]
    have pe : Ag (cr8 z n) h (setI h4 (aM z n) 36 r.1) := pd.set (Or.inl ⟨rfl, by omega⟩)
    refine ⟨_, rfl, pe.mo (fun a k q => Or.inl q), ?_, ?_, fun _ => pe, fun q => absurd q c⟩
    · rw [sI_u, u2n (Or.inr (by omega))]; exact m33
    · rw [sI_u, u2s]
theorem cr8_sc {a k : Nat} (q : cr8 z n a k) : (a = aM z n ∧ k = 33) ∨ (a = aM z n ∧ k = 36) ∨ sc z n a k := by
  rcases q with ⟨e, q | q | q | q | q | q⟩ | e | ⟨e, q⟩
  · exact Or.inl ⟨e, q⟩
  · exact Or.inr (Or.inr (by unfold sc; unfold aM at e; omega))
  · exact Or.inr (Or.inr (by unfold sc; unfold aM at e; omega))
  · exact Or.inr (Or.inl ⟨e, q⟩)
  · exact Or.inr (Or.inr (by unfold sc; unfold aM at e; omega))
  · exact Or.inr (Or.inr (by unfold sc; unfold aM at e; omega))
  · exact Or.inr (Or.inr (by unfold sc; unfold aJ at e; omega))
  · exact Or.inr (Or.inr (by unfold sc; unfold aJ at e; omega))
theorem cp7_sc {a k : Nat} (q : cp7 z a k) : sc z n a k := by
  rcases q with q | q | q
  · unfold sc; omega
  · unfold sc; omega
  · unfold sc; omega
end RC
section OC
variable {z n nf dN hN : Nat} {h : AH}
theorem o_custom (C : Cpl z n nf dN hN h) (x : Int32) : ∃ r h1 h2 hN', f_X7_custom h z x = some (r, h1) ∧ f_X8_custom_ h1 (aM z n) x = some (r, h2) ∧ Cpl z n nf dN hN' h2 := by
  obtain ⟨b, W, V, ct, cf, cx, cp, cc, co, ch⟩ := id C
  obtain ⟨b1, b2, b3, b4, b5⟩ := id b
  have s0 := W_z W
  have s2 := W_tp W
  have sM := W_M W
  have x16 : h.2.2.1 (z + 2) 1 = nI hN := cx.2.2.2.2.2.2.2.2.2.2.2.2.2.2.2.1
  have x17 : h.2.2.1 (aM z n) 33 = nI hN := cx.2.2.2.2.2.2.2.2.2.2.2.2.2.2.2.2
  unfold f_X7_custom
  rw [ev_gR s0, V_tp V, ev_gI s2, x16, k_isWithin]
  by_cases hv : wi x 0 (nI hN) = 0
  · refine ⟨-2, h, h, hN, ?_, ?_, C⟩
    · rw [if_pos hv]
    · unfold f_X8_custom_
      rw [ev_gI sM, x17, k_isIn, if_pos hv]
  obtain ⟨e, -, heN, rfl⟩ := wi_nI (a := 0) (b := hN) hv (by omega) (by omega)
  have he : e ≤ 300 := by omega
  -- the class reads
  obtain ⟨h1, y1, y2, y3⟩ := v_fault7 (T := h.2.2.1 (z + 3)) he W V rfl
  have W1 := WS_ag W y2
  have V1 := WR_ag V y2
  have plen := prs_len (T := h.2.2.1 (z + 3)) (e := e) 10 (rn blk (h.2.2.1 (z + 3)) e 0) d00 (by show 0 + 10 ≤ 10; omega)
  have pleft := prs_left (T := h.2.2.1 (z + 3)) (e := e) 10 (rn blk (h.2.2.1 (z + 3)) e 0) d00
  have c8 := fun (g : AH) (Wg : WS z n nf g) (Vg : WR z n nf g) (hg : ∀ k, k < 300 → g.2.2.1 (aJ z n 19) k = h.2.2.1 (z + 3) k ∧ vp_nar .byte (h.2.2.1 (z + 3) k) = h.2.2.1 (z + 3) k) => v_cust8 (T := h.2.2.1 (z + 3)) he Wg Vg hg
  generalize prs (h.2.2.1 (z + 3)) e 10 (rn blk (h.2.2.1 (z + 3)) e 0) d00 = r at y1 y3 plen pleft c8
  rw [if_neg hv, ev_gR s0, V_tp V, ev_gR s0, V_dr V, ev_rcv s2, cal_eq y1, ev_pI (W_z W1), ev_gR (by rw [sI_s]; exact W_z W1), sI_r, V_tp V1, ev_pI (by rw [sI_s]; exact W_tp W1), ev_gI (by simp only [sI_s]; exact W_z W1), sI_u, u2_ne _ _ (show z ≠ z + 2 by omega), sI_u, u2s]
  -- what the class has changed so far
  have pA : Ag (fun a k => cp7 z a k ∨ (a = z ∧ k = 11) ∨ (a = z + 2 ∧ k = 1)) h (setI (setI h1 z 11 r.1) (z + 2) 1 0) := ((Ag.mo (t := fun a k => cp7 z a k ∨ (a = z ∧ k = 11) ∨ (a = z + 2 ∧ k = 1)) y2 (fun a k q => Or.inl q)).set (Or.inr (Or.inl ⟨rfl, rfl⟩))).set (Or.inr (Or.inr ⟨rfl, rfl⟩))
  have a11 : (setI (setI h1 z 11 r.1) (z + 2) 1 0).2.2.1 z 11 = r.1 := by rw [sI_u, u2_ne _ _ (show z ≠ z + 2 by omega), sI_u, u2s]
  have a21 : (setI (setI h1 z 11 r.1) (z + 2) 1 0).2.2.1 (z + 2) 1 = 0 := by rw [sI_u, u2s]
  have yD : r.1 = -1 → D7 z r.2.2 (setI (setI h1 z 11 r.1) (z + 2) 1 0) ∧ (setI (setI h1 z 11 r.1) (z + 2) 1 0).2.2.1 (z + 6) 5 = nI (10 - r.2.1) := fun c => by
    obtain ⟨q1, q2⟩ := y3 c
    have n62 : z + 6 ≠ z + 2 := by omega
    have n60 : z + 6 ≠ z := by omega
    have n72 : z + 7 ≠ z + 2 := by omega
    have n70 : z + 7 ≠ z := by omega
    unfold D7 at q1 ⊢
    simp only [sI_u, u2_ne _ _ n62, u2_ne _ _ n60, u2_ne _ _ n72, u2_ne _ _ n70]
    exact ⟨q1, q2⟩
  generalize setI (setI h1 z 11 r.1) (z + 2) 1 0 = g at pA a11 a21 yD
  have Wg := WS_ag W pA
  have Vg := WR_ag V pA
  have gJ : ∀ a k, z + 12 + 3 * n ≤ a → g.2.2.1 a k = h.2.2.1 a k := fun a k q => pA.2.2.2 a k (by unfold cp7; omega)
  by_cases c : r.1 = -1
  · obtain ⟨Dg, g65⟩ := yD c
    obtain ⟨h2, w1, w2, w3⟩ := v_become Wg Vg Dg g65 plen
    have W2 := WS_ag Wg w2
    have V2 := WR_ag Vg w2
    obtain ⟨i1, i2, i3, i4, i5, i6⟩ := w3
    have h2z : ∀ k, k ≠ 11 → h2.2.2.1 z k = h.2.2.1 z k := fun k hk => (w2.2.2.2 _ _ (by unfold fc; omega)).trans (pA.2.2.2 _ _ (by unfold cp7; omega))
    have h2r : ∀ a k, z + 8 ≤ a → h2.2.2.1 a k = h.2.2.1 a k := fun a k q => (w2.2.2.2 _ _ (by unfold fc; omega)).trans (pA.2.2.2 a k (by unfold cp7; omega))
    have h2R : ∀ a, z + 8 ≤ a → h2.2.2.1 a = h.2.2.1 a := fun a q => funext (fun k => h2r a k q)
    have cf2 : CF z n nf h2.2.2.1 := by
      intro f hf
      rw [h2R _ (by (first | omega | (simp only [aT, aN, aA, aJ, aM, aF, aFl, aFs]; omega))), h2R (aJ z n 10) (by (first | omega | (simp only [aT, aN, aA, aJ, aM, aF, aFl, aFs]; omega))), h2R (aJ z n 11) (by (first | omega | (simp only [aT, aN, aA, aJ, aM, aF, aFl, aFs]; omega))), h2R (aJ z n 12) (by (first | omega | (simp only [aT, aN, aA, aJ, aM, aF, aFl, aFs]; omega))), h2R (aJ z n 13) (by (first | omega | (simp only [aT, aN, aA, aJ, aM, aF, aFl, aFs]; omega))), h2R (aJ z n 14) (by (first | omega | (simp only [aT, aN, aA, aJ, aM, aF, aFl, aFs]; omega))), h2R (aJ z n 15) (by (first | omega | (simp only [aT, aN, aA, aJ, aM, aF, aFl, aFs]; omega))), h2R (aJ z n 16) (by (first | omega | (simp only [aT, aN, aA, aJ, aM, aF, aFl, aFs]; omega))), h2R (aJ z n 17) (by (first | omega | (simp only [aT, aN, aA, aJ, aM, aF, aFl, aFs]; omega)))]
      exact cf f hf
    obtain ⟨h3, v1, v2, v3⟩ := v_anew W2 V2 ⟨b1, b2⟩ b3 ((h2z 7 (by omega)).trans cx.1) cf2 i1 plen
    have W3 := WS_rf W2 v2
    have V3 := WR_rf V2 v2
    have I3 : h3.2.2.1 = h2.2.2.1 := v2.2.2.1
    obtain ⟨h4, u1, u2', u3, u4, -, u6⟩ := c8 h3 W3 V3 (fun k hk => by
      rw [I3, h2r _ _ (by (first | omega | (simp only [aT, aN, aA, aJ, aM, aF, aFl, aFs]; omega)))]
      exact ⟨(cp k hk).1.symm, (cp k hk).2⟩)
    obtain ⟨t1, t2, t3, t4, t5, t6⟩ := u6 c
    refine ⟨nI (10 - r.2.1), h3, h4, 0, ?_, ?_, ?_⟩
    · rw [if_pos c, ev_gR (W_z Wg), V_cu Vg, ev_gR (W_z Wg), V_dr Vg, ev_rcv (W_cu Wg), cal_eq w1, ev_rcv (W_z W2), cal_eq v1, ev_gR (W_z W3), V_cu V3, ev_gI (W_cu W3), I3, i6]
    · have s3 := W_M W3
      unfold f_X8_custom_
      rw [ev_gI s3, I3, h2r _ _ (by (first | omega | (simp only [aT, aN, aA, aJ, aM, aF, aFl, aFs]; omega))), x17, k_isIn, if_neg hv, u1, if_pos c]
    · -- all holds again
      have R4 : h4.2.2.2 = h3.2.2.2 := u2'.2.2.1
      have q4 : ∀ a k, ¬ cr9 z n a k → h4.2.2.1 a k = h2.2.2.1 a k := fun a k q => by rw [u2'.2.2.2 a k q, I3]
      have j4 : ∀ j, j ≠ 20 → j ≠ 21 → h4.2.2.1 (aJ z n j) = h.2.2.1 (aJ z n j) := fun j hj hj2 => funext (fun k => by rw [q4 _ _ (by unfold cr9 cr8; (first | omega | (simp only [aT, aN, aA, aJ, aM, aF, aFl, aFs]; omega))), h2r _ _ (by (first | omega | (simp only [aT, aN, aA, aJ, aM, aF, aFl, aFs]; omega)))])
      have m4 : ∀ k, k ≠ 33 → k ≠ 34 → k ≠ 35 → k ≠ 36 → k ≠ 38 → k ≠ 39 → k ≠ 40 → h4.2.2.1 (aM z n) k = h.2.2.1 (aM z n) k := fun k k1 k2 k3 k4 k5 k6 k7 => by rw [q4 _ _ (by unfold cr9 cr8; (first | omega | (simp only [aT, aN, aA, aJ, aM, aF, aFl, aFs]; omega))), h2r _ _ (by (first | omega | (simp only [aT, aN, aA, aJ, aM, aF, aFl, aFs]; omega)))]
      have c4 : ∀ a, z + 8 ≤ a → (a < z + 12 + 3 * n ∨ z + 41 + 3 * n ≤ a) → h4.2.2.1 a = h.2.2.1 a := fun a q1 q2 => funext (fun k => by rw [q4 _ _ (by unfold cr9 cr8; (first | omega | (simp only [aT, aN, aA, aJ, aM, aF, aFl, aFs]; omega))), h2r _ _ q1])
      have z4 : ∀ a k, a < z + 8 → h4.2.2.1 a k = h2.2.2.1 a k := fun a k q => q4 a k (by unfold cr9 cr8; (first | omega | (simp only [aT, aN, aA, aJ, aM, aF, aFl, aFs]; omega)))
      have z44 : ∀ k, h4.2.2.1 (z + 4) k = h2.2.2.1 (z + 4) k := fun k => z4 _ _ (by omega)
      have z45 : ∀ k, h4.2.2.1 (z + 5) k = h2.2.2.1 (z + 5) k := fun k => z4 _ _ (by omega)
      refine ⟨⟨b1, b2, b3, b4, by omega⟩, WS_ag W3 u2', WR_ag V3 u2', ?_, ?_, ?_, ?_, ?_, ?_, ?_⟩
      · intro i hi
        rw [c4 (aT z n i) (by (first | omega | (simp only [aT, aN, aA, aJ, aM, aF, aFl, aFs]; omega))) (by (first | omega | (simp only [aT, aN, aA, aJ, aM, aF, aFl, aFs]; omega))), c4 (aN z n i) (by (first | omega | (simp only [aT, aN, aA, aJ, aM, aF, aFl, aFs]; omega))) (by (first | omega | (simp only [aT, aN, aA, aJ, aM, aF, aFl, aFs]; omega))), j4 0 (by omega) (by omega), j4 1 (by omega) (by omega), j4 2 (by omega) (by omega), j4 3 (by omega) (by omega), j4 4 (by omega) (by omega), j4 5 (by omega) (by omega), j4 6 (by omega) (by omega), j4 7 (by omega) (by omega), j4 8 (by omega) (by omega), j4 9 (by omega) (by omega)]
        exact ct i hi
      · intro f hf
        rw [c4 (aF z n f) (by (first | omega | (simp only [aT, aN, aA, aJ, aM, aF, aFl, aFs]; omega))) (by (first | omega | (simp only [aT, aN, aA, aJ, aM, aF, aFl, aFs]; omega))), j4 10 (by omega) (by omega), j4 11 (by omega) (by omega), j4 12 (by omega) (by omega), j4 13 (by omega) (by omega), j4 14 (by omega) (by omega), j4 15 (by omega) (by omega), j4 16 (by omega) (by omega), j4 17 (by omega) (by omega)]
        exact cf f hf
      · obtain ⟨k1, k2, k3, k4, -, k6, k7, k8, k9, k10, k11, k12, k13, k14, k15, -, -⟩ := cx
        have zz : ∀ k, k ≠ 11 → h4.2.2.1 z k = h.2.2.1 z k := fun k hk => (z4 _ _ (by omega)).trans (h2z k hk)
        unfold CX
        rw [zz 7 (by omega), zz 8 (by omega), zz 9 (by omega), zz 10 (by omega), zz 12 (by omega), zz 13 (by omega), zz 14 (by omega), m4 0 (by omega) (by omega) (by omega) (by omega) (by omega) (by omega) (by omega), m4 1 (by omega) (by omega) (by omega) (by omega) (by omega) (by omega) (by omega), m4 2 (by omega) (by omega) (by omega) (by omega) (by omega) (by omega) (by omega), m4 3 (by omega) (by omega) (by omega) (by omega) (by omega) (by omega) (by omega), m4 23 (by omega) (by omega) (by omega) (by omega) (by omega) (by omega) (by omega), m4 24 (by omega) (by omega) (by omega) (by omega) (by omega) (by omega) (by omega), m4 25 (by omega) (by omega) (by omega) (by omega) (by omega) (by omega) (by omega), m4 26 (by omega) (by omega) (by omega) (by omega) (by omega) (by omega) (by omega), m4 27 (by omega) (by omega) (by omega) (by omega) (by omega) (by omega) (by omega), m4 28 (by omega) (by omega) (by omega) (by omega) (by omega) (by omega) (by omega), m4 29 (by omega) (by omega) (by omega) (by omega) (by omega) (by omega) (by omega), m4 30 (by omega) (by omega) (by omega) (by omega) (by omega) (by omega) (by omega), c4 (z + 8) (by omega) (by omega), u3, u4, z4 z 11 (by omega), z4 (z + 2) 1 (by omega), w2.2.2.2 z 11 (by unfold fc; omega), w2.2.2.2 (z + 2) 1 (by unfold fc; omega), a11, a21]
        exact ⟨k1, k2, k3, k4, rfl, k6, k7, k8, k9, k10, k11, k12, k13, k14, k15, rfl, rfl⟩
      · intro i hi
        rw [z4 (z + 3) i (by omega), j4 19 (by omega) (by omega), w2.2.2.2 (z + 3) i (by unfold fc; omega), pA.2.2.2 (z + 3) i (by unfold cp7; omega)]
        exact cp i hi
      · refine ⟨r.2.2.1.length, plen, (z44 1).trans i1, ?_, Or.inr ⟨t1, t2, ?_, ?_, ?_, fun j hj => ?_⟩⟩
        · rw [z44, i5]; exact Dg.2.2.2.2.2
        · rw [z44, i3, t4]
        · rw [z44, i4, t5]
        · rw [z44, i5, t6]
        · rw [z45, i2 j hj, t3 j hj]
      · unfold CO
        rw [j4 18 (by omega) (by omega), j4 13 (by omega) (by omega), j4 12 (by omega) (by omega), j4 14 (by omega) (by omega), j4 15 (by omega) (by omega), j4 16 (by omega) (by omega)]
        exact co
      · intro i hi
        rw [R4, ordl_congr (I' := h4.2.2.1) (I := h2.2.2.1) ((j4 10 (by omega) (by omega)).trans (h2R _ (by (first | omega | (simp only [aT, aN, aA, aJ, aM, aF, aFl, aFs]; omega)))).symm) ((j4 11 (by omega) (by omega)).trans (h2R _ (by (first | omega | (simp only [aT, aN, aA, aJ, aM, aF, aFl, aFs]; omega)))).symm) ((j4 12 (by omega) (by omega)).trans (h2R _ (by (first | omega | (simp only [aT, aN, aA, aJ, aM, aF, aFl, aFs]; omega)))).symm) ((j4 17 (by omega) (by omega)).trans (h2R _ (by (first | omega | (simp only [aT, aN, aA, aJ, aM, aF, aFl, aFs]; omega)))).symm) (z44 1) (funext z45)]
        exact v3 i hi
  · obtain ⟨h4, u1, -, u3, u4, u5, -⟩ := c8 g Wg Vg (fun k hk => by
      rw [gJ _ _ (by (first | omega | (simp only [aT, aN, aA, aJ, aM, aF, aFl, aFs]; omega)))]
      exact ⟨(cp k hk).1.symm, (cp k hk).2⟩)
    have pe := u5 c
    refine ⟨-1, g, h4, 0, ?_, ?_, ?_⟩
    · rw [if_neg c]
    · unfold f_X8_custom_
      rw [ev_gI (W_M Wg), gJ _ _ (by (first | omega | (simp only [aT, aN, aA, aJ, aM, aF, aFl, aFs]; omega))), x17, k_isIn, if_neg hv, u1, if_neg c]
    · have KX0 : KX z n nf h := ⟨ct, cf, cp, cc, co, ch⟩
      have K1 := KX_u (a := z) (k := 11) (x := r.1) KX0 (Or.inl rfl)
      have K2 := KX_u (a := z + 2) (k := 1) (x := 0) K1 (Or.inr (Or.inr (Or.inl rfl)))
      have K3 := KX_u (a := aM z n) (k := 33) (x := 0) K2 (Or.inr (Or.inr (Or.inr ⟨rfl, by omega⟩)))
      have K4 := KX_u (a := aM z n) (k := 36) (x := r.1) K3 (Or.inr (Or.inr (Or.inr ⟨rfl, by omega⟩)))
      have cX : CX z n nf dN 0 (setI (setI (setI (setI h z 11 r.1) (z + 2) 1 0) (aM z n) 33 0) (aM z n) 36 r.1).2.2.1 := by
        obtain ⟨k1, k2, k3, k4, -, k6, k7, k8, k9, k10, k11, k12, k13, k14, k15, -, -⟩ := cx
        unfold CX
        simp (disch := first | omega | (simp only [aT, aN, aA, aJ, aM, aF, aFl, aFs]; omega)) only [sI_u, u2n, u2s]
        exact ⟨k1, k2, k3, k4, trivial, k6, k7, k8, k9, k10, k11, k12, k13, k14, k15, rfl, rfl⟩
      have C2 : Cpl z n nf dN 0 (setI (setI (setI (setI h z 11 r.1) (z + 2) 1 0) (aM z n) 33 0) (aM z n) 36 r.1) := Cpl_X ⟨b1, b2, b3, b4, by omega⟩ W V cX K4
      refine Cpl_scr C2 ⟨pe.1.trans pA.1, pe.2.1.trans pA.2.1, pe.2.2.1.trans pA.2.2.1, fun a k s => ?_⟩
      have hs : sc z n (z + 2) 2 := by unfold sc; omega
      by_cases q1 : a = z ∧ k = 11
      · obtain ⟨rfl, rfl⟩ := q1
        rw [pe.2.2.2 _ _ (by unfold cr8; (first | omega | (simp only [aT, aN, aA, aJ, aM, aF, aFl, aFs]; omega))), a11]
        simp (disch := first | omega | (simp only [aT, aN, aA, aJ, aM, aF, aFl, aFs]; omega)) only [sI_u, u2n, u2s]
      by_cases q2 : a = z + 2 ∧ k = 1
      · obtain ⟨rfl, rfl⟩ := q2
        rw [pe.2.2.2 _ _ (by unfold cr8; (first | omega | (simp only [aT, aN, aA, aJ, aM, aF, aFl, aFs]; omega))), a21]
        simp (disch := first | omega | (simp only [aT, aN, aA, aJ, aM, aF, aFl, aFs]; omega)) only [sI_u, u2n, u2s]
      by_cases q3 : a = aM z n ∧ k = 33
      · obtain ⟨rfl, rfl⟩ := q3
        rw [u3]
        simp (disch := first | omega | (simp only [aT, aN, aA, aJ, aM, aF, aFl, aFs]; omega)) only [sI_u, u2n, u2s]
      by_cases q4 : a = aM z n ∧ k = 36
      · obtain ⟨rfl, rfl⟩ := q4
        rw [u4]
        simp (disch := first | omega | (simp only [aT, aN, aA, aJ, aM, aF, aFl, aFs]; omega)) only [sI_u, u2n, u2s]
      have n1 : a ≠ z ∨ k ≠ 11 := by omega
      have n2 : a ≠ z + 2 ∨ k ≠ 1 := by omega
      have n3 : a ≠ aM z n ∨ k ≠ 33 := by omega
      have n4 : a ≠ aM z n ∨ k ≠ 36 := by omega
      simp only [sI_u]
      rw [u2n n4, u2n n3, u2n n2, u2n n1, pe.2.2.2 a k (fun q => by
        rcases cr8_sc q with q | q | q
        · exact q3 q
        · exact q4 q
        · exact s q), pA.2.2.2 a k (fun q => by
        rcases q with q | q | q
        · exact s (cp7_sc q)
        · exact q1 q
        · exact q2 q)]
end OC
