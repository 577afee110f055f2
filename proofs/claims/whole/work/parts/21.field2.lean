theorem ev_nO {α : Type} {h : AH} {ci : Nat} {K : Nat → AH → Option α} : nO h ci K = K h.1 (newS h (.inl ci)) := rfl
def nwF (h : AH) (a : Nat) (x0 x1 x2 x3 x4 x5 : Int32) : AH := setI (setI (setI (setI (setI (setI (setI (setI (setI (setI (setI (setR h a 6 none) a 7 0) a 8 0) a 9 0) a 10 0) a 11 0) a 0 x0) a 1 x1) a 2 x2) a 3 x3) a 4 x4) a 5 x5
theorem v_init1 {h : AH} {a : Nat} (sh : h.2.1 a = some (.inl 1)) (x0 x1 x2 x3 x4 : Int32) {x5 : Int32} (h5 : x5 = 0 ∨ x5 = 1) : f_X1_init h a x0 x1 x2 x3 x4 x5 = some ((), nwF h a x0 x1 x2 x3 x4 x5) := by
  unfold f_X1_init nwF
  simp (disch := first | assumption | (simp only [sI_s, sR_s]; assumption)) only [↓ev_pI, ↓ev_pR, ↓ev_pZ]
theorem nwF_1 {h : AH} {a : Nat} {x0 x1 x2 x3 x4 x5 : Int32} : (nwF h a x0 x1 x2 x3 x4 x5).1 = h.1 := rfl
theorem nwF_s {h : AH} {a : Nat} {x0 x1 x2 x3 x4 x5 : Int32} : (nwF h a x0 x1 x2 x3 x4 x5).2.1 = h.2.1 := rfl
theorem nwF_r {h : AH} {a : Nat} {x0 x1 x2 x3 x4 x5 : Int32} : (nwF h a x0 x1 x2 x3 x4 x5).2.2.2 = (setR h a 6 none).2.2.2 := rfl
theorem nwF_o {h : AH} {a a' : Nat} {x0 x1 x2 x3 x4 x5 : Int32} (hn : a' ≠ a) : (nwF h a x0 x1 x2 x3 x4 x5).2.2.1 a' = h.2.2.1 a' := by
  unfold nwF
  simp only [sI_u, sR_i, u2_ne _ _ hn]
theorem nwF_f {h : AH} {a : Nat} {x0 x1 x2 x3 x4 x5 : Int32} : (nwF h a x0 x1 x2 x3 x4 x5).2.2.1 a 0 = x0 ∧ (nwF h a x0 x1 x2 x3 x4 x5).2.2.1 a 1 = x1 ∧ (nwF h a x0 x1 x2 x3 x4 x5).2.2.1 a 2 = x2 ∧ (nwF h a x0 x1 x2 x3 x4 x5).2.2.1 a 3 = x3 ∧ (nwF h a x0 x1 x2 x3 x4 x5).2.2.1 a 4 = x4 ∧ (nwF h a x0 x1 x2 x3 x4 x5).2.2.1 a 5 = x5 ∧ (nwF h a x0 x1 x2 x3 x4 x5).2.2.1 a 9 = 0 ∧ (nwF h a x0 x1 x2 x3 x4 x5).2.2.1 a 10 = 0 ∧ (nwF h a x0 x1 x2 x3 x4 x5).2.2.1 a 11 = 0 := by
  unfold nwF
  simp only [sI_u, u2_eq]
  refine ⟨rfl, rfl, rfl, rfl, rfl, rfl, rfl, rfl, rfl⟩
section FLD2
variable {z n nf dN hN : Nat} {h : AH}
/-- after the class has made the field and put it into its row -/
def hMade (z n nf : Nat) (h : AH) (x1 x2 x3 x4 x5 : Int32) : AH := setI (setR (nwF (newS h (.inl 1)) (aF z n nf) (nI nf) x1 x2 x3 x4 x5) (z + 1) nf (some (aF z n nf))) z 7 (nI (nf + 1))
def hSet (z n nf : Nat) (h : AH) (x1 x2 x3 x4 x5 : Int32) : AH := setI (setI (setI (setI (setI (setI h (aJ z n 10) nf x1) (aJ z n 11) nf x2) (aJ z n 12) nf x3) (aJ z n 13) nf x4) (aJ z n 17) nf x5) (aM z n) 3 (nI (nf + 1))
theorem o_field (C : Cpl z n nf dN hN h) (t far area owner : Int32) {temple : Int32} (h5 : temple = 0 ∨ temple = 1) : ∃ nf' r h1 h2, f_X7_field h z t far area owner temple = some (r, h1) ∧ f_X8_field h1 (aM z n) t far area owner temple = some (r, h2) ∧ Cpl z n nf' dN hN h2 := by
  obtain ⟨b, W, V, ct, K, KX', cx⟩ := o_start C
  obtain ⟨b1, b2, b3, b4, b5⟩ := id b
  have hm := hM0 cx
  have s0 := W_z W
  have sM := W_M W
  have sfa := W_fa W
  have e7 : h.2.2.1 z 7 = nI nf := cx.1
  have e3 : h.2.2.1 (aM z n) 3 = nI nf := cx.2.2.2.2.2.2.2.2.2.2.1
  have no : ∀ l6, f_X7_field_47 h z t far area owner temple l6 = some (-1, h) := by
    intro l6
    unfold f_X7_field_47 f_X7_field_48 f_X7_field_71
    rw [ev_gI s0, if_pos rfl]
  unfold f_X7_field f_X8_field f_X8_field_48
  by_cases ht : isT n t
  case neg =>
    refine ⟨nf, -1, h, h, ?_, ?_, C⟩
    · rw [ev_rcv s0, k_tankOut W V b2 ht, ev_nulN, no]
    · rw [ev_rcv sM, k_isTankOut W hm b2 b1 ht, if_pos rfl]
  obtain ⟨i, hi, rfl⟩ := isT_nI ht (by omega)
  by_cases w2 : wi far 0 9 = 0
  · refine ⟨nf, -1, h, h, ?_, ?_, C⟩
    · rw [ev_rcv s0, k_tankIn W V b2 hi, ev_nulS, k_isWithin, if_pos w2, no]
    · rw [ev_rcv sM, k_isTankIn W hm b2 b1 hi, if_neg one_ne, k_isIn, if_pos w2]
  by_cases w3 : wi area 1 20 = 0
  · refine ⟨nf, -1, h, h, ?_, ?_, C⟩
    · rw [ev_rcv s0, k_tankIn W V b2 hi, ev_nulS, k_isWithin, if_neg w2, k_isWithin, if_pos w3, no]
    · rw [ev_rcv sM, k_isTankIn W hm b2 b1 hi, if_neg one_ne, k_isIn, if_neg w2, k_isIn, if_pos w3]
  by_cases w4 : wi owner 0 9 = 0
  · refine ⟨nf, -1, h, h, ?_, ?_, C⟩
    · rw [ev_rcv s0, k_tankIn W V b2 hi, ev_nulS, k_isWithin, if_neg w2, k_isWithin, if_neg w3, k_isWithin, if_pos w4, no]
    · rw [ev_rcv sM, k_isTankIn W hm b2 b1 hi, if_neg one_ne, k_isIn, if_neg w2, k_isIn, if_neg w3, k_isIn, if_pos w4]
  by_cases hnf : nf = 40
  · subst hnf
    refine ⟨40, -1, h, h, ?_, ?_, C⟩
    · unfold f_X7_field_48 f_X7_field_71
      rw [ev_rcv s0, k_tankIn W V b2 hi, ev_nulS, k_isWithin, if_neg w2, k_isWithin, if_neg w3, k_isWithin, if_neg w4, ev_gI s0, if_neg one_ne, ev_gR s0, V_fa V, ev_aL sfa, e7, if_neg (show ¬ nI 40 < Int32.ofNat 40 from by decide)]
    · rw [ev_rcv sM, k_isTankIn W hm b2 b1 hi, if_neg one_ne, k_isIn, if_neg w2, k_isIn, if_neg w3, k_isIn, if_neg w4, ev_gI sM, e3, if_pos (show nI 40 = 40 from rfl)]
  have hnf : nf < 40 := by omega
  obtain ⟨q2, -, u2', rfl⟩ := wi_nI (a := 0) (b := 9) w2 (by omega) (by omega)
  obtain ⟨q3, l3, u3, rfl⟩ := wi_nI (a := 1) (b := 20) w3 (by omega) (by omega)
  obtain ⟨q4, -, u4, rfl⟩ := wi_nI (a := 0) (b := 9) w4 (by omega) (by omega)
  have ha : h.1 = aF z n nf := W.1
  -- the heap when the field is made
  have D1 : (hMade z n nf h (nI i) (nI q2) (nI q3) (nI q4) temple).1 = h.1 + 1 := rfl
  have D2 : (hMade z n nf h (nI i) (nI q2) (nI q3) (nI q4) temple).2.1 = fun a => if a = h.1 then some (.inl 1) else h.2.1 a := rfl
  have Dr : ∀ a k, a ≠ aF z n nf → (a ≠ z + 1 ∨ k ≠ nf) → (hMade z n nf h (nI i) (nI q2) (nI q3) (nI q4) temple).2.2.2 a k = h.2.2.2 a k := by
    intro a k q1 q2'
    unfold hMade
    rw [sI_r, sR_r, if_neg (fun e => by rcases q2' with q | q; exact q e.1; exact q e.2), nwF_r, sR_r, if_neg (fun e => q1 e.1)]
    show (if a = h.1 then none else h.2.2.2 a k) = _
    rw [if_neg (by rw [ha]; exact q1)]
  have Dr1 : (hMade z n nf h (nI i) (nI q2) (nI q3) (nI q4) temple).2.2.2 (z + 1) nf = some (aF z n nf) := by
    unfold hMade
    rw [sI_r, sR_r, if_pos ⟨rfl, rfl⟩]
  have DO : ∀ a, a ≠ aF z n nf → a ≠ z → (hMade z n nf h (nI i) (nI q2) (nI q3) (nI q4) temple).2.2.1 a = h.2.2.1 a := by
    intro a q1 q2'
    unfold hMade
    rw [sI_u, u2_ne _ _ q2', sR_i, nwF_o q1]
    funext k
    show (if a = h.1 then 0 else h.2.2.1 a k) = _
    rw [if_neg (by rw [ha]; exact q1)]
  have DF : (hMade z n nf h (nI i) (nI q2) (nI q3) (nI q4) temple).2.2.1 (aF z n nf) = (nwF (newS h (.inl 1)) (aF z n nf) (nI nf) (nI i) (nI q2) (nI q3) (nI q4) temple).2.2.1 (aF z n nf) := by
    unfold hMade
    rw [sI_u, u2_ne _ _ (by (first | omega | (simp only [aT, aN, aA, aJ, aM, aF, aFl, aFs]; omega))), sR_i]
  have DZ : (hMade z n nf h (nI i) (nI q2) (nI q3) (nI q4) temple).2.2.1 z 7 = nI (nf + 1) ∧ ∀ k, k ≠ 7 → (hMade z n nf h (nI i) (nI q2) (nI q3) (nI q4) temple).2.2.1 z k = h.2.2.1 z k := by
    unfold hMade
    refine ⟨by rw [sI_u, u2s], fun k hk => ?_⟩
    rw [sI_u, u2n (Or.inr hk), sR_i, nwF_o (by (first | omega | (simp only [aT, aN, aA, aJ, aM, aF, aFl, aFs]; omega)))]
    show (if z = h.1 then 0 else h.2.2.1 z k) = _
    rw [if_neg (by rw [ha]; (first | omega | (simp only [aT, aN, aA, aJ, aM, aF, aFl, aFs]; omega)))]
  have WD : WS z n (nf + 1) (hMade z n nf h (nI i) (nI q2) (nI q3) (nI q4) temple) := WS_new W D1 D2
  have VD : WR z n (nf + 1) (hMade z n nf h (nI i) (nI q2) (nI q3) (nI q4) temple) := WR_new V (fun a k e1 e2 e3 => Dr a k (by (first | omega | (simp only [aT, aN, aA, aJ, aM, aF, aFl, aFs]; omega))) (by
    by_cases q : a = z + 1
    · exact Or.inr (e2 q)
    · exact Or.inl q)) Dr1
  obtain ⟨kc, hkc, ek, -⟩ := CC_use K.2.2.2.1
  have hcI : (hMade z n nf h (nI i) (nI q2) (nI q3) (nI q4) temple).2.2.1 (z + 4) = h.2.2.1 (z + 4) := DO _ (by (first | omega | (simp only [aT, aN, aA, aJ, aM, aF, aFl, aFs]; omega))) (by omega)
  have hl40 : (ordl z n nf h.2.2.1 i).length < 1000 := by
    have := ordp_len (z := z) (n := n) (i := i) (I := h.2.2.1) nf
    rw [ordp_nf] at this
    omega
  obtain ⟨hE, eE, pE⟩ := v_put (z := z) (n := n) (nf := nf + 1) (h := hMade z n nf h (nI i) (nI q2) (nI q3) (nI q4) temple) WD VD b2 (k := kc) (by rw [hcI]; exact ek) hkc (i := i) (f := nf) hi (l := ordl z n nf h.2.2.1 i) (fun g hg => by
      have hg' : g < nf + 1 := by
        rcases hg with hg | hg
        · omega
        · have := (ordl_mem.mp hg).1
          omega
      refine ⟨by omega, W_F WD hg', ?_⟩
      by_cases e : g = nf
      · subst e
        unfold FD
        rw [DF]
        obtain ⟨f0, f1, f2, f3, f4, f5', -⟩ := nwF_f (h := newS h (.inl 1)) (a := aF z n g) (x0 := nI g) (x1 := nI i) (x2 := nI q2) (x3 := nI q3) (x4 := nI q4) (x5 := temple)
        rw [f0, f2, f3, f5']
        exact ⟨rfl, ⟨q2, u2', rfl⟩, ⟨q3, l3, u3, rfl⟩, h5⟩
      · unfold FD
        rw [DO _ (by (first | omega | (simp only [aT, aN, aA, aJ, aM, aF, aFl, aFs]; omega))) (by (first | omega | (simp only [aT, aN, aA, aJ, aM, aF, aFl, aFs]; omega)))]
        exact FD_of K.1 (by omega)) (by
      rw [Dr _ _ (by (first | omega | (simp only [aT, aN, aA, aJ, aM, aF, aFl, aFs]; omega))) (Or.inl (by (first | omega | (simp only [aT, aN, aA, aJ, aM, aF, aFl, aFs]; omega))))]
      exact Chn_congr _ _ (K.2.2.2.2.2 i hi) (fun x hx => Dr _ _ (by have := (ordl_mem.mp hx).1; (first | omega | (simp only [aT, aN, aA, aJ, aM, aF, aFl, aFs]; omega))) (Or.inl (by (first | omega | (simp only [aT, aN, aA, aJ, aM, aF, aFl, aFs]; omega)))))) (fun q => by have := (ordl_mem.mp q).1; omega) ordl_nodup hl40
  obtain ⟨p1, p2, p3, p4, p5⟩ := pE
  have WE : WS z n (nf + 1) hE := by unfold WS; rw [p1, p2]; exact WD
  have VE : WR z n (nf + 1) hE := WR_new V (fun a k e1 e2 e3 => by
    rw [p5 a k (by by_cases q : a = aT z n i; · right; intro q'; exact e3 (by rw [q]; unfold aT; omega) (by rw [q]; unfold aT; omega) q'
                   · exact Or.inl q) (fun _ g _ => by unfold aF; omega)]
    exact Dr a k (by (first | omega | (simp only [aT, aN, aA, aJ, aM, aF, aFl, aFs]; omega))) (by
      by_cases q : a = z + 1
      · exact Or.inr (e2 q)
      · exact Or.inl q)) (by
    rw [p5 _ _ (Or.inl (by (first | omega | (simp only [aT, aN, aA, aJ, aM, aF, aFl, aFs]; omega)))) (fun _ g _ => by (first | omega | (simp only [aT, aN, aA, aJ, aM, aF, aFl, aFs]; omega)))]
    exact Dr1)
  have sME := W_M WE
  have s10 := W_J10 WE
  have s11 := W_J11 WE
  have s12 := W_J12 WE
  have s13 := W_J13 WE
  have s17 := W_J17 WE
  have eME : hE.2.2.1 (aM z n) = h.2.2.1 (aM z n) := by rw [p3, DO _ (by (first | omega | (simp only [aT, aN, aA, aJ, aM, aF, aFl, aFs]; omega))) (by (first | omega | (simp only [aT, aN, aA, aJ, aM, aF, aFl, aFs]; omega)))]
  have m3 : hE.2.2.1 (aM z n) 3 = nI nf := by rw [eME]; exact e3
  refine ⟨nf + 1, nI nf, hE, hSet z n nf hE (nI i) (nI q2) (nI q3) (nI q4) temple, ?_, ?_, ?_⟩
  · unfold f_X7_field_48 f_X7_field_71
    rw [ev_rcv s0, k_tankIn W V b2 hi, ev_nulS, k_isWithin, if_neg w2, k_isWithin, if_neg w3, k_isWithin, if_neg w4, ev_gI s0, if_neg one_ne, ev_gR s0, V_fa V, ev_aL sfa, e7, if_pos (show nI nf < Int32.ofNat 40 from nI_lt (by omega) (by omega))]
    rw [ev_nO, ha]
    have sN1 : (newS h (.inl 1)).2.1 (aF z n nf) = some (.inl 1) := by
      show (if aF z n nf = h.1 then some (Sum.inl 1) else h.2.1 (aF z n nf)) = _
      rw [if_pos ha.symm]
    have sN : ∀ a, a ≠ aF z n nf → (newS h (.inl 1)).2.1 a = h.2.1 a := by
      intro a q
      show (if a = h.1 then some (Sum.inl 1) else h.2.1 a) = _
      rw [if_neg (by rw [ha]; exact q)]
    have rN : ∀ a k, a ≠ aF z n nf → (nwF (newS h (.inl 1)) (aF z n nf) (nI nf) (nI i) (nI q2) (nI q3) (nI q4) temple).2.2.2 a k = h.2.2.2 a k := by
      intro a k q
      rw [nwF_r, sR_r, if_neg (fun e => q e.1)]
      show (if a = h.1 then none else h.2.2.2 a k) = _
      rw [if_neg (by rw [ha]; exact q)]
    rw [ev_rcv sN1, cal_eq (v_init1 sN1 _ _ _ _ _ h5), ev_gR (by rw [nwF_s, sN _ (by (first | omega | (simp only [aT, aN, aA, aJ, aM, aF, aFl, aFs]; omega)))]; exact s0), rN _ _ (by (first | omega | (simp only [aT, aN, aA, aJ, aM, aF, aFl, aFs]; omega))), V_fa V, ev_sR (N := 40) (by rw [nwF_s, sN _ (by (first | omega | (simp only [aT, aN, aA, aJ, aM, aF, aFl, aFs]; omega)))]; exact sfa) hnf (by omega) (by rw [nwF_s]; exact sN1), nI_1, ev_pI (by rw [sR_s, nwF_s, sN _ (by (first | omega | (simp only [aT, aN, aA, aJ, aM, aF, aFl, aFs]; omega)))]; exact s0)]
    have hz3 := V_cu VD
    have sTD := W_T WD hi
    have s0D := W_z WD
    unfold hMade at hz3 sTD s0D eE
    rw [ev_gR s0D, hz3, ev_rcv sTD, cal_eq eE]
  · rw [ev_rcv sME, k_isTankIn WE (by rw [eME]; exact hm) b2 b1 hi, if_neg one_ne, k_isIn, if_neg w2, k_isIn, if_neg w3, k_isIn, if_neg w4, ev_gI sME, m3, if_neg (fun q => by have := nI_inj (b := 40) (by omega) (by omega) q; omega)]
    unfold hSet
    have vt := vn_z h5
    simp (disch := first | assumption | (simp only [sI_s, sR_s, sI_r, sI_1, sR_1]; assumption) | omega | (simp only [aT, aN, aA, aJ, aM, aF, aFl, aFs]; omega) | decide) only [↓ev_pZ0, ↓ev_pZ1, ↓ev_dv, ↓ev_rm, ↓ev_rcv, ↓ev_cal, ↓ev_bd, ↓ev_gI, ↓ev_gR, ↓ev_pI, ↓ev_pR, ↓ev_rZ0, ↓ev_rZ1, ↓ev_nulN, ↓ev_nulS, ↓ev_aI, ↓ev_sI, ↓ev_aR, ↓ev_aL, sI_1, sI_s, sI_r, sI_u, sR_1, sR_s, sR_i, vn_i, u2n, u2s, ↓if_true, ↓if_false, m3, V_J10 VE, V_J11 VE, V_J12 VE, V_J13 VE, V_J17 VE, vt, nI_1, nI_prd]
  · refine Cpl_new C hnf hi u2' ⟨l3, u3⟩ u4 h5 (by unfold WS hSet; exact WE) (by unfold WR hSet; exact VE) (fun a g1 g2 g3 g4 => ?_) ?_ ?_ (fun j hj k hk => ?_) ?_ ?_ ?_ (fun a k g1 g2 g3 g4 => ?_)
    · unfold hSet
      simp only [sI_u]
      rw [u2_ne _ _ g3, u2_ne _ _ (g4 17 (by omega)), u2_ne _ _ (g4 13 (by omega)), u2_ne _ _ (g4 12 (by omega)), u2_ne _ _ (g4 11 (by omega)), u2_ne _ _ (g4 10 (by omega)), p3, DO a g1 g2]
    · have hr : (hSet z n nf hE (nI i) (nI q2) (nI q3) (nI q4) temple).2.2.1 (aF z n nf) = hE.2.2.1 (aF z n nf) := by
        unfold hSet
        simp only [sI_u]
        rw [u2_ne _ _ (by (first | omega | (simp only [aT, aN, aA, aJ, aM, aF, aFl, aFs]; omega))), u2_ne _ _ (by (first | omega | (simp only [aT, aN, aA, aJ, aM, aF, aFl, aFs]; omega))), u2_ne _ _ (by (first | omega | (simp only [aT, aN, aA, aJ, aM, aF, aFl, aFs]; omega))), u2_ne _ _ (by (first | omega | (simp only [aT, aN, aA, aJ, aM, aF, aFl, aFs]; omega))), u2_ne _ _ (by (first | omega | (simp only [aT, aN, aA, aJ, aM, aF, aFl, aFs]; omega))), u2_ne _ _ (by (first | omega | (simp only [aT, aN, aA, aJ, aM, aF, aFl, aFs]; omega)))]
      rw [hr, p3, DF]
      exact nwF_f
    · unfold hSet
      simp (disch := first | omega | (simp only [aT, aN, aA, aJ, aM, aF, aFl, aFs]; omega)) only [sI_u, u2n, u2s]
      exact ⟨trivial, trivial, trivial, trivial, trivial⟩
    · unfold hSet
      have : hE.2.2.1 (aJ z n j) k = h.2.2.1 (aJ z n j) k := by rw [p3, DO _ (by (first | omega | (simp only [aT, aN, aA, aJ, aM, aF, aFl, aFs]; omega))) (by (first | omega | (simp only [aT, aN, aA, aJ, aM, aF, aFl, aFs]; omega)))]
      simp (disch := first | omega | exact Or.inr hk | exact Or.inl (by (first | omega | (simp only [aT, aN, aA, aJ, aM, aF, aFl, aFs]; omega)))) only [sI_u, u2n]
      exact this
    · unfold hSet
      refine ⟨by rw [sI_u, u2s], fun k hk => ?_⟩
      simp only [sI_u]
      rw [u2n (Or.inr hk), u2_ne _ _ (by (first | omega | (simp only [aT, aN, aA, aJ, aM, aF, aFl, aFs]; omega))), u2_ne _ _ (by (first | omega | (simp only [aT, aN, aA, aJ, aM, aF, aFl, aFs]; omega))), u2_ne _ _ (by (first | omega | (simp only [aT, aN, aA, aJ, aM, aF, aFl, aFs]; omega))), u2_ne _ _ (by (first | omega | (simp only [aT, aN, aA, aJ, aM, aF, aFl, aFs]; omega))), u2_ne _ _ (by (first | omega | (simp only [aT, aN, aA, aJ, aM, aF, aFl, aFs]; omega))), eME]
    · have hr : (hSet z n nf hE (nI i) (nI q2) (nI q3) (nI q4) temple).2.2.1 z = hE.2.2.1 z := by
        unfold hSet
        simp only [sI_u]
        rw [u2_ne _ _ (by (first | omega | (simp only [aT, aN, aA, aJ, aM, aF, aFl, aFs]; omega))), u2_ne _ _ (by (first | omega | (simp only [aT, aN, aA, aJ, aM, aF, aFl, aFs]; omega))), u2_ne _ _ (by (first | omega | (simp only [aT, aN, aA, aJ, aM, aF, aFl, aFs]; omega))), u2_ne _ _ (by (first | omega | (simp only [aT, aN, aA, aJ, aM, aF, aFl, aFs]; omega))), u2_ne _ _ (by (first | omega | (simp only [aT, aN, aA, aJ, aM, aF, aFl, aFs]; omega))), u2_ne _ _ (by (first | omega | (simp only [aT, aN, aA, aJ, aM, aF, aFl, aFs]; omega)))]
      rw [hr, p3]
      exact DZ
    · have hk1 : kyC z n (hSet z n nf hE (nI i) (nI q2) (nI q3) (nI q4) temple).2.2.1 = kyC z n hE.2.2.1 := by
        funext c f
        have hr : (hSet z n nf hE (nI i) (nI q2) (nI q3) (nI q4) temple).2.2.1 (aF z n f) = hE.2.2.1 (aF z n f) := by
          unfold hSet
          simp only [sI_u]
          rw [u2_ne _ _ (by (first | omega | (simp only [aT, aN, aA, aJ, aM, aF, aFl, aFs]; omega))), u2_ne _ _ (by (first | omega | (simp only [aT, aN, aA, aJ, aM, aF, aFl, aFs]; omega))), u2_ne _ _ (by (first | omega | (simp only [aT, aN, aA, aJ, aM, aF, aFl, aFs]; omega))), u2_ne _ _ (by (first | omega | (simp only [aT, aN, aA, aJ, aM, aF, aFl, aFs]; omega))), u2_ne _ _ (by (first | omega | (simp only [aT, aN, aA, aJ, aM, aF, aFl, aFs]; omega))), u2_ne _ _ (by (first | omega | (simp only [aT, aN, aA, aJ, aM, aF, aFl, aFs]; omega)))]
        simp only [kyC, hr]
      have hr2 : ∀ d, d ≤ 9 → (hSet z n nf hE (nI i) (nI q2) (nI q3) (nI q4) temple).2.2.1 (z + d) = hE.2.2.1 (z + d) := by
        intro d hd
        unfold hSet
        simp only [sI_u]
        rw [u2_ne _ _ (by (first | omega | (simp only [aT, aN, aA, aJ, aM, aF, aFl, aFs]; omega))), u2_ne _ _ (by (first | omega | (simp only [aT, aN, aA, aJ, aM, aF, aFl, aFs]; omega))), u2_ne _ _ (by (first | omega | (simp only [aT, aN, aA, aJ, aM, aF, aFl, aFs]; omega))), u2_ne _ _ (by (first | omega | (simp only [aT, aN, aA, aJ, aM, aF, aFl, aFs]; omega))), u2_ne _ _ (by (first | omega | (simp only [aT, aN, aA, aJ, aM, aF, aFl, aFs]; omega))), u2_ne _ _ (by (first | omega | (simp only [aT, aN, aA, aJ, aM, aF, aFl, aFs]; omega)))]
      have hf1 : fsts z (hSet z n nf hE (nI i) (nI q2) (nI q3) (nI q4) temple).2.2.1 = fsts z hE.2.2.1 := by
        simp only [fsts, hr2 4 (by omega), hr2 5 (by omega)]
      rw [hk1, hf1, p3]
      exact p4
    · show hE.2.2.2 a k = h.2.2.2 a k
      rw [p5 a k g1 g2]
      exact Dr a k g4 g3
end FLD2
