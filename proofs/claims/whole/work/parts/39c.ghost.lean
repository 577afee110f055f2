/-- the class's cells of hI, the reference's of J -/
def ghI (z n : Nat) (J hI : Nat → Nat → Int32) (a k : Nat) : Int32 := if a < z + 12 + 3 * n ∨ z + 41 + 3 * n ≤ a then hI a k else J a k
/-- hs is h0 but for the reference's rows -/
def Gho (z n : Nat) (h0 hs : AH) : Prop := hs.1 = h0.1 ∧ hs.2.1 = h0.2.1 ∧ hs.2.2.2 = h0.2.2.2 ∧ ∀ a k, (a < z + 12 + 3 * n ∨ z + 41 + 3 * n ≤ a) → hs.2.2.1 a k = h0.2.2.1 a k
theorem Gho.scr {z n : Nat} {h0 hs h : AH} (G : Gho z n h0 hs) (p : Scr z n hs h) : Scr z n h0 (h.1, h.2.1, ghI z n h0.2.2.1 h.2.2.1, h.2.2.2) := ⟨p.1.trans G.1, p.2.1.trans G.2.1, p.2.2.1.trans G.2.2.1, fun a k s => by
  show ghI z n h0.2.2.1 h.2.2.1 a k = h0.2.2.1 a k
  unfold ghI
  split
  · rename_i e
    exact (p.2.2.2 a k s).trans (G.2.2.2 a k e)
  · rfl⟩
section GH3
variable {z n nf dN hN : Nat} {h0 : AH}
theorem gl_pass7 {hs : AH} (G : Gho z n h0 hs) (C : Cpl z n nf dN hN h0) (rain : Int32) {w b o : Nat → Int32} (ho : ∀ i, i < n → ∃ q, q ≤ 20 ∧ o i = nI q) : ∀ (m i : Nat) (h : AH), n - i < m → i ≤ n → Scr z n hs h → (∀ j, i ≤ j → j < n → h.2.2.1 (aA z n j) 0 = w j ∧ h.2.2.1 (aA z n j) 1 = o j ∧ h.2.2.1 (aA z n j) 2 = b j) → (∀ j, j < i → Res7 z n nf h0 rain w b o j h) → h.2.2.1 (aFl z n) 3 = fdD z n nf h0.2.2.1 rain w b o i → h.2.2.1 (aFs z n) 0 = sumF i (fun j => rain * h0.2.2.1 (aJ z n 0) j) ∧ h.2.2.1 (aFs z n) 1 = sumF i (seep z n nf h0.2.2.1 rain w b o) ∧ h.2.2.1 (aFs z n) 2 = sumF i (kept z n nf h0.2.2.1 rain w b o) ∧ h.2.2.1 (aFs z n) 3 = 0 → ∃ h', f_X2_passDay_19 m h (aFl z n) rain (dD z n nf h0.2.2.1 rain w b o i) (ptr z n i) = some ((), h') ∧ Scr z n hs h' ∧ (∀ j, j < n → Res7 z n nf h0 rain w b o j h') ∧ h'.2.2.1 (aFl z n) 3 = fdD z n nf h0.2.2.1 rain w b o n ∧ h'.2.2.1 (aFs z n) 0 = sumF n (fun j => rain * h0.2.2.1 (aJ z n 0) j) ∧ h'.2.2.1 (aFs z n) 1 = sumF n (seep z n nf h0.2.2.1 rain w b o) ∧ h'.2.2.1 (aFs z n) 2 = sumF n (kept z n nf h0.2.2.1 rain w b o) ∧ h'.2.2.1 (aFs z n) 3 = dD z n nf h0.2.2.1 rain w b o n := by
  intro m
  induction m with
  | zero => intro i h h1; omega
  | succ m ih =>
    intro i h h1 h2 p hrest hdone hfl hfs
    have C' := Cpl_scr C (G.scr p)
    have W : WS z n nf h := C'.2.1
    have V : WR z n nf h := C'.2.2.1
    have E : ∀ a k, (a < z + 12 + 3 * n ∨ z + 41 + 3 * n ≤ a) → h.2.2.1 a k = ghI z n h0.2.2.1 h.2.2.1 a k := fun a k e => by unfold ghI; rw [if_pos e]
    have sL := W_fl W
    have sS := W_fs W
    have st : Sta z n h0.2.2.1 (ghI z n h0.2.2.1 h.2.2.1) := (G.scr p).sta
    unfold f_X2_passDay_19 ptr
    by_cases hi : i < n
    · rw [if_pos hi, ev_nulS, ev_gI (W_T W hi), ev_rcv sL]
      obtain ⟨q, hq, eo⟩ := ho i hi
      obtain ⟨r0, r1, r2⟩ := hrest i (Nat.le_refl i) hi
      obtain ⟨h1', e1, g1, ⟨a0, a2, a3, a4⟩, gS, gfl, g0, gs1, gs2⟩ := g_sent7 C' E hi hq (r1.trans eo) rain (dD z n nf h0.2.2.1 rain w b o i)
      rw [r0, r2, ← eo] at e1
      rw [r0, r2, ← eo] at a0 a2 a4
      rw [r0, ← eo] at a3 gfl gs2
      rw [r0] at gs1
      rw [r0, ← eo] at gS
      rw [pD_sta st] at e1
      rw [pW_sta st] at a0
      rw [pB_sta st] at a2
      rw [pT_sta st] at a3 gs2
      rw [pSpl_sta st] at a4
      rw [pX_sta st] at gs1
      rw [pS_sta st, st.ordl, st.1 12 (by omega), hfl] at gfl
      rw [st.1 0 (by omega), hfs.1] at g0
      rw [hfs.2.1] at gs1
      rw [hfs.2.2.1] at gs2
      rw [st.ordl, pS_sta st] at gS
      have p1 : Scr z n h h1' := ⟨g1.1, g1.2.1, g1.2.2.1, fun a k s => g1.2.2.2 a k (fun x => s (cDay_sc hi a k x))⟩
      have p2 := p.tr p1
      have W1 := WS_scr W p1
      have V1 := WR_scr V p1
      have neA : ∀ j k, j < n → j ≠ i → ¬ cDay z n nf (ghI z n h0.2.2.1 h.2.2.1) i (aA z n j) k := by
        intro j k hj hne x
        rcases x with (⟨⟨f, -, e⟩, e2⟩ | ⟨e, e2⟩) | ⟨e, e2⟩ | ⟨e, e2⟩
        · revert e; (first | omega | (simp only [aT, aN, aA, aJ, aM, aF, aFl, aFs]; omega))
        · revert e; (first | omega | (simp only [aT, aN, aA, aJ, aM, aF, aFl, aFs]; omega))
        · unfold aA at e; omega
        · revert e; (first | omega | (simp only [aT, aN, aA, aJ, aM, aF, aFl, aFs]; omega))
      have neA1 : ¬ cDay z n nf (ghI z n h0.2.2.1 h.2.2.1) i (aA z n i) 1 := by
        intro x
        rcases x with (⟨⟨f, -, e⟩, e2⟩ | ⟨e, e2⟩) | ⟨e, e2⟩ | ⟨e, e2⟩
        · omega
        · omega
        · exact e2 rfl
        · revert e; (first | omega | (simp only [aT, aN, aA, aJ, aM, aF, aFl, aFs]; omega))
      have neS : ¬ cDay z n nf (ghI z n h0.2.2.1 h.2.2.1) i (aFs z n) 3 := by
        intro x
        rcases x with (⟨⟨f, -, e⟩, e2⟩ | ⟨e, e2⟩) | ⟨e, e2⟩ | ⟨e, e2⟩
        · omega
        · revert e; (first | omega | (simp only [aT, aN, aA, aJ, aM, aF, aFl, aFs]; omega))
        · revert e; (first | omega | (simp only [aT, aN, aA, aJ, aM, aF, aFl, aFs]; omega))
        · exact e2 rfl
      have neF : ∀ j f, j ≠ i → j < n → f ∈ ordl z n nf h0.2.2.1 j → ¬ cDay z n nf (ghI z n h0.2.2.1 h.2.2.1) i (aF z n f) 7 := by
        intro j f hne hj hf x
        rcases x with (⟨⟨g, hg, e⟩, e2⟩ | ⟨e, e2⟩) | ⟨e, e2⟩ | ⟨e, e2⟩
        · have := aF_inj e
          subst this
          rw [st.ordl] at hg
          have x1 := (ordl_mem.mp hf).2
          have x2 := (ordl_mem.mp hg).2
          rw [x1] at x2
          have := C.1.2.1
          exact hne (nI_inj (by omega) (by omega) x2)
        · omega
        · revert e; (first | omega | (simp only [aT, aN, aA, aJ, aM, aF, aFl, aFs]; omega))
        · revert e; (first | omega | (simp only [aT, aN, aA, aJ, aM, aF, aFl, aFs]; omega))
      rw [cal_eq e1, ev_gR (W_T W1 hi), V_bel V1 hi]
      have nx := ih (i + 1) h1' (by omega) (by omega) p2 (fun j hj hjn => by
        rw [g1.2.2.2 _ _ (neA j 0 hjn (by omega)), g1.2.2.2 _ _ (neA j 1 hjn (by omega)), g1.2.2.2 _ _ (neA j 2 hjn (by omega))]
        exact hrest j (by omega) hjn) (fun j hj => by
        by_cases e : j = i
        · subst e
          exact ⟨a0, a2, a3, a4, by rw [g1.2.2.2 _ _ neA1]; exact r1, gS⟩
        · obtain ⟨d0, d2, d3, d4, d1, dS⟩ := hdone j (by omega)
          refine ⟨?_, ?_, ?_, ?_, ?_, fun f hf => ?_⟩
          · rw [g1.2.2.2 _ _ (neA j 0 (by omega) e)]; exact d0
          · rw [g1.2.2.2 _ _ (neA j 2 (by omega) e)]; exact d2
          · rw [g1.2.2.2 _ _ (neA j 3 (by omega) e)]; exact d3
          · rw [g1.2.2.2 _ _ (neA j 4 (by omega) e)]; exact d4
          · rw [g1.2.2.2 _ _ (neA j 1 (by omega) e)]; exact d1
          · rw [g1.2.2.2 _ _ (neF j f e (by omega) hf)]; exact dS f hf) (by rw [gfl, fdD]) ⟨by rw [g0, sumF], by rw [gs1, sumF]; rfl, by rw [gs2, sumF]; rfl, by rw [g1.2.2.2 _ _ neS]; exact hfs.2.2.2⟩
      rw [dD] at nx
      exact nx
    · have e : i = n := by omega
      subst e
      rw [if_neg (Nat.lt_irrefl i), ev_nulN, ev_gR sL, V_fl2 V, ev_gI sS, ev_pI sS, hfs.2.2.2, Int32.zero_add]
      have p1 : Scr z i hs (setI h (aFs z i) 3 (dD z i nf h0.2.2.1 rain w b o i)) := p.set (by unfold sc aFs; omega)
      refine ⟨_, rfl, p1, fun j hj => ?_, ?_, ?_, ?_, ?_, ?_⟩
      · obtain ⟨d0, d2, d3, d4, d1, dS⟩ := hdone j hj
        have ne : aA z i j ≠ aFs z i := by (first | omega | (simp only [aT, aN, aA, aJ, aM, aF, aFl, aFs]; omega))
        refine ⟨?_, ?_, ?_, ?_, ?_, fun f hf => ?_⟩
        · rw [sI_u, u2_ne _ _ ne]; exact d0
        · rw [sI_u, u2_ne _ _ ne]; exact d2
        · rw [sI_u, u2_ne _ _ ne]; exact d3
        · rw [sI_u, u2_ne _ _ ne]; exact d4
        · rw [sI_u, u2_ne _ _ ne]; exact d1
        · rw [sI_u, u2_ne _ _ (by (first | omega | (simp only [aT, aN, aA, aJ, aM, aF, aFl, aFs]; omega)))]; exact dS f hf
      · rw [sI_u, u2_ne _ _ (by (first | omega | (simp only [aT, aN, aA, aJ, aM, aF, aFl, aFs]; omega)))]; exact hfl
      · rw [sI_u, u2n (Or.inr (by omega))]; exact hfs.1
      · rw [sI_u, u2n (Or.inr (by omega))]; exact hfs.2.1
      · rw [sI_u, u2n (Or.inr (by omega))]; exact hfs.2.2.1
      · rw [sI_u, u2s]
theorem g_pass7 {hs : AH} (G : Gho z n h0 hs) (C : Cpl z n nf dN hN h0) (rain : Int32) (ho : ∀ i, i < n → ∃ q, q ≤ 20 ∧ hs.2.2.1 (aA z n i) 1 = nI q) {w b o : Nat → Int32} (hw : ∀ i, i < n → w i = hs.2.2.1 (aA z n i) 0) (hb : ∀ i, i < n → b i = hs.2.2.1 (aA z n i) 2) (hoo : ∀ i, i < n → o i = hs.2.2.1 (aA z n i) 1) : ∃ h', f_X2_passDay hs (aFl z n) rain = some ((), h') ∧ Scr z n hs h' ∧ (∀ j, j < n → Res7 z n nf h0 rain w b o j h') ∧ h'.2.2.1 (aFl z n) 3 = fdD z n nf h0.2.2.1 rain w b o n ∧ h'.2.2.1 (aFs z n) 0 = sumF n (fun j => rain * h0.2.2.1 (aJ z n 0) j) ∧ h'.2.2.1 (aFs z n) 1 = sumF n (seep z n nf h0.2.2.1 rain w b o) ∧ h'.2.2.1 (aFs z n) 2 = sumF n (kept z n nf h0.2.2.1 rain w b o) ∧ h'.2.2.1 (aFs z n) 3 = dD z n nf h0.2.2.1 rain w b o n := by
  have W : WS z n nf hs := by unfold WS; rw [G.1, G.2.1]; exact C.2.1
  have V : WR z n nf hs := by unfold WR; rw [G.2.2.1]; exact C.2.2.1
  have b1 := C.1.1
  have sL := W_fl W
  have sS := W_fs W
  have rS := V_fl2 V
  have ec : f_X4_clear hs (aFs z n) = some ((), setI (setI (setI (setI hs (aFs z n) 0 0) (aFs z n) 1 0) (aFs z n) 2 0) (aFs z n) 3 0) := by
    unfold f_X4_clear
    rw [ev_pI sS, ev_pI (by rw [sI_s]; exact sS), ev_pI (by rw [sI_s, sI_s]; exact sS), ev_pI (by rw [sI_s, sI_s, sI_s]; exact sS)]
  unfold f_X2_passDay
  rw [ev_gR sL, rS, ev_rcv sS, cal_eq ec, ev_pI (by simp only [sI_s]; exact sL), ev_gR (by simp only [sI_s]; exact sL)]
  simp only [sI_r]
  rw [V_fl0 V]
  have FS : aFl z n ≠ aFs z n := by (first | omega | (simp only [aT, aN, aA, aJ, aM, aF, aFl, aFs]; omega))
  have SF : aFs z n ≠ aFl z n := by (first | omega | (simp only [aT, aN, aA, aJ, aM, aF, aFl, aFs]; omega))
  have nx := gl_pass7 G C rain (w := w) (b := b) (o := o) (fun i hi => by rw [hoo i hi]; exact ho i hi) FU 0 (setI (setI (setI (setI (setI hs (aFs z n) 0 0) (aFs z n) 1 0) (aFs z n) 2 0) (aFs z n) 3 0) (aFl z n) 3 0) (by have := C.1.2.1; rw [fu_big]; omega) (by omega) (((((Scr.rf.set (by unfold sc aFs; omega)).set (by unfold sc aFs; omega)).set (by unfold sc aFs; omega)).set (by unfold sc aFs; omega)).set (by unfold sc aFl; omega)) (fun j _ hj => by
    have h1 : aA z n j ≠ aFs z n := by (first | omega | (simp only [aT, aN, aA, aJ, aM, aF, aFl, aFs]; omega))
    have h2 : aA z n j ≠ aFl z n := by (first | omega | (simp only [aT, aN, aA, aJ, aM, aF, aFl, aFs]; omega))
    simp only [sI_u, u2_ne _ _ h1, u2_ne _ _ h2]
    exact ⟨(hw j hj).symm, (hoo j hj).symm, (hb j hj).symm⟩) (fun j hj => by omega) (by rw [sI_u, u2s]; rfl) (by
    simp (disch := first | (refine Or.inl ?_; assumption) | (refine Or.inr ?_; omega)) only [sI_u, u2n, u2s]
    exact ⟨rfl, rfl, rfl, trivial⟩)
  have e0 : ptr z n 0 = some (aT z n 0) := by unfold ptr; rw [if_pos (by omega)]
  rw [e0, dD] at nx
  exact nx
end GH3
