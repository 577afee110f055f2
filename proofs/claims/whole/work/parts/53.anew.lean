/-! ===== custom: it comes into force in the class ===== -/
def fc (z a _k : Nat) : Prop := a = z + 4 ∨ a = z + 5
section BA
variable {z n nf : Nat} {h : AH}
theorem D7_fc {d : Dr} {h' : AH} (D : D7 z d h) (p : Ag (fc z) h h') : D7 z d h' := by
  unfold D7
  have e6 : h'.2.2.1 (z + 6) = h.2.2.1 (z + 6) := funext (fun k => p.2.2.2 _ _ (by unfold fc; omega))
  have e7 : h'.2.2.1 (z + 7) = h.2.2.1 (z + 7) := funext (fun k => p.2.2.2 _ _ (by unfold fc; omega))
  rw [e6, e7]
  exact D
theorem v_add4 (W : WS z n nf h) (V : WR z n nf h) {m : Nat} (hm : h.2.2.1 (z + 4) 1 = nI m) (hl : m < 10) (x : Int32) : f_X0_addFirst h (z + 4) x = some ((), setI (setI h (z + 5) m x) (z + 4) 1 (nI (m + 1))) := by
  have s6 := W_cu W
  have s7 := W_cf W
  have n67 : z + 4 ≠ z + 5 := by omega
  unfold f_X0_addFirst f_X0_addFirst_32
  rw [ev_gI s6, hm, ev_gR s6, V_cf V, ev_aL s7, if_neg (show ¬ Int32.ofNat 10 ≤ nI m from nI_ge hl (by omega)), ev_gR s6, V_cf V, ev_gI s6, hm, ev_sI s7 hl (by omega), vn_i, ev_gI (by rw [sI_s]; exact s6), sI_u, u2_ne _ _ n67, hm, nI_1, ev_pI (by rw [sI_s]; exact s6)]
/-- the custom in force is the draft -/
def InF (z : Nat) (d : Dr) (s : Nat) (h : AH) : Prop := h.2.2.1 (z + 4) 1 = nI d.1.length ∧ (∀ j, j < d.1.length → h.2.2.1 (z + 5) j = d.1.getD j 0) ∧ h.2.2.1 (z + 4) 2 = d.2.1 ∧ h.2.2.1 (z + 4) 3 = d.2.2.1 ∧ h.2.2.1 (z + 4) 4 = d.2.2.2 ∧ h.2.2.1 (z + 4) 5 = nI s
theorem l_become {d : Dr} {s : Nat} {h0 : AH} (W0 : WS z n nf h0) (V0 : WR z n nf h0) (D : D7 z d h0) (hs : h0.2.2.1 (z + 6) 5 = nI s) (hl : d.1.length ≤ 10) : ∀ (m i : Nat) (h : AH), d.1.length - i < m → i ≤ d.1.length → Ag (fc z) h0 h → h.2.2.1 (z + 4) 1 = nI i → (∀ j, j < i → h.2.2.1 (z + 5) j = d.1.getD j 0) → ∃ h', f_X0_becomeAs_6 m h (z + 4) (some (z + 6)) (nI i) = some ((), h') ∧ Ag (fc z) h0 h' ∧ InF z d s h' := by
  intro m
  induction m with
  | zero => intro i h h1; omega
  | succ m ih =>
    intro i h h1 h2 p e1 hd
    have W := WS_ag W0 p
    have V := WR_ag V0 p
    have s4 := W_cu W
    have s6 := W_dr W
    obtain ⟨d1, d2, d3, d4, d5, d6⟩ := D7_fc D p
    have hs' : h.2.2.1 (z + 6) 5 = nI s := (p.2.2.2 _ _ (by unfold fc; omega)).trans hs
    unfold f_X0_becomeAs_6
    rw [ev_gI s6, d1]
    by_cases hi : i < d.1.length
    · rw [if_neg (nI_ge hi (by omega)), ev_gR s6, V_df V, ev_aL (W_df W), if_neg (show ¬ Int32.ofNat 10 ≤ nI i from nI_ge (by omega) (by omega)), ev_gR s6, V_df V, ev_aI (W_df W) (by omega) (by omega), ev_rcv s4, cal_eq (v_add4 W V e1 (by omega) _), ev_bd, nI_1]
      refine ih (i + 1) _ (by omega) (by omega) ((p.set (Or.inr rfl)).set (Or.inl rfl)) (by rw [sI_u, u2s]) (fun j hj => ?_)
      rw [sI_u, u2_ne _ _ (by omega), sI_u]
      by_cases q : j = i
      · subst q
        rw [u2s]
        exact d2 j hi
      · rw [u2n (Or.inr q)]
        exact hd j (by omega)
    · have q : i = d.1.length := by omega
      subst q
      rw [if_pos (nI_le (Nat.le_refl _) (by omega))]
      unfold f_X0_becomeAs_39
      have n64 : z + 6 ≠ z + 4 := by omega
      rw [ev_gI s6, ev_pI s4, ev_gI (by rw [sI_s]; exact s6), ev_pI (by rw [sI_s]; exact s4), ev_gI (by simp only [sI_s]; exact s6)]
      simp only [sI_u, u2_ne _ _ n64, d3, d4, d5]
      rw [ev_pZ (by simp only [sI_s]; exact s4) d6, ev_gI (by simp only [sI_s]; exact s6)]
      simp only [sI_u, u2_ne _ _ n64, hs']
      rw [ev_pI (by simp only [sI_s]; exact s4)]
      refine ⟨_, rfl, (((p.set (Or.inl rfl)).set (Or.inl rfl)).set (Or.inl rfl)).set (Or.inl rfl), ?_, fun j hj => ?_, ?_, ?_, ?_, ?_⟩
      · simp (disch := (refine Or.inr ?_; omega)) only [sI_u, u2n]; exact e1
      · have n54 : z + 5 ≠ z + 4 := by omega
        simp only [sI_u, u2_ne _ _ n54]
        exact hd j hj
      · simp (disch := (refine Or.inr ?_; omega)) only [sI_u, u2n, u2s]
      · simp (disch := (refine Or.inr ?_; omega)) only [sI_u, u2n, u2s]
      · simp (disch := (refine Or.inr ?_; omega)) only [sI_u, u2n, u2s]
      · simp only [sI_u, u2s]
theorem v_become {d : Dr} {s : Nat} (W : WS z n nf h) (V : WR z n nf h) (D : D7 z d h) (hs : h.2.2.1 (z + 6) 5 = nI s) (hl : d.1.length ≤ 10) : ∃ h', f_X0_becomeAs h (z + 4) (some (z + 6)) = some ((), h') ∧ Ag (fc z) h h' ∧ InF z d s h' := by
  unfold f_X0_becomeAs
  rw [ev_rcv (W_cu W), cal_eq (v_clear (W_cu W))]
  have p : Ag (fc z) h (setI (setI (setI (setI (setI h (z + 4) 1 0) (z + 4) 2 9) (z + 4) 3 0) (z + 4) 4 0) (z + 4) 5 0) := ((((Ag.rf.set (Or.inl rfl)).set (Or.inl rfl)).set (Or.inl rfl)).set (Or.inl rfl)).set (Or.inl rfl)
  exact l_become W V D hs hl FU 0 _ (by rw [fu_big]; omega) (by omega) p (by simp (disch := (refine Or.inr ?_; omega)) only [sI_u, u2n, u2s]; rfl) (fun j hj => by omega)
/-! the order anew -/
def oR (z n a k : Nat) : Prop := (z + 10 ≤ a ∧ a < z + 10 + 3 * n ∧ (a - (z + 10)) % 3 = 0 ∧ k = 9) ∨ (z + 41 + 3 * n ≤ a ∧ k = 6)
def RfO (z n : Nat) (h h' : AH) : Prop := h'.1 = h.1 ∧ h'.2.1 = h.2.1 ∧ h'.2.2.1 = h.2.2.1 ∧ ∀ a k, ¬ oR z n a k → h'.2.2.2 a k = h.2.2.2 a k
theorem RfO.rf : RfO z n h h := ⟨rfl, rfl, rfl, fun _ _ _ => rfl⟩
theorem WS_rf {h' : AH} (W : WS z n nf h) (p : RfO z n h h') : WS z n nf h' := by unfold WS; rw [p.1, p.2.1]; exact W
theorem WR_rf {h' : AH} (V : WR z n nf h) (p : RfO z n h h') : WR z n nf h' := by
  have e := p.2.2.2
  refine ⟨?_, ?_, ?_, ?_, ?_, ?_, ?_, ?_, ?_, ?_, ?_, ?_, ?_, fun i hi => ⟨?_, ?_, ?_, ?_⟩, fun f hf => ?_, fun j hj => ?_⟩
  · rw [e _ _ (by unfold oR; omega)]; exact V_ta V
  · rw [e _ _ (by unfold oR; omega)]; exact V_fa V
  · rw [e _ _ (by unfold oR; omega)]; exact V_tp V
  · rw [e _ _ (by unfold oR; omega)]; exact V_cu V
  · rw [e _ _ (by unfold oR; omega)]; exact V_dr V
  · rw [e _ _ (by unfold oR; omega)]; exact V_fl V
  · rw [e _ _ (by unfold oR; omega)]; exact V_ev V
  · rw [e _ _ (by unfold oR; omega)]; exact V_tb V
  · rw [e _ _ (by unfold oR; omega)]; exact V_cf V
  · rw [e _ _ (by unfold oR; omega)]; exact V_df V
  · rw [e _ _ (by unfold oR aFl; omega)]; exact V_fl0 V
  · rw [e _ _ (by unfold oR aFl; omega)]; exact V_fl1 V
  · rw [e _ _ (by unfold oR aFl; omega)]; exact V_fl2 V
  · rw [e _ _ (by unfold oR; omega)]; exact V_tai V hi
  · rw [e _ _ (by unfold oR aT; omega)]; exact V_bel V hi
  · rw [e _ _ (by unfold oR aT; omega)]; exact V_N V hi
  · rw [e _ _ (by unfold oR aT; omega)]; exact V_A V hi
  · rw [e _ _ (by unfold oR; omega)]; exact V_fai V hf
  · rw [e _ _ (by unfold oR aM; omega)]
    exact V.2.2.2.2.2.2.2.2.2.2.2.2.2.2.2 j hj
theorem l_oa8 (W0 : WS z n nf h) (V0 : WR z n nf h) : ∀ (m i : Nat) (h' : AH), n - i < m → i ≤ n → RfO z n h h' → (∀ j, j < i → h'.2.2.2 (aT z n j) 9 = none) → ∃ h2, f_X7_orderAnew_8 m h' z (ptr z n i) = f_X7_orderAnew_27 FU h2 z 0 ∧ RfO z n h h2 ∧ ∀ j, j < n → h2.2.2.2 (aT z n j) 9 = none := by
  intro m
  induction m with
  | zero => intro i h' h1; omega
  | succ m ih =>
    intro i h' h1 h2 p hd
    have W := WS_rf W0 p
    have V := WR_rf V0 p
    unfold f_X7_orderAnew_8 ptr
    by_cases hi : i < n
    · have sT := W_T W hi
      rw [if_pos hi, ev_nulS, ev_pR sT, ev_gR (by rw [sR_s]; exact sT)]
      have e1 : (setR h' (aT z n i) 9 none).2.2.2 (aT z n i) 1 = ptr z n (i + 1) := by
        rw [sR_r, if_neg (fun q => by have := q.2; omega)]
        exact V_bel V hi
      rw [e1]
      refine ih (i + 1) _ (by omega) (by omega) ⟨p.1, p.2.1, p.2.2.1, fun a k q => ?_⟩ (fun j hj => ?_)
      · rw [sR_r, if_neg (fun x => q (by unfold oR; obtain ⟨rfl, rfl⟩ := x; left; unfold aT; omega))]
        exact p.2.2.2 a k q
      · rw [sR_r]
        by_cases e : j = i
        · subst e
          rw [if_pos ⟨rfl, rfl⟩]
        · rw [if_neg (fun x => by have := x.1; unfold aT at this; omega)]
          exact hd j (by omega)
    · have e : i = n := by omega
      subst e
      rw [if_neg (Nat.lt_irrefl i), ev_nulN]
      exact ⟨h', rfl, p, hd⟩
theorem FD_cf {I : Nat → Nat → Int32} (cf : CF z n nf I) {f : Nat} (hf : f < nf) : FD z n I f := by
  obtain ⟨c0, c1, c2, c3, c4, c5, -, -, -, -, ⟨q2, b2, e2⟩, ⟨q3, b3, b3', e3⟩, -, e5⟩ := cf f hf
  exact ⟨c0, ⟨q2, b2, c2.trans e2⟩, ⟨q3, b3, b3', c3.trans e3⟩, by rw [c5]; exact e5⟩
theorem l_oa27 (W0 : WS z n nf h) (V0 : WR z n nf h) (hn : n ≤ 11) (hnf : nf ≤ 40) (h7 : h.2.2.1 z 7 = nI nf) (cf : CF z n nf h.2.2.1) {k : Nat} (hk : h.2.2.1 (z + 4) 1 = nI k) (hk10 : k ≤ 10) : ∀ (m f : Nat) (h' : AH), nf - f < m → f ≤ nf → RfO z n h h' → (∀ i, i < n → Chn z n h'.2.2.2 (h'.2.2.2 (aT z n i) 9) (ordp z n h.2.2.1 i f)) → ∃ h2, f_X7_orderAnew_27 m h' z (nI f) = some ((), h2) ∧ RfO z n h h2 ∧ ∀ i, i < n → Chn z n h2.2.2.2 (h2.2.2.2 (aT z n i) 9) (ordp z n h.2.2.1 i nf) := by
  intro m
  induction m with
  | zero => intro f h' h1; omega
  | succ m ih =>
    intro f h' h1 h2 p hc
    have W := WS_rf W0 p
    have V := WR_rf V0 p
    have s0 := W_z W
    unfold f_X7_orderAnew_27
    rw [ev_gI s0, p.2.2.1, h7]
    by_cases hf : f < nf
    · have sF := W_F W hf
      obtain ⟨c0, c1, c2, c3, c4, c5, -, -, -, ⟨t, ht, et⟩, -⟩ := cf f hf
      have ha : f_X7_fieldAt h' z (nI f) = some (some (aF z n f), h') := by
        rw [v_fieldAt W V, if_pos ⟨nI_pos (by omega), fun q => by
          have q : nI 40 ≤ nI f := q
          rw [nI_le_iff (by omega) (by omega)] at q
          omega⟩, nI_clamp (by omega), if_pos hf]
      obtain ⟨hp, e1, p1, p2, p3, p4, p5⟩ := v_put W V hn (by rw [p.2.2.1]; exact hk) hk10 ht (f := f) (l := ordp z n h.2.2.1 t f) (fun g hg => by
        have hg' : g < nf := by
          rcases hg with rfl | q
          · exact hf
          · have := ((ordp_mem f g).mp q).1
            omega
        refine ⟨by omega, W_F W hg', ?_⟩
        rw [p.2.2.1]
        exact FD_cf cf hg') (hc t ht) (fun q => by have := ((ordp_mem f f).mp q).1; omega) (srt_nodup (ordp_srt f)) (by have := ordp_len (z := z) (n := n) (i := t) (I := h.2.2.1) f; omega)
      rw [if_neg (nI_ge hf (by omega)), ev_rcv s0, cal_eq ha, ev_nulS, ev_gI sF, p.2.2.1, c1, et, ev_rcv s0, k_tankIn W V hn ht]
      unfold f_X7_orderAnew_57 f_X7_orderAnew_71
      rw [ev_nulS, ev_gR s0, V_cu V, ev_rcv (W_T W ht), cal_eq e1, ev_bd, nI_1]
      rw [p.2.2.1] at p4
      have kk : ∀ g, g < nf → ∀ c, kyC z n h.2.2.1 c g = ky z n h.2.2.1 c g := by
        intro g hg c
        obtain ⟨-, -, g2, g3, -, g5, -⟩ := cf g hg
        rw [ky, kyC, g2, g3, g5]
      have pn : RfO z n h hp := ⟨p1.trans p.1, p2.trans p.2.1, p3.trans p.2.2.1, fun a k' q => by
        rw [p5 a k' (by
          by_cases x : a = aT z n t
          · right
            rintro rfl
            exact q (by unfold oR; left; rw [x]; unfold aT; omega)
          · exact Or.inl x) (fun x g _ y => q (by unfold oR; right; rw [y]; unfold aF; omega))]
        exact p.2.2.2 a k' q⟩
      refine ih (f + 1) hp (by omega) (by omega) pn (fun i hi => ?_)
      rw [ordp_s, et]
      by_cases e : t = i
      · subst e
        rw [if_pos rfl, ← insL_congr _ (fun g hg => ahd_congr _ (kk f hf) (kk g (by have := ((ordp_mem f g).mp hg).1; omega)))]
        exact p4
      · rw [if_neg (fun q => e (nI_inj (by omega) (by omega) q)), p5 _ _ (Or.inl (by unfold aT; omega)) (fun x => by omega)]
        refine Chn_congr _ _ (hc i hi) (fun x hx => ?_)
        have hx' := (ordp_mem f x).mp hx
        refine p5 _ _ (Or.inl (by (first | omega | (simp only [aT, aN, aA, aJ, aM, aF, aFl, aFs]; omega)))) (fun _ g hg y => ?_)
        have := aF_inj y
        subst this
        rcases hg with q | q
        · omega
        · have hy := (ordp_mem f x).mp q
          have := hx'.2.symm.trans hy.2
          exact e (nI_inj (by omega) (by omega) this.symm)
    · have e : f = nf := by omega
      subst e
      rw [if_pos (nI_le (Nat.le_refl f) (by omega))]
      exact ⟨h', rfl, p, hc⟩
theorem v_anew (W : WS z n nf h) (V : WR z n nf h) (hn : 2 ≤ n ∧ n ≤ 11) (hnf : nf ≤ 40) (h7 : h.2.2.1 z 7 = nI nf) (cf : CF z n nf h.2.2.1) {k : Nat} (hk : h.2.2.1 (z + 4) 1 = nI k) (hk10 : k ≤ 10) : ∃ h2, f_X7_orderAnew h z = some ((), h2) ∧ RfO z n h h2 ∧ CH z n nf h.2.2.1 h2.2.2.2 := by
  unfold f_X7_orderAnew
  rw [ev_gR (W_z W), V_fl V, ev_gR (W_fl W), V_fl0 V]
  obtain ⟨h1, e1, p1, q1⟩ := l_oa8 W V FU 0 h (by rw [fu_big]; omega) (by omega) RfO.rf (fun j hj => by omega)
  have e0 : ptr z n 0 = some (aT z n 0) := by unfold ptr; rw [if_pos (by omega)]
  rw [e0] at e1
  rw [e1]
  exact l_oa27 W V hn.2 hnf h7 cf hk hk10 FU 0 h1 (by rw [fu_big]; omega) (by omega) p1 (fun i hi => by rw [ordp_0]; exact q1 i hi)
end BA
