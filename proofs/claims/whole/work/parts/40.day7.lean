/-! ===== the day: the class ===== -/
/-- silt after the turn of a hundred -/
def sil (s t : Int32) : Int32 := mn s (t + s / 50)
def tS (z n a k : Nat) : Prop := k = 7 ∧ z + 10 ≤ a ∧ a < z + 10 + 3 * n ∧ (a - (z + 10)) % 3 = 0
section D7
variable {z n nf dN hN : Nat} {h : AH}
theorem WS_ag {s : Nat → Nat → Prop} {h' : AH} (W : WS z n nf h) (p : Ag s h h') : WS z n nf h' := by unfold WS; rw [p.1, p.2.1]; exact W
theorem WR_ag {s : Nat → Nat → Prop} {h' : AH} (V : WR z n nf h) (p : Ag s h h') : WR z n nf h' := by unfold WR; rw [p.2.2.1]; exact V
theorem l_silt7 (W : WS z n nf h) (V : WR z n nf h) : ∀ (m i : Nat) (h' : AH), n - i < m → i ≤ n → Ag (tS z n) h h' → (∀ j, j < i → h'.2.2.1 (aT z n j) 7 = sil (h.2.2.1 (aT z n j) 5) (h.2.2.1 (aT z n j) 7)) → (∀ j, i ≤ j → j < n → h'.2.2.1 (aT z n j) 7 = h.2.2.1 (aT z n j) 7) → ∃ h2, f_X7_addSilt_8 m h' (ptr z n i) = some ((), h2) ∧ Ag (tS z n) h h2 ∧ ∀ j, j < n → h2.2.2.1 (aT z n j) 7 = sil (h.2.2.1 (aT z n j) 5) (h.2.2.1 (aT z n j) 7) := by
  intro m
  induction m with
  | zero => intro i h' h1; omega
  | succ m ih =>
    intro i h' h1 h2 p hd hr
    have W' := WS_ag W p
    have V' := WR_ag V p
    unfold f_X7_addSilt_8 ptr
    by_cases hi : i < n
    · have sT := W_T W' hi
      have e5 : h'.2.2.1 (aT z n i) 5 = h.2.2.1 (aT z n i) 5 := p.2.2.2 _ _ (fun q => by have := q.1; omega)
      rw [if_pos hi, ev_nulS, ev_gI sT, ev_gI sT, ev_gI sT, ev_dv (by decide), ev_bd, ev_pI sT, ev_gR (by rw [sI_s]; exact sT), sI_r, V_bel V' hi, e5, hr i (Nat.le_refl i) hi]
      refine ih (i + 1) _ (by omega) (by omega) (p.set (by unfold tS aT; omega)) (fun j hj => ?_) (fun j hj hjn => ?_)
      · by_cases e : j = i
        · subst e
          rw [sI_u, u2s]
          rfl
        · rw [sI_u, u2_ne _ _ (by unfold aT; omega)]
          exact hd j (by omega)
      · rw [sI_u, u2_ne _ _ (by unfold aT; omega)]
        exact hr j (by omega) hjn
    · have e : i = n := by omega
      subst e
      rw [if_neg (Nat.lt_irrefl i), ev_nulN]
      exact ⟨h', rfl, p, hd⟩
theorem v_silt7 (W : WS z n nf h) (V : WR z n nf h) (b : 2 ≤ n ∧ n ≤ 11) : ∃ h2, f_X7_addSilt h z = some ((), h2) ∧ Ag (tS z n) h h2 ∧ ∀ j, j < n → h2.2.2.1 (aT z n j) 7 = sil (h.2.2.1 (aT z n j) 5) (h.2.2.1 (aT z n j) 7) := by
  unfold f_X7_addSilt
  rw [ev_gR (W_z W), V_fl V, ev_gR (W_fl W), V_fl0 V]
  have nx := l_silt7 W V FU 0 h (by rw [fu_big]; omega) (by omega) Ag.rf (fun j hj => by omega) (fun j _ _ => rfl)
  have e0 : ptr z n 0 = some (aT z n 0) := by unfold ptr; rw [if_pos (by omega)]
  rw [e0] at nx
  exact nx
/-! starting from now, over the ghost -/
variable {h0 hs : AH}
theorem gl_from7 (G : Gho z n h0 hs) (C : Cpl z n nf dN hN h0) : ∀ (m i : Nat) (h : AH), n - i < m → i ≤ n → Scr z n hs h → (∀ j, j < i → h.2.2.1 (aA z n j) 0 = h0.2.2.1 (aJ z n 3) j ∧ h.2.2.1 (aA z n j) 1 = h0.2.2.1 (aJ z n 4) j ∧ h.2.2.1 (aA z n j) 2 = h0.2.2.1 (aJ z n 9) j) → ∃ h', f_X2_startFromNow_5 m h (ptr z n i) = some ((), h') ∧ Scr z n hs h' ∧ TS7 z n (h0.2.2.1 (aJ z n 3)) (h0.2.2.1 (aJ z n 9)) (h0.2.2.1 (aJ z n 4)) h' := by
  have W0 : WS z n nf hs := by unfold WS; rw [G.1, G.2.1]; exact C.2.1
  have V0 : WR z n nf hs := by unfold WR; rw [G.2.2.1]; exact C.2.2.1
  intro m
  induction m with
  | zero => intro i h h1; omega
  | succ m ih =>
    intro i h h1 h2 p hd
    have W := WS_scr W0 p
    have V := WR_scr V0 p
    unfold f_X2_startFromNow_5 ptr
    by_cases hi : i < n
    · obtain ⟨-, -, -, -, -, -, d7, d8, d9, d10, d11, -, c13⟩ := C.2.2.2.1 i hi
      have gN : ∀ k, hs.2.2.1 (aN z n i) k = h0.2.2.1 (aN z n i) k := fun k => G.2.2.2 _ _ (by unfold aN; omega)
      have c7 := (gN 0).trans d7
      have c8 := (gN 1).trans d8
      have c9 := (gN 2).trans d9
      have c10 := (gN 3).trans d10
      have c11 := (gN 4).trans d11
      have sT := W_T W hi
      have sA := W_A W hi
      have sN := W_N W hi
      have rw0 := p.N hi
      have NA : aN z n i ≠ aA z n i := by unfold aN aA; omega
      have e1 : f_X3_becomeAs h (aA z n i) (some (aN z n i)) = some ((), setI (setI (setI (setI (setI h (aA z n i) 0 (h0.2.2.1 (aJ z n 3) i)) (aA z n i) 1 (h0.2.2.1 (aJ z n 4) i)) (aA z n i) 2 (h0.2.2.1 (aJ z n 9) i)) (aA z n i) 3 (h0.2.2.1 (aJ z n 6) i)) (aA z n i) 4 (h0.2.2.1 (aJ z n 7) i)) := by
        unfold f_X3_becomeAs
        rw [ev_gI sN, ev_pI sA, ev_gI (by rw [sI_s]; exact sN), ev_pI (by rw [sI_s]; exact sA), ev_gI (by simp only [sI_s]; exact sN)]
        simp only [sI_u, u2_ne _ _ NA, rw0, c7, c8, c9]
        rw [ev_pZ (by simp only [sI_s]; exact sA) c13, ev_gI (by simp only [sI_s]; exact sN), ev_pI (by simp only [sI_s]; exact sA), ev_gI (by simp only [sI_s]; exact sN)]
        simp only [sI_u, u2_ne _ _ NA, rw0, c10, c11]
        rw [ev_pI (by simp only [sI_s]; exact sA)]
      rw [if_pos hi, ev_nulS, ev_gR sT, V_A V hi, ev_gR sT, V_N V hi, ev_rcv sA, cal_eq e1, ev_gR (by simp only [sI_s]; exact sT)]
      simp only [sI_r]
      rw [V_bel V hi]
      have hsc : ∀ k, sc z n (aA z n i) k := fun k => by unfold sc aA; omega
      refine ih (i + 1) _ (by omega) (by omega) (((((p.set (hsc 0)).set (hsc 1)).set (hsc 2)).set (hsc 3)).set (hsc 4)) (fun j hj => ?_)
      by_cases e : j = i
      · subst e
        simp (disch := first | (refine Or.inr ?_; omega)) only [sI_u, u2n, u2s]
        exact ⟨trivial, trivial, trivial⟩
      · have ne : aA z n j ≠ aA z n i := by unfold aA; omega
        simp only [sI_u, u2_ne _ _ ne]
        exact hd j (by omega)
    · have e : i = n := by omega
      subst e
      rw [if_neg (Nat.lt_irrefl i), ev_nulN]
      exact ⟨h, rfl, p, hd⟩
theorem g_from7 (G : Gho z n h0 hs) (C : Cpl z n nf dN hN h0) : ∃ h', f_X2_startFromNow hs (aFl z n) = some ((), h') ∧ Scr z n hs h' ∧ TS7 z n (h0.2.2.1 (aJ z n 3)) (h0.2.2.1 (aJ z n 9)) (h0.2.2.1 (aJ z n 4)) h' := by
  have W : WS z n nf hs := by unfold WS; rw [G.1, G.2.1]; exact C.2.1
  have V : WR z n nf hs := by unfold WR; rw [G.2.2.1]; exact C.2.2.1
  unfold f_X2_startFromNow
  rw [ev_gR (W_fl W), V_fl0 V]
  have nx := gl_from7 G C FU 0 hs (by have := C.1.2.1; rw [fu_big]; omega) (by omega) Scr.rf (fun j hj => by omega)
  have e0 : ptr z n 0 = some (aT z n 0) := by unfold ptr; rw [if_pos (by have := C.1.1; omega)]
  rw [e0] at nx
  exact nx
theorem seep_sta {I I' : Nat → Nat → Int32} (p : Sta z n I I') (rain : Int32) (w b o : Nat → Int32) : seep z n nf I' rain w b o = seep z n nf I rain w b o := by
  funext j
  unfold seep
  rw [dD_sta p, pX_sta p]
theorem kept_sta {I I' : Nat → Nat → Int32} (p : Sta z n I I') (rain : Int32) (w b o : Nat → Int32) : kept z n nf I' rain w b o = kept z n nf I rain w b o := by
  funext j
  unfold kept
  rw [dD_sta p, pT_sta p]
theorem Res7_sta {h1 h' : AH} (p : Sta z n h0.2.2.1 h1.2.2.1) {rain : Int32} {w b o : Nat → Int32} {j : Nat} (r : Res7 z n nf h1 rain w b o j h') : Res7 z n nf h0 rain w b o j h' := by
  unfold Res7 at r ⊢
  rw [dD_sta p, pW_sta p, pB_sta p, pT_sta p, pSpl_sta p, pS_sta p, p.ordl] at r
  exact r
/-- the day in the pools "after" -/
theorem g_day7 (G : Gho z n h0 hs) (C : Cpl z n nf dN hN h0) (rain : Int32) {w b o : Nat → Int32} (hw : w = h0.2.2.1 (aJ z n 3)) (hb : b = h0.2.2.1 (aJ z n 9)) (ho : o = h0.2.2.1 (aJ z n 4)) : ∃ h1 h2, f_X2_startFromNow hs (aFl z n) = some ((), h1) ∧ Scr z n hs h1 ∧ f_X2_passDay h1 (aFl z n) rain = some ((), h2) ∧ Scr z n hs h2 ∧ (∀ j, j < n → Res7 z n nf h0 rain w b o j h2) ∧ h2.2.2.1 (aFs z n) 0 = sumF n (fun j => rain * h0.2.2.1 (aJ z n 0) j) ∧ h2.2.2.1 (aFs z n) 1 = sumF n (seep z n nf h0.2.2.1 rain w b o) ∧ h2.2.2.1 (aFs z n) 2 = sumF n (kept z n nf h0.2.2.1 rain w b o) ∧ h2.2.2.1 (aFs z n) 3 = dD z n nf h0.2.2.1 rain w b o n := by
  obtain ⟨h1, e1, p1, t1⟩ := g_from7 G C
  have pg := G.scr p1
  have C' := Cpl_scr C pg
  have G' : Gho z n (h1.1, h1.2.1, ghI z n h0.2.2.1 h1.2.2.1, h1.2.2.2) h1 := ⟨rfl, rfl, rfl, fun a k e => by
    show h1.2.2.1 a k = ghI z n h0.2.2.1 h1.2.2.1 a k
    unfold ghI
    rw [if_pos e]⟩
  have st := pg.sta
  have hoo : ∀ i, i < n → ∃ q, q ≤ 20 ∧ h1.2.2.1 (aA z n i) 1 = nI q := fun i hi => by
    rw [(t1 i hi).2.1]
    exact ho_of C i hi
  obtain ⟨h2, e2, p2, r, -, s0, s1, s2, s3⟩ := g_pass7 G' C' rain hoo (w := w) (b := b) (o := o) (fun i hi => by rw [hw]; exact (t1 i hi).1.symm) (fun i hi => by rw [hb]; exact (t1 i hi).2.2.symm) (fun i hi => by rw [ho]; exact (t1 i hi).2.1.symm)
  refine ⟨h1, h2, e1, p1, e2, p1.tr p2, fun j hj => Res7_sta st (r j hj), ?_, ?_, ?_, ?_⟩
  · rw [s0, st.1 0 (by omega)]
  · rw [s1, seep_sta st]
  · rw [s2, kept_sta st]
  · rw [s3, dD_sta st]
end D7
