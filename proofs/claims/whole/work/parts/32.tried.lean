/-! ===== trials ===== -/
section TRI
variable {z n nf dN hN : Nat} {h0 : AH}
theorem dD_sta {I I' : Nat → Nat → Int32} (p : Sta z n I I') (rain : Int32) (w b o : Nat → Int32) : ∀ i, dD z n nf I' rain w b o i = dD z n nf I rain w b o i := by
  intro i
  induction i with
  | zero => rw [dD, dD]
  | succ i ih => rw [dD, dD, ih, pD_sta p]
theorem fdD_sta {I I' : Nat → Nat → Int32} (p : Sta z n I I') (rain : Int32) (w b o : Nat → Int32) : ∀ i, fdD z n nf I' rain w b o i = fdD z n nf I rain w b o i := by
  intro i
  induction i with
  | zero => rw [fdD, fdD]
  | succ i ih => rw [fdD, fdD, ih, p.1 12 (by omega), dD_sta p, pS_sta p, p.ordl]
/-- a day's waters and breaches -/
def dayW (z n nf : Nat) (I : Nat → Nat → Int32) (rain : Int32) (w b o : Nat → Int32) (j : Nat) : Int32 := pW z n nf I j rain (w j) (b j) (o j) (dD z n nf I rain w b o j)
def dayB (z n nf : Nat) (I : Nat → Nat → Int32) (rain : Int32) (w b o : Nat → Int32) (j : Nat) : Int32 := pB z n nf I j rain (w j) (b j) (o j) (dD z n nf I rain w b o j)
theorem dayW_sta {I I' : Nat → Nat → Int32} (p : Sta z n I I') (rain : Int32) (w b o : Nat → Int32) : dayW z n nf I' rain w b o = dayW z n nf I rain w b o := by
  funext j
  unfold dayW
  rw [dD_sta p, pW_sta p]
theorem dayB_sta {I I' : Nat → Nat → Int32} (p : Sta z n I I') (rain : Int32) (w b o : Nat → Int32) : dayB z n nf I' rain w b o = dayB z n nf I rain w b o := by
  funext j
  unfold dayB
  rw [dD_sta p, pB_sta p]
/-- k days of a trial -/
def trl (z n nf : Nat) (I : Nat → Nat → Int32) (rain : Int32) (w b o : Nat → Int32) : Nat → (Nat → Int32) × (Nat → Int32)
  | 0 => (w, b)
  | k + 1 => (dayW z n nf I rain (trl z n nf I rain w b o k).1 (trl z n nf I rain w b o k).2 o, dayB z n nf I rain (trl z n nf I rain w b o k).1 (trl z n nf I rain w b o k).2 o)
def trF (z n nf : Nat) (I : Nat → Nat → Int32) (rain : Int32) (w b o : Nat → Int32) : Nat → Int32
  | 0 => 0
  | k + 1 => trF z n nf I rain w b o k + fdD z n nf I rain (trl z n nf I rain w b o k).1 (trl z n nf I rain w b o k).2 o n
theorem trl_sta {I I' : Nat → Nat → Int32} (p : Sta z n I I') (rain : Int32) (w b o : Nat → Int32) : ∀ k, trl z n nf I' rain w b o k = trl z n nf I rain w b o k := by
  intro k
  induction k with
  | zero => rw [trl, trl]
  | succ k ih => rw [trl, trl, ih, dayW_sta p, dayB_sta p]
theorem trF_sta {I I' : Nat → Nat → Int32} (p : Sta z n I I') (rain : Int32) (w b o : Nat → Int32) : ∀ k, trF z n nf I' rain w b o k = trF z n nf I rain w b o k := by
  intro k
  induction k with
  | zero => rw [trF, trF]
  | succ k ih => rw [trF, trF, ih, trl_sta p, fdD_sta p]
/-- the class's trial state -/
def TS7 (z n : Nat) (w b o : Nat → Int32) (h : AH) : Prop := ∀ i, i < n → h.2.2.1 (aA z n i) 0 = w i ∧ h.2.2.1 (aA z n i) 1 = o i ∧ h.2.2.1 (aA z n i) 2 = b i
def TS8 (z n : Nat) (w b o : Nat → Int32) (h : AH) : Prop := ∀ i, i < n → h.2.2.1 (aJ z n 25) i = w i ∧ h.2.2.1 (aJ z n 26) i = o i ∧ h.2.2.1 (aJ z n 27) i = b i
theorem v_day7 (C : Cpl z n nf dN hN h0) {h : AH} (p : Scr z n h0 h) (rain : Int32) {w b o : Nat → Int32} (ho : ∀ i, i < n → ∃ q, q ≤ 20 ∧ o i = nI q) (t : TS7 z n w b o h) : ∃ h', f_X2_passDay h (aFl z n) rain = some ((), h') ∧ Scr z n h0 h' ∧ TS7 z n (dayW z n nf h0.2.2.1 rain w b o) (dayB z n nf h0.2.2.1 rain w b o) o h' ∧ h'.2.2.1 (aFl z n) 3 = fdD z n nf h0.2.2.1 rain w b o n := by
  obtain ⟨h', e1, p1, r, f1, -⟩ := v_pass7 (Cpl_scr C p) rain (fun i hi => by rw [(t i hi).2.1]; exact ho i hi) (w := w) (b := b) (o := o) (fun i hi => (t i hi).1.symm) (fun i hi => (t i hi).2.2.symm) (fun i hi => (t i hi).2.1.symm)
  refine ⟨h', e1, p.tr p1, fun i hi => ?_, ?_⟩
  · obtain ⟨r0, r2, -, -, r1, -⟩ := r i hi
    rw [dD_sta p.sta, pW_sta p.sta] at r0
    rw [dD_sta p.sta, pB_sta p.sta] at r2
    exact ⟨r0, r1, r2⟩
  · rw [f1, fdD_sta p.sta]
theorem v_day8 (C : Cpl z n nf dN hN h0) {h : AH} (p : Scr z n h0 h) (rain : Int32) {w b o : Nat → Int32} (ho : ∀ i, i < n → ∃ q, q ≤ 20 ∧ o i = nI q) (t : TS8 z n w b o h) : ∃ h', f_X8_flows h (aM z n) (some (aJ z n 25)) (some (aJ z n 27)) (some (aJ z n 26)) rain 0 = some (fdD z n nf h0.2.2.1 rain w b o n, h') ∧ Scr z n h0 h' ∧ TS8 z n (dayW z n nf h0.2.2.1 rain w b o) (dayB z n nf h0.2.2.1 rain w b o) o h' := by
  obtain ⟨h', e1, p1, r1, r2⟩ := l_trial8 C rain (w := w) (b := b) (o := o) ho FU 0 h (by have := C.1.2.1; rw [fu_big]; omega) (by omega) p (fun j hj => (t j hj).2.1) (fun j _ hj => ⟨(t j hj).1, (t j hj).2.2⟩) (fun j hj => by omega)
  refine ⟨h', ?_, p1, fun i hi => ⟨(r2 i hi).1, r1 i hi, (r2 i hi).2⟩⟩
  unfold f_X8_flows
  rw [dD, fdD] at e1
  exact e1
/-- startFromNow -/
theorem l_from7 (C : Cpl z n nf dN hN h0) : ∀ (m i : Nat) (h : AH), n - i < m → i ≤ n → Scr z n h0 h → (∀ j, j < i → h.2.2.1 (aA z n j) 0 = h0.2.2.1 (aJ z n 3) j ∧ h.2.2.1 (aA z n j) 1 = h0.2.2.1 (aJ z n 4) j ∧ h.2.2.1 (aA z n j) 2 = h0.2.2.1 (aJ z n 9) j) → ∃ h', f_X2_startFromNow_5 m h (ptr z n i) = some ((), h') ∧ Scr z n h0 h' ∧ TS7 z n (h0.2.2.1 (aJ z n 3)) (h0.2.2.1 (aJ z n 9)) (h0.2.2.1 (aJ z n 4)) h' := by
  intro m
  induction m with
  | zero => intro i h h1; omega
  | succ m ih =>
    intro i h h1 h2 p hd
    have W := WS_scr C.2.1 p
    have V := WR_scr C.2.2.1 p
    unfold f_X2_startFromNow_5 ptr
    by_cases hi : i < n
    · obtain ⟨-, -, -, -, -, -, c7, c8, c9, c10, c11, -, c13⟩ := C.2.2.2.1 i hi
      have sT := W_T W hi
      have sA := W_A W hi
      have sN := W_N W hi
      have rw0 := p.N hi
      have NA : aN z n i ≠ aA z n i := by unfold aN aA; omega
      have e1 : f_X3_becomeAs h (aA z n i) (some (aN z n i)) = some ((), setI (setI (setI (setI (setI h (aA z n i) 0 (h0.2.2.1 (aJ z n 3) i)) (aA z n i) 1 (h0.2.2.1 (aJ z n 4) i)) (aA z n i) 2 (h0.2.2.1 (aJ z n 9) i)) (aA z n i) 3 (h0.2.2.1 (aJ z n 6) i)) (aA z n i) 4 (h0.2.2.1 (aJ z n 7) i)) := by
        unfold f_X3_becomeAs
        rw [ev_gI sN, ev_pI sA, ev_gI (by rw [sI_s]; exact sN), ev_pI (by rw [sI_s]; exact sA), ev_gI (by simp only [sI_s]; exact sN)]
        simp only [sI_u, u2_ne _ _ NA, rw0, c7, c8, c9]
        rw [ev_pZ (by simp only [sI_s]; exact sA) c13, ev_gI (by simp only [sI_s]; exact sN), ev_pI (by simp only [sI_s]; exact sA), ev_gI (by simp only [sI_s]; exact sN)]
        simp only [sI_u, u2_ne _ _ NA, rw0, c10, c11]
        rw [ev_pI (by simp only [sI_s]; exact sA)]
      rw [if_pos hi, ev_nulS, ev_gR sT, V_A V hi, ev_gR sT, V_N V hi, ev_rcv sA, cal_eq e1, ev_gR (by simp only [sI_s]; exact sT)]
      simp only [sI_r]
      rw [V_bel V hi]
      have hsc : ∀ k, sc z n (aA z n i) k := fun k => by unfold sc aA; omega
      refine ih (i + 1) _ (by omega) (by omega) (((((p.set (hsc 0)).set (hsc 1)).set (hsc 2)).set (hsc 3)).set (hsc 4)) (fun j hj => ?_)
      by_cases e : j = i
      · subst e
        simp (disch := first | (refine Or.inr ?_; omega)) only [sI_u, u2n, u2s]
        exact ⟨trivial, trivial, trivial⟩
      · have ne : aA z n j ≠ aA z n i := by unfold aA; omega
        simp only [sI_u, u2_ne _ _ ne]
        exact hd j (by omega)
    · have e : i = n := by omega
      subst e
      rw [if_neg (Nat.lt_irrefl i), ev_nulN]
      exact ⟨h, rfl, p, hd⟩
theorem v_from7 (C : Cpl z n nf dN hN h0) {h : AH} (p : Scr z n h0 h) : ∃ h', f_X2_startFromNow h (aFl z n) = some ((), h') ∧ Scr z n h0 h' ∧ TS7 z n (h0.2.2.1 (aJ z n 3)) (h0.2.2.1 (aJ z n 9)) (h0.2.2.1 (aJ z n 4)) h' := by
  have W := WS_scr C.2.1 p
  have V := WR_scr C.2.2.1 p
  unfold f_X2_startFromNow
  rw [ev_gR (W_fl W), V_fl0 V]
  have nx := l_from7 C FU 0 h (by have := C.1.2.1; rw [fu_big]; omega) (by omega) p (fun j hj => by omega)
  have e0 : ptr z n 0 = some (aT z n 0) := by unfold ptr; rw [if_pos (by have := C.1.1; omega)]
  rw [e0] at nx
  exact nx
/-- the class's days -/
theorem l_water7 (C : Cpl z n nf dN hN h0) (rain : Int32) {w b o : Nat → Int32} (ho : ∀ i, i < n → ∃ q, q ≤ 20 ∧ o i = nI q) {t d : Nat} (ht : t < n) (hd : d ≤ 10) : ∀ (m k : Nat) (h : AH), d - k < m → k ≤ d → Scr z n h0 h → TS7 z n (trl z n nf h0.2.2.1 rain w b o k).1 (trl z n nf h0.2.2.1 rain w b o k).2 o h → ∃ h', f_X7_waterTried_22 m h z (some (aT z n t)) (nI d) rain (nI k) = some ((trl z n nf h0.2.2.1 rain w b o d).1 t, h') ∧ Scr z n h0 h' := by
  intro m
  induction m with
  | zero => intro k h h1; omega
  | succ m ih =>
    intro k h h1 h2 p st
    have W := WS_scr C.2.1 p
    have V := WR_scr C.2.2.1 p
    unfold f_X7_waterTried_22
    by_cases hk : k < d
    · obtain ⟨h', e1, p1, st1, -⟩ := v_day7 C p rain ho st
      rw [if_neg (nI_ge hk (by omega)), ev_gR (W_z W), V_fl V, ev_rcv (W_fl W), cal_eq e1, ev_bd, nI_1]
      exact ih (k + 1) h' (by omega) (by omega) p1 (by rw [trl]; exact st1)
    · have e : k = d := by omega
      subst e
      rw [if_pos (nI_le (Nat.le_refl k) (by omega)), ev_gR (W_T W ht), V_A V ht, ev_gI (W_A W ht), (st t ht).1]
      exact ⟨h, rfl, p⟩
theorem l_tries45 (C : Cpl z n nf dN hN h0) (rain : Int32) {w b o : Nat → Int32} (ho : ∀ i, i < n → ∃ q, q ≤ 20 ∧ o i = nI q) {d : Nat} (hd : d ≤ 10) : ∀ (m k : Nat) (h : AH), d - k < m → k ≤ d → Scr z n h0 h → TS8 z n (trl z n nf h0.2.2.1 rain w b o k).1 (trl z n nf h0.2.2.1 rain w b o k).2 o h → ∃ h', f_X8_tries_45 m h (aM z n) (nI d) rain (trF z n nf h0.2.2.1 rain w b o k) (nI k) = some (trF z n nf h0.2.2.1 rain w b o d, h') ∧ Scr z n h0 h' ∧ TS8 z n (trl z n nf h0.2.2.1 rain w b o d).1 (trl z n nf h0.2.2.1 rain w b o d).2 o h' := by
  intro m
  induction m with
  | zero => intro k h h1; omega
  | succ m ih =>
    intro k h h1 h2 p st
    have W := WS_scr C.2.1 p
    have V := WR_scr C.2.2.1 p
    have sM := W_M W
    unfold f_X8_tries_45
    by_cases hk : k < d
    · obtain ⟨h', e1, p1, st1⟩ := v_day8 C p rain ho st
      rw [if_neg (nI_ge hk (by omega)), ev_gR sM, V_J25 V, ev_gR sM, V_J27 V, ev_gR sM, V_J26 V, ev_rcv sM, cal_eq e1, ev_bd, ev_bd, nI_1]
      exact ih (k + 1) h' (by omega) (by omega) p1 (by rw [trl]; exact st1)
    · have e : k = d := by omega
      subst e
      rw [if_pos (nI_le (Nat.le_refl k) (by omega))]
      exact ⟨h, rfl, p, st⟩
end TRI
