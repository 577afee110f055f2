/-! ===== the day: the class, all ===== -/
section DYP
variable (z n nf : Nat) (I : Nat → Nat → Int32) (rain : Int32) (w b o : Nat → Int32)
def dayT (j : Nat) : Int32 := pT z n nf I j rain (w j) (o j) (dD z n nf I rain w b o j)
def dayS (j : Nat) : Int32 := pSpl z n nf I j rain (w j) (b j) (o j) (dD z n nf I rain w b o j)
def dyK (j : Nat) : Bool := pBrk z n nf I j rain (w j) (b j) (o j) (dD z n nf I rain w b o j)
def dySh (t : Nat) : Nat → Int32 := pS z n nf I t rain (w t) (o t) (dD z n nf I rain w b o t)
end DYP
/-- what a day changes: the class's cells; the reference's -/
def dyC (z n a k : Nat) : Prop := sc z n a k ∨ kT z n a k ∨ kF z n a k ∨ a = z + 8 ∨ (a = z ∧ k = 8)
def dyR (z n a k : Nat) : Prop := (a = z + 12 + 3 * n ∧ (k = 1 ∨ (23 ≤ k ∧ k ≤ 26) ∨ (28 ≤ k ∧ k ≤ 30))) ∨ a = z + 16 + 3 * n ∨ (z + 19 + 3 * n ≤ a ∧ a ≤ z + 22 + 3 * n) ∨ (z + 27 + 3 * n ≤ a ∧ a ≤ z + 29 + 3 * n) ∨ a = z + 31 + 3 * n
section DZ
variable {z n nf dN hN : Nat} {h h0 hs : AH}
/-- what the class's day has made -/
def Day7 (z n nf dN : Nat) (h0 : AH) (rain : Int32) (w b o : Nat → Int32) (h : AH) : Prop :=
  (∀ j, j < n → h.2.2.1 (aN z n j) 0 = dayW z n nf h0.2.2.1 rain w b o j ∧ h.2.2.1 (aN z n j) 1 = o j ∧ h.2.2.1 (aN z n j) 2 = dayB z n nf h0.2.2.1 rain w b o j ∧ h.2.2.1 (aN z n j) 3 = dayT z n nf h0.2.2.1 rain w b o j ∧ h.2.2.1 (aN z n j) 4 = dayS z n nf h0.2.2.1 rain w b o j ∧ h.2.2.1 (aT z n j) 8 = if dyK z n nf h0.2.2.1 rain w b o j = true then nI dN else h0.2.2.1 (aT z n j) 8) ∧
  (∀ f, f < nf → ∀ t, t < n → h0.2.2.1 (aJ z n 10) f = nI t → h.2.2.1 (aF z n f) 11 = dySh z n nf h0.2.2.1 rain w b o t f ∧ h.2.2.1 (aF z n f) 10 = h0.2.2.1 (aF z n f) 10 + dySh z n nf h0.2.2.1 rain w b o t f ∧ h.2.2.1 (aF z n f) 9 = if dySh z n nf h0.2.2.1 rain w b o t f = h0.2.2.1 (aJ z n 12) f then h0.2.2.1 (aF z n f) 9 + 1 else h0.2.2.1 (aF z n f) 9) ∧
  (cntK (dyK z n nf h0.2.2.1 rain w b o) n = 0 → h.2.2.1 z 12 = h0.2.2.1 z 12 ∧ h.2.2.1 z 13 = h0.2.2.1 z 13 ∧ h.2.2.1 z 14 = h0.2.2.1 z 14) ∧
  (cntK (dyK z n nf h0.2.2.1 rain w b o) n ≠ 0 → h.2.2.1 z 12 = nI dN ∧ h.2.2.1 z 13 = fstK (dyK z n nf h0.2.2.1 rain w b o) n ∧ h.2.2.1 z 14 = nI (cntK (dyK z n nf h0.2.2.1 rain w b o) n)) ∧
  h.2.2.1 (z + 8) 0 = h0.2.2.1 (z + 8) 0 + sumF n (fun j => rain * h0.2.2.1 (aJ z n 0) j) ∧ h.2.2.1 (z + 8) 1 = h0.2.2.1 (z + 8) 1 + sumF n (seep z n nf h0.2.2.1 rain w b o) ∧ h.2.2.1 (z + 8) 2 = h0.2.2.1 (z + 8) 2 + sumF n (kept z n nf h0.2.2.1 rain w b o) ∧ h.2.2.1 (z + 8) 3 = h0.2.2.1 (z + 8) 3 + dD z n nf h0.2.2.1 rain w b o n ∧ h.2.2.1 z 8 = nI (dN + 1)
theorem v_addAll (W : WS z n nf h) : f_X4_addAll h (z + 8) (some (aFs z n)) = some ((), setI (setI (setI (setI h (z + 8) 0 (h.2.2.1 (z + 8) 0 + h.2.2.1 (aFs z n) 0)) (z + 8) 1 (h.2.2.1 (z + 8) 1 + h.2.2.1 (aFs z n) 1)) (z + 8) 2 (h.2.2.1 (z + 8) 2 + h.2.2.1 (aFs z n) 2)) (z + 8) 3 (h.2.2.1 (z + 8) 3 + h.2.2.1 (aFs z n) 3)) := by
  have s8 := W_ev W
  have sS := W_fs W
  have ne : aFs z n ≠ z + 8 := by unfold aFs; omega
  unfold f_X4_addAll
  rw [ev_gI s8, ev_gI sS, ev_pI s8, ev_gI (by rw [sI_s]; exact s8), ev_gI (by rw [sI_s]; exact sS), ev_pI (by rw [sI_s]; exact s8), ev_gI (by simp only [sI_s]; exact s8), ev_gI (by simp only [sI_s]; exact sS), ev_pI (by simp only [sI_s]; exact s8), ev_gI (by simp only [sI_s]; exact s8), ev_gI (by simp only [sI_s]; exact sS), ev_pI (by simp only [sI_s]; exact s8)]
  simp (disch := first | (refine Or.inr ?_; omega)) only [sI_u, u2n, u2s, u2_ne _ _ ne]
theorem pB_brk {I : Nat → Nat → Int32} {i : Nat} {rain w b op d : Int32} (hb : b = 0 ∨ b = 1) : (pB z n nf I i rain w b op d = 0 ∨ pB z n nf I i rain w b op d = 1) ∧ (pBrk z n nf I i rain w b op d = true ↔ ¬ pB z n nf I i rain w b op d = 0 ∧ b = 0) := by
  unfold pB
  by_cases e : pBrk z n nf I i rain w b op d = true
  · rw [if_pos e]
    exact ⟨Or.inr rfl, fun _ => ⟨one_ne, (of_decide_eq_true e).1⟩, fun _ => e⟩
  · rw [if_neg e]
    exact ⟨hb, fun x => absurd x e, fun x => absurd x.2 x.1⟩
theorem v_day63 (G : Gho z n h0 hs) (C : Cpl z n nf dN hN h0) {rain : Int32} (hrn : h0.2.2.1 z 9 = rain) {w b o : Nat → Int32} (hw : w = h0.2.2.1 (aJ z n 3)) (hb : b = h0.2.2.1 (aJ z n 9)) (ho : o = h0.2.2.1 (aJ z n 4)) : ∃ h1, f_X7_day_63 hs z = some (nI (dN + 1), h1) ∧ Ag (dyC z n) hs h1 ∧ Day7 z n nf dN h0 rain w b o h1 := by
  have W : WS z n nf hs := by unfold WS; rw [G.1, G.2.1]; exact C.2.1
  have V : WR z n nf hs := by unfold WR; rw [G.2.2.1]; exact C.2.2.1
  obtain ⟨b1, b2, b3, b4, b5⟩ := C.1
  have cx := C.2.2.2.2.2.1
  have cf := C.2.2.2.2.1
  have ct := C.2.2.2.1
  obtain ⟨h1, h2, e1, p1, e2, p2, r, u0, u1, u2', u3⟩ := g_day7 G C rain hw hb ho
  have W1 := WS_scr W p1
  have V1 := WR_scr V p1
  have W2 := WS_scr W p2
  have V2 := WR_scr V p2
  have z0 : ∀ k, hs.2.2.1 z k = h0.2.2.1 z k := fun k => G.2.2.2 _ _ (by omega)
  have z1 : h1.2.2.1 z 9 = rain := ((p1.2.2.2 z 9 (by unfold sc; omega)).trans (z0 9)).trans hrn
  have z2 : ∀ k, h2.2.2.1 z k = h0.2.2.1 z k := fun k => (p2.2.2.2 z k (by unfold sc; omega)).trans (z0 k)
  have T2 : ∀ j k, j < n → h2.2.2.1 (aT z n j) k = h0.2.2.1 (aT z n j) k := fun j k hj => (p2.2.2.2 _ _ (by unfold sc aT; omega)).trans (G.2.2.2 _ _ (by unfold aT; omega))
  have N2 : ∀ j, j < n → h2.2.2.1 (aN z n j) 2 = b j := fun j hj => by
    rw [p2.2.2.2 _ _ (by unfold sc aN; omega), G.2.2.2 _ _ (by unfold aN; omega), hb]
    exact (ct j hj).2.2.2.2.2.2.2.2.1
  have F2 : ∀ f k, k ≠ 7 → k ≠ 8 → h2.2.2.1 (aF z n f) k = h0.2.2.1 (aF z n f) k := fun f k x y => (p2.2.2.2 _ _ (by unfold sc aF; omega)).trans (G.2.2.2 _ _ (by unfold aF; omega))
  have E2 : ∀ k, h2.2.2.1 (z + 8) k = h0.2.2.1 (z + 8) k := fun k => (p2.2.2.2 _ _ (by unfold sc; omega)).trans (G.2.2.2 _ _ (by omega))
  have hbb : ∀ j, j < n → b j = 0 ∨ b j = 1 := fun j hj => by
    rw [hb]
    exact (ct j hj).2.2.2.2.2.2.2.2.2.2.2.2
  -- the tanks
  have k3 := l_keep7 (K := dyK z n nf h0.2.2.1 rain w b o) (dN := dN) W2 V2 b2 ((z2 8).trans cx.2.1) (fun j hj => by
    obtain ⟨r0, r2, -⟩ := r j hj
    have q := pB_brk (z := z) (n := n) (nf := nf) (I := h0.2.2.1) (i := j) (rain := rain) (w := w j) (op := o j) (d := dD z n nf h0.2.2.1 rain w b o j) (hbb j hj)
    rw [← r2] at q
    refine ⟨q.1, ?_, ?_⟩
    · rw [N2 j hj]
      exact q.2
    · rw [T2 j 0 hj]
      exact (ct j hj).1) FU 0 h2 (by rw [fu_big]; omega) (by omega) Ag.rf (fun j hj => by omega) (fun j _ _ => ⟨rfl, rfl⟩) ⟨rfl, rfl, rfl⟩
  rw [cntK, fstK, show nI 0 = (0 : Int32) from rfl, show ptr z n 0 = some (aT z n 0) by unfold ptr; rw [if_pos (by omega)]] at k3
  obtain ⟨h3, e3, p3, q3, q4, q5⟩ := k3
  have W3 := WS_ag W2 p3
  have V3 := WR_ag V2 p3
  have e3' : f_X7_keepTanks h2 z = some ((), h3) := by
    unfold f_X7_keepTanks
    rw [ev_gR (W_z W2), V_fl V2, ev_gR (W_fl W2), V_fl0 V2]
    exact e3
  -- the fields
  obtain ⟨h4, e4, p4, q6⟩ := l_keepF W3 V3 b3 ((p3.2.2.2 z 7 (by unfold kT; omega)).trans ((z2 7).trans cx.1)) FU 0 h3 (by rw [fu_big]; omega) (by omega) Ag.rf (fun f hf => by omega) (fun f _ => rfl)
  have W4 := WS_ag W3 p4
  have V4 := WR_ag V3 p4
  have e4' : f_X7_keepFields h3 z = some ((), h4) := e4
  have E4 : ∀ k, h4.2.2.1 (z + 8) k = h0.2.2.1 (z + 8) k := fun k => by rw [p4.2.2.2 _ _ (by unfold kF; omega), p3.2.2.2 _ _ (by unfold kT; omega), E2]
  have S4 : ∀ k, h4.2.2.1 (aFs z n) k = h2.2.2.1 (aFs z n) k := fun k => by rw [p4.2.2.2 _ _ (by unfold kF aFs; omega), p3.2.2.2 _ _ (by unfold kT aFs; omega)]
  have z48 : h4.2.2.1 z 8 = nI dN := by rw [p4.2.2.2 _ _ (by unfold kF; omega), p3.2.2.2 _ _ (by unfold kT; omega), z2]; exact cx.2.1
  have e5 := v_addAll W4
  rw [E4, E4, E4, E4, S4, S4, S4, S4, u0, u1, u2', u3] at e5
  unfold f_X7_day_63
  rw [ev_gR (W_z W), V_fl V, ev_rcv (W_fl W), cal_eq e1, ev_gR (W_z W1), V_fl V1, ev_gI (W_z W1), z1, ev_rcv (W_fl W1), cal_eq e2, ev_rcv (W_z W2), cal_eq e3', ev_rcv (W_z W3), cal_eq e4', ev_gR (W_z W4), V_ev V4, ev_gR (W_z W4), V_fl V4, ev_gR (W_fl W4), V_fl2 V4, ev_rcv (W_ev W4), cal_eq e5, ev_gI (by simp only [sI_s]; exact W_z W4)]
  have ze : z ≠ z + 8 := by omega
  simp only [sI_u, u2_ne _ _ ze, z48]
  rw [ev_pI (by simp only [sI_s]; exact W_z W4), ev_gI (by simp only [sI_s]; exact W_z W4), sI_u, u2s, nI_1]
  refine ⟨_, rfl, ?_, fun j hj => ?_, fun f hf t ht et => ?_, fun x => ?_, fun x => ?_, ?_, ?_, ?_, ?_, ?_⟩
  · refine ((((((Ag.mo p2 (fun a k x => Or.inl x)).tr (p3.mo (fun a k x => Or.inr (Or.inl x)))).tr (p4.mo (fun a k x => Or.inr (Or.inr (Or.inl x))))).set ?_).set ?_).set ?_).set ?_ |>.set ?_
    · exact Or.inr (Or.inr (Or.inr (Or.inl rfl)))
    · exact Or.inr (Or.inr (Or.inr (Or.inl rfl)))
    · exact Or.inr (Or.inr (Or.inr (Or.inl rfl)))
    · exact Or.inr (Or.inr (Or.inr (Or.inl rfl)))
    · exact Or.inr (Or.inr (Or.inr (Or.inr ⟨rfl, rfl⟩)))
  · have n1 : aN z n j ≠ z := by unfold aN; omega
    have n2 : aN z n j ≠ z + 8 := by unfold aN; omega
    have n3 : aT z n j ≠ z := by unfold aT; omega
    have n4 : aT z n j ≠ z + 8 := by unfold aT; omega
    obtain ⟨y1, y2⟩ := q3 j hj
    obtain ⟨r0, r2, r3, r4, r1, -⟩ := r j hj
    have fN : ∀ k, h4.2.2.1 (aN z n j) k = h3.2.2.1 (aN z n j) k := fun k => p4.2.2.2 _ _ (by unfold kF aN; omega)
    have fT : h4.2.2.1 (aT z n j) 8 = h3.2.2.1 (aT z n j) 8 := p4.2.2.2 _ _ (by unfold kF aT; omega)
    simp only [sI_u, u2_ne _ _ n1, u2_ne _ _ n2, u2_ne _ _ n3, u2_ne _ _ n4, fN, fT]
    refine ⟨(y1 0 (by omega)).trans r0, (y1 1 (by omega)).trans r1, (y1 2 (by omega)).trans r2, (y1 3 (by omega)).trans r3, (y1 4 (by omega)).trans r4, ?_⟩
    rw [y2, T2 j 8 hj]
  · have n1 : aF z n f ≠ z := by unfold aF; omega
    have n2 : aF z n f ≠ z + 8 := by unfold aF; omega
    obtain ⟨y1, y2, y3⟩ := q6 f hf
    have g7 : h3.2.2.1 (aF z n f) 7 = dySh z n nf h0.2.2.1 rain w b o t f := (p3.2.2.2 _ _ (by unfold kT aF; omega)).trans ((r t ht).2.2.2.2.2 f (ordl_mem.mpr ⟨hf, et⟩))
    have g3 : h3.2.2.1 (aF z n f) 3 = h0.2.2.1 (aJ z n 12) f := by rw [p3.2.2.2 _ _ (by unfold kT aF; omega), F2 f 3 (by omega) (by omega)]; exact (cf f hf).2.2.2.1
    have g9 : h3.2.2.1 (aF z n f) 9 = h0.2.2.1 (aF z n f) 9 := by rw [p3.2.2.2 _ _ (by unfold kT aF; omega), F2 f 9 (by omega) (by omega)]
    have g10 : h3.2.2.1 (aF z n f) 10 = h0.2.2.1 (aF z n f) 10 := by rw [p3.2.2.2 _ _ (by unfold kT aF; omega), F2 f 10 (by omega) (by omega)]
    rw [g7] at y1
    rw [g7, g10] at y2
    rw [g7, g3, g9] at y3
    simp only [sI_u, u2_ne _ _ n1, u2_ne _ _ n2]
    exact ⟨y1, y2, y3⟩
  · have y := q4 x
    rw [z2, z2, z2] at y
    have f4 : ∀ k, h4.2.2.1 z k = h3.2.2.1 z k := fun k => p4.2.2.2 _ _ (by unfold kF; omega)
    simp (disch := first | (refine Or.inr ?_; omega)) only [sI_u, u2n, u2_ne _ _ ze, f4]
    exact y
  · have y := q5 x
    have f4 : ∀ k, h4.2.2.1 z k = h3.2.2.1 z k := fun k => p4.2.2.2 _ _ (by unfold kF; omega)
    simp (disch := first | (refine Or.inr ?_; omega)) only [sI_u, u2n, u2_ne _ _ ze, f4]
    exact y
  · simp (disch := first | (refine Or.inr ?_; omega) | (refine Or.inl ?_; omega)) only [sI_u, u2n, u2s]
  · simp (disch := first | (refine Or.inr ?_; omega) | (refine Or.inl ?_; omega)) only [sI_u, u2n, u2s]
  · simp (disch := first | (refine Or.inr ?_; omega) | (refine Or.inl ?_; omega)) only [sI_u, u2n, u2s]
  · simp (disch := first | (refine Or.inr ?_; omega) | (refine Or.inl ?_; omega)) only [sI_u, u2n, u2s]
  · simp only [sI_u, u2s]
end DZ
