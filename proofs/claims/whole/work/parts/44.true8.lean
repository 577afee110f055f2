/-! ===== the day: the reference ===== -/
def dyA (z n a k : Nat) : Prop := dyC z n a k ∨ dyR z n a k
def tA (z n a k : Nat) : Prop := (z + 35 + 3 * n ≤ a ∧ a ≤ z + 37 + 3 * n) ∨ a = z + 16 + 3 * n ∨ a = z + 22 + 3 * n ∨ a = z + 19 + 3 * n ∨ a = z + 20 + 3 * n ∨ (a = z + 12 + 3 * n ∧ 24 ≤ k ∧ k ≤ 26)
def tC (z n i a k : Nat) : Prop := (a = z + 21 + 3 * n ∧ k = i) ∨ (a = z + 12 + 3 * n ∧ 28 ≤ k ∧ k ≤ 30)
theorem tA_dy {z n : Nat} (a k : Nat) (q : tA z n a k) : dyA z n a k := by
  rcases q with q | q
  · exact Or.inl (Or.inl (by unfold sc; omega))
  · exact Or.inr (by unfold dyR; omega)
def dyT (z n a k : Nat) : Prop := sc z n a k ∨ dyR z n a k
theorem tA_dt {z n : Nat} (a k : Nat) (q : tA z n a k) : dyT z n a k := by
  rcases q with q | q
  · exact Or.inl (by unfold sc; omega)
  · exact Or.inr (by unfold dyR; omega)
theorem tC_dy {z n i : Nat} (a k : Nat) (q : tC z n i a k) : dyA z n a k := Or.inr (by unfold tC at q; unfold dyR; omega)
theorem r8_dy {z n : Nat} (a k : Nat) (q : r8 z n a k) : dyA z n a k := Or.inr (by unfold r8 at q; unfold dyR; omega)
section T8
variable {z n nf dN hN : Nat} {h h0 : AH}
theorem Ag_sta (p : Ag (dyA z n) h0 h) : Sta z n h0.2.2.1 h.2.2.1 := ⟨fun j hj => funext (fun k => p.2.2.2 _ _ (by rintro ((q | q | q | q | q) | q) <;> (try simp only [sc, kT, kF, dyR, aJ, aM, aT, aN, aF, aFl, aFs] at q) <;> omega)), fun w d hw => by
  unfold cusV
  rw [p.2.2.2 (aM z n) 38 (by rintro ((q | q | q | q | q) | q) <;> (try simp only [sc, kT, kF, dyR, aJ, aM, aT, aN, aF, aFl, aFs] at q) <;> omega), p.2.2.2 (aJ z n 21) w (by rintro ((q | q | q | q | q) | q) <;> (try simp only [sc, kT, kF, dyR, aJ, aM, aT, aN, aF, aFl, aFs] at q) <;> omega)], p.2.2.2 _ _ (by rintro ((q | q | q | q | q) | q) <;> (try simp only [sc, kT, kF, dyR, aJ, aM, aT, aN, aF, aFl, aFs] at q) <;> omega), funext (fun k => p.2.2.2 _ _ (by rintro ((q | q | q | q | q) | q) <;> (try simp only [sc, kT, kF, dyR, aJ, aM, aT, aN, aF, aFl, aFs] at q) <;> omega))⟩
theorem AF_ag (A : AF z n nf h0) (p : Ag (dyA z n) h0 h) : AF z n nf h := by
  have st := Ag_sta p
  obtain ⟨W, V, b, e3, ⟨k, hk, e1, e2, ej⟩, md⟩ := A
  refine ⟨WS_ag W p, WR_ag V p, b, ?_, ⟨k, hk, ?_, ?_, fun j hj => ?_⟩, fun f hf => ?_⟩
  · rw [p.2.2.2 _ _ (by rintro ((q | q | q | q | q) | q) <;> (try simp only [sc, kT, kF, dyR, aJ, aM, aT, aN, aF, aFl, aFs] at q) <;> omega)]; exact e3
  · rw [st.2.2.1]; exact e1
  · rw [st.2.1 0 0 (by omega)]; exact e2
  · rw [st.2.2.2, p.2.2.2 (aJ z n 21) _ (by rintro ((q | q | q | q | q) | q) <;> (try simp only [sc, kT, kF, dyR, aJ, aM, aT, aN, aF, aFl, aFs] at q) <;> omega)]; exact ej j hj
  · have := md f hf
    unfold MD at this ⊢
    rw [st.1 11 (by omega), st.1 12 (by omega), st.1 17 (by omega)]
    exact this
theorem l_tA (A : AF z n nf h) (hm : h.2.2.1 (aM z n) 0 = nI n) (hn : n ≤ 11) {i q : Nat} (hi : i < n) (hq : q ≤ 20) (hop : h.2.2.1 (aJ z n 4) i = nI q) {w b : Int32} (hw : h.2.2.1 (aJ z n 3) i = w) (hb : h.2.2.1 (aJ z n 9) i = b) (m : Nat) (rain d fed brk : Int32) : ∃ hA fed', f_X8_flows_12 (m + 1) h (aM z n) (some (aJ z n 3)) (some (aJ z n 9)) (some (aJ z n 4)) rain 1 d fed brk (nI i) = f_X8_flows_297 (f_X8_flows_12 m) FU hA (aM z n) (some (aJ z n 3)) (some (aJ z n 9)) (some (aJ z n 4)) rain 1 (pD z n nf h.2.2.1 i rain w b (nI q) d) fed' brk (nI i) (b2i (pBrk z n nf h.2.2.1 i rain w b (nI q) d)) 0 ∧ Ag (tA z n) h hA ∧ (hA.2.2.1 (aJ z n 3) i = pW z n nf h.2.2.1 i rain w b (nI q) d ∧ hA.2.2.1 (aJ z n 9) i = pB z n nf h.2.2.1 i rain w b (nI q) d ∧ hA.2.2.1 (aJ z n 6) i = pT z n nf h.2.2.1 i rain w (nI q) d ∧ hA.2.2.1 (aJ z n 7) i = pSpl z n nf h.2.2.1 i rain w b (nI q) d) ∧ (∀ k, k ≠ i → hA.2.2.1 (aJ z n 3) k = h.2.2.1 (aJ z n 3) k ∧ hA.2.2.1 (aJ z n 9) k = h.2.2.1 (aJ z n 9) k ∧ hA.2.2.1 (aJ z n 6) k = h.2.2.1 (aJ z n 6) k ∧ hA.2.2.1 (aJ z n 7) k = h.2.2.1 (aJ z n 7) k) ∧ (hA.2.2.1 (aM z n) 24 = h.2.2.1 (aM z n) 24 + pX z n h.2.2.1 i rain w d / 50 ∧ hA.2.2.1 (aM z n) 25 = h.2.2.1 (aM z n) 25 + (pT z n nf h.2.2.1 i rain w (nI q) d - pT z n nf h.2.2.1 i rain w (nI q) d / 2) ∧ hA.2.2.1 (aM z n) 26 = h.2.2.1 (aM z n) 26 + rain * h.2.2.1 (aJ z n 0) i) ∧ ∀ f ∈ ordl z n nf h.2.2.1 i, hA.2.2.1 (aJ z n 23) f = pS z n nf h.2.2.1 i rain w (nI q) d f := by
  have hi11 : i < 11 := by omega
  obtain ⟨h1, e1, g1, a0, a2, gk, gS⟩ := l_flow1 (Or.inl ⟨rfl, rfl, rfl⟩) A hm hn hi hq hop m rain 1 d fed brk
  rw [hw, hb] at e1 a0 a2
  rw [hw] at gS
  have W1 := WS_ag A.1 g1
  have V1 := WR_ag A.2.1 g1
  have sM := W_M W1
  have e3 : h1.2.2.1 (aM z n) 3 = nI nf := (g1.2.2.2 _ _ (by unfold dyn; (first | omega | (simp only [aT, aN, aA, aJ, aM, aF, aFl, aFs]; omega)))).trans A.2.2.2.1
  have lf := l_fed8 (f_X8_flows_12 m) W1 V1 A.2.2.1 e3 i (some (aJ z n 3)) (some (aJ z n 9)) (some (aJ z n 4)) rain 1 (pD z n nf h.2.2.1 i rain w b (nI q) d) brk (pX z n h.2.2.1 i rain w d / 50) (pT z n nf h.2.2.1 i rain w (nI q) d) (pSpl z n nf h.2.2.1 i rain w b (nI q) d) (b2i (pBrk z n nf h.2.2.1 i rain w b (nI q) d)) fed FU 0 (by have := A.2.2.1; rw [fu_big]; omega) (by omega)
  rw [sumF, Int32.add_zero, show nI 0 = (0 : Int32) from rfl] at lf
  have m1 : ∀ k, h1.2.2.1 (aM z n) k = h.2.2.1 (aM z n) k := fun k => g1.2.2.2 _ _ (by unfold dyn; (first | omega | (simp only [aT, aN, aA, aJ, aM, aF, aFl, aFs]; omega)))
  have j0 : h1.2.2.1 (aJ z n 0) i = h.2.2.1 (aJ z n 0) i := g1.2.2.2 _ _ (by unfold dyn; (first | omega | (simp only [aT, aN, aA, aJ, aM, aF, aFl, aFs]; omega)))
  have j6 : ∀ k, h1.2.2.1 (aJ z n 6) k = h.2.2.1 (aJ z n 6) k := fun k => g1.2.2.2 _ _ (by unfold dyn; (first | omega | (simp only [aT, aN, aA, aJ, aM, aF, aFl, aFs]; omega)))
  have j7 : ∀ k, h1.2.2.1 (aJ z n 7) k = h.2.2.1 (aJ z n 7) k := fun k => g1.2.2.2 _ _ (by unfold dyn; (first | omega | (simp only [aT, aN, aA, aJ, aM, aF, aFl, aFs]; omega)))
  rw [e1, lf]
  unfold g166e
  rw [if_neg one_ne, ev_gR sM, V_J6 V1, ev_sI (W_J6 W1) hi11 (by omega), vn_i, ev_gR (by simp only [sI_s]; exact sM)]
  simp only [sI_r]
  rw [V_J7 V1, ev_sI (by simp only [sI_s]; exact W_J7 W1) hi11 (by omega), vn_i, ev_gI (by simp only [sI_s]; exact sM), ev_pI (by simp only [sI_s]; exact sM), ev_gI (by simp only [sI_s]; exact sM), ev_dv (by decide), ev_pI (by simp only [sI_s]; exact sM), ev_gI (by simp only [sI_s]; exact sM), ev_gR (by simp only [sI_s]; exact sM)]
  simp only [sI_r]
  rw [V_J0 V1, ev_aI (by simp only [sI_s]; exact W_J0 W1) hi11 (by omega), ev_pI (by simp only [sI_s]; exact sM)]
  have x6 : aM z n ≠ aJ z n 6 := by (first | omega | (simp only [aT, aN, aA, aJ, aM, aF, aFl, aFs]; omega))
  have x7 : aM z n ≠ aJ z n 7 := by (first | omega | (simp only [aT, aN, aA, aJ, aM, aF, aFl, aFs]; omega))
  have y3 : aJ z n 3 ≠ aM z n ∧ aJ z n 3 ≠ aJ z n 6 ∧ aJ z n 3 ≠ aJ z n 7 := ⟨by (first | omega | (simp only [aT, aN, aA, aJ, aM, aF, aFl, aFs]; omega)), by (first | omega | (simp only [aT, aN, aA, aJ, aM, aF, aFl, aFs]; omega)), by (first | omega | (simp only [aT, aN, aA, aJ, aM, aF, aFl, aFs]; omega))⟩
  have y9 : aJ z n 9 ≠ aM z n ∧ aJ z n 9 ≠ aJ z n 6 ∧ aJ z n 9 ≠ aJ z n 7 := ⟨by (first | omega | (simp only [aT, aN, aA, aJ, aM, aF, aFl, aFs]; omega)), by (first | omega | (simp only [aT, aN, aA, aJ, aM, aF, aFl, aFs]; omega)), by (first | omega | (simp only [aT, aN, aA, aJ, aM, aF, aFl, aFs]; omega))⟩
  have y0 : aJ z n 0 ≠ aM z n ∧ aJ z n 0 ≠ aJ z n 6 ∧ aJ z n 0 ≠ aJ z n 7 := ⟨by (first | omega | (simp only [aT, aN, aA, aJ, aM, aF, aFl, aFs]; omega)), by (first | omega | (simp only [aT, aN, aA, aJ, aM, aF, aFl, aFs]; omega)), by (first | omega | (simp only [aT, aN, aA, aJ, aM, aF, aFl, aFs]; omega))⟩
  have y23 : aJ z n 23 ≠ aM z n ∧ aJ z n 23 ≠ aJ z n 6 ∧ aJ z n 23 ≠ aJ z n 7 := ⟨by (first | omega | (simp only [aT, aN, aA, aJ, aM, aF, aFl, aFs]; omega)), by (first | omega | (simp only [aT, aN, aA, aJ, aM, aF, aFl, aFs]; omega)), by (first | omega | (simp only [aT, aN, aA, aJ, aM, aF, aFl, aFs]; omega))⟩
  have y6 : aJ z n 6 ≠ aM z n ∧ aJ z n 6 ≠ aJ z n 7 := ⟨by (first | omega | (simp only [aT, aN, aA, aJ, aM, aF, aFl, aFs]; omega)), by (first | omega | (simp only [aT, aN, aA, aJ, aM, aF, aFl, aFs]; omega))⟩
  have y7 : aJ z n 7 ≠ aM z n ∧ aJ z n 7 ≠ aJ z n 6 := ⟨by (first | omega | (simp only [aT, aN, aA, aJ, aM, aF, aFl, aFs]; omega)), by (first | omega | (simp only [aT, aN, aA, aJ, aM, aF, aFl, aFs]; omega))⟩
  refine ⟨_, _, rfl, ?_, ⟨?_, ?_, ?_, ?_⟩, fun k hk => ⟨?_, ?_, ?_, ?_⟩, ⟨?_, ?_, ?_⟩, fun f hf => ?_⟩
  · refine (((((g1.mo (fun a k x => ?_)).set ?_).set ?_).set ?_).set ?_).set ?_
    · unfold dyn at x; unfold tA; unfold aJ at x; omega
    · unfold tA aJ; omega
    · unfold tA aJ; omega
    · unfold tA aM; omega
    · unfold tA aM; omega
    · unfold tA aM; omega
  · simp only [sI_u, u2_ne _ _ y3.1, u2_ne _ _ y3.2.1, u2_ne _ _ y3.2.2]; exact a0
  · simp only [sI_u, u2_ne _ _ y9.1, u2_ne _ _ y9.2.1, u2_ne _ _ y9.2.2]; exact a2
  · simp only [sI_u, u2_ne _ _ y6.1, u2_ne _ _ y6.2, u2s]
  · simp only [sI_u, u2_ne _ _ y7.1, u2s]
  · simp only [sI_u, u2_ne _ _ y3.1, u2_ne _ _ y3.2.1, u2_ne _ _ y3.2.2]; exact (gk k hk).1
  · simp only [sI_u, u2_ne _ _ y9.1, u2_ne _ _ y9.2.1, u2_ne _ _ y9.2.2]; exact (gk k hk).2
  · simp only [sI_u, u2_ne _ _ y6.1, u2_ne _ _ y6.2, u2n (Or.inr hk), j6]
  · simp only [sI_u, u2_ne _ _ y7.1, u2_ne _ _ y7.2, u2n (Or.inr hk), j7]
  · simp (disch := (refine Or.inr ?_; omega)) only [sI_u, u2_ne _ _ x6, u2_ne _ _ x7, u2s, u2n, m1]
  · simp (disch := (refine Or.inr ?_; omega)) only [sI_u, u2_ne _ _ x6, u2_ne _ _ x7, u2s, u2n, m1]
  · simp (disch := (refine Or.inr ?_; omega)) only [sI_u, u2_ne _ _ x6, u2_ne _ _ x7, u2s, u2n, m1, u2_ne _ _ y0.1, u2_ne _ _ y0.2.1, u2_ne _ _ y0.2.2, j0]
  · simp only [sI_u, u2_ne _ _ y23.1, u2_ne _ _ y23.2.1, u2_ne _ _ y23.2.2]; exact gS f hf
theorem l_brk (W : WS z n nf h) (V : WR z n nf h) {i : Nat} (hi : i < 11) (hd : h.2.2.1 (aM z n) 1 = nI dN) (K : Bool) {c : Nat} (hc : c ≤ 11) (m : Nat) (l1 l2 l3 : Option Nat) (l4 l5 l6 l7 : Int32) : ∃ hC, g297e (f_X8_flows_12 m) h (aM z n) l1 l2 l3 l4 l5 l6 l7 (nI c) (nI i) (b2i K) = f_X8_flows_12 m hC (aM z n) l1 l2 l3 l4 l5 l6 l7 (nI (if K = true then c + 1 else c)) (nI (i + 1)) ∧ Ag (tC z n i) h hC ∧ hC.2.2.1 (aJ z n 8) i = (if K = true then nI dN else h.2.2.1 (aJ z n 8) i) ∧ (K = true → hC.2.2.1 (aM z n) 28 = (if c = 0 then nI i else h.2.2.1 (aM z n) 28) ∧ hC.2.2.1 (aM z n) 29 = nI (c + 1) ∧ hC.2.2.1 (aM z n) 30 = nI dN) ∧ (K = false → hC = h) := by
  have sM := W_M W
  unfold g297e
  cases K with
  | false =>
    rw [if_pos (show b2i false = 0 from rfl)]
    unfold f_X8_flows_483
    rw [ev_bd, nI_1]
    exact ⟨h, rfl, Ag.rf, rfl, fun x => (by cases x), fun _ => rfl⟩
  | true =>
    have ne : aJ z n 8 ≠ aM z n := by (first | omega | (simp only [aT, aN, aA, aJ, aM, aF, aFl, aFs]; omega))
    have ne' : aM z n ≠ aJ z n 8 := by (first | omega | (simp only [aT, aN, aA, aJ, aM, aF, aFl, aFs]; omega))
    rw [if_neg (show ¬ b2i true = 0 from one_ne), ev_gR sM, V_J8 V, ev_gI sM, hd, ev_sI (W_J8 W) hi (by omega), vn_i]
    have go : ∀ hx : AH, hx.2.1 = h.2.1 → hx.2.2.1 (aM z n) 1 = nI dN → f_X8_flows_466 (f_X8_flows_12 m) hx (aM z n) l1 l2 l3 l4 l5 l6 l7 (nI c) (nI i) = f_X8_flows_12 m (setI (setI hx (aM z n) 29 (nI (c + 1))) (aM z n) 30 (nI dN)) (aM z n) l1 l2 l3 l4 l5 l6 l7 (nI (c + 1)) (nI (i + 1)) := by
      intro hx e1 e2
      unfold f_X8_flows_466 f_X8_flows_483
      rw [ev_bd, nI_1, ev_pI (by rw [e1]; exact sM), ev_gI (by rw [sI_s, e1]; exact sM), sI_u, u2n (Or.inr (by omega)), e2, ev_pI (by rw [sI_s, e1]; exact sM), ev_bd, nI_1]
    by_cases e : c = 0
    · rw [if_pos (show nI c = 0 by rw [e]; rfl), ev_pI (by rw [sI_s]; exact sM), go _ (by rfl) (by rw [sI_u, u2n (Or.inr (by omega)), sI_u, u2_ne _ _ ne']; exact hd), if_pos rfl]
      refine ⟨_, rfl, (((Ag.rf.set ?_).set ?_).set ?_).set ?_, ?_, fun _ => ⟨?_, ?_, ?_⟩, fun x => (by cases x)⟩
      · unfold tC aJ; omega
      · unfold tC aM; omega
      · unfold tC aM; omega
      · unfold tC aM; omega
      · rw [if_pos rfl]; simp only [sI_u, u2_ne _ _ ne, u2s]
      · rw [if_pos e]; simp (disch := (refine Or.inr ?_; omega)) only [sI_u, u2n, u2s]
      · simp (disch := (refine Or.inr ?_; omega)) only [sI_u, u2n, u2s]
      · simp only [sI_u, u2s]
    · rw [if_neg (show ¬ nI c = 0 from fun x => e (nI_inj (b := 0) (by omega) (by omega) x)), go _ (by rfl) (by rw [sI_u, u2_ne _ _ ne']; exact hd), if_pos rfl]
      refine ⟨_, rfl, ((Ag.rf.set ?_).set ?_).set ?_, ?_, fun _ => ⟨?_, ?_, ?_⟩, fun x => (by cases x)⟩
      · unfold tC aJ; omega
      · unfold tC aM; omega
      · unfold tC aM; omega
      · rw [if_pos rfl]; simp only [sI_u, u2_ne _ _ ne, u2s]
      · rw [if_neg e]; simp (disch := (refine Or.inr ?_; omega)) only [sI_u, u2n, u2_ne _ _ ne']
      · simp (disch := (refine Or.inr ?_; omega)) only [sI_u, u2n, u2s]
      · simp only [sI_u, u2s]
/-- the reference's day has passed the first i tanks -/
def Tru8 (z n nf dN : Nat) (h0 : AH) (rain : Int32) (w b o : Nat → Int32) (i : Nat) (h : AH) : Prop :=
  (∀ j, j < i → h.2.2.1 (aJ z n 3) j = dayW z n nf h0.2.2.1 rain w b o j ∧ h.2.2.1 (aJ z n 9) j = dayB z n nf h0.2.2.1 rain w b o j ∧ h.2.2.1 (aJ z n 6) j = dayT z n nf h0.2.2.1 rain w b o j ∧ h.2.2.1 (aJ z n 7) j = dayS z n nf h0.2.2.1 rain w b o j ∧ h.2.2.1 (aJ z n 8) j = if dyK z n nf h0.2.2.1 rain w b o j = true then nI dN else h0.2.2.1 (aJ z n 8) j) ∧
  (∀ j, i ≤ j → j < n → h.2.2.1 (aJ z n 3) j = w j ∧ h.2.2.1 (aJ z n 9) j = b j ∧ h.2.2.1 (aJ z n 8) j = h0.2.2.1 (aJ z n 8) j) ∧
  (∀ f, f < nf → ∀ t, t < n → h0.2.2.1 (aJ z n 10) f = nI t → t < i → h.2.2.1 (aJ z n 16) f = dySh z n nf h0.2.2.1 rain w b o t f ∧ h.2.2.1 (aJ z n 15) f = h0.2.2.1 (aJ z n 15) f + dySh z n nf h0.2.2.1 rain w b o t f ∧ h.2.2.1 (aJ z n 14) f = if dySh z n nf h0.2.2.1 rain w b o t f = h0.2.2.1 (aJ z n 12) f then h0.2.2.1 (aJ z n 14) f + 1 else h0.2.2.1 (aJ z n 14) f) ∧
  (∀ f, f < nf → ∀ t, t < n → h0.2.2.1 (aJ z n 10) f = nI t → i ≤ t → h.2.2.1 (aJ z n 15) f = h0.2.2.1 (aJ z n 15) f ∧ h.2.2.1 (aJ z n 14) f = h0.2.2.1 (aJ z n 14) f) ∧
  CO z n nf h.2.2.1 ∧
  (h.2.2.1 (aM z n) 26 = h0.2.2.1 (aM z n) 26 + sumF i (fun j => rain * h0.2.2.1 (aJ z n 0) j) ∧ h.2.2.1 (aM z n) 24 = h0.2.2.1 (aM z n) 24 + sumF i (seep z n nf h0.2.2.1 rain w b o) ∧ h.2.2.1 (aM z n) 25 = h0.2.2.1 (aM z n) 25 + sumF i (kept z n nf h0.2.2.1 rain w b o)) ∧
  h.2.2.1 (aM z n) 1 = nI dN ∧
  (cntK (dyK z n nf h0.2.2.1 rain w b o) i = 0 → h.2.2.1 (aM z n) 28 = h0.2.2.1 (aM z n) 28 ∧ h.2.2.1 (aM z n) 29 = h0.2.2.1 (aM z n) 29 ∧ h.2.2.1 (aM z n) 30 = h0.2.2.1 (aM z n) 30) ∧
  (cntK (dyK z n nf h0.2.2.1 rain w b o) i ≠ 0 → h.2.2.1 (aM z n) 28 = fstK (dyK z n nf h0.2.2.1 rain w b o) i ∧ h.2.2.1 (aM z n) 29 = nI (cntK (dyK z n nf h0.2.2.1 rain w b o) i) ∧ h.2.2.1 (aM z n) 30 = nI dN)
theorem l_true8 (C : Cpl z n nf dN hN h0) {rain : Int32} {w b o : Nat → Int32} {hz : AH} (ho : o = h0.2.2.1 (aJ z n 4)) : ∀ (m i : Nat) (h : AH) (fed : Int32), n - i < m → i ≤ n → Ag (dyA z n) h0 h → Ag (dyT z n) hz h → Tru8 z n nf dN h0 rain w b o i h → h.2.2.1 (aM z n) 23 = h0.2.2.1 (aM z n) 23 → ∃ h' x, f_X8_flows_12 m h (aM z n) (some (aJ z n 3)) (some (aJ z n 9)) (some (aJ z n 4)) rain 1 (dD z n nf h0.2.2.1 rain w b o i) fed (nI (cntK (dyK z n nf h0.2.2.1 rain w b o) i)) (nI i) = some (x, h') ∧ Ag (dyT z n) hz h' ∧ Tru8 z n nf dN h0 rain w b o n h' ∧ h'.2.2.1 (aM z n) 23 = h0.2.2.1 (aM z n) 23 + dD z n nf h0.2.2.1 rain w b o n := by
  have hn := C.1.2.1
  have hnf := C.1.2.2.1
  have cf := C.2.2.2.2.1
  intro m
  induction m with
  | zero => intro i h fed h1; omega
  | succ m ih =>
    intro i h fed h1 h2 p pz tr h23
    have A := AF_ag (AF_of C) p
    have W := A.1
    have V := A.2.1
    have sM := W_M W
    have hm : h.2.2.1 (aM z n) 0 = nI n := (p.2.2.2 _ _ (by rintro ((q | q | q | q | q) | q) <;> (try simp only [sc, kT, kF, dyR, aJ, aM, aT, aN, aF, aFl, aFs] at q) <;> omega)).trans (hM0 C.2.2.2.2.2.1)
    have st := Ag_sta p
    obtain ⟨ta, tb, tc, td, co, ⟨t26, t24, t25⟩, t1, th, ti⟩ := id tr
    by_cases hi : i < n
    · have j4 : h.2.2.1 (aJ z n 4) i = o i := by rw [ho]; exact p.2.2.2 _ _ (by rintro ((q | q | q | q | q) | q) <;> (try simp only [sc, kT, kF, dyR, aJ, aM, aT, aN, aF, aFl, aFs] at q) <;> omega)
      obtain ⟨q, hq, eo'⟩ := ho_of C i hi
      have eo : o i = nI q := by rw [ho]; exact eo'
      obtain ⟨b3, b9, b8⟩ := tb i (Nat.le_refl i) hi
      obtain ⟨hA, fed', eA, pA, ⟨v3, v9, v6, v7⟩, vk, ⟨m24, m25, m26⟩, gS⟩ := l_tA A hm hn hi hq (j4.trans eo) b3 b9 m rain (dD z n nf h0.2.2.1 rain w b o i) fed (nI (cntK (dyK z n nf h0.2.2.1 rain w b o) i))
      rw [← eo] at eA v3 v9 v6 v7 m25 gS
      rw [pD_sta st, pBrk_sta st] at eA
      rw [pW_sta st] at v3
      rw [pB_sta st] at v9
      rw [pT_sta st] at v6 m25
      rw [pSpl_sta st] at v7
      rw [pX_sta st] at m24
      rw [st.1 0 (by omega)] at m26
      rw [st.ordl, pS_sta st] at gS
      have pA0 := p.tr (pA.mo tA_dy)
      have AA := AF_ag (AF_of C) pA0
      have stA := Ag_sta pA0
      have row13 : hA.2.2.1 (aJ z n 13) = h0.2.2.1 (aJ z n 13) := funext (fun k => pA0.2.2.2 _ _ (by rintro ((q | q | q | q | q) | q) <;> (try simp only [sc, kT, kF, dyR, aJ, aM, aT, aN, aF, aFl, aFs] at q) <;> omega))
      have rowA : ∀ j, 14 ≤ j → j ≤ 18 → hA.2.2.1 (aJ z n j) = h.2.2.1 (aJ z n j) := fun j hj hj2 => funext (fun k => pA.2.2.2 _ _ (by unfold tA aJ; omega))
      have coA : CO z n nf hA.2.2.1 := by
        unfold CO
        rw [rowA 18 (by omega) (by omega), rowA 14 (by omega) (by omega), rowA 15 (by omega) (by omega), rowA 16 (by omega) (by omega), row13, stA.1 12 (by omega), ← st.1 12 (by omega), ← show h.2.2.1 (aJ z n 13) = h0.2.2.1 (aJ z n 13) from funext (fun k => p.2.2.2 _ _ (by rintro ((q | q | q | q | q) | q) <;> (try simp only [sc, kT, kF, dyR, aJ, aM, aT, aN, aF, aFl, aFs] at q) <;> omega))]
        exact co
      obtain ⟨hB, eB, pB', coB, gB, nB⟩ := l_keep8 (f_X8_flows_12 m) AA.1 AA.2.1 hnf AA.2.2.2.1 (fun f hf => by
        rw [row13]
        exact (cf f hf).2.2.2.2.2.2.2.2.2.2.2.2.1) i (some (aJ z n 3)) (some (aJ z n 9)) (some (aJ z n 4)) rain 1 (pD z n nf h0.2.2.1 i rain (w i) (b i) (o i) (dD z n nf h0.2.2.1 rain w b o i)) fed' (nI (cntK (dyK z n nf h0.2.2.1 rain w b o) i)) (b2i (pBrk z n nf h0.2.2.1 i rain (w i) (b i) (o i) (dD z n nf h0.2.2.1 rain w b o i))) FU 0 hA (by rw [fu_big]; omega) (by omega) Ag.rf coA (fun g _ _ hg => by omega) (fun g _ _ => ⟨rfl, rfl, rfl⟩)
      rw [stA.1 10 (by omega)] at gB nB
      have pB0 := pA0.tr (pB'.mo r8_dy)
      have WB := WS_ag AA.1 pB'
      have VB := WR_ag AA.2.1 pB'
      have mB : ∀ k, hB.2.2.1 (aM z n) k = hA.2.2.1 (aM z n) k := fun k => pB'.2.2.2 _ _ (by unfold r8 aM; omega)
      have rB : ∀ j, j < 14 → hB.2.2.1 (aJ z n j) = hA.2.2.1 (aJ z n j) := fun j hj => funext (fun k => pB'.2.2.2 _ _ (by unfold r8 aJ; omega))
      have mA : ∀ k, (k < 24 ∨ 26 < k) → hA.2.2.1 (aM z n) k = h.2.2.1 (aM z n) k := fun k hk => pA.2.2.2 _ _ (by unfold tA aM; omega)
      have A8 : hA.2.2.1 (aJ z n 8) = h.2.2.1 (aJ z n 8) := funext (fun k => pA.2.2.2 _ _ (by unfold tA aJ; omega))
      have hcnt := cntK_le (dyK z n nf h0.2.2.1 rain w b o) i
      obtain ⟨hC, eC, pC, c8, cK, cN⟩ := l_brk WB VB (i := i) (dN := dN) (by omega) (by rw [mB, mA 1 (by omega)]; exact t1) (dyK z n nf h0.2.2.1 rain w b o i) (c := cntK (dyK z n nf h0.2.2.1 rain w b o) i) (by omega) m (some (aJ z n 3)) (some (aJ z n 9)) (some (aJ z n 4)) rain 1 (pD z n nf h0.2.2.1 i rain (w i) (b i) (o i) (dD z n nf h0.2.2.1 rain w b o i)) fed'
      have pC0 := pB0.tr (pC.mo tC_dy)
      have rC : ∀ j, j ≠ 8 → hC.2.2.1 (aJ z n j) = hB.2.2.1 (aJ z n j) := fun j hj => funext (fun k => pC.2.2.2 _ _ (by unfold tC aJ; omega))
      have r8C : ∀ k, k ≠ i → hC.2.2.1 (aJ z n 8) k = h.2.2.1 (aJ z n 8) k := fun k hk => by rw [pC.2.2.2 _ _ (by unfold tC aJ; omega), rB 8 (by omega), A8]
      have mC : ∀ k, k < 28 → hC.2.2.1 (aM z n) k = hA.2.2.1 (aM z n) k := fun k hk => by rw [pC.2.2.2 _ _ (by unfold tC aM; omega), mB]
      have pz2 : Ag (dyT z n) hz hC := ((pz.tr (pA.mo tA_dt)).tr (pB'.mo (fun a k x => Or.inr (by unfold r8 at x; unfold dyR; omega)))).tr (pC.mo (fun a k x => Or.inr (by unfold tC at x; unfold dyR; omega)))
      have nx := ih (i + 1) hC fed' (by omega) (by omega) pC0 pz2 (by
        refine ⟨fun j hj => ?_, fun j hj hjn => ?_, fun f hf t ht et hti => ?_, fun f hf t ht et hti => ?_, ?_, ⟨?_, ?_, ?_⟩, ?_, fun hz => ?_, fun hz => ?_⟩
        · rw [rC 3 (by omega), rB 3 (by omega), rC 9 (by omega), rB 9 (by omega), rC 6 (by omega), rB 6 (by omega), rC 7 (by omega), rB 7 (by omega)]
          by_cases e : j = i
          · subst e
            refine ⟨v3, v9, v6, v7, ?_⟩
            rw [c8, rB 8 (by omega), A8, b8]
          · obtain ⟨k3, k9, k6, k7⟩ := vk j e
            rw [k3, k9, k6, k7, r8C j e]
            exact ta j (by omega)
        · obtain ⟨k3, k9, -, -⟩ := vk j (by omega)
          rw [rC 3 (by omega), rB 3 (by omega), rC 9 (by omega), rB 9 (by omega), k3, k9, r8C j (by omega)]
          exact tb j (by omega) hjn
        · rw [rC 16 (by omega), rC 15 (by omega), rC 14 (by omega)]
          by_cases e : t = i
          · subst e
            obtain ⟨y1, y2, y3⟩ := gB f hf et
            have s23 : hA.2.2.1 (aJ z n 23) f = dySh z n nf h0.2.2.1 rain w b o t f := gS f (ordl_mem.mpr ⟨hf, et⟩)
            obtain ⟨d15, d14⟩ := td f hf t ht et (Nat.le_refl t)
            rw [s23] at y1
            rw [s23, rowA 15 (by omega) (by omega), d15] at y2
            rw [s23, stA.1 12 (by omega), rowA 14 (by omega) (by omega), d14] at y3
            exact ⟨y1, y2, y3⟩
          · have ne : ¬ h0.2.2.1 (aJ z n 10) f = nI i := fun y => e (nI_inj (by omega) (by omega) (et.symm.trans y))
            obtain ⟨y1, y2, y3⟩ := nB f hf ne
            rw [rowA 16 (by omega) (by omega)] at y1
            rw [rowA 15 (by omega) (by omega)] at y2
            rw [rowA 14 (by omega) (by omega)] at y3
            rw [y1, y2, y3]
            exact tc f hf t ht et (by omega)
        · have ne : ¬ h0.2.2.1 (aJ z n 10) f = nI i := fun y => by
            have := nI_inj (by omega) (by omega) (et.symm.trans y)
            omega
          obtain ⟨y1, y2, y3⟩ := nB f hf ne
          rw [rowA 15 (by omega) (by omega)] at y2
          rw [rowA 14 (by omega) (by omega)] at y3
          rw [rC 15 (by omega), rC 14 (by omega), y2, y3]
          exact td f hf t ht et (by omega)
        · unfold CO
          rw [rC 18 (by omega), rC 13 (by omega), rC 12 (by omega), rC 14 (by omega), rC 15 (by omega), rC 16 (by omega)]
          exact coB
        · rw [mC 26 (by omega), m26, t26, sumF, Int32.add_assoc]
        · rw [mC 24 (by omega), m24, t24, sumF, Int32.add_assoc]
          rfl
        · rw [mC 25 (by omega), m25, t25, sumF, Int32.add_assoc]
          rfl
        · rw [mC 1 (by omega), mA 1 (by omega)]
          exact t1
        · rw [cntK] at hz
          cases eK : dyK z n nf h0.2.2.1 rain w b o i with
          | true => rw [eK, if_pos rfl] at hz; omega
          | false =>
            rw [eK, if_neg (by decide)] at hz
            rw [cN eK, mB, mB, mB, mA 28 (by omega), mA 29 (by omega), mA 30 (by omega)]
            exact th hz
        · rw [cntK] at hz ⊢
          rw [fstK]
          cases eK : dyK z n nf h0.2.2.1 rain w b o i with
          | true =>
            obtain ⟨x28, x29, x30⟩ := cK eK
            refine ⟨?_, ?_, x30⟩
            · rw [x28]
              by_cases e0 : cntK (dyK z n nf h0.2.2.1 rain w b o) i = 0
              · rw [if_pos e0, if_pos ⟨rfl, e0⟩]
              · rw [if_neg e0, if_neg (fun y => e0 y.2), mB, mA 28 (by omega)]
                exact (ti e0).1
            · rw [if_pos rfl]; exact x29
          | false =>
            rw [eK, if_neg (by decide)] at hz
            rw [if_neg (fun y => by cases y.1), if_neg (by decide), cN eK, mB, mB, mB, mA 28 (by omega), mA 29 (by omega), mA 30 (by omega)]
            exact ti hz) (by rw [mC 23 (by omega), mA 23 (by omega)]; exact h23)
      rw [eA]
      have eB2 := eB
      rw [show nI 0 = (0 : Int32) from rfl] at eB2
      rw [eB2]
      have eC2 : g297e (f_X8_flows_12 m) hB (aM z n) (some (aJ z n 3)) (some (aJ z n 9)) (some (aJ z n 4)) rain 1 (pD z n nf h0.2.2.1 i rain (w i) (b i) (o i) (dD z n nf h0.2.2.1 rain w b o i)) fed' (nI (cntK (dyK z n nf h0.2.2.1 rain w b o) i)) (nI i) (b2i (pBrk z n nf h0.2.2.1 i rain (w i) (b i) (o i) (dD z n nf h0.2.2.1 rain w b o i))) = _ := eC
      rw [eC2]
      rw [cntK, dD] at nx
      exact nx
    · have e : i = n := by omega
      subst e
      unfold f_X8_flows_12 f_X8_flows_505
      rw [ev_gI sM, hm, if_pos (nI_le (Nat.le_refl i) (by omega)), if_neg one_ne, ev_gI sM, h23, ev_pI sM]
      have p' : Ag (dyT z i) hz (setI h (aM z i) 23 (h0.2.2.1 (aM z i) 23 + dD z i nf h0.2.2.1 rain w b o i)) := pz.set (Or.inr (by unfold dyR aM; omega))
      refine ⟨_, _, rfl, p', ?_, ?_⟩
      · have nr : ∀ j, aJ z i j ≠ aM z i := fun j => by (first | omega | (simp only [aT, aN, aA, aJ, aM, aF, aFl, aFs]; omega))
        unfold Tru8 CO
        simp (disch := (refine Or.inr ?_; omega)) only [sI_u, u2_ne _ _ (nr _), u2n]
        exact tr
      · rw [sI_u, u2s]
end T8
