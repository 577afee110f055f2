section GH2
variable {z n nf dN hN : Nat} {h : AH}
theorem g_sent7 {J : Nat → Nat → Int32} (C : Cpl z n nf dN hN (h.1, h.2.1, J, h.2.2.2)) (E : ∀ a k, (a < z + 12 + 3 * n ∨ z + 41 + 3 * n ≤ a) → h.2.2.1 a k = J a k) {i q : Nat} (hi : i < n) (hq : q ≤ 20) (hop : h.2.2.1 (aA z n i) 1 = nI q) (rain d : Int32) : ∃ h', f_X2_sentDown h (aFl z n) (some (aT z n i)) (rain * h.2.2.1 (aT z n i) 4) d = some (pD z n nf J i rain (h.2.2.1 (aA z n i) 0) (h.2.2.1 (aA z n i) 2) (nI q) d, h') ∧ Ag (cDay z n nf J i) h h' ∧ (h'.2.2.1 (aA z n i) 0 = pW z n nf J i rain (h.2.2.1 (aA z n i) 0) (h.2.2.1 (aA z n i) 2) (nI q) d ∧ h'.2.2.1 (aA z n i) 2 = pB z n nf J i rain (h.2.2.1 (aA z n i) 0) (h.2.2.1 (aA z n i) 2) (nI q) d ∧ h'.2.2.1 (aA z n i) 3 = pT z n nf J i rain (h.2.2.1 (aA z n i) 0) (nI q) d ∧ h'.2.2.1 (aA z n i) 4 = pSpl z n nf J i rain (h.2.2.1 (aA z n i) 0) (h.2.2.1 (aA z n i) 2) (nI q) d) ∧ (∀ f ∈ ordl z n nf J i, h'.2.2.1 (aF z n f) 7 = pS z n nf J i rain (h.2.2.1 (aA z n i) 0) (nI q) d f) ∧ h'.2.2.1 (aFl z n) 3 = sumI (fedF (J (aJ z n 12)) (pS z n nf J i rain (h.2.2.1 (aA z n i) 0) (nI q) d)) (ordl z n nf J i) (h.2.2.1 (aFl z n) 3) ∧ h'.2.2.1 (aFs z n) 0 = h.2.2.1 (aFs z n) 0 + rain * J (aJ z n 0) i ∧ h'.2.2.1 (aFs z n) 1 = h.2.2.1 (aFs z n) 1 + pX z n J i rain (h.2.2.1 (aA z n i) 0) d / 50 ∧ h'.2.2.1 (aFs z n) 2 = h.2.2.1 (aFs z n) 2 + (pT z n nf J i rain (h.2.2.1 (aA z n i) 0) (nI q) d - pT z n nf J i rain (h.2.2.1 (aA z n i) 0) (nI q) d / 2) := by
  obtain ⟨b, W', V', ct, -⟩ := id C
  have W : WS z n nf h := W'
  have V : WR z n nf h := V'
  obtain ⟨b1, b2, b3, b4, b5⟩ := b
  have sT := W_T W hi
  have sL := W_fl W
  have sA := W_A W hi
  have sS := W_fs W
  obtain ⟨-, t4', t5', t6', t7', -⟩ := ct i hi
  have t4 : h.2.2.1 (aT z n i) 4 = J (aJ z n 0) i := (E _ _ (by unfold aT; omega)).trans t4'
  have t5 : h.2.2.1 (aT z n i) 5 = J (aJ z n 1) i := (E _ _ (by unfold aT; omega)).trans t5'
  have t6 : h.2.2.1 (aT z n i) 6 = J (aJ z n 2) i := (E _ _ (by unfold aT; omega)).trans t6'
  have t7 : h.2.2.1 (aT z n i) 7 = J (aJ z n 5) i := (E _ _ (by unfold aT; omega)).trans t7'
  obtain ⟨h1, e1, p1, hS, hf1⟩ := g_taken7 C E hi hq hop (pH z n J i rain (h.2.2.1 (aA z n i) 0) d)
  have neA : ∀ k, ¬ (c78 z n (ordl z n nf J i) (aA z n i) k ∨ (aA z n i = aFl z n ∧ k = 3)) := fun k q => by
    rcases q with ⟨⟨f, -, e⟩, -⟩ | ⟨e, -⟩
    · revert e; (first | omega | (simp only [aT, aN, aA, aJ, aM, aF, aFl, aFs]; omega))
    · revert e; (first | omega | (simp only [aT, aN, aA, aJ, aM, aF, aFl, aFs]; omega))
  have neS : ∀ k, ¬ (c78 z n (ordl z n nf J i) (aFs z n) k ∨ (aFs z n = aFl z n ∧ k = 3)) := fun k q => by
    rcases q with ⟨⟨f, -, e⟩, -⟩ | ⟨e, -⟩
    · revert e; (first | omega | (simp only [aT, aN, aA, aJ, aM, aF, aFl, aFs]; omega))
    · revert e; (first | omega | (simp only [aT, aN, aA, aJ, aM, aF, aFl, aFs]; omega))
  have neT : ∀ k, ¬ (c78 z n (ordl z n nf J i) (aT z n i) k ∨ (aT z n i = aFl z n ∧ k = 3)) := fun k q => by
    rcases q with ⟨⟨f, -, e⟩, -⟩ | ⟨e, -⟩
    · revert e; (first | omega | (simp only [aT, aN, aA, aJ, aM, aF, aFl, aFs]; omega))
    · revert e; (first | omega | (simp only [aT, aN, aA, aJ, aM, aF, aFl, aFs]; omega))
  have W1 : WS z n nf h1 := by unfold WS; rw [p1.1, p1.2.1]; exact W
  have V1 : WR z n nf h1 := by unfold WR; rw [p1.2.2.1]; exact V
  -- what is written at the end
  have fin : ∀ (h2 : AH) (x : Int32), Ag (fun a k => a = aA z n i ∧ k = 2) h1 h2 → x = pSpl z n nf J i rain (h.2.2.1 (aA z n i) 0) (h.2.2.1 (aA z n i) 2) (nI q) d → h2.2.2.1 (aA z n i) 2 = pB z n nf J i rain (h.2.2.1 (aA z n i) 0) (h.2.2.1 (aA z n i) 2) (nI q) d → ∃ h', f_X2_sentDown_98 h2 (aFl z n) (rain * J (aJ z n 0) i) (some (aA z n i)) (pL z n nf J i rain (h.2.2.1 (aA z n i) 0) (nI q) d) (pX z n J i rain (h.2.2.1 (aA z n i) 0) d / 50) (pT z n nf J i rain (h.2.2.1 (aA z n i) 0) (nI q) d) (pT z n nf J i rain (h.2.2.1 (aA z n i) 0) (nI q) d / 2) x = some (pD z n nf J i rain (h.2.2.1 (aA z n i) 0) (h.2.2.1 (aA z n i) 2) (nI q) d, h') ∧ Ag (cDay z n nf J i) h h' ∧ (h'.2.2.1 (aA z n i) 0 = pW z n nf J i rain (h.2.2.1 (aA z n i) 0) (h.2.2.1 (aA z n i) 2) (nI q) d ∧ h'.2.2.1 (aA z n i) 2 = pB z n nf J i rain (h.2.2.1 (aA z n i) 0) (h.2.2.1 (aA z n i) 2) (nI q) d ∧ h'.2.2.1 (aA z n i) 3 = pT z n nf J i rain (h.2.2.1 (aA z n i) 0) (nI q) d ∧ h'.2.2.1 (aA z n i) 4 = pSpl z n nf J i rain (h.2.2.1 (aA z n i) 0) (h.2.2.1 (aA z n i) 2) (nI q) d) ∧ (∀ f ∈ ordl z n nf J i, h'.2.2.1 (aF z n f) 7 = pS z n nf J i rain (h.2.2.1 (aA z n i) 0) (nI q) d f) ∧ h'.2.2.1 (aFl z n) 3 = sumI (fedF (J (aJ z n 12)) (pS z n nf J i rain (h.2.2.1 (aA z n i) 0) (nI q) d)) (ordl z n nf J i) (h.2.2.1 (aFl z n) 3) ∧ h'.2.2.1 (aFs z n) 0 = h.2.2.1 (aFs z n) 0 + rain * J (aJ z n 0) i ∧ h'.2.2.1 (aFs z n) 1 = h.2.2.1 (aFs z n) 1 + pX z n J i rain (h.2.2.1 (aA z n i) 0) d / 50 ∧ h'.2.2.1 (aFs z n) 2 = h.2.2.1 (aFs z n) 2 + (pT z n nf J i rain (h.2.2.1 (aA z n i) 0) (nI q) d - pT z n nf J i rain (h.2.2.1 (aA z n i) 0) (nI q) d / 2) := by
    intro h2 x p2 hx hB
    have sA2 : h2.2.1 (aA z n i) = some (.inl 3) := by rw [p2.2.1]; exact W_A W1 hi
    have sL2 : h2.2.1 (aFl z n) = some (.inl 2) := by rw [p2.2.1]; exact W_fl W1
    have sS2 : h2.2.1 (aFs z n) = some (.inl 4) := by rw [p2.2.1]; exact W_fs W1
    have rS : h2.2.2.2 (aFl z n) 2 = some (aFs z n) := by rw [p2.2.2.1]; exact V_fl2 V1
    have eS : ∀ k, h2.2.2.1 (aFs z n) k = h.2.2.1 (aFs z n) k := fun k => by rw [p2.2.2.2 _ _ (fun q => by revert q; (first | omega | (simp only [aT, aN, aA, aJ, aM, aF, aFl, aFs]; omega))), p1.2.2.2 _ _ (neS k)]
    subst hx
    unfold f_X2_sentDown_98
    have AS : aA z n i ≠ aFs z n := by (first | omega | (simp only [aT, aN, aA, aJ, aM, aF, aFl, aFs]; omega))
    have SA : aFs z n ≠ aA z n i := by (first | omega | (simp only [aT, aN, aA, aJ, aM, aF, aFl, aFs]; omega))
    simp (disch := first | assumption | (simp only [sI_s]; assumption)) only [↓ev_pI, ↓ev_gR, ↓ev_gI, sI_r, rS]
    refine ⟨_, rfl, ?_, ⟨?_, ?_, ?_, ?_⟩, fun f hf => ?_, ?_, ?_, ?_, ?_⟩
    · refine (p1.mo (fun a k q => Or.inl q)).tr (((((((p2.mo (fun a k q => Or.inr (Or.inl ⟨q.1, by omega⟩))).set ?_).set ?_).set ?_).set ?_).set ?_).set ?_)
      · exact Or.inr (Or.inl ⟨rfl, by omega⟩)
      · exact Or.inr (Or.inl ⟨rfl, by omega⟩)
      · exact Or.inr (Or.inl ⟨rfl, by omega⟩)
      · exact Or.inr (Or.inr ⟨rfl, by omega⟩)
      · exact Or.inr (Or.inr ⟨rfl, by omega⟩)
      · exact Or.inr (Or.inr ⟨rfl, by omega⟩)
    · simp (disch := first | (refine Or.inl ?_; assumption) | (refine Or.inr ?_; omega)) only [sI_u, u2n, u2s]
      rfl
    · simp (disch := first | (refine Or.inl ?_; assumption) | (refine Or.inr ?_; omega)) only [sI_u, u2n, u2s]
      exact hB
    · simp (disch := first | (refine Or.inl ?_; assumption) | (refine Or.inr ?_; omega)) only [sI_u, u2n, u2s]
    · simp (disch := first | (refine Or.inl ?_; assumption) | (refine Or.inr ?_; omega)) only [sI_u, u2n, u2s]
    · have FA : aF z n f ≠ aA z n i := by (first | omega | (simp only [aT, aN, aA, aJ, aM, aF, aFl, aFs]; omega))
      have FS : aF z n f ≠ aFs z n := by (first | omega | (simp only [aT, aN, aA, aJ, aM, aF, aFl, aFs]; omega))
      simp (disch := first | (refine Or.inl ?_; assumption)) only [sI_u, u2n]
      rw [p2.2.2.2 _ _ (fun q => FA q.1)]
      exact hS f hf
    · have FA : aFl z n ≠ aA z n i := by (first | omega | (simp only [aT, aN, aA, aJ, aM, aF, aFl, aFs]; omega))
      have FS : aFl z n ≠ aFs z n := by (first | omega | (simp only [aT, aN, aA, aJ, aM, aF, aFl, aFs]; omega))
      simp (disch := first | (refine Or.inl ?_; assumption)) only [sI_u, u2n]
      rw [p2.2.2.2 _ _ (fun q => FA q.1)]
      exact hf1
    · simp (disch := first | (refine Or.inl ?_; assumption) | (refine Or.inr ?_; omega)) only [sI_u, u2n, u2s, eS]
    · simp (disch := first | (refine Or.inl ?_; assumption) | (refine Or.inr ?_; omega)) only [sI_u, u2n, u2s, eS]
    · simp (disch := first | (refine Or.inl ?_; assumption) | (refine Or.inr ?_; omega)) only [sI_u, u2n, u2s, eS]
  unfold f_X2_sentDown
  rw [t4, ev_gR sT, V_A V hi, ev_gI sA, ev_bd, ev_dv (by decide), ev_bd, ev_rcv sL]
  have e1' : f_X2_takenByFields h (aFl z n) (some (aT z n i)) (h.2.2.1 (aA z n i) 0 + rain * J (aJ z n 0) i + d - (h.2.2.1 (aA z n i) 0 + rain * J (aJ z n 0) i + d) / 50) = some (pT z n nf J i rain (h.2.2.1 (aA z n i) 0) (nI q) d, h1) := e1
  rw [cal_eq e1', ev_bd, ev_dv (by decide), ev_gI (W_A W1 hi), ev_rcv (W_T W1 hi), k_roomIf W1 hi, ev_bd, p1.2.2.2 _ _ (neA 2), p1.2.2.2 _ _ (neT 5), p1.2.2.2 _ _ (neT 7), t5, t7, ev_gI (W_A W1 hi), p1.2.2.2 _ _ (neA 2)]
  by_cases e : h.2.2.1 (aA z n i) 2 = 0
  · rw [if_pos e, ev_gI (W_T W1 hi), p1.2.2.2 _ _ (neT 6), t6]
    by_cases e2 : pSp z n nf J i rain (h.2.2.1 (aA z n i) 0) (h.2.2.1 (aA z n i) 2) (nI q) d ≤ J (aJ z n 2) i
    · have nb : ¬ pBrk z n nf J i rain (h.2.2.1 (aA z n i) 0) (h.2.2.1 (aA z n i) 2) (nI q) d = true := fun x => (of_decide_eq_true x).2 e2
      have e2' := e2
      unfold pSp pL pH pX at e2'
      rw [if_pos e2']
      exact fin h1 _ Ag.rf (by unfold pSpl; rw [if_neg nb]; rfl) (by unfold pB; rw [if_neg nb, p1.2.2.2 _ _ (neA 2)])
    · have nb : pBrk z n nf J i rain (h.2.2.1 (aA z n i) 0) (h.2.2.1 (aA z n i) 2) (nI q) d = true := decide_eq_true ⟨e, e2⟩
      have e2' := e2
      unfold pSp pL pH pX at e2'
      rw [if_neg e2', ev_pZ1 (W_A W1 hi)]
      exact fin (setI h1 (aA z n i) 2 1) (pL z n nf J i rain (h.2.2.1 (aA z n i) 0) (nI q) d) (Ag.rf.set ⟨rfl, rfl⟩) (by unfold pSpl; rw [if_pos nb]) (by rw [sI_u, u2s]; unfold pB; rw [if_pos nb])
  · have nb : ¬ pBrk z n nf J i rain (h.2.2.1 (aA z n i) 0) (h.2.2.1 (aA z n i) 2) (nI q) d = true := fun x => e (of_decide_eq_true x).1
    rw [if_neg e]
    exact fin h1 _ Ag.rf (by unfold pSpl; rw [if_neg nb]; rfl) (by unfold pB; rw [if_neg nb, p1.2.2.2 _ _ (neA 2)])
end GH2
