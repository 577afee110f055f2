/-! ===== a day of one tank ===== -/
section PD
variable (z n nf : Nat) (I : Nat → Nat → Int32) (i : Nat) (rain w b op d : Int32)
def pX : Int32 := (w + rain * I (aJ z n 0) i) + d
def pH : Int32 := pX z n I i rain w d - pX z n I i rain w d / 50
def pS : Nat → Int32 := gShr z n I i (pH z n I i rain w d) op (ordl z n nf I i)
def pT : Int32 := sumI (pS z n nf I i rain w op d) (ordl z n nf I i) 0
def pL : Int32 := pH z n I i rain w d - pT z n nf I i rain w op d
def pSp : Int32 := mx 0 (pL z n nf I i rain w op d - rmv b (I (aJ z n 1) i) (I (aJ z n 5) i))
def pBrk : Bool := decide (b = 0 ∧ ¬ pSp z n nf I i rain w b op d ≤ I (aJ z n 2) i)
def pSpl : Int32 := if pBrk z n nf I i rain w b op d = true then pL z n nf I i rain w op d else pSp z n nf I i rain w b op d
def pW : Int32 := pL z n nf I i rain w op d - pSpl z n nf I i rain w b op d
def pB : Int32 := if pBrk z n nf I i rain w b op d = true then 1 else b
def pD : Int32 := pT z n nf I i rain w op d / 2 + pSpl z n nf I i rain w b op d
end PD
section PDS
variable {z n nf : Nat} {I I' : Nat → Nat → Int32} {i : Nat} {rain w b op d : Int32}
theorem pX_sta (p : Sta z n I I') : pX z n I' i rain w d = pX z n I i rain w d := by unfold pX; rw [p.1 0 (by omega)]
theorem pH_sta (p : Sta z n I I') : pH z n I' i rain w d = pH z n I i rain w d := by unfold pH; rw [pX_sta p]
theorem pS_sta (p : Sta z n I I') : pS z n nf I' i rain w op d = pS z n nf I i rain w op d := by unfold pS; rw [pH_sta p, p.ordl, p.gShr]
theorem pT_sta (p : Sta z n I I') : pT z n nf I' i rain w op d = pT z n nf I i rain w op d := by unfold pT; rw [pS_sta p, p.ordl]
theorem pL_sta (p : Sta z n I I') : pL z n nf I' i rain w op d = pL z n nf I i rain w op d := by unfold pL; rw [pH_sta p, pT_sta p]
theorem pSp_sta (p : Sta z n I I') : pSp z n nf I' i rain w b op d = pSp z n nf I i rain w b op d := by unfold pSp; rw [pL_sta p, p.1 1 (by omega), p.1 5 (by omega)]
theorem pBrk_sta (p : Sta z n I I') : pBrk z n nf I' i rain w b op d = pBrk z n nf I i rain w b op d := by unfold pBrk; rw [pSp_sta p, p.1 2 (by omega)]
theorem pSpl_sta (p : Sta z n I I') : pSpl z n nf I' i rain w b op d = pSpl z n nf I i rain w b op d := by
  unfold pSpl
  rw [pL_sta p, pSp_sta p, pBrk_sta p]
theorem pW_sta (p : Sta z n I I') : pW z n nf I' i rain w b op d = pW z n nf I i rain w b op d := by unfold pW; rw [pL_sta p, pSpl_sta p]
theorem pB_sta (p : Sta z n I I') : pB z n nf I' i rain w b op d = pB z n nf I i rain w b op d := by unfold pB; rw [pBrk_sta p]
theorem pD_sta (p : Sta z n I I') : pD z n nf I' i rain w b op d = pD z n nf I i rain w b op d := by unfold pD; rw [pT_sta p, pSpl_sta p]
end PDS
theorem Scr.sta {z n : Nat} {h h' : AH} (p : Scr z n h h') : Sta z n h.2.2.1 h'.2.2.1 := ⟨fun j hj => p.J j (by omega), fun w d hw => by
  unfold cusV
  rw [p.M (k := 38) (by omega), p.J21 hw], by rw [p.Zr (d := 4) (by omega)], p.Zr (d := 5) (by omega)⟩
/-! ===== the class: one tank ===== -/
/-- what tank i's day writes -/
def cDay (z n nf : Nat) (I : Nat → Nat → Int32) (i : Nat) (a k : Nat) : Prop := (c78 z n (ordl z n nf I i) a k ∨ (a = aFl z n ∧ k = 3)) ∨ (a = aA z n i ∧ k ≠ 1) ∨ (a = aFs z n ∧ k ≠ 3)
section SD7
variable {z n nf dN hN : Nat} {h : AH}
theorem v_sent7 (C : Cpl z n nf dN hN h) {i q : Nat} (hi : i < n) (hq : q ≤ 20) (hop : h.2.2.1 (aA z n i) 1 = nI q) (rain d : Int32) : ∃ h', f_X2_sentDown h (aFl z n) (some (aT z n i)) (rain * h.2.2.1 (aT z n i) 4) d = some (pD z n nf h.2.2.1 i rain (h.2.2.1 (aA z n i) 0) (h.2.2.1 (aA z n i) 2) (nI q) d, h') ∧ Ag (cDay z n nf h.2.2.1 i) h h' ∧ (h'.2.2.1 (aA z n i) 0 = pW z n nf h.2.2.1 i rain (h.2.2.1 (aA z n i) 0) (h.2.2.1 (aA z n i) 2) (nI q) d ∧ h'.2.2.1 (aA z n i) 2 = pB z n nf h.2.2.1 i rain (h.2.2.1 (aA z n i) 0) (h.2.2.1 (aA z n i) 2) (nI q) d ∧ h'.2.2.1 (aA z n i) 3 = pT z n nf h.2.2.1 i rain (h.2.2.1 (aA z n i) 0) (nI q) d ∧ h'.2.2.1 (aA z n i) 4 = pSpl z n nf h.2.2.1 i rain (h.2.2.1 (aA z n i) 0) (h.2.2.1 (aA z n i) 2) (nI q) d) ∧ (∀ f ∈ ordl z n nf h.2.2.1 i, h'.2.2.1 (aF z n f) 7 = pS z n nf h.2.2.1 i rain (h.2.2.1 (aA z n i) 0) (nI q) d f) ∧ h'.2.2.1 (aFl z n) 3 = sumI (fedF (h.2.2.1 (aJ z n 12)) (pS z n nf h.2.2.1 i rain (h.2.2.1 (aA z n i) 0) (nI q) d)) (ordl z n nf h.2.2.1 i) (h.2.2.1 (aFl z n) 3) ∧ h'.2.2.1 (aFs z n) 0 = h.2.2.1 (aFs z n) 0 + rain * h.2.2.1 (aJ z n 0) i ∧ h'.2.2.1 (aFs z n) 1 = h.2.2.1 (aFs z n) 1 + pX z n h.2.2.1 i rain (h.2.2.1 (aA z n i) 0) d / 50 ∧ h'.2.2.1 (aFs z n) 2 = h.2.2.1 (aFs z n) 2 + (pT z n nf h.2.2.1 i rain (h.2.2.1 (aA z n i) 0) (nI q) d - pT z n nf h.2.2.1 i rain (h.2.2.1 (aA z n i) 0) (nI q) d / 2) := by
  obtain ⟨b, W, V, ct, cf, cx, cp, cc, co, ch⟩ := id C
  obtain ⟨b1, b2, b3, b4, b5⟩ := b
  have sT := W_T W hi
  have sL := W_fl W
  have sA := W_A W hi
  have sS := W_fs W
  obtain ⟨-, t4, t5, t6, t7, -⟩ := ct i hi
  obtain ⟨h1, e1, p1, hS, hf1⟩ := v_taken7 C hi hq hop (pH z n h.2.2.1 i rain (h.2.2.1 (aA z n i) 0) d)
  have neA : ∀ k, ¬ (c78 z n (ordl z n nf h.2.2.1 i) (aA z n i) k ∨ (aA z n i = aFl z n ∧ k = 3)) := fun k q => by
    rcases q with ⟨⟨f, -, e⟩, -⟩ | ⟨e, -⟩
    · revert e; (first | omega | (simp only [aT, aN, aA, aJ, aM, aF, aFl, aFs]; omega))
    · revert e; (first | omega | (simp only [aT, aN, aA, aJ, aM, aF, aFl, aFs]; omega))
  have neS : ∀ k, ¬ (c78 z n (ordl z n nf h.2.2.1 i) (aFs z n) k ∨ (aFs z n = aFl z n ∧ k = 3)) := fun k q => by
    rcases q with ⟨⟨f, -, e⟩, -⟩ | ⟨e, -⟩
    · revert e; (first | omega | (simp only [aT, aN, aA, aJ, aM, aF, aFl, aFs]; omega))
    · revert e; (first | omega | (simp only [aT, aN, aA, aJ, aM, aF, aFl, aFs]; omega))
  have neT : ∀ k, ¬ (c78 z n (ordl z n nf h.2.2.1 i) (aT z n i) k ∨ (aT z n i = aFl z n ∧ k = 3)) := fun k q => by
    rcases q with ⟨⟨f, -, e⟩, -⟩ | ⟨e, -⟩
    · revert e; (first | omega | (simp only [aT, aN, aA, aJ, aM, aF, aFl, aFs]; omega))
    · revert e; (first | omega | (simp only [aT, aN, aA, aJ, aM, aF, aFl, aFs]; omega))
  have W1 : WS z n nf h1 := by unfold WS; rw [p1.1, p1.2.1]; exact W
  have V1 : WR z n nf h1 := by unfold WR; rw [p1.2.2.1]; exact V
  -- what is written at the end
  have fin : ∀ (h2 : AH) (x : Int32), Ag (fun a k => a = aA z n i ∧ k = 2) h1 h2 → x = pSpl z n nf h.2.2.1 i rain (h.2.2.1 (aA z n i) 0) (h.2.2.1 (aA z n i) 2) (nI q) d → h2.2.2.1 (aA z n i) 2 = pB z n nf h.2.2.1 i rain (h.2.2.1 (aA z n i) 0) (h.2.2.1 (aA z n i) 2) (nI q) d → ∃ h', f_X2_sentDown_98 h2 (aFl z n) (rain * h.2.2.1 (aJ z n 0) i) (some (aA z n i)) (pL z n nf h.2.2.1 i rain (h.2.2.1 (aA z n i) 0) (nI q) d) (pX z n h.2.2.1 i rain (h.2.2.1 (aA z n i) 0) d / 50) (pT z n nf h.2.2.1 i rain (h.2.2.1 (aA z n i) 0) (nI q) d) (pT z n nf h.2.2.1 i rain (h.2.2.1 (aA z n i) 0) (nI q) d / 2) x = some (pD z n nf h.2.2.1 i rain (h.2.2.1 (aA z n i) 0) (h.2.2.1 (aA z n i) 2) (nI q) d, h') ∧ Ag (cDay z n nf h.2.2.1 i) h h' ∧ (h'.2.2.1 (aA z n i) 0 = pW z n nf h.2.2.1 i rain (h.2.2.1 (aA z n i) 0) (h.2.2.1 (aA z n i) 2) (nI q) d ∧ h'.2.2.1 (aA z n i) 2 = pB z n nf h.2.2.1 i rain (h.2.2.1 (aA z n i) 0) (h.2.2.1 (aA z n i) 2) (nI q) d ∧ h'.2.2.1 (aA z n i) 3 = pT z n nf h.2.2.1 i rain (h.2.2.1 (aA z n i) 0) (nI q) d ∧ h'.2.2.1 (aA z n i) 4 = pSpl z n nf h.2.2.1 i rain (h.2.2.1 (aA z n i) 0) (h.2.2.1 (aA z n i) 2) (nI q) d) ∧ (∀ f ∈ ordl z n nf h.2.2.1 i, h'.2.2.1 (aF z n f) 7 = pS z n nf h.2.2.1 i rain (h.2.2.1 (aA z n i) 0) (nI q) d f) ∧ h'.2.2.1 (aFl z n) 3 = sumI (fedF (h.2.2.1 (aJ z n 12)) (pS z n nf h.2.2.1 i rain (h.2.2.1 (aA z n i) 0) (nI q) d)) (ordl z n nf h.2.2.1 i) (h.2.2.1 (aFl z n) 3) ∧ h'.2.2.1 (aFs z n) 0 = h.2.2.1 (aFs z n) 0 + rain * h.2.2.1 (aJ z n 0) i ∧ h'.2.2.1 (aFs z n) 1 = h.2.2.1 (aFs z n) 1 + pX z n h.2.2.1 i rain (h.2.2.1 (aA z n i) 0) d / 50 ∧ h'.2.2.1 (aFs z n) 2 = h.2.2.1 (aFs z n) 2 + (pT z n nf h.2.2.1 i rain (h.2.2.1 (aA z n i) 0) (nI q) d - pT z n nf h.2.2.1 i rain (h.2.2.1 (aA z n i) 0) (nI q) d / 2) := by
    intro h2 x p2 hx hB
    have sA2 : h2.2.1 (aA z n i) = some (.inl 3) := by rw [p2.2.1]; exact W_A W1 hi
    have sL2 : h2.2.1 (aFl z n) = some (.inl 2) := by rw [p2.2.1]; exact W_fl W1
    have sS2 : h2.2.1 (aFs z n) = some (.inl 4) := by rw [p2.2.1]; exact W_fs W1
    have rS : h2.2.2.2 (aFl z n) 2 = some (aFs z n) := by rw [p2.2.2.1]; exact V_fl2 V1
    have eS : ∀ k, h2.2.2.1 (aFs z n) k = h.2.2.1 (aFs z n) k := fun k => by rw [p2.2.2.2 _ _ (fun q => by revert q; (first | omega | (simp only [aT, aN, aA, aJ, aM, aF, aFl, aFs]; omega))), p1.2.2.2 _ _ (neS k)]
    subst hx
    unfold f_X2_sentDown_98
    have AS : aA z n i ≠ aFs z n := by (first | omega | (simp only [aT, aN, aA, aJ, aM, aF, aFl, aFs]; omega))
    have SA : aFs z n ≠ aA z n i := by (first | omega | (simp only [aT, aN, aA, aJ, aM, aF, aFl, aFs]; omega))
    simp (disch := first | assumption | (simp only [sI_s]; assumption)) only [↓ev_pI, ↓ev_gR, ↓ev_gI, sI_r, rS]
    refine ⟨_, rfl, ?_, ⟨?_, ?_, ?_, ?_⟩, fun f hf => ?_, ?_, ?_, ?_, ?_⟩
    · refine (p1.mo (fun a k q => Or.inl q)).tr (((((((p2.mo (fun a k q => Or.inr (Or.inl ⟨q.1, by omega⟩))).set ?_).set ?_).set ?_).set ?_).set ?_).set ?_)
      · exact Or.inr (Or.inl ⟨rfl, by omega⟩)
      · exact Or.inr (Or.inl ⟨rfl, by omega⟩)
      · exact Or.inr (Or.inl ⟨rfl, by omega⟩)
      · exact Or.inr (Or.inr ⟨rfl, by omega⟩)
      · exact Or.inr (Or.inr ⟨rfl, by omega⟩)
      · exact Or.inr (Or.inr ⟨rfl, by omega⟩)
    · simp (disch := first | (refine Or.inl ?_; assumption) | (refine Or.inr ?_; omega)) only [sI_u, u2n, u2s]
      rfl
    · simp (disch := first | (refine Or.inl ?_; assumption) | (refine Or.inr ?_; omega)) only [sI_u, u2n, u2s]
      exact hB
    · simp (disch := first | (refine Or.inl ?_; assumption) | (refine Or.inr ?_; omega)) only [sI_u, u2n, u2s]
    · simp (disch := first | (refine Or.inl ?_; assumption) | (refine Or.inr ?_; omega)) only [sI_u, u2n, u2s]
    · have FA : aF z n f ≠ aA z n i := by (first | omega | (simp only [aT, aN, aA, aJ, aM, aF, aFl, aFs]; omega))
      have FS : aF z n f ≠ aFs z n := by (first | omega | (simp only [aT, aN, aA, aJ, aM, aF, aFl, aFs]; omega))
      simp (disch := first | (refine Or.inl ?_; assumption)) only [sI_u, u2n]
      rw [p2.2.2.2 _ _ (fun q => FA q.1)]
      exact hS f hf
    · have FA : aFl z n ≠ aA z n i := by (first | omega | (simp only [aT, aN, aA, aJ, aM, aF, aFl, aFs]; omega))
      have FS : aFl z n ≠ aFs z n := by (first | omega | (simp only [aT, aN, aA, aJ, aM, aF, aFl, aFs]; omega))
      simp (disch := first | (refine Or.inl ?_; assumption)) only [sI_u, u2n]
      rw [p2.2.2.2 _ _ (fun q => FA q.1)]
      exact hf1
    · simp (disch := first | (refine Or.inl ?_; assumption) | (refine Or.inr ?_; omega)) only [sI_u, u2n, u2s, eS]
    · simp (disch := first | (refine Or.inl ?_; assumption) | (refine Or.inr ?_; omega)) only [sI_u, u2n, u2s, eS]
    · simp (disch := first | (refine Or.inl ?_; assumption) | (refine Or.inr ?_; omega)) only [sI_u, u2n, u2s, eS]
  unfold f_X2_sentDown
  rw [t4, ev_gR sT, V_A V hi, ev_gI sA, ev_bd, ev_dv (by decide), ev_bd, ev_rcv sL]
  have e1' : f_X2_takenByFields h (aFl z n) (some (aT z n i)) (h.2.2.1 (aA z n i) 0 + rain * h.2.2.1 (aJ z n 0) i + d - (h.2.2.1 (aA z n i) 0 + rain * h.2.2.1 (aJ z n 0) i + d) / 50) = some (pT z n nf h.2.2.1 i rain (h.2.2.1 (aA z n i) 0) (nI q) d, h1) := e1
  rw [cal_eq e1', ev_bd, ev_dv (by decide), ev_gI (W_A W1 hi), ev_rcv (W_T W1 hi), k_roomIf W1 hi, ev_bd, p1.2.2.2 _ _ (neA 2), p1.2.2.2 _ _ (neT 5), p1.2.2.2 _ _ (neT 7), t5, t7, ev_gI (W_A W1 hi), p1.2.2.2 _ _ (neA 2)]
  by_cases e : h.2.2.1 (aA z n i) 2 = 0
  · rw [if_pos e, ev_gI (W_T W1 hi), p1.2.2.2 _ _ (neT 6), t6]
    by_cases e2 : pSp z n nf h.2.2.1 i rain (h.2.2.1 (aA z n i) 0) (h.2.2.1 (aA z n i) 2) (nI q) d ≤ h.2.2.1 (aJ z n 2) i
    · have nb : ¬ pBrk z n nf h.2.2.1 i rain (h.2.2.1 (aA z n i) 0) (h.2.2.1 (aA z n i) 2) (nI q) d = true := fun x => (of_decide_eq_true x).2 e2
      have e2' := e2
      unfold pSp pL pH pX at e2'
      rw [if_pos e2']
      exact fin h1 _ Ag.rf (by unfold pSpl; rw [if_neg nb]; rfl) (by unfold pB; rw [if_neg nb, p1.2.2.2 _ _ (neA 2)])
    · have nb : pBrk z n nf h.2.2.1 i rain (h.2.2.1 (aA z n i) 0) (h.2.2.1 (aA z n i) 2) (nI q) d = true := decide_eq_true ⟨e, e2⟩
      have e2' := e2
      unfold pSp pL pH pX at e2'
      rw [if_neg e2', ev_pZ1 (W_A W1 hi)]
      exact fin (setI h1 (aA z n i) 2 1) (pL z n nf h.2.2.1 i rain (h.2.2.1 (aA z n i) 0) (nI q) d) (Ag.rf.set ⟨rfl, rfl⟩) (by unfold pSpl; rw [if_pos nb]) (by rw [sI_u, u2s]; unfold pB; rw [if_pos nb])
  · have nb : ¬ pBrk z n nf h.2.2.1 i rain (h.2.2.1 (aA z n i) 0) (h.2.2.1 (aA z n i) 2) (nI q) d = true := fun x => e (of_decide_eq_true x).1
    rw [if_neg e]
    exact fin h1 _ Ag.rf (by unfold pSpl; rw [if_neg nb]; rfl) (by unfold pB; rw [if_neg nb, p1.2.2.2 _ _ (neA 2)])
end SD7
