/-! ===== the class and the reference side by side ===== -/
theorem u2n {α : Type} {f : Nat → Nat → α} {a k : Nat} {x : α} {a' k' : Nat} (h : a' ≠ a ∨ k' ≠ k) : u2 f a k x a' k' = f a' k' := by
  unfold u2
  rw [if_neg]
  rintro ⟨h1, h2⟩
  rcases h with h | h
  · exact h h1
  · exact h h2
theorem u2s {α : Type} {f : Nat → Nat → α} {a k : Nat} {x : α} : u2 f a k x a k = x := by simp [u2]
theorem setI_comm {h : AH} {a k b l : Nat} {x y : Int32} (hab : a ≠ b) : setI (setI h a k x) b l y = setI (setI h b l y) a k x := by
  unfold setI
  simp only [Prod.mk.injEq, true_and, and_true]
  funext a' k'
  simp only [u2]
  by_cases h1 : a' = a
  · subst h1
    simp [hab]
  · simp [h1]
/-- tanks -/
def CT (z n : Nat) (I : Nat → Nat → Int32) : Prop := ∀ i, i < n → I (aT z n i) 0 = nI i ∧ I (aT z n i) 4 = I (aJ z n 0) i ∧ I (aT z n i) 5 = I (aJ z n 1) i ∧ I (aT z n i) 6 = I (aJ z n 2) i ∧ I (aT z n i) 7 = I (aJ z n 5) i ∧ I (aT z n i) 8 = I (aJ z n 8) i ∧
  I (aN z n i) 0 = I (aJ z n 3) i ∧ I (aN z n i) 1 = I (aJ z n 4) i ∧ I (aN z n i) 2 = I (aJ z n 9) i ∧ I (aN z n i) 3 = I (aJ z n 6) i ∧ I (aN z n i) 4 = I (aJ z n 7) i ∧ (∃ q, q ≤ 20 ∧ I (aJ z n 4) i = nI q) ∧ (I (aJ z n 9) i = 0 ∨ I (aJ z n 9) i = 1)
theorem CT_op (z n i0 : Nat) (hi0 : i0 < n) (hn : n ≤ 11) (I : Nat → Nat → Int32) (C : CT z n I) (q : Nat) (hq : q ≤ 20) : CT z n (u2 (u2 I (aN z n i0) 1 (nI q)) (aJ z n 4) i0 (nI q)) := by
  intro i hi
  obtain ⟨c1, c2, c3, c4, c5, c6, c7, c8, c9, c10, c11, c12, c13⟩ := C i hi
  by_cases e : i = i0
  · subst e
    simp (disch := first | omega | (simp only [aT, aN, aA, aJ, aM, aF, aFl, aFs]; omega)) only [u2n, u2s]
    exact ⟨c1, c2, c3, c4, c5, c6, c7, trivial, c9, c10, c11, ⟨q, hq, rfl⟩, c13⟩
  · simp (disch := first | omega | (simp only [aT, aN, aA, aJ, aM, aF, aFl, aFs]; omega)) only [u2n, u2s]
    exact ⟨c1, c2, c3, c4, c5, c6, c7, c8, c9, c10, c11, c12, c13⟩
/-- fields -/
def CF (z n nf : Nat) (I : Nat → Nat → Int32) : Prop := ∀ f, f < nf → I (aF z n f) 0 = nI f ∧ I (aF z n f) 1 = I (aJ z n 10) f ∧ I (aF z n f) 2 = I (aJ z n 11) f ∧ I (aF z n f) 3 = I (aJ z n 12) f ∧ I (aF z n f) 4 = I (aJ z n 13) f ∧ I (aF z n f) 5 = I (aJ z n 17) f ∧ I (aF z n f) 9 = I (aJ z n 14) f ∧ I (aF z n f) 10 = I (aJ z n 15) f ∧ I (aF z n f) 11 = I (aJ z n 16) f ∧
  (∃ t, t < n ∧ I (aJ z n 10) f = nI t) ∧ (∃ q, q ≤ 9 ∧ I (aJ z n 11) f = nI q) ∧ (∃ q, 1 ≤ q ∧ q ≤ 20 ∧ I (aJ z n 12) f = nI q) ∧ (∃ q, q ≤ 9 ∧ I (aJ z n 13) f = nI q) ∧ (I (aJ z n 17) f = 0 ∨ I (aJ z n 17) f = 1)
/-- numbers -/
def CX (z n nf dN hN : Nat) (I : Nat → Nat → Int32) : Prop := I z 7 = nI nf ∧ I z 8 = nI dN ∧ I z 9 = I (aM z n) 2 ∧ I z 10 = I (aM z n) 27 ∧ I z 11 = I (aM z n) 36 ∧ I z 12 = I (aM z n) 30 ∧ I z 13 = I (aM z n) 28 ∧ I z 14 = I (aM z n) 29 ∧ I (aM z n) 0 = nI n ∧ I (aM z n) 1 = nI dN ∧ I (aM z n) 3 = nI nf ∧ I (z + 8) 0 = I (aM z n) 26 ∧ I (z + 8) 1 = I (aM z n) 24 ∧ I (z + 8) 2 = I (aM z n) 25 ∧ I (z + 8) 3 = I (aM z n) 23 ∧ I (z + 2) 1 = nI hN ∧ I (aM z n) 33 = nI hN
/-- the tape -/
def CP (z n : Nat) (I : Nat → Nat → Int32) : Prop := ∀ i, i < 300 → I (z + 3) i = I (aJ z n 19) i ∧ vp_nar .byte (I (z + 3) i) = I (z + 3) i
/-- the custom -/
def CC (z n : Nat) (I : Nat → Nat → Int32) : Prop := ∃ k, k ≤ 10 ∧ I (z + 4) 1 = nI k ∧ (I (z + 4) 4 = 0 ∨ I (z + 4) 4 = 1) ∧ ((I (aM z n) 38 = 0 ∧ k = 0 ∧ I (z + 4) 2 = 9 ∧ I (z + 4) 3 = 0 ∧ I (z + 4) 4 = 0) ∨ (I (aM z n) 38 = 1 ∧ I (aJ z n 21) 0 = nI k ∧ I (z + 4) 2 = I (aJ z n 21) 11 ∧ I (z + 4) 3 = I (aJ z n 21) 12 ∧ I (z + 4) 4 = I (aJ z n 21) 13 ∧ ∀ j, j < k → I (z + 5) j = I (aJ z n 21) (j + 1)))
/-- a sum over the fields -/
def sumF (nf : Nat) (g : Nat → Int32) : Int32 := match nf with
  | 0 => 0
  | n + 1 => sumF n g + g n
theorem sumF_congr {nf : Nat} {g g' : Nat → Int32} (h : ∀ f, f < nf → g f = g' f) : sumF nf g = sumF nf g' := by
  induction nf with
  | zero => rfl
  | succ n ih => rw [sumF, sumF, ih (fun f hf => h f (by omega)), h n (by omega)]
/-- the owners -/
def CO (z n nf : Nat) (I : Nat → Nat → Int32) : Prop := (∀ o, o < 10 → I (aJ z n 18) o = sumF nf (fun f => if I (aJ z n 13) f = nI o then I (aJ z n 12) f * I (aJ z n 14) f else 0)) ∧ ∀ f, nf ≤ f → f < 40 → I (aJ z n 14) f = 0 ∧ I (aJ z n 15) f = 0 ∧ I (aJ z n 16) f = 0
/-! the order of the fields -/
def ky (z n : Nat) (I : Nat → Nat → Int32) (c : Int32) (f : Nat) : Nat := if c = 0 then (if I (aJ z n 17) f = 0 then 1 else 0) else if c = 1 then (I (aJ z n 12) f).toNatClampNeg else (I (aJ z n 11) f).toNatClampNeg
def fsts (z : Nat) (I : Nat → Nat → Int32) : List Int32 := (List.range (I (z + 4) 1).toNatClampNeg).map (fun k => I (z + 5) k)
/-- f is ahead of g by the keys, then by number -/
def ahd (K : Int32 → Nat → Nat) : List Int32 → Nat → Nat → Bool
  | [], f, g => decide (f < g)
  | c :: cs, f, g => if K c f = K c g then ahd K cs f g else decide (K c f < K c g)
def insL (lt : Nat → Nat → Bool) (f : Nat) : List Nat → List Nat
  | [] => [f]
  | g :: l => if lt f g then f :: g :: l else g :: insL lt f l
def ordl (z n nf : Nat) (I : Nat → Nat → Int32) (i : Nat) : List Nat := ((List.range nf).filter (fun f => decide (I (aJ z n 10) f = nI i))).foldl (fun l f => insL (ahd (ky z n I) (fsts z I)) f l) []
def Chn (z n : Nat) (Rr : Nat → Nat → Option Nat) : Option Nat → List Nat → Prop
  | r, [] => r = none
  | r, f :: l => r = some (aF z n f) ∧ Chn z n Rr (Rr (aF z n f) 6) l
def CH (z n nf : Nat) (I : Nat → Nat → Int32) (Rr : Nat → Nat → Option Nat) : Prop := ∀ i, i < n → Chn z n Rr (Rr (aT z n i) 9) (ordl z n nf I i)
theorem ordl_congr {z n nf i : Nat} {I I' : Nat → Nat → Int32} (h10 : I' (aJ z n 10) = I (aJ z n 10)) (h11 : I' (aJ z n 11) = I (aJ z n 11)) (h12 : I' (aJ z n 12) = I (aJ z n 12)) (h17 : I' (aJ z n 17) = I (aJ z n 17)) (h4 : I' (z + 4) 1 = I (z + 4) 1) (h5 : I' (z + 5) = I (z + 5)) : ordl z n nf I' i = ordl z n nf I i := by
  have e1 : ky z n I' = ky z n I := by
    funext c f
    simp only [ky, h11, h12, h17]
  have e2 : fsts z I' = fsts z I := by simp only [fsts, h4, h5]
  simp only [ordl, e1, e2, h10]
/-- everything -/
def Cpl (z n nf dN hN : Nat) (h : AH) : Prop := (2 ≤ n ∧ n ≤ 11 ∧ nf ≤ 40 ∧ dN ≤ 1000 ∧ hN ≤ 300) ∧ WS z n nf h ∧ WR z n nf h ∧ CT z n h.2.2.1 ∧ CF z n nf h.2.2.1 ∧ CX z n nf dN hN h.2.2.1 ∧ CP z n h.2.2.1 ∧ CC z n h.2.2.1 ∧ CO z n nf h.2.2.1 ∧ CH z n nf h.2.2.1 h.2.2.2
/-! a cell is written that a piece doesn't read -/
section UP
variable {z n nf dN hN : Nat} {I : Nat → Nat → Int32} {a k : Nat} {x : Int32}
theorem CT_u (C : CT z n I) (h1 : ∀ i, i < n → a ≠ aT z n i ∧ a ≠ aN z n i) (h2 : ∀ j, j < 10 → a ≠ aJ z n j) : CT z n (u2 I a k x) := by
  intro i hi
  rw [u2_ne _ _ (h1 i hi).1.symm, u2_ne _ _ (h1 i hi).2.symm, u2_ne _ _ (h2 0 (by omega)).symm, u2_ne _ _ (h2 1 (by omega)).symm, u2_ne _ _ (h2 2 (by omega)).symm, u2_ne _ _ (h2 3 (by omega)).symm, u2_ne _ _ (h2 4 (by omega)).symm, u2_ne _ _ (h2 5 (by omega)).symm, u2_ne _ _ (h2 6 (by omega)).symm, u2_ne _ _ (h2 7 (by omega)).symm, u2_ne _ _ (h2 8 (by omega)).symm, u2_ne _ _ (h2 9 (by omega)).symm]
  exact C i hi
theorem CF_u (C : CF z n nf I) (h1 : ∀ f, f < nf → a ≠ aF z n f) (h2 : ∀ j, 10 ≤ j → j < 18 → a ≠ aJ z n j) : CF z n nf (u2 I a k x) := by
  intro i hi
  rw [u2_ne _ _ (h1 i hi).symm, u2_ne _ _ (h2 10 (by omega) (by omega)).symm, u2_ne _ _ (h2 11 (by omega) (by omega)).symm, u2_ne _ _ (h2 12 (by omega) (by omega)).symm, u2_ne _ _ (h2 13 (by omega) (by omega)).symm, u2_ne _ _ (h2 14 (by omega) (by omega)).symm, u2_ne _ _ (h2 15 (by omega) (by omega)).symm, u2_ne _ _ (h2 16 (by omega) (by omega)).symm, u2_ne _ _ (h2 17 (by omega) (by omega)).symm]
  exact C i hi
theorem CX_u (C : CX z n nf dN hN I) (h1 : a ≠ z) (h2 : a ≠ aM z n) (h3 : a ≠ z + 8) (h4 : a ≠ z + 2) : CX z n nf dN hN (u2 I a k x) := by
  unfold CX
  rw [u2_ne _ _ h1.symm, u2_ne _ _ h2.symm, u2_ne _ _ h3.symm, u2_ne _ _ h4.symm]
  exact C
theorem CP_u (C : CP z n I) (h1 : a ≠ z + 3) (h2 : a ≠ aJ z n 19) : CP z n (u2 I a k x) := by
  unfold CP
  rw [u2_ne _ _ h1.symm, u2_ne _ _ h2.symm]
  exact C
theorem CC_u (C : CC z n I) (h1 : a ≠ z + 4) (h2 : a ≠ z + 5) (h3 : a ≠ aM z n ∨ k ≠ 38) (h4 : a ≠ aJ z n 21) : CC z n (u2 I a k x) := by
  unfold CC
  have e : u2 I a k x (aM z n) 38 = I (aM z n) 38 := u2n (by rcases h3 with q | q <;> omega)
  rw [e, u2_ne _ _ h1.symm, u2_ne _ _ h2.symm, u2_ne _ _ h4.symm]
  exact C
theorem CO_u (C : CO z n nf I) (h1 : a ≠ aJ z n 18) (h2 : a ≠ aJ z n 13) (h3 : a ≠ aJ z n 12) (h4 : a ≠ aJ z n 14) (h5 : a ≠ aJ z n 15) (h6 : a ≠ aJ z n 16) : CO z n nf (u2 I a k x) := by
  unfold CO
  rw [u2_ne _ _ h1.symm, u2_ne _ _ h2.symm, u2_ne _ _ h3.symm, u2_ne _ _ h4.symm, u2_ne _ _ h5.symm, u2_ne _ _ h6.symm]
  exact C
theorem CH_u {Rr : Nat → Nat → Option Nat} (C : CH z n nf I Rr) (h1 : ∀ j, 10 ≤ j → j < 18 → a ≠ aJ z n j) (h2 : a ≠ z + 4 ∨ k ≠ 1) (h3 : a ≠ z + 5) : CH z n nf (u2 I a k x) Rr := by
  intro i hi
  rw [ordl_congr (u2_ne _ _ (h1 10 (by omega) (by omega)).symm) (u2_ne _ _ (h1 11 (by omega) (by omega)).symm) (u2_ne _ _ (h1 12 (by omega) (by omega)).symm) (u2_ne _ _ (h1 17 (by omega) (by omega)).symm) (u2n (by rcases h2 with q | q <;> omega)) (u2_ne _ _ h3.symm)]
  exact C i hi
/-- all but the tanks; all but the numbers -/
def KT (z n nf dN hN : Nat) (h : AH) : Prop := CF z n nf h.2.2.1 ∧ CX z n nf dN hN h.2.2.1 ∧ CP z n h.2.2.1 ∧ CC z n h.2.2.1 ∧ CO z n nf h.2.2.1 ∧ CH z n nf h.2.2.1 h.2.2.2
def KX (z n nf : Nat) (h : AH) : Prop := CT z n h.2.2.1 ∧ CF z n nf h.2.2.1 ∧ CP z n h.2.2.1 ∧ CC z n h.2.2.1 ∧ CO z n nf h.2.2.1 ∧ CH z n nf h.2.2.1 h.2.2.2
theorem KT_u {h : AH} (C : KT z n nf dN hN h) (hb : (z + 10 ≤ a ∧ a < z + 10 + 3 * n) ∨ (z + 13 + 3 * n ≤ a ∧ a < z + 23 + 3 * n)) : KT z n nf dN hN (setI h a k x) := by
  obtain ⟨cf, cx, cp, cc, co, ch⟩ := C
  refine ⟨CF_u cf (fun f hf => ?_) (fun j h1 h2 => ?_), CX_u cx ?_ ?_ ?_ ?_, CP_u cp ?_ ?_, CC_u cc ?_ ?_ (Or.inl ?_) ?_, CO_u co ?_ ?_ ?_ ?_ ?_ ?_, CH_u ch (fun j h1 h2 => ?_) (Or.inl ?_) ?_⟩ <;> first | omega | (first | omega | (simp only [aT, aN, aA, aJ, aM, aF, aFl, aFs]; omega))
theorem KX_u {h : AH} (C : KX z n nf h) (hb : a = z ∨ a = z + 8 ∨ a = z + 2 ∨ (a = aM z n ∧ k ≠ 38)) : KX z n nf (setI h a k x) := by
  obtain ⟨ct, cf, cp, cc, co, ch⟩ := C
  have hb2 : a = z ∨ a = z + 8 ∨ a = z + 2 ∨ a = z + 12 + 3 * n := by
    rcases hb with q | q | q | q
    · omega
    · omega
    · omega
    · right; right; right; exact q.1
  refine ⟨CT_u ct (fun i hi => ⟨?_, ?_⟩) (fun j hj => ?_), CF_u cf (fun f hf => ?_) (fun j h1 h2 => ?_), CP_u cp ?_ ?_, CC_u cc ?_ ?_ ?_ ?_, CO_u co ?_ ?_ ?_ ?_ ?_ ?_, CH_u ch (fun j h1 h2 => ?_) (Or.inl ?_) ?_⟩
  all_goals first | omega | (first | omega | (simp only [aT, aN, aA, aJ, aM, aF, aFl, aFs]; omega))
end UP
