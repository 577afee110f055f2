/-! ===== new objects: the class's tanks ===== -/
section I5
variable {z n : Nat} {α : Type}
/-- a tank at the heap's end, with its two pools -/
def j2 (h : AH) (a : Nat) : AH := setR (i3 (newS h (.inl 3)) h.1) a 2 (some h.1)
def j3 (h : AH) (a : Nat) : AH := setR (i3 (newS h (.inl 3)) h.1) a 3 (some h.1)
def j4 (h : AH) (a : Nat) (x : Int32) (r : Option Nat) : AH := setR (setI (setR (setI (setI (setI (setI (setI h a 4 0) a 5 100) a 6 50) a 7 0) a 8 (-1)) a 9 none) a 0 x) a 1 r
def i5 (h : AH) (a : Nat) (x : Int32) (r : Option Nat) : AH := j4 (j3 (j2 h a) a) a x r
theorem g_j2 {h : AH} {a : Nat} : Grow a h (j2 h a) := (Grow.new.lift g_i3 (Nat.le_refl _)).tr Grow.sR
theorem g_j3 {h : AH} {a : Nat} : Grow a h (j3 h a) := (Grow.new.lift g_i3 (Nat.le_refl _)).tr Grow.sR
theorem g_j4 {h : AH} {a : Nat} {x : Int32} {r : Option Nat} : Grow a h (j4 h a x r) := (((((((Grow.sI.tr Grow.sI).tr Grow.sI).tr Grow.sI).tr Grow.sI).tr Grow.sR).tr Grow.sI).tr Grow.sR)
theorem g_i5 {h : AH} {a : Nat} {x : Int32} {r : Option Nat} : Grow a h (i5 h a x r) := (g_j2.tr g_j3).tr g_j4
theorem v_i5 {h : AH} {a : Nat} (sa : h.2.1 a = some (.inl 5)) (ha : a < h.1) (x : Int32) (r : Option Nat) : f_X5_init h a x r = some ((), i5 h a x r) := by
  have s2 : (j2 h a).2.1 a = some (.inl 5) := (g_j2.2.1 a ha).trans sa
  have q2 : (j2 h a).1 = h.1 + 1 := rfl
  have s3 : (j3 (j2 h a) a).2.1 a = some (.inl 5) := (g_j3.2.1 a (by omega)).trans s2
  unfold f_X5_init
  rw [ev_nO, ev_rcv nw_se, cal_eq (v_i3 nw_se), ev_pR (by rw [g_i3.2.1 a (by show a < h.1 + 1; omega), nw_sn (by omega)]; exact sa)]
  rw [show setR (i3 (newS h (.inl 3)) h.1) a 2 (some h.1) = j2 h a from rfl, ev_nO, ev_rcv nw_se, cal_eq (v_i3 nw_se), ev_pR (by rw [g_i3.2.1 a (by show a < (j2 h a).1 + 1; omega), nw_sn (by omega)]; exact s2)]
  rw [show setR (i3 (newS (j2 h a) (.inl 3)) (j2 h a).1) a 3 (some (j2 h a).1) = j3 (j2 h a) a from rfl, ev_pI s3, ev_pI (by simp only [sI_s]; exact s3), ev_pI (by simp only [sI_s]; exact s3), ev_pI (by simp only [sI_s]; exact s3), ev_pI (by simp only [sI_s]; exact s3), ev_pR (by simp only [sI_s]; exact s3), ev_pI (by simp only [sI_s, sR_s]; exact s3), ev_pR (by simp only [sI_s, sR_s]; exact s3)]
  rfl
theorem f_i5 {h : AH} {a : Nat} (ha : a < h.1) {x : Int32} {r : Option Nat} : (i5 h a x r).1 = h.1 + 2 ∧ ((i5 h a x r).2.1 h.1 = some (.inl 3) ∧ (i5 h a x r).2.1 (h.1 + 1) = some (.inl 3)) ∧ ((i5 h a x r).2.2.1 a 0 = x ∧ (i5 h a x r).2.2.1 a 4 = 0 ∧ (i5 h a x r).2.2.1 a 5 = 100 ∧ (i5 h a x r).2.2.1 a 6 = 50 ∧ (i5 h a x r).2.2.1 a 7 = 0 ∧ (i5 h a x r).2.2.1 a 8 = -1) ∧ ((i5 h a x r).2.2.2 a 1 = r ∧ (i5 h a x r).2.2.2 a 2 = some h.1 ∧ (i5 h a x r).2.2.2 a 3 = some (h.1 + 1) ∧ (i5 h a x r).2.2.2 a 9 = none) ∧ ((i5 h a x r).2.2.1 h.1 0 = 0 ∧ (i5 h a x r).2.2.1 h.1 1 = 0 ∧ (i5 h a x r).2.2.1 h.1 2 = 0 ∧ (i5 h a x r).2.2.1 h.1 3 = 0 ∧ (i5 h a x r).2.2.1 h.1 4 = 0) := by
  have q2 : (j2 h a).1 = h.1 + 1 := rfl
  have q3 : (j3 (j2 h a) a).1 = h.1 + 2 := rfl
  have ne : h.1 ≠ a := by omega
  refine ⟨rfl, ⟨?_, ?_⟩, ⟨?_, ?_, ?_, ?_, ?_, ?_⟩, ⟨u2s, ?_, ?_, ?_⟩, ?_⟩
  · have e : (j2 h a).2.1 h.1 = some (.inl 3) := ((g_i3 (h := newS h (.inl 3)) (a := h.1)).2.1 h.1 (Nat.lt_succ_self _)).trans (nw_se (h := h) (t := .inl 3))
    exact ((g_j3 (h := j2 h a) (a := a)).2.1 h.1 (by omega)).trans e
  · exact ((g_i3 (h := newS (j2 h a) (.inl 3)) (a := (j2 h a).1)).2.1 (j2 h a).1 (Nat.lt_succ_self _)).trans (nw_se (h := j2 h a) (t := .inl 3))
  · unfold i5 j4; simp (disch := (refine Or.inr ?_; omega)) only [sI_u, sR_i, u2n, u2s]
  · unfold i5 j4; simp (disch := (refine Or.inr ?_; omega)) only [sI_u, sR_i, u2n, u2s]
  · unfold i5 j4; simp (disch := (refine Or.inr ?_; omega)) only [sI_u, sR_i, u2n, u2s]
  · unfold i5 j4; simp (disch := (refine Or.inr ?_; omega)) only [sI_u, sR_i, u2n, u2s]
  · unfold i5 j4; simp (disch := (refine Or.inr ?_; omega)) only [sI_u, sR_i, u2n, u2s]
  · unfold i5 j4; simp (disch := (refine Or.inr ?_; omega)) only [sI_u, sR_i, u2n, u2s]
  · have e : (j2 h a).2.2.2 a 2 = some h.1 := u2s
    have e3 : (j3 (j2 h a) a).2.2.2 a 2 = some h.1 := by
      show u2 _ _ _ _ _ _ = _
      rw [u2n (Or.inr (by omega)), (g_i3 (h := newS (j2 h a) (.inl 3)) (a := (j2 h a).1)).2.2.2 a (by show a < (j2 h a).1 + 1; omega) (by omega), nw_rn (h := j2 h a) (by omega)]
      exact e
    unfold i5 j4
    simp (disch := (refine Or.inr ?_; omega)) only [sI_r, sR_u, u2n]
    exact e3
  · have e3 : (j3 (j2 h a) a).2.2.2 a 3 = some (h.1 + 1) := u2s
    unfold i5 j4
    simp (disch := (refine Or.inr ?_; omega)) only [sI_r, sR_u, u2n]
    exact e3
  · unfold i5 j4
    simp (disch := (refine Or.inr ?_; omega)) only [sI_r, sR_u, u2n, u2s]
  · have e2 : (j2 h a).2.2.1 h.1 = (i3 (newS h (.inl 3)) h.1).2.2.1 h.1 := rfl
    have e3 : (j3 (j2 h a) a).2.2.1 h.1 = (j2 h a).2.2.1 h.1 := (g_j3 (h := j2 h a) (a := a)).2.2.1 h.1 (by omega) ne
    have e4 : (i5 h a x r).2.2.1 h.1 = (j3 (j2 h a) a).2.2.1 h.1 := (g_j4 (h := j3 (j2 h a) a) (a := a) (x := x) (r := r)).2.2.1 h.1 (by omega) ne
    rw [e4, e3, e2]
    exact (f_i3 (h := newS h (.inl 3)) (a := h.1)).2
/-- what a new tank holds -/
def TK (z n : Nat) (h : AH) (j : Nat) : Prop := (h.2.1 (aT z n j) = some (.inl 5) ∧ h.2.1 (aN z n j) = some (.inl 3) ∧ h.2.1 (aA z n j) = some (.inl 3)) ∧ (h.2.2.1 (aT z n j) 0 = nI j ∧ h.2.2.1 (aT z n j) 4 = 0 ∧ h.2.2.1 (aT z n j) 5 = 100 ∧ h.2.2.1 (aT z n j) 6 = 50 ∧ h.2.2.1 (aT z n j) 7 = 0 ∧ h.2.2.1 (aT z n j) 8 = -1) ∧ (h.2.2.2 (aT z n j) 1 = ptr z n (j + 1) ∧ h.2.2.2 (aT z n j) 2 = some (aN z n j) ∧ h.2.2.2 (aT z n j) 3 = some (aA z n j) ∧ h.2.2.2 (aT z n j) 9 = none) ∧ (h.2.2.1 (aN z n j) 0 = 0 ∧ h.2.2.1 (aN z n j) 1 = 0 ∧ h.2.2.1 (aN z n j) 2 = 0 ∧ h.2.2.1 (aN z n j) 3 = 0 ∧ h.2.2.1 (aN z n j) 4 = 0) ∧ h.2.2.2 (z + 9) j = some (aT z n j)
theorem TK_grow {h h' : AH} {o j : Nat} (t : TK z n h j) (p : Grow o h h') (ho : (o < z + 10 ∧ o ≠ z + 9) ∨ z + 10 + 3 * n ≤ o) (hj : j < n) (hs : aA z n j < h.1) : TK z n h' j := by
  have e1 : aT z n j < h.1 := by unfold aT; unfold aA at hs; omega
  have e2 : aN z n j < h.1 := by unfold aN; unfold aA at hs; omega
  have e3 : z + 9 < h.1 := by unfold aA at hs; omega
  unfold TK
  rw [p.2.1 _ e1, p.2.1 _ e2, p.2.1 _ hs, p.2.2.1 _ e1 (by unfold aT; omega), p.2.2.1 _ e2 (by unfold aN; omega), p.2.2.2 _ e1 (by unfold aT; omega), p.2.2.2 _ e3 (by omega)]
  exact t
theorem ev_sRo {h : AH} {a i N v ci : Nat} {ty : FieldType} {K : AH → Option α} (hs : h.2.1 a = some (.inr (ty, N))) (hi : i < N) (hN : N < 2 ^ 31) (hv : h.2.1 v = some (.inl ci)) : sR ty ci h (some a) (nI i) (some v) K = K (setR h a i (some v)) := ev_sR hs hi hN hv
theorem l_tanks7 {g : AH} (B : B7 z n g) (h2 : 2 ≤ n) (h11 : n ≤ 11) : ∀ (m i : Nat) (h : AH), i < m → i ≤ n → h.1 = z + 10 + 3 * (n - i) → Grow (z + 9) g h → (∀ j, i ≤ j → j < n → TK z n h j) → ∃ h', f_X7_init_123 m h z (ptr z n i) (nI i - 1) = some ((), setR (setR (setR (setI (setR (i4 (newS (newS h' (.inl 2)) (.inl 4)) (h'.1 + 1)) h'.1 2 (some (h'.1 + 1))) h'.1 3 0) h'.1 0 (ptr z n 0)) h'.1 1 (some (z + 4))) z 5 (some h'.1)) ∧ h'.1 = z + 10 + 3 * n ∧ Grow (z + 9) g h' ∧ ∀ j, j < n → TK z n h' j := by
  obtain ⟨B1, ⟨S0, S1, S2, S3, S4, S5, S6, S7, S8, S9⟩, ⟨R0, R1, R2, R3, R4, R6, -⟩, -⟩ := B
  intro m
  induction m with
  | zero => intro i h h1; omega
  | succ m ih =>
    intro i h h1 hi hs G T
    have s0 : h.2.1 z = some (.inl 7) := (G.2.1 z (by omega)).trans S0
    have r0 : ∀ k, h.2.2.2 z k = g.2.2.2 z k := fun k => by rw [G.2.2.2 z (by omega) (by omega)]
    unfold f_X7_init_123
    cases i with
    | zero =>
      rw [if_pos (show nI 0 - 1 < 0 by decide), ev_nO]
      have sz : (newS h (.inl 2)).2.1 z = some (.inl 7) := (nw_sn (by omega)).trans s0
      have rz : (newS h (.inl 2)).2.2.2 z 3 = some (z + 4) := by rw [nw_rn (by omega), r0]; exact R3
      rw [ev_gR sz, rz, ev_rcv nw_se]
      have e1 : f_X2_init (newS h (.inl 2)) h.1 (ptr z n 0) (some (z + 4)) = some ((), setR (setR (setI (setR (i4 (newS (newS h (.inl 2)) (.inl 4)) (h.1 + 1)) h.1 2 (some (h.1 + 1))) h.1 3 0) h.1 0 (ptr z n 0)) h.1 1 (some (z + 4))) := by
        unfold f_X2_init
        have sF : (i4 (newS (newS h (.inl 2)) (.inl 4)) (h.1 + 1)).2.1 h.1 = some (.inl 2) := by
          rw [g_i4.2.1 h.1 (by show h.1 < h.1 + 1 + 1; omega), nw_sn (by show h.1 ≠ h.1 + 1; omega)]
          exact nw_se
        rw [ev_nO, ev_rcv nw_se, cal_eq (v_i4 nw_se), show (newS h (.inl 2)).1 = h.1 + 1 from rfl, ev_pR sF, ev_pI (by simp only [sR_s]; exact sF), ev_pR (by simp only [sI_s, sR_s]; exact sF), ev_pR (by simp only [sI_s, sR_s]; exact sF)]
      rw [cal_eq e1, ev_pR (by
        simp only [sI_s, sR_s]
        rw [g_i4.2.1 z (by show z < h.1 + 1 + 1; omega), nw_sn (by show z ≠ h.1 + 1; omega)]
        exact sz)]
      exact ⟨h, rfl, by omega, G, fun j hj => T j (by omega) hj⟩
    | succ i =>
      have em : nI (i + 1) - 1 = nI i := nI_prd i
      rw [em, if_neg (nI_pos (by omega)), ev_nO, ev_rcv nw_se, cal_eq (v_i5 nw_se (Nat.lt_succ_self _) _ _)]
      obtain ⟨f1, ⟨f2, f3⟩, f4, f5, f6⟩ := f_i5 (h := newS h (.inl 5)) (a := h.1) (Nat.lt_succ_self _) (x := nI i) (r := ptr z n (i + 1))
      have n1 : (newS h (.inl 5)).1 = h.1 + 1 := rfl
      have G1 : Grow (z + 9) h (i5 (newS h (.inl 5)) h.1 (nI i) (ptr z n (i + 1))) := Grow.new.lift g_i5 (Nat.le_refl _)
      have G1z : Grow z h (i5 (newS h (.inl 5)) h.1 (nI i) (ptr z n (i + 1))) := Grow.new.lift g_i5 (Nat.le_refl _)
      have sh : (i5 (newS h (.inl 5)) h.1 (nI i) (ptr z n (i + 1))).2.1 h.1 = some (.inl 5) := (g_i5.2.1 h.1 (Nat.lt_succ_self _)).trans nw_se
      generalize i5 (newS h (.inl 5)) h.1 (nI i) (ptr z n (i + 1)) = x at f1 f2 f3 f4 f5 f6 G1 G1z sh
      rw [n1] at f1 f2 f3 f5 f6
      have aTi : aT z n i = h.1 := by unfold aT; omega
      have aNi : aN z n i = h.1 + 1 := by unfold aN; omega
      have aAi : aA z n i = h.1 + 1 + 1 := by unfold aA; omega
      have x0 : x.2.1 z = some (.inl 7) := (G1.2.1 z (by omega)).trans s0
      have xr : x.2.2.2 z 0 = some (z + 9) := by rw [G1.2.2.2 z (by omega) (by omega), r0]; exact R0
      have x9 : x.2.1 (z + 9) = some (.inr (.object RX5, n)) := by rw [G1.2.1 _ (by omega), G.2.1 _ (by omega)]; exact S9
      rw [ev_gR x0, xr, ev_sRo x9 (by omega) (by omega) sh, ev_bd, show nI i + -1 = nI i - 1 from (Int32.sub_eq_add_neg _ _).symm]
      have ep : some h.1 = ptr z n i := by unfold ptr; rw [if_pos (by omega), aTi]
      rw [ep]
      have G2 : Grow (z + 9) g (setR x (z + 9) i (ptr z n i)) := (G.tr G1).tr Grow.sR
      refine ih i (setR x (z + 9) i (ptr z n i)) (by omega) (by omega) (by rw [sR_1, f1]; omega) G2 (fun j hj hjn => ?_)
      by_cases e : j = i
      · subst e
        unfold TK
        rw [aTi, aNi, aAi, sR_s, sR_i, ← ep]
        have ne : h.1 ≠ z + 9 := by omega
        refine ⟨⟨sh, f2, f3⟩, f4, ?_, f6, u2s⟩
        rw [sR_u, u2_ne _ _ ne]
        exact f5
      · have tj := T j (by omega) hjn
        have b1 : aT z n j < h.1 := by unfold aT; omega
        have b2 : aN z n j < h.1 := by unfold aN; omega
        have b3 : aA z n j < h.1 := by unfold aA; omega
        have ne : aT z n j ≠ z + 9 := by unfold aT; omega
        unfold TK at tj ⊢
        rw [sR_s, sR_i, sR_u, u2_ne _ _ ne, u2n (Or.inr e), G1.2.1 _ b1, G1.2.1 _ b2, G1.2.1 _ b3, G1.2.2.1 _ b1 ne, G1.2.2.1 _ b2 (by unfold aN; omega), G1.2.2.2 _ b1 ne]
        have x9r : x.2.2.2 (z + 9) j = h.2.2.2 (z + 9) j := by rw [G1z.2.2.2 (z + 9) (by omega) (by omega)]
        rw [x9r]
        exact tj
end I5
