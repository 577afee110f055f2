/-! ===== new objects: all of the class; the reference ===== -/
section I8
variable {z n : Nat} {α : Type}
/-- the class is made -/
def C7 (z n : Nat) (h : AH) : Prop := h.1 = z + 12 + 3 * n ∧
  (h.2.1 z = some (.inl 7) ∧ h.2.1 (z + 1) = some (.inr (.object RX1, 40)) ∧ h.2.1 (z + 2) = some (.inl 6) ∧ h.2.1 (z + 3) = some (.inr (.byte, 300)) ∧ h.2.1 (z + 4) = some (.inl 0) ∧ h.2.1 (z + 5) = some (.inr (.int, 10)) ∧ h.2.1 (z + 6) = some (.inl 0) ∧ h.2.1 (z + 7) = some (.inr (.int, 10)) ∧ h.2.1 (z + 8) = some (.inl 4) ∧ h.2.1 (z + 9) = some (.inr (.object RX5, n)) ∧ h.2.1 (aFl z n) = some (.inl 2) ∧ h.2.1 (aFs z n) = some (.inl 4)) ∧
  (h.2.2.2 z 0 = some (z + 9) ∧ h.2.2.2 z 1 = some (z + 1) ∧ h.2.2.2 z 2 = some (z + 2) ∧ h.2.2.2 z 3 = some (z + 4) ∧ h.2.2.2 z 4 = some (z + 6) ∧ h.2.2.2 z 5 = some (aFl z n) ∧ h.2.2.2 z 6 = some (z + 8) ∧ (∀ f, h.2.2.2 (z + 1) f = none) ∧ h.2.2.2 (z + 2) 0 = some (z + 3) ∧ h.2.2.2 (z + 4) 0 = some (z + 5) ∧ h.2.2.2 (z + 6) 0 = some (z + 7) ∧ h.2.2.2 (aFl z n) 0 = some (aT z n 0) ∧ h.2.2.2 (aFl z n) 1 = some (z + 4) ∧ h.2.2.2 (aFl z n) 2 = some (aFs z n)) ∧
  (h.2.2.1 z 7 = 0 ∧ h.2.2.1 z 8 = 0 ∧ h.2.2.1 z 9 = 0 ∧ h.2.2.1 z 10 = 0 ∧ h.2.2.1 z 11 = -1 ∧ h.2.2.1 z 12 = -1 ∧ h.2.2.1 z 13 = -1 ∧ h.2.2.1 z 14 = -1) ∧
  (h.2.2.1 (z + 2) 1 = 0 ∧ (∀ k, h.2.2.1 (z + 3) k = 0) ∧ h.2.2.1 (z + 4) 1 = 0 ∧ h.2.2.1 (z + 4) 2 = 9 ∧ h.2.2.1 (z + 4) 3 = 0 ∧ h.2.2.1 (z + 4) 4 = 0 ∧ h.2.2.1 (z + 8) 0 = 0 ∧ h.2.2.1 (z + 8) 1 = 0 ∧ h.2.2.1 (z + 8) 2 = 0 ∧ h.2.2.1 (z + 8) 3 = 0) ∧ ∀ j, j < n → TK z n h j
theorem v_new7 (v : Int32) : ∃ n g, (2 ≤ n ∧ n ≤ 11) ∧ mx 2 (mn 11 v) = nI n ∧ f_X7_init (newS (z, fun _ => none, fun _ _ => 0, fun _ _ => none) (.inl 7)) z v = some ((), g) ∧ C7 z n g := by
  obtain ⟨n, h2, h11, hv⟩ := mm_n v
  obtain ⟨g, e1, B⟩ := v_base7 (z := z) h2 h11 hv
  have e0 : ptr z n n = none := by unfold ptr; rw [if_neg (Nat.lt_irrefl n)]
  obtain ⟨g1, e2, s1, G1, T1⟩ := l_tanks7 B h2 h11 12 n g (by omega) (Nat.le_refl n) (by rw [Nat.sub_self]; exact B.1) Grow.rf (fun j h1 h2 => by omega)
  rw [e0] at e2
  obtain ⟨B1, ⟨S0, S1, S2, S3, S4, S5, S6, S7, S8, S9⟩, ⟨R0, R1, R2, R3, R4, R6, R10, R20, R40, R60⟩, ⟨z7, z8, z9, z10, z11, z12, z13, z14⟩, ⟨y2, y3, y41, y42, y43, y44, y80, y81, y82, y83⟩⟩ := B
  have p0 : ptr z n 0 = some (aT z n 0) := by unfold ptr; rw [if_pos (by omega)]
  have aFl1 : aFl z n = g1.1 := by unfold aFl; omega
  have aFs1 : aFs z n = g1.1 + 1 := by unfold aFs; omega
  rw [p0] at e2
  -- the flow and its sums
  have GF : Grow z g1 (setR (setR (setR (setI (setR (i4 (newS (newS g1 (.inl 2)) (.inl 4)) (g1.1 + 1)) g1.1 2 (some (g1.1 + 1))) g1.1 3 0) g1.1 0 (some (aT z n 0))) g1.1 1 (some (z + 4))) z 5 (some g1.1)) := by
    refine Grow.tr (Grow.lift (o1 := g1.1) (Grow.new (t := .inl 2)) ?_ (Nat.le_refl _)) Grow.sR
    exact ((((Grow.new.lift (o1 := g1.1 + 1) g_i4 (Nat.le_refl _)).tr Grow.sR).tr Grow.sI).tr Grow.sR).tr Grow.sR
  refine ⟨n, _, ⟨h2, h11⟩, hv, e1.trans e2, ?_, ?_, ?_, ?_, ?_, ?_⟩
  · show g1.1 + 1 + 1 = _; omega
  · rw [GF.2.1 z (by omega), GF.2.1 (z + 1) (by omega), GF.2.1 (z + 2) (by omega), GF.2.1 (z + 3) (by omega), GF.2.1 (z + 4) (by omega), GF.2.1 (z + 5) (by omega), GF.2.1 (z + 6) (by omega), GF.2.1 (z + 7) (by omega), GF.2.1 (z + 8) (by omega), GF.2.1 (z + 9) (by omega), G1.2.1 z (by omega), G1.2.1 (z + 1) (by omega), G1.2.1 (z + 2) (by omega), G1.2.1 (z + 3) (by omega), G1.2.1 (z + 4) (by omega), G1.2.1 (z + 5) (by omega), G1.2.1 (z + 6) (by omega), G1.2.1 (z + 7) (by omega), G1.2.1 (z + 8) (by omega), G1.2.1 (z + 9) (by omega), aFl1, aFs1]
    refine ⟨S0, S1, S2, S3, S4, S5, S6, S7, S8, S9, ?_, ?_⟩
    · simp only [sI_s, sR_s]
      rw [g_i4.2.1 g1.1 (by show g1.1 < g1.1 + 1 + 1; omega), nw_sn (by show g1.1 ≠ g1.1 + 1; omega)]
      exact nw_se
    · simp only [sI_s, sR_s]
      rw [g_i4.2.1 (g1.1 + 1) (by show g1.1 + 1 < g1.1 + 1 + 1; omega)]
      exact nw_se
  · have nz : g1.1 ≠ z := by omega
    have rz : ∀ k, k ≠ 5 → (setR (setR (setR (setI (setR (i4 (newS (newS g1 (.inl 2)) (.inl 4)) (g1.1 + 1)) g1.1 2 (some (g1.1 + 1))) g1.1 3 0) g1.1 0 (some (aT z n 0))) g1.1 1 (some (z + 4))) z 5 (some g1.1)).2.2.2 z k = g.2.2.2 z k := fun k hk => by
      have nz' : z ≠ g1.1 := by omega
      rw [sR_u, u2n (Or.inr hk)]
      simp only [sR_u, sI_r, u2_ne _ _ nz']
      rw [g_i4.2.2.2 z (by show z < g1.1 + 1 + 1; omega) (by omega), nw_rn (by show z ≠ g1.1 + 1; omega), nw_rn (by omega), G1.2.2.2 z (by omega) (by omega)]
    rw [rz 0 (by omega), rz 1 (by omega), rz 2 (by omega), rz 3 (by omega), rz 4 (by omega), rz 6 (by omega), GF.2.2.2 (z + 2) (by omega) (by omega), GF.2.2.2 (z + 4) (by omega) (by omega), GF.2.2.2 (z + 6) (by omega) (by omega), G1.2.2.2 (z + 2) (by omega) (by omega), G1.2.2.2 (z + 4) (by omega) (by omega), G1.2.2.2 (z + 6) (by omega) (by omega), aFl1, aFs1]
    refine ⟨R0, R1, R2, R3, R4, u2s, R6, fun f => ?_, R20, R40, R60, ?_, ?_, ?_⟩
    · rw [GF.2.2.2 (z + 1) (by omega) (by omega), G1.2.2.2 (z + 1) (by omega) (by omega)]; exact R10 f
    · rw [sR_u, u2_ne _ _ nz]
      simp (disch := (refine Or.inr ?_; omega)) only [sR_u, sI_r, u2n, u2s]
    · rw [sR_u, u2_ne _ _ nz]
      simp (disch := (refine Or.inr ?_; omega)) only [sR_u, sI_r, u2n, u2s]
    · rw [sR_u, u2_ne _ _ nz]
      simp (disch := (refine Or.inr ?_; omega)) only [sR_u, sI_r, u2n, u2s]
  · have iz : (setR (setR (setR (setI (setR (i4 (newS (newS g1 (.inl 2)) (.inl 4)) (g1.1 + 1)) g1.1 2 (some (g1.1 + 1))) g1.1 3 0) g1.1 0 (some (aT z n 0))) g1.1 1 (some (z + 4))) z 5 (some g1.1)).2.2.1 z = g.2.2.1 z := by
      have nz' : z ≠ g1.1 := by omega
      simp only [sR_i, sI_u, u2_ne _ _ nz']
      rw [g_i4.2.2.1 z (by show z < g1.1 + 1 + 1; omega) (by omega), nw_in (by show z ≠ g1.1 + 1; omega), nw_in (by omega), G1.2.2.1 z (by omega) (by omega)]
    rw [iz]
    exact ⟨z7, z8, z9, z10, z11, z12, z13, z14⟩
  · rw [GF.2.2.1 (z + 2) (by omega) (by omega), GF.2.2.1 (z + 3) (by omega) (by omega), GF.2.2.1 (z + 4) (by omega) (by omega), GF.2.2.1 (z + 8) (by omega) (by omega), G1.2.2.1 (z + 2) (by omega) (by omega), G1.2.2.1 (z + 3) (by omega) (by omega), G1.2.2.1 (z + 4) (by omega) (by omega), G1.2.2.1 (z + 8) (by omega) (by omega)]
    exact ⟨y2, y3, y41, y42, y43, y44, y80, y81, y82, y83⟩
  · exact fun j hj => TK_grow (T1 j hj) GF (Or.inl ⟨by omega, by omega⟩) hj (by unfold aA; omega)
/-! the reference's arrays, one by one -/
def arL (a : Nat) : List ((FieldType × Nat) × Nat) → AH → AH
  | [], h => h
  | x :: l, h => arL a l (nAp h x.1.1 x.1.2 a x.2)
theorem arL_grow {a : Nat} : ∀ (l : List ((FieldType × Nat) × Nat)) (h : AH), Grow a h (arL a l h) ∧ (arL a l h).1 = h.1 + l.length := by
  intro l
  induction l with
  | nil => intro h; exact ⟨Grow.rf, rfl⟩
  | cons x l ih =>
    intro h
    obtain ⟨i1, i2⟩ := ih (nAp h x.1.1 x.1.2 a x.2)
    refine ⟨(Grow.new.tr Grow.sR).tr i1, ?_⟩
    rw [arL, i2, List.length_cons]
    show h.1 + 1 + l.length = _
    omega
theorem arL_i {a : Nat} : ∀ (l : List ((FieldType × Nat) × Nat)) (h : AH), a < h.1 → (arL a l h).2.2.1 a = h.2.2.1 a ∧ ∀ j k, j < l.length → (arL a l h).2.2.1 (h.1 + j) k = 0 := by
  intro l
  induction l with
  | nil => intro h _; exact ⟨rfl, fun j k hj => absurd hj (Nat.not_lt_zero j)⟩
  | cons x l ih =>
    intro h ha
    have n1 : (nAp h x.1.1 x.1.2 a x.2).1 = h.1 + 1 := rfl
    obtain ⟨i1, i2⟩ := ih (nAp h x.1.1 x.1.2 a x.2) (by omega)
    refine ⟨?_, fun j k hj => ?_⟩
    · rw [arL, i1]
      exact nw_in (t := .inr (x.1.1, x.1.2)) (by omega)
    · rw [arL]
      cases j with
      | zero =>
        have := (arL_grow (a := a) l (nAp h x.1.1 x.1.2 a x.2)).1.2.2.1 h.1 (by omega) (by omega)
        rw [Nat.add_zero, this]
        have e : (nAp h x.1.1 x.1.2 a x.2).2.2.1 h.1 = fun _ => 0 := nw_ie (t := .inr (x.1.1, x.1.2))
        rw [e]
      | succ j =>
        have := i2 j k (by simpa using hj)
        rw [n1, show h.1 + 1 + j = h.1 + (j + 1) by omega] at this
        exact this
theorem arL_s {a : Nat} : ∀ (l : List ((FieldType × Nat) × Nat)) (h : AH) (j : Nat) (hj : j < l.length), (arL a l h).2.1 (h.1 + j) = some (.inr l[j].1) := by
  intro l
  induction l with
  | nil => intro h j hj; exact absurd hj (Nat.not_lt_zero j)
  | cons x l ih =>
    intro h j hj
    rw [arL]
    cases j with
    | zero =>
      have n1 : (nAp h x.1.1 x.1.2 a x.2).1 = h.1 + 1 := rfl
      rw [Nat.add_zero, (arL_grow (a := a) l (nAp h x.1.1 x.1.2 a x.2)).1.2.1 h.1 (by omega)]
      exact nw_se
    | succ j =>
      have := ih (nAp h x.1.1 x.1.2 a x.2) j (by simpa using hj)
      have n1 : (nAp h x.1.1 x.1.2 a x.2).1 = h.1 + 1 := rfl
      rw [n1, show h.1 + 1 + j = h.1 + (j + 1) by omega] at this
      exact this
theorem arL_rn {a k : Nat} : ∀ (l : List ((FieldType × Nat) × Nat)) (h : AH), a < h.1 → (∀ x ∈ l, x.2 ≠ k) → (arL a l h).2.2.2 a k = h.2.2.2 a k := by
  intro l
  induction l with
  | nil => intro h _ _; rfl
  | cons x l ih =>
    intro h ha hk
    have n1 : (nAp h x.1.1 x.1.2 a x.2).1 = h.1 + 1 := rfl
    rw [arL, ih _ (by omega) (fun y hy => hk y (List.mem_cons_of_mem _ hy))]
    show u2 _ _ _ _ _ _ = _
    rw [u2n (Or.inr (fun e => hk x List.mem_cons_self e.symm)), nw_rn (by omega)]
theorem arL_r {a : Nat} : ∀ (l : List ((FieldType × Nat) × Nat)) (h : AH) (j : Nat) (hj : j < l.length), a < h.1 → (l.map (fun x => x.2)).Nodup → (arL a l h).2.2.2 a l[j].2 = some (h.1 + j) := by
  intro l
  induction l with
  | nil => intro h j hj; exact absurd hj (Nat.not_lt_zero j)
  | cons x l ih =>
    intro h j hj ha hd
    rw [List.map_cons] at hd
    obtain ⟨d1, d2⟩ := List.nodup_cons.mp hd
    have n1 : (nAp h x.1.1 x.1.2 a x.2).1 = h.1 + 1 := rfl
    rw [arL]
    cases j with
    | zero =>
      rw [arL_rn l _ (by omega) (fun y hy e => d1 (by rw [show (x :: l)[0].2 = x.2 from rfl] at e; rw [← e]; exact List.mem_map_of_mem hy))]
      rw [Nat.add_zero]
      exact u2s
    | succ j =>
      have := ih (nAp h x.1.1 x.1.2 a x.2) j (by simpa using hj) (by omega) d2
      rw [n1, show h.1 + 1 + j = h.1 + (j + 1) by omega] at this
      exact this
end I8
