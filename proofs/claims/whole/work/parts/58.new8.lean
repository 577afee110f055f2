/-! ===== new objects: the reference ===== -/
def L1 : List ((FieldType × Nat) × Nat) := [((.int, 11), 4), ((.int, 11), 5), ((.int, 11), 6), ((.int, 11), 7), ((.int, 11), 8), ((.int, 11), 9), ((.int, 11), 10), ((.int, 11), 11), ((.int, 11), 12), ((.boolean, 11), 13), ((.int, 40), 14), ((.int, 40), 15), ((.int, 40), 16), ((.int, 40), 17), ((.int, 40), 18), ((.int, 40), 19), ((.int, 40), 20), ((.boolean, 40), 21), ((.int, 10), 22)]
def L2 : List ((FieldType × Nat) × Nat) := [((.byte, 300), 31), ((.byte, 300), 32)]
def L3 : List ((FieldType × Nat) × Nat) := [((.int, 28), 37), ((.int, 40), 41), ((.int, 40), 42), ((.boolean, 40), 43), ((.int, 11), 44), ((.int, 11), 45), ((.boolean, 11), 46)]
def chA {α : Type} (a : Nat) : List ((FieldType × Nat) × Nat) → AH → (AH → Option α) → Option α
  | [], h, K => K h
  | x :: l, h, K => nA h x.1.1 (nI x.1.2) x.1.2 (fun a8 h9 => pR h9 (some a) 8 x.2 (some a8) (fun h10 => chA a l h10 K))
section N8
variable {z n : Nat} {α : Type}
theorem x8_ch (h : AH) (a : Nat) (v : Int32) : f_X8_init h a v = chA a L1 h (fun h64 => pI h64 (some a) 8 28 (-1) (fun h65 => pI h65 (some a) 8 29 (-1) (fun h66 => pI h66 (some a) 8 30 (-1) (fun h67 => chA a L2 h67 (fun h73 => pI h73 (some a) 8 36 (-1) (fun h74 => chA a L3 h74 (fun h95 => bd (mn 11 v) (fun v96 => bd (mx 2 v96) (fun v97 => pI h95 (some a) 8 0 v97 (fun h98 => f_X8_init_266 FU h98 a 0)))))))))) := rfl
theorem chA_ev {a : Nat} : ∀ (l : List ((FieldType × Nat) × Nat)) (h : AH) (K : AH → Option α), (∀ x ∈ l, x.1.2 < 2 ^ 31) → h.2.1 a = some (.inl 8) → a < h.1 → chA a l h K = K (arL a l h) := by
  intro l
  induction l with
  | nil => intro h K _ _ _; rfl
  | cons x l ih =>
    intro h K hb hs ha
    have hx := hb x List.mem_cons_self
    rw [chA, arL, ev_nAl (M := x.1.2) (fun q => by
      rcases q with q | q
      · exact nI_pos hx q
      · rw [nI_clamp hx] at q
        omega) (nI_clamp hx), ev_pR (by rw [nw_sn (by omega)]; exact hs)]
    exact ih (nAp h x.1.1 x.1.2 a x.2) K (fun y hy => hb y (List.mem_cons_of_mem _ hy)) ((nw_sn (t := .inr (x.1.1, x.1.2)) (by omega)).trans hs) (by show a < h.1 + 1; omega)
/-- the reference's object and its arrays, all zero but for some numbers -/
def M8 (z n : Nat) (h : AH) : Prop := h.1 = z + 41 + 3 * n ∧ h.2.1 (aM z n) = some (.inl 8) ∧ (∀ j, j < 28 → h.2.1 (aJ z n j) = some (.inr (jTy.getD j (.int, 0)))) ∧ ∀ j, j < 28 → h.2.2.2 (aM z n) (jFd.getD j 0) = some (aJ z n j)
def mI (n k : Nat) : Int32 := if k = 0 then nI n else if k = 28 ∨ k = 29 ∨ k = 30 ∨ k = 36 then -1 else 0
theorem c28 {P : Nat → Prop} (h : P 0 ∧ P 1 ∧ P 2 ∧ P 3 ∧ P 4 ∧ P 5 ∧ P 6 ∧ P 7 ∧ P 8 ∧ P 9 ∧ P 10 ∧ P 11 ∧ P 12 ∧ P 13 ∧ P 14 ∧ P 15 ∧ P 16 ∧ P 17 ∧ P 18 ∧ P 19 ∧ P 20 ∧ P 21 ∧ P 22 ∧ P 23 ∧ P 24 ∧ P 25 ∧ P 26 ∧ P 27) : ∀ j, j < 28 → P j := by
  obtain ⟨p0, p1, p2, p3, p4, p5, p6, p7, p8, p9, p10, p11, p12, p13, p14, p15, p16, p17, p18, p19, p20, p21, p22, p23, p24, p25, p26, p27⟩ := h
  intro j hj
  rcases (show j = 0 ∨ j = 1 ∨ j = 2 ∨ j = 3 ∨ j = 4 ∨ j = 5 ∨ j = 6 ∨ j = 7 ∨ j = 8 ∨ j = 9 ∨ j = 10 ∨ j = 11 ∨ j = 12 ∨ j = 13 ∨ j = 14 ∨ j = 15 ∨ j = 16 ∨ j = 17 ∨ j = 18 ∨ j = 19 ∨ j = 20 ∨ j = 21 ∨ j = 22 ∨ j = 23 ∨ j = 24 ∨ j = 25 ∨ j = 26 ∨ j = 27 by omega) with rfl | rfl | rfl | rfl | rfl | rfl | rfl | rfl | rfl | rfl | rfl | rfl | rfl | rfl | rfl | rfl | rfl | rfl | rfl | rfl | rfl | rfl | rfl | rfl | rfl | rfl | rfl | rfl <;> assumption
theorem v_new8a {g : AH} (hg : g.1 = z + 12 + 3 * n) {v : Int32} (hv : mx 2 (mn 11 v) = nI n) : ∃ x, f_X8_init (newS g (.inl 8)) (aM z n) v = f_X8_init_266 FU x (aM z n) 0 ∧ Grow (aM z n) g x ∧ M8 z n x ∧ (∀ k, x.2.2.1 (aM z n) k = mI n k) ∧ ∀ j k, j < 28 → x.2.2.1 (aJ z n j) k = 0 := by
  have ea : g.1 = aM z n := by unfold aM; exact hg
  have h1 : (newS g (.inl 8)).1 = aM z n + 1 := by show g.1 + 1 = _; rw [ea]
  have sh : (newS g (.inl 8)).2.1 (aM z n) = some (.inl 8) := by rw [← ea]; exact nw_se
  have ih : ∀ k, (newS g (.inl 8)).2.2.1 (aM z n) k = 0 := fun k => by rw [← ea, nw_ie]
  have G0 : Grow (aM z n) g (newS g (.inl 8)) := Grow.new
  rw [x8_ch]
  generalize newS g (.inl 8) = h at h1 sh ih G0
  have b1 : ∀ x ∈ L1, x.1.2 < 2 ^ 31 := by decide
  have b2 : ∀ x ∈ L2, x.1.2 < 2 ^ 31 := by decide
  have b3 : ∀ x ∈ L3, x.1.2 < 2 ^ 31 := by decide
  -- first row
  rw [chA_ev L1 h _ b1 sh (by omega)]
  obtain ⟨G1, q1⟩ := arL_grow (a := aM z n) L1 h
  obtain ⟨i1, z1⟩ := arL_i (a := aM z n) L1 h (by omega)
  have S1 := arL_s (a := aM z n) L1 h
  have R1 := fun j hj => arL_r (a := aM z n) L1 h j hj (by omega) (by decide)
  have s1 := (G1.2.1 (aM z n) (by omega)).trans sh
  have len1 : L1.length = 19 := rfl
  generalize arL (aM z n) L1 h = x1 at G1 q1 i1 z1 S1 R1 s1
  rw [ev_pI s1, ev_pI (by simp only [sI_s]; exact s1), ev_pI (by simp only [sI_s]; exact s1)]
  have G2 : Grow (aM z n) x1 (setI (setI (setI x1 (aM z n) 28 (-1)) (aM z n) 29 (-1)) (aM z n) 30 (-1)) := (Grow.sI.tr Grow.sI).tr Grow.sI
  have i2 : ∀ k, (setI (setI (setI x1 (aM z n) 28 (-1)) (aM z n) 29 (-1)) (aM z n) 30 (-1)).2.2.1 (aM z n) k = if k = 28 ∨ k = 29 ∨ k = 30 then -1 else 0 := fun k => by
    simp only [sI_u, u2_eq, i1, ih]
    by_cases k1 : k = 30
    · rw [if_pos k1, if_pos (by omega)]
    · by_cases k2 : k = 29
      · rw [if_neg k1, if_pos k2, if_pos (by omega)]
      · by_cases k3 : k = 28
        · rw [if_neg k1, if_neg k2, if_pos k3, if_pos (by omega)]
        · rw [if_neg k1, if_neg k2, if_neg k3, if_neg (by omega)]
  have r2 : (setI (setI (setI x1 (aM z n) 28 (-1)) (aM z n) 29 (-1)) (aM z n) 30 (-1)).2.2.2 = x1.2.2.2 := rfl
  have q2 : (setI (setI (setI x1 (aM z n) 28 (-1)) (aM z n) 29 (-1)) (aM z n) 30 (-1)).1 = x1.1 := rfl
  have s2 : (setI (setI (setI x1 (aM z n) 28 (-1)) (aM z n) 29 (-1)) (aM z n) 30 (-1)).2.1 (aM z n) = some (.inl 8) := s1
  generalize setI (setI (setI x1 (aM z n) 28 (-1)) (aM z n) 29 (-1)) (aM z n) 30 (-1) = x2 at G2 i2 r2 q2 s2
  -- second
  rw [chA_ev L2 x2 _ b2 s2 (by omega)]
  obtain ⟨G3, q3⟩ := arL_grow (a := aM z n) L2 x2
  obtain ⟨i3', z3⟩ := arL_i (a := aM z n) L2 x2 (by omega)
  have S3 := arL_s (a := aM z n) L2 x2
  have R3 := fun j hj => arL_r (a := aM z n) L2 x2 j hj (by omega) (by decide)
  have N3 := fun k hk => arL_rn (a := aM z n) (k := k) L2 x2 (by omega) hk
  have s3 := (G3.2.1 (aM z n) (by omega)).trans s2
  have len2 : L2.length = 2 := rfl
  generalize arL (aM z n) L2 x2 = x3 at G3 q3 i3' z3 S3 R3 N3 s3
  rw [ev_pI s3]
  have G4 : Grow (aM z n) x3 (setI x3 (aM z n) 36 (-1)) := Grow.sI
  have i4' : ∀ k, (setI x3 (aM z n) 36 (-1)).2.2.1 (aM z n) k = if k = 28 ∨ k = 29 ∨ k = 30 ∨ k = 36 then -1 else 0 := fun k => by
    rw [sI_u, u2_eq]
    by_cases k1 : k = 36
    · rw [if_pos k1, if_pos (by omega)]
    · rw [if_neg k1, i3', i2]
      by_cases k2 : k = 28 ∨ k = 29 ∨ k = 30
      · rw [if_pos k2, if_pos (by omega)]
      · rw [if_neg k2, if_neg (by omega)]
  have r4 : (setI x3 (aM z n) 36 (-1)).2.2.2 = x3.2.2.2 := rfl
  have q4 : (setI x3 (aM z n) 36 (-1)).1 = x3.1 := rfl
  have s4 : (setI x3 (aM z n) 36 (-1)).2.1 (aM z n) = some (.inl 8) := s3
  generalize setI x3 (aM z n) 36 (-1) = x4 at G4 i4' r4 q4 s4
  -- third
  rw [chA_ev L3 x4 _ b3 s4 (by omega)]
  obtain ⟨G5, q5⟩ := arL_grow (a := aM z n) L3 x4
  obtain ⟨i5', z5⟩ := arL_i (a := aM z n) L3 x4 (by omega)
  have S5 := arL_s (a := aM z n) L3 x4
  have R5 := fun j hj => arL_r (a := aM z n) L3 x4 j hj (by omega) (by decide)
  have N5 := fun k hk => arL_rn (a := aM z n) (k := k) L3 x4 (by omega) hk
  have s5 := (G5.2.1 (aM z n) (by omega)).trans s4
  have len3 : L3.length = 7 := rfl
  generalize arL (aM z n) L3 x4 = x5 at G5 q5 i5' z5 S5 R5 N5 s5
  rw [ev_bd, ev_bd, hv, ev_pI s5]
  have G6 : Grow (aM z n) x5 (setI x5 (aM z n) 0 (nI n)) := Grow.sI
  have ad : ∀ j, aJ z n j = aM z n + 1 + j := fun j => by unfold aJ aM; omega
  have G56 := G5.tr G6
  have G46 := G4.tr G56
  have G36 := G3.tr G46
  have G26 := G2.tr G36
  refine ⟨_, rfl, (G0.tr G1).tr G26, ⟨?_, ?_, ?_, ?_⟩, fun k => ?_, fun j k hj => ?_⟩
  · show x5.1 = _
    rw [q5, q4, q3, q2, q1, h1, len1, len2, len3]
    unfold aM
    omega
  · exact s5
  · have t1 : ∀ j (hj : j < 19), (setI x5 (aM z n) 0 (nI n)).2.1 (aJ z n j) = some (.inr (L1[j]'hj).1) := fun j hj => by
      rw [G26.2.1 _ (by rw [ad]; omega), ad, ← h1]
      exact S1 j hj
    have t2 : ∀ j (hj : j < 2), (setI x5 (aM z n) 0 (nI n)).2.1 (aJ z n (19 + j)) = some (.inr (L2[j]'hj).1) := fun j hj => by
      rw [G46.2.1 _ (by rw [ad]; omega), ad, show aM z n + 1 + (19 + j) = x2.1 + j by omega]
      exact S3 j hj
    have t3 : ∀ j (hj : j < 7), (setI x5 (aM z n) 0 (nI n)).2.1 (aJ z n (21 + j)) = some (.inr (L3[j]'hj).1) := fun j hj => by
      rw [G6.2.1 _ (by rw [ad]; omega), ad, show aM z n + 1 + (21 + j) = x4.1 + j by omega]
      exact S5 j hj
    exact c28 ⟨t1 0 (by decide), t1 1 (by decide), t1 2 (by decide), t1 3 (by decide), t1 4 (by decide), t1 5 (by decide), t1 6 (by decide), t1 7 (by decide), t1 8 (by decide), t1 9 (by decide), t1 10 (by decide), t1 11 (by decide), t1 12 (by decide), t1 13 (by decide), t1 14 (by decide), t1 15 (by decide), t1 16 (by decide), t1 17 (by decide), t1 18 (by decide), t2 0 (by decide), t2 1 (by decide), t3 0 (by decide), t3 1 (by decide), t3 2 (by decide), t3 3 (by decide), t3 4 (by decide), t3 5 (by decide), t3 6 (by decide)⟩
  · have t1 : ∀ j (hj : j < 19), (∀ x ∈ L2, x.2 ≠ (L1[j]'hj).2) → (∀ x ∈ L3, x.2 ≠ (L1[j]'hj).2) → (setI x5 (aM z n) 0 (nI n)).2.2.2 (aM z n) (L1[j]'hj).2 = some (aJ z n j) := fun j hj c2 c3 => by
      rw [sI_r, N5 _ c3, r4, N3 _ c2, r2, R1 j hj, h1, ad]
    have t2 : ∀ j (hj : j < 2), (∀ x ∈ L3, x.2 ≠ (L2[j]'hj).2) → (setI x5 (aM z n) 0 (nI n)).2.2.2 (aM z n) (L2[j]'hj).2 = some (aJ z n (19 + j)) := fun j hj c3 => by
      rw [sI_r, N5 _ c3, r4, R3 j hj, ad, show aM z n + 1 + (19 + j) = x2.1 + j by omega]
    have t3 : ∀ j (hj : j < 7), (setI x5 (aM z n) 0 (nI n)).2.2.2 (aM z n) (L3[j]'hj).2 = some (aJ z n (21 + j)) := fun j hj => by
      rw [sI_r, R5 j hj, ad, show aM z n + 1 + (21 + j) = x4.1 + j by omega]
    exact c28 ⟨t1 0 (by decide) (by decide) (by decide), t1 1 (by decide) (by decide) (by decide), t1 2 (by decide) (by decide) (by decide), t1 3 (by decide) (by decide) (by decide), t1 4 (by decide) (by decide) (by decide), t1 5 (by decide) (by decide) (by decide), t1 6 (by decide) (by decide) (by decide), t1 7 (by decide) (by decide) (by decide), t1 8 (by decide) (by decide) (by decide), t1 9 (by decide) (by decide) (by decide), t1 10 (by decide) (by decide) (by decide), t1 11 (by decide) (by decide) (by decide), t1 12 (by decide) (by decide) (by decide), t1 13 (by decide) (by decide) (by decide), t1 14 (by decide) (by decide) (by decide), t1 15 (by decide) (by decide) (by decide), t1 16 (by decide) (by decide) (by decide), t1 17 (by decide) (by decide) (by decide), t1 18 (by decide) (by decide) (by decide), t2 0 (by decide) (by decide), t2 1 (by decide) (by decide), t3 0 (by decide), t3 1 (by decide), t3 2 (by decide), t3 3 (by decide), t3 4 (by decide), t3 5 (by decide), t3 6 (by decide)⟩
  · rw [sI_u, u2_eq]
    unfold mI
    by_cases k0 : k = 0
    · rw [if_pos k0, if_pos k0]
    · rw [if_neg k0, if_neg k0, i5', i4']
  · rcases Nat.lt_or_ge j 19 with a1 | a1
    · rw [G26.2.2.1 _ (by rw [ad]; omega) (by rw [ad]; omega), ad, ← h1]
      exact z1 j k a1
    · rcases Nat.lt_or_ge j 21 with a2 | a2
      · rw [G46.2.2.1 _ (by rw [ad]; omega) (by rw [ad]; omega), ad, show aM z n + 1 + j = x2.1 + (j - 19) by omega]
        exact z3 (j - 19) k (by omega)
      · rw [G6.2.2.1 _ (by rw [ad]; omega) (by rw [ad]; omega), ad, show aM z n + 1 + j = x4.1 + (j - 21) by omega]
        exact z5 (j - 21) k (by omega)
theorem l_266 {x : AH} (M : M8 z n x) : ∀ (m i : Nat) (h : AH), 11 - i < m → i ≤ 11 → Ag (fun a k => (a = aJ z n 1 ∨ a = aJ z n 2 ∨ a = aJ z n 8) ∧ k < 11) x h → (∀ j, j < i → h.2.2.1 (aJ z n 1) j = 100 ∧ h.2.2.1 (aJ z n 2) j = 50 ∧ h.2.2.1 (aJ z n 8) j = -1) → ∃ h', f_X8_init_266 m h (aM z n) (nI i) = some ((), h') ∧ Ag (fun a k => (a = aJ z n 1 ∨ a = aJ z n 2 ∨ a = aJ z n 8) ∧ k < 11) x h' ∧ ∀ j, j < 11 → h'.2.2.1 (aJ z n 1) j = 100 ∧ h'.2.2.1 (aJ z n 2) j = 50 ∧ h'.2.2.1 (aJ z n 8) j = -1 := by
  obtain ⟨-, sM, sJ, rJ⟩ := M
  have n12 : aJ z n 1 ≠ aJ z n 2 := by (first | omega | (simp only [aT, aN, aA, aJ, aM, aF, aFl, aFs]; omega))
  have n18 : aJ z n 1 ≠ aJ z n 8 := by (first | omega | (simp only [aT, aN, aA, aJ, aM, aF, aFl, aFs]; omega))
  have n28 : aJ z n 2 ≠ aJ z n 8 := by (first | omega | (simp only [aT, aN, aA, aJ, aM, aF, aFl, aFs]; omega))
  intro m
  induction m with
  | zero => intro i h h1; omega
  | succ m ih =>
    intro i h h1 h2 p hd
    have tM : h.2.1 (aM z n) = some (.inl 8) := by rw [p.2.1]; exact sM
    have t1 : h.2.1 (aJ z n 1) = some (.inr (.int, 11)) := by rw [p.2.1]; exact sJ 1 (by omega)
    have t2 : h.2.1 (aJ z n 2) = some (.inr (.int, 11)) := by rw [p.2.1]; exact sJ 2 (by omega)
    have t8 : h.2.1 (aJ z n 8) = some (.inr (.int, 11)) := by rw [p.2.1]; exact sJ 8 (by omega)
    have r1 : h.2.2.2 (aM z n) 5 = some (aJ z n 1) := by rw [p.2.2.1]; exact rJ 1 (by omega)
    have r2 : h.2.2.2 (aM z n) 6 = some (aJ z n 2) := by rw [p.2.2.1]; exact rJ 2 (by omega)
    have r8 : h.2.2.2 (aM z n) 12 = some (aJ z n 8) := by rw [p.2.2.1]; exact rJ 8 (by omega)
    unfold f_X8_init_266
    by_cases hi : i < 11
    · rw [if_neg (show ¬ (11 : Int32) ≤ nI i from fun q => by have := (nI_le_iff (a := 11) (by omega) (by omega)).mp q; omega), ev_gR tM, r1, ev_sI t1 hi (by omega), vn_i, ev_gR (by rw [sI_s]; exact tM), sI_r, r2, ev_sI (by rw [sI_s]; exact t2) hi (by omega), vn_i, ev_gR (by simp only [sI_s]; exact tM)]
      simp only [sI_r]
      rw [r8, ev_sI (by simp only [sI_s]; exact t8) hi (by omega), vn_i, ev_bd, nI_1]
      refine ih (i + 1) _ (by omega) (by omega) (((p.set ⟨Or.inl rfl, hi⟩).set ⟨Or.inr (Or.inl rfl), hi⟩).set ⟨Or.inr (Or.inr rfl), hi⟩) (fun j hj => ?_)
      simp only [sI_u, u2_ne _ _ n18, u2_ne _ _ n12, u2_ne _ _ n28, u2_ne _ _ n12.symm, u2_ne _ _ n18.symm, u2_ne _ _ n28.symm]
      by_cases e : j = i
      · subst e
        rw [u2s, u2s, u2s]
        exact ⟨rfl, rfl, rfl⟩
      · simp only [u2n (Or.inr e)]
        exact hd j (by omega)
    · have e : i = 11 := by omega
      subst e
      rw [if_pos (show (11 : Int32) ≤ nI 11 by decide)]
      exact ⟨h, rfl, p, hd⟩
/-- both are made, and alike -/
theorem v_new (v : Int32) : ∃ n g h, f_X7_init (newS (z, fun _ => none, fun _ _ => 0, fun _ _ => none) (.inl 7)) z v = some ((), g) ∧ g.1 = aM z n ∧ g.2.1 z = some (.inl 7) ∧ f_X8_init (newS g (.inl 8)) (aM z n) v = some ((), h) ∧ Cpl z n 0 0 0 h := by
  obtain ⟨n, g, ⟨h2, h11⟩, hv, e1, C⟩ := v_new7 (z := z) v
  obtain ⟨c1, ⟨S0, S1, S2, S3, S4, S5, S6, S7, S8, S9, SF, SG⟩, ⟨R0, R1, R2, R3, R4, R5, R6, R10, R20, R40, R60, RF0, RF1, RF2⟩, ⟨z7, z8, z9, z10, z11, z12, z13, z14⟩, ⟨y2, y3, y41, y42, y43, y44, y80, y81, y82, y83⟩, T⟩ := C
  obtain ⟨x, e2, G, M, iM, iJ⟩ := v_new8a (z := z) (n := n) c1 hv
  obtain ⟨h, e3, p, v3⟩ := l_266 M FU 0 x (by rw [fu_big]; omega) (by omega) Ag.rf (fun j hj => by omega)
  have aMe : aM z n = z + 12 + 3 * n := rfl
  refine ⟨n, g, h, e1, c1, S0, e2.trans e3, ⟨h2, h11, by omega, by omega, by omega⟩, ?_, ?_, ?_, ?_, ?_, ?_, ?_, ?_, ?_⟩
  · refine ⟨?_, ?_, ?_, ?_, ?_, ?_, ?_, ?_, ?_, ?_, ?_, fun i hi => ⟨?_, ?_, ?_⟩, ?_, ?_, ?_, fun j hj => ?_, fun f hf => absurd hf (Nat.not_lt_zero f)⟩
    · rw [p.1, M.1]; rfl
    · rw [p.2.1, G.2.1 _ (by omega)]; exact S0
    · rw [p.2.1, G.2.1 _ (by omega)]; exact S1
    · rw [p.2.1, G.2.1 _ (by omega)]; exact S2
    · rw [p.2.1, G.2.1 _ (by omega)]; exact S3
    · rw [p.2.1, G.2.1 _ (by omega)]; exact S4
    · rw [p.2.1, G.2.1 _ (by omega)]; exact S5
    · rw [p.2.1, G.2.1 _ (by omega)]; exact S6
    · rw [p.2.1, G.2.1 _ (by omega)]; exact S7
    · rw [p.2.1, G.2.1 _ (by omega)]; exact S8
    · rw [p.2.1, G.2.1 _ (by omega)]; exact S9
    · rw [p.2.1, G.2.1 _ (by unfold aT; omega)]; exact (T i hi).1.1
    · rw [p.2.1, G.2.1 _ (by unfold aN; omega)]; exact (T i hi).1.2.1
    · rw [p.2.1, G.2.1 _ (by unfold aA; omega)]; exact (T i hi).1.2.2
    · rw [p.2.1, G.2.1 _ (by unfold aFl; omega)]; exact SF
    · rw [p.2.1, G.2.1 _ (by unfold aFs; omega)]; exact SG
    · rw [p.2.1]; exact M.2.1
    · rw [p.2.1]; exact M.2.2.1 j hj
  · have r : ∀ a, a < z + 12 + 3 * n → h.2.2.2 a = g.2.2.2 a := fun a ha => by rw [p.2.2.1, G.2.2.2 a (by omega) (by omega)]
    refine ⟨?_, ?_, ?_, ?_, ?_, ?_, ?_, ?_, ?_, ?_, ?_, ?_, ?_, fun i hi => ⟨?_, ?_, ?_, ?_⟩, fun f hf => ?_, fun j hj => ?_⟩
    · rw [r _ (by omega)]; exact R0
    · rw [r _ (by omega)]; exact R1
    · rw [r _ (by omega)]; exact R2
    · rw [r _ (by omega)]; exact R3
    · rw [r _ (by omega)]; exact R4
    · rw [r _ (by omega)]; exact R5
    · rw [r _ (by omega)]; exact R6
    · rw [r _ (by omega)]; exact R20
    · rw [r _ (by omega)]; exact R40
    · rw [r _ (by omega)]; exact R60
    · rw [r _ (by unfold aFl; omega)]; exact RF0
    · rw [r _ (by unfold aFl; omega)]; exact RF1
    · rw [r _ (by unfold aFl; omega)]; exact RF2
    · rw [r _ (by omega)]; exact (T i hi).2.2.2.2
    · rw [r _ (by unfold aT; omega)]; exact (T i hi).2.2.1.1
    · rw [r _ (by unfold aT; omega)]; exact (T i hi).2.2.1.2.1
    · rw [r _ (by unfold aT; omega)]; exact (T i hi).2.2.1.2.2.1
    · rw [r _ (by omega), if_neg (Nat.not_lt_zero f)]; exact R10 f
    · rw [p.2.2.1]; exact M.2.2.2 j hj
  · have ic : ∀ a, a < z + 12 + 3 * n → h.2.2.1 a = g.2.2.1 a := fun a ha => funext (fun k => by rw [p.2.2.2 a k (by (first | omega | (simp only [aT, aN, aA, aJ, aM, aF, aFl, aFs]; omega))), G.2.2.1 a (by omega) (by omega)])
    have ij : ∀ j, j < 28 → j ≠ 1 → j ≠ 2 → j ≠ 8 → ∀ k, h.2.2.1 (aJ z n j) k = 0 := fun j hj j1 j2 j8 k => by rw [p.2.2.2 _ k (by (first | omega | (simp only [aT, aN, aA, aJ, aM, aF, aFl, aFs]; omega)))]; exact iJ j k hj
    intro i hi
    obtain ⟨-, ⟨t0, t4, t5, t6, t7, t8⟩, -, ⟨u0, u1, u2', u3, u4⟩, -⟩ := T i hi
    obtain ⟨w1, w2, w8⟩ := v3 i (by omega)
    rw [ic (aT z n i) (by unfold aT; omega), ic (aN z n i) (by unfold aN; omega), w1, w2, w8, ij 0 (by omega) (by omega) (by omega) (by omega), ij 3 (by omega) (by omega) (by omega) (by omega), ij 4 (by omega) (by omega) (by omega) (by omega), ij 5 (by omega) (by omega) (by omega) (by omega), ij 6 (by omega) (by omega) (by omega) (by omega), ij 7 (by omega) (by omega) (by omega) (by omega), ij 9 (by omega) (by omega) (by omega) (by omega)]
    exact ⟨t0, t4, t5, t6, t7, t8, u0, u1, u2', u3, u4, ⟨0, by omega, rfl⟩, Or.inl rfl⟩
  · exact fun f hf => absurd hf (Nat.not_lt_zero f)
  · have ic : ∀ a, a < z + 12 + 3 * n → h.2.2.1 a = g.2.2.1 a := fun a ha => funext (fun k => by rw [p.2.2.2 a k (by (first | omega | (simp only [aT, aN, aA, aJ, aM, aF, aFl, aFs]; omega))), G.2.2.1 a (by omega) (by omega)])
    have im : ∀ k, h.2.2.1 (aM z n) k = mI n k := fun k => by rw [p.2.2.2 _ k (by (first | omega | (simp only [aT, aN, aA, aJ, aM, aF, aFl, aFs]; omega)))]; exact iM k
    unfold CX
    rw [ic z (by omega), ic (z + 8) (by omega), ic (z + 2) (by omega), im, im, im, im, im, im, im, im, im, im, im, im, im, im]
    exact ⟨z7, z8, z9, z10, z11, z12, z13, z14, rfl, rfl, rfl, y80, y81, y82, y83, y2, rfl⟩
  · intro i hi
    rw [p.2.2.2 (z + 3) i (by (first | omega | (simp only [aT, aN, aA, aJ, aM, aF, aFl, aFs]; omega))), G.2.2.1 (z + 3) (by omega) (by omega), y3, p.2.2.2 (aJ z n 19) i (by (first | omega | (simp only [aT, aN, aA, aJ, aM, aF, aFl, aFs]; omega))), iJ 19 i (by omega)]
    exact ⟨rfl, by decide⟩
  · have i4 : ∀ k, h.2.2.1 (z + 4) k = g.2.2.1 (z + 4) k := fun k => by rw [p.2.2.2 (z + 4) k (by (first | omega | (simp only [aT, aN, aA, aJ, aM, aF, aFl, aFs]; omega))), G.2.2.1 (z + 4) (by omega) (by omega)]
    refine ⟨0, by omega, (i4 1).trans y41, Or.inl ((i4 4).trans y44), Or.inl ⟨?_, rfl, (i4 2).trans y42, (i4 3).trans y43, (i4 4).trans y44⟩⟩
    rw [p.2.2.2 _ 38 (by (first | omega | (simp only [aT, aN, aA, aJ, aM, aF, aFl, aFs]; omega))), iM]
    rfl
  · have ij : ∀ j, j < 28 → j ≠ 1 → j ≠ 2 → j ≠ 8 → ∀ k, h.2.2.1 (aJ z n j) k = 0 := fun j hj j1 j2 j8 k => by rw [p.2.2.2 _ k (by (first | omega | (simp only [aT, aN, aA, aJ, aM, aF, aFl, aFs]; omega)))]; exact iJ j k hj
    refine ⟨fun o ho => ?_, fun f _ _ => ⟨?_, ?_, ?_⟩⟩
    · rw [ij 18 (by omega) (by omega) (by omega) (by omega), sumF]
    · exact ij 14 (by omega) (by omega) (by omega) (by omega) f
    · exact ij 15 (by omega) (by omega) (by omega) (by omega) f
    · exact ij 16 (by omega) (by omega) (by omega) (by omega) f
  · intro i hi
    rw [p.2.2.1, G.2.2.2 (aT z n i) (by unfold aT; omega) (by unfold aT; omega), (T i hi).2.2.1.2.2.2]
    rfl
end N8
