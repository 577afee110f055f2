/-! ===== a new field ===== -/
theorem ordp_congr {z n i : Nat} {I I' : Nat → Nat → Int32} (hs : fsts z I' = fsts z I) : ∀ m, (∀ f, f < m → I' (aJ z n 10) f = I (aJ z n 10) f ∧ I' (aJ z n 11) f = I (aJ z n 11) f ∧ I' (aJ z n 12) f = I (aJ z n 12) f ∧ I' (aJ z n 17) f = I (aJ z n 17) f) → ordp z n I' i m = ordp z n I i m := by
  intro m
  induction m with
  | zero => intro _; rw [ordp_0, ordp_0]
  | succ m ih =>
    intro h
    have kk : ∀ f, f < m + 1 → ∀ c, ky z n I' c f = ky z n I c f := by
      intro f hf c
      obtain ⟨-, e11, e12, e17⟩ := h f hf
      rw [ky, ky, e11, e12, e17]
    rw [ordp_s, ordp_s, (h m (by omega)).1, ih (fun f hf => h f (by omega)), hs]
    rw [insL_congr _ (fun g hg => ahd_congr _ (kk m (by omega)) (kk g (by have := ((ordp_mem m g).mp hg).1; omega)))]
section FLD
variable {z n nf dN hN : Nat} {h h' : AH}
theorem WS_new (W : WS z n nf h) (e1 : h'.1 = h.1 + 1) (e2 : h'.2.1 = fun a => if a = h.1 then some (.inl 1) else h.2.1 a) : WS z n (nf + 1) h' := by
  have q0 : h.1 = z + 41 + 3 * n + nf := W.1
  have q : ∀ a, a < z + 41 + 3 * n + nf → h'.2.1 a = h.2.1 a := fun a ha => by
    rw [e2]
    exact if_neg (by omega)
  refine ⟨by rw [e1, q0]; omega, ?_, ?_, ?_, ?_, ?_, ?_, ?_, ?_, ?_, ?_, fun i hi => ⟨?_, ?_, ?_⟩, ?_, ?_, ?_, fun j hj => ?_, fun f hf => ?_⟩
  · rw [q _ (by omega)]; exact W_z W
  · rw [q _ (by omega)]; exact W_fa W
  · rw [q _ (by omega)]; exact W_tp W
  · rw [q _ (by omega)]; exact W_tb W
  · rw [q _ (by omega)]; exact W_cu W
  · rw [q _ (by omega)]; exact W_cf W
  · rw [q _ (by omega)]; exact W_dr W
  · rw [q _ (by omega)]; exact W_df W
  · rw [q _ (by omega)]; exact W_ev W
  · rw [q _ (by omega)]; exact W_ta W
  · rw [q _ (by unfold aT; omega)]; exact W_T W hi
  · rw [q _ (by unfold aN; omega)]; exact W_N W hi
  · rw [q _ (by unfold aA; omega)]; exact W_A W hi
  · rw [q _ (by unfold aFl; omega)]; exact W_fl W
  · rw [q _ (by unfold aFs; omega)]; exact W_fs W
  · rw [q _ (by unfold aM; omega)]; exact W_M W
  · rw [q _ (by unfold aJ; omega)]; exact W.2.2.2.2.2.2.2.2.2.2.2.2.2.2.2.1 j hj
  · by_cases e : f = nf
    · subst e
      rw [e2]
      exact if_pos (by rw [q0]; unfold aF; omega)
    · rw [q _ (by unfold aF; omega)]; exact W_F W (by omega)
theorem WR_new (V : WR z n nf h) (e : ∀ a k, a ≤ z + 12 + 3 * n → (a = z + 1 → k ≠ nf) → (z + 10 ≤ a → a < z + 10 + 3 * n → k ≠ 9) → h'.2.2.2 a k = h.2.2.2 a k) (e1 : h'.2.2.2 (z + 1) nf = some (aF z n nf)) : WR z n (nf + 1) h' := by
  refine ⟨?_, ?_, ?_, ?_, ?_, ?_, ?_, ?_, ?_, ?_, ?_, ?_, ?_, fun i hi => ⟨?_, ?_, ?_, ?_⟩, fun f hf => ?_, fun j hj => ?_⟩
  · rw [e _ _ (by omega) (by omega) (by omega)]; exact V_ta V
  · rw [e _ _ (by omega) (by omega) (by omega)]; exact V_fa V
  · rw [e _ _ (by omega) (by omega) (by omega)]; exact V_tp V
  · rw [e _ _ (by omega) (by omega) (by omega)]; exact V_cu V
  · rw [e _ _ (by omega) (by omega) (by omega)]; exact V_dr V
  · rw [e _ _ (by omega) (by omega) (by omega)]; exact V_fl V
  · rw [e _ _ (by omega) (by omega) (by omega)]; exact V_ev V
  · rw [e _ _ (by omega) (by omega) (by omega)]; exact V_tb V
  · rw [e _ _ (by omega) (by omega) (by omega)]; exact V_cf V
  · rw [e _ _ (by omega) (by omega) (by omega)]; exact V_df V
  · rw [e _ _ (by unfold aFl; omega) (by unfold aFl; omega) (by unfold aFl; omega)]; exact V_fl0 V
  · rw [e _ _ (by unfold aFl; omega) (by unfold aFl; omega) (by unfold aFl; omega)]; exact V_fl1 V
  · rw [e _ _ (by unfold aFl; omega) (by unfold aFl; omega) (by unfold aFl; omega)]; exact V_fl2 V
  · rw [e _ _ (by omega) (by omega) (by omega)]; exact V_tai V hi
  · rw [e _ _ (by unfold aT; omega) (by unfold aT; omega) (by omega)]; exact V_bel V hi
  · rw [e _ _ (by unfold aT; omega) (by unfold aT; omega) (by omega)]; exact V_N V hi
  · rw [e _ _ (by unfold aT; omega) (by unfold aT; omega) (by omega)]; exact V_A V hi
  · by_cases q : f = nf
    · subst q
      rw [e1, if_pos (by omega)]
    · rw [e _ _ (by omega) (by omega) (by omega), V_fai V hf]
      by_cases q2 : f < nf
      · rw [if_pos q2, if_pos (by omega)]
      · rw [if_neg q2, if_neg (by omega)]
  · rw [e _ _ (by unfold aM; omega) (by unfold aM; omega) (by unfold aM; omega)]
    exact V.2.2.2.2.2.2.2.2.2.2.2.2.2.2.2 j hj
/-- all that a new field changes -/
theorem Cpl_new (C : Cpl z n nf dN hN h) (hnf : nf < 40) {i : Nat} (hi : i < n) {q2 q3 q4 : Nat} (b2 : q2 ≤ 9) (b3 : 1 ≤ q3 ∧ q3 ≤ 20) (b4 : q4 ≤ 9) {x5 : Int32} (b5 : x5 = 0 ∨ x5 = 1) (W' : WS z n (nf + 1) h') (V' : WR z n (nf + 1) h')
    (eO : ∀ a, a ≠ aF z n nf → a ≠ z → a ≠ aM z n → (∀ j, (j = 10 ∨ j = 11 ∨ j = 12 ∨ j = 13 ∨ j = 17) → a ≠ aJ z n j) → h'.2.2.1 a = h.2.2.1 a)
    (eF : h'.2.2.1 (aF z n nf) 0 = nI nf ∧ h'.2.2.1 (aF z n nf) 1 = nI i ∧ h'.2.2.1 (aF z n nf) 2 = nI q2 ∧ h'.2.2.1 (aF z n nf) 3 = nI q3 ∧ h'.2.2.1 (aF z n nf) 4 = nI q4 ∧ h'.2.2.1 (aF z n nf) 5 = x5 ∧ h'.2.2.1 (aF z n nf) 9 = 0 ∧ h'.2.2.1 (aF z n nf) 10 = 0 ∧ h'.2.2.1 (aF z n nf) 11 = 0)
    (eJ : h'.2.2.1 (aJ z n 10) nf = nI i ∧ h'.2.2.1 (aJ z n 11) nf = nI q2 ∧ h'.2.2.1 (aJ z n 12) nf = nI q3 ∧ h'.2.2.1 (aJ z n 13) nf = nI q4 ∧ h'.2.2.1 (aJ z n 17) nf = x5)
    (eJ' : ∀ j, (j = 10 ∨ j = 11 ∨ j = 12 ∨ j = 13 ∨ j = 17) → ∀ k, k ≠ nf → h'.2.2.1 (aJ z n j) k = h.2.2.1 (aJ z n j) k)
    (eM : h'.2.2.1 (aM z n) 3 = nI (nf + 1) ∧ ∀ k, k ≠ 3 → h'.2.2.1 (aM z n) k = h.2.2.1 (aM z n) k)
    (eZ : h'.2.2.1 z 7 = nI (nf + 1) ∧ ∀ k, k ≠ 7 → h'.2.2.1 z k = h.2.2.1 z k)
    (cI : Chn z n h'.2.2.2 (h'.2.2.2 (aT z n i) 9) (insL (ahd (kyC z n h'.2.2.1) (fsts z h'.2.2.1)) nf (ordl z n nf h.2.2.1 i)))
    (eR : ∀ a k, (a ≠ aT z n i ∨ k ≠ 9) → (k = 6 → ∀ g, (g = nf ∨ g ∈ ordl z n nf h.2.2.1 i) → a ≠ aF z n g) → (a ≠ z + 1 ∨ k ≠ nf) → a ≠ aF z n nf → h'.2.2.2 a k = h.2.2.2 a k) : Cpl z n (nf + 1) dN hN h' := by
  obtain ⟨b, W, V, ct, cf, cx, cp, cc, co, ch⟩ := C
  have eJo : ∀ j, j < 10 ∨ j = 14 ∨ j = 15 ∨ j = 16 ∨ j = 18 ∨ j = 19 ∨ j = 21 → h'.2.2.1 (aJ z n j) = h.2.2.1 (aJ z n j) := fun j hj => eO _ (by (first | omega | (simp only [aT, aN, aA, aJ, aM, aF, aFl, aFs]; omega))) (by (first | omega | (simp only [aT, aN, aA, aJ, aM, aF, aFl, aFs]; omega))) (by (first | omega | (simp only [aT, aN, aA, aJ, aM, aF, aFl, aFs]; omega))) (fun j' hj' => by (first | omega | (simp only [aT, aN, aA, aJ, aM, aF, aFl, aFs]; omega)))
  have eFo : ∀ f, f < nf → h'.2.2.1 (aF z n f) = h.2.2.1 (aF z n f) := fun f hf => eO _ (by (first | omega | (simp only [aT, aN, aA, aJ, aM, aF, aFl, aFs]; omega))) (by (first | omega | (simp only [aT, aN, aA, aJ, aM, aF, aFl, aFs]; omega))) (by (first | omega | (simp only [aT, aN, aA, aJ, aM, aF, aFl, aFs]; omega))) (fun j' hj' => by (first | omega | (simp only [aT, aN, aA, aJ, aM, aF, aFl, aFs]; omega)))
  have ez : ∀ d, 1 ≤ d → d ≤ 9 → h'.2.2.1 (z + d) = h.2.2.1 (z + d) := fun d h1 h2 => eO _ (by (first | omega | (simp only [aT, aN, aA, aJ, aM, aF, aFl, aFs]; omega))) (by (first | omega | (simp only [aT, aN, aA, aJ, aM, aF, aFl, aFs]; omega))) (by (first | omega | (simp only [aT, aN, aA, aJ, aM, aF, aFl, aFs]; omega))) (fun j' hj' => by (first | omega | (simp only [aT, aN, aA, aJ, aM, aF, aFl, aFs]; omega)))
  have hfs : fsts z h'.2.2.1 = fsts z h.2.2.1 := by simp only [fsts, ez 4 (by omega) (by omega), ez 5 (by omega) (by omega)]
  have cf' : CF z n (nf + 1) h'.2.2.1 := by
    intro f hf
    by_cases e : f = nf
    · subst e
      obtain ⟨f0, f1, f2, f3, f4, f5, f9, f10, f11⟩ := eF
      obtain ⟨j0, j1, j2, j3, j4⟩ := eJ
      obtain ⟨z1, z2, z3⟩ := co.2 f (Nat.le_refl f) hnf
      rw [f0, f1, f2, f3, f4, f5, f9, f10, f11, j0, j1, j2, j3, j4, eJo 14 (by omega), eJo 15 (by omega), eJo 16 (by omega), z1, z2, z3]
      exact ⟨rfl, rfl, rfl, rfl, rfl, rfl, rfl, rfl, rfl, ⟨i, hi, rfl⟩, ⟨q2, b2, rfl⟩, ⟨q3, b3.1, b3.2, rfl⟩, ⟨q4, b4, rfl⟩, b5⟩
    · rw [eFo f (by omega), eJ' 10 (by omega) f e, eJ' 11 (by omega) f e, eJ' 12 (by omega) f e, eJ' 13 (by omega) f e, eJ' 17 (by omega) f e, eJo 14 (by omega), eJo 15 (by omega), eJo 16 (by omega)]
      exact cf f (by omega)
  have hnn : ∀ f, f < nf → f ≠ nf := fun f hf => by omega
  have hop : ∀ j, ordp z n h'.2.2.1 j nf = ordl z n nf h.2.2.1 j := fun j => ordp_congr hfs nf (fun f hf => ⟨eJ' 10 (by omega) f (hnn f hf), eJ' 11 (by omega) f (hnn f hf), eJ' 12 (by omega) f (hnn f hf), eJ' 17 (by omega) f (hnn f hf)⟩)
  refine ⟨⟨b.1, b.2.1, by omega, b.2.2.2⟩, W', V', ?_, cf', ?_, ?_, ?_, ⟨fun o ho => ?_, fun f h1 h2 => ?_⟩, fun j hj => ?_⟩
  · intro j hj
    rw [eO (aT z n j) (by (first | omega | (simp only [aT, aN, aA, aJ, aM, aF, aFl, aFs]; omega))) (by (first | omega | (simp only [aT, aN, aA, aJ, aM, aF, aFl, aFs]; omega))) (by (first | omega | (simp only [aT, aN, aA, aJ, aM, aF, aFl, aFs]; omega))) (fun j' hj' => by (first | omega | (simp only [aT, aN, aA, aJ, aM, aF, aFl, aFs]; omega))), eO (aN z n j) (by (first | omega | (simp only [aT, aN, aA, aJ, aM, aF, aFl, aFs]; omega))) (by (first | omega | (simp only [aT, aN, aA, aJ, aM, aF, aFl, aFs]; omega))) (by (first | omega | (simp only [aT, aN, aA, aJ, aM, aF, aFl, aFs]; omega))) (fun j' hj' => by (first | omega | (simp only [aT, aN, aA, aJ, aM, aF, aFl, aFs]; omega))), eJo 0 (by omega), eJo 1 (by omega), eJo 2 (by omega), eJo 3 (by omega), eJo 4 (by omega), eJo 5 (by omega), eJo 6 (by omega), eJo 7 (by omega), eJo 8 (by omega), eJo 9 (by omega)]
    exact ct j hj
  · unfold CX
    rw [eZ.1, eM.1, eZ.2 8 (by omega), eZ.2 9 (by omega), eZ.2 10 (by omega), eZ.2 11 (by omega), eZ.2 12 (by omega), eZ.2 13 (by omega), eZ.2 14 (by omega), ez 8 (by omega) (by omega), ez 2 (by omega) (by omega), eM.2 0 (by omega), eM.2 1 (by omega), eM.2 2 (by omega), eM.2 23 (by omega), eM.2 24 (by omega), eM.2 25 (by omega), eM.2 26 (by omega), eM.2 27 (by omega), eM.2 28 (by omega), eM.2 29 (by omega), eM.2 30 (by omega), eM.2 33 (by omega), eM.2 36 (by omega)]
    obtain ⟨-, x⟩ := cx
    obtain ⟨x1, x2, x3, x4, x5, x6, x7, x8, x9, -, x10⟩ := x
    exact ⟨rfl, x1, x2, x3, x4, x5, x6, x7, x8, x9, rfl, x10⟩
  · unfold CP
    rw [ez 3 (by omega) (by omega), eJo 19 (by omega)]
    exact cp
  · unfold CC
    rw [ez 4 (by omega) (by omega), ez 5 (by omega) (by omega), eM.2 38 (by omega), eJo 21 (by omega)]
    exact cc
  · rw [eJo 18 (by omega), co.1 o ho, sumF, eJo 14 (by omega), (co.2 nf (Nat.le_refl nf) hnf).1]
    have : (if h'.2.2.1 (aJ z n 13) nf = nI o then h'.2.2.1 (aJ z n 12) nf * 0 else 0) = (0 : Int32) := by
      split
      · exact Int32.mul_zero
      · rfl
    rw [this, Int32.add_zero]
    exact sumF_congr (fun f hf => by rw [eJ' 13 (by omega) f (hnn f hf), eJ' 12 (by omega) f (hnn f hf)])
  · rw [eJo 14 (by omega), eJo 15 (by omega), eJo 16 (by omega)]
    exact co.2 f (by omega) h2
  · rw [← ordp_nf, ordp_s, hop j, eJ.1]
    by_cases e : i = j
    · subst e
      rw [if_pos rfl]
      have kk : ∀ f, f < nf + 1 → ∀ c, ky z n h'.2.2.1 c f = kyC z n h'.2.2.1 c f := by
        intro f hf c
        obtain ⟨-, -, c2, c3, -, c5, -⟩ := cf' f hf
        rw [ky, kyC, c2, c3, c5]
      rw [insL_congr _ (fun g hg => ahd_congr _ (kk nf (by omega)) (kk g (by have := (ordl_mem.mp hg).1; omega)))]
      exact cI
    · rw [if_neg (fun q => e (nI_inj (by omega) (by omega) q))]
      have ne : aT z n j ≠ aT z n i := by unfold aT; omega
      rw [eR _ _ (Or.inl ne) (fun q => by omega) (Or.inl (by (first | omega | (simp only [aT, aN, aA, aJ, aM, aF, aFl, aFs]; omega)))) (by (first | omega | (simp only [aT, aN, aA, aJ, aM, aF, aFl, aFs]; omega)))]
      refine Chn_congr _ _ (ch j hj) (fun x hx => ?_)
      obtain ⟨x1, x2⟩ := ordl_mem.mp hx
      refine eR _ _ (Or.inr (by omega)) (fun _ g hg q => ?_) (Or.inl (by (first | omega | (simp only [aT, aN, aA, aJ, aM, aF, aFl, aFs]; omega)))) (by (first | omega | (simp only [aT, aN, aA, aJ, aM, aF, aFl, aFs]; omega)))
      have : x = g := by unfold aF at q; omega
      subst this
      rcases hg with hg | hg
      · omega
      · have := (ordl_mem.mp hg).2
        rw [x2] at this
        exact e (nI_inj (by omega) (by omega) this).symm
end FLD
