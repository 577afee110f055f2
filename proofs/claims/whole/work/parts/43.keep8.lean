/-! ===== the day: what the reference keeps of the fields ===== -/
theorem sumF_upd {g g' : Nat → Int32} {f : Nat} {d : Int32} : ∀ m, f < m → (∀ x, x < m → x ≠ f → g' x = g x) → g' f = g f + d → sumF m g' = sumF m g + d := by
  intro m
  induction m with
  | zero => intro h; omega
  | succ m ih =>
    intro h1 h2 h3
    rw [sumF, sumF]
    by_cases e : f = m
    · subst e
      rw [h3, sumF_congr (fun x hx => h2 x (by omega) (by omega)), Int32.add_assoc]
    · rw [ih (by omega) (fun x hx => h2 x (by omega)) h3, h2 m (by omega) (by omega), Int32.add_assoc, Int32.add_comm d, Int32.add_assoc]
def g297e (k_12 : AH → Nat → Option Nat → Option Nat → Option Nat → Int32 → Int32 → Int32 → Int32 → Int32 → Int32 → Option (Int32 × AH)) (h : AH) (l0 : Nat) (l1 l2 l3 : Option Nat) (l4 l5 l6 l7 l8 l9 l14 : Int32) : Option (Int32 × AH) := if l14 = 0 then f_X8_flows_483 k_12 h l0 l1 l2 l3 l4 l5 l6 l7 l8 l9 else gR h (some l0) 8 12 (fun v23 => gI h (some l0) 8 1 (fun v24 => sI .int h v23 l9 v24 (fun h25 => if l8 = 0 then pI h25 (some l0) 8 28 l9 (fun h26 => f_X8_flows_466 k_12 h26 l0 l1 l2 l3 l4 l5 l6 l7 l8 l9) else f_X8_flows_466 k_12 h25 l0 l1 l2 l3 l4 l5 l6 l7 l8 l9)))
def r8 (z n a _k : Nat) : Prop := (z + 27 + 3 * n ≤ a ∧ a ≤ z + 29 + 3 * n) ∨ a = z + 31 + 3 * n
section K8
variable {z n nf : Nat} {h hA : AH}
theorem CO_step {I : Nat → Nat → Int32} {f q : Nat} {x y e : Int32} (C : CO z n nf I) (hf : f < nf) (hnf : nf ≤ 40) (hq : q ≤ 9) (h13 : I (aJ z n 13) f = nI q) : CO z n nf (u2 (u2 (u2 (u2 I (aJ z n 16) f x) (aJ z n 15) f y) (aJ z n 14) f (I (aJ z n 14) f + e)) (aJ z n 18) q (I (aJ z n 18) q + I (aJ z n 12) f * e)) := by
  have a1 : aJ z n 13 ≠ aJ z n 14 := by (first | omega | (simp only [aT, aN, aA, aJ, aM, aF, aFl, aFs]; omega))
  have a2 : aJ z n 13 ≠ aJ z n 15 := by (first | omega | (simp only [aT, aN, aA, aJ, aM, aF, aFl, aFs]; omega))
  have a3 : aJ z n 13 ≠ aJ z n 16 := by (first | omega | (simp only [aT, aN, aA, aJ, aM, aF, aFl, aFs]; omega))
  have a4 : aJ z n 13 ≠ aJ z n 18 := by (first | omega | (simp only [aT, aN, aA, aJ, aM, aF, aFl, aFs]; omega))
  have c1 : aJ z n 12 ≠ aJ z n 14 := by (first | omega | (simp only [aT, aN, aA, aJ, aM, aF, aFl, aFs]; omega))
  have c2 : aJ z n 12 ≠ aJ z n 15 := by (first | omega | (simp only [aT, aN, aA, aJ, aM, aF, aFl, aFs]; omega))
  have c3 : aJ z n 12 ≠ aJ z n 16 := by (first | omega | (simp only [aT, aN, aA, aJ, aM, aF, aFl, aFs]; omega))
  have c4 : aJ z n 12 ≠ aJ z n 18 := by (first | omega | (simp only [aT, aN, aA, aJ, aM, aF, aFl, aFs]; omega))
  have d2 : aJ z n 14 ≠ aJ z n 15 := by (first | omega | (simp only [aT, aN, aA, aJ, aM, aF, aFl, aFs]; omega))
  have d3 : aJ z n 14 ≠ aJ z n 16 := by (first | omega | (simp only [aT, aN, aA, aJ, aM, aF, aFl, aFs]; omega))
  have d4 : aJ z n 14 ≠ aJ z n 18 := by (first | omega | (simp only [aT, aN, aA, aJ, aM, aF, aFl, aFs]; omega))
  have f1 : aJ z n 18 ≠ aJ z n 14 := by (first | omega | (simp only [aT, aN, aA, aJ, aM, aF, aFl, aFs]; omega))
  have f2 : aJ z n 18 ≠ aJ z n 15 := by (first | omega | (simp only [aT, aN, aA, aJ, aM, aF, aFl, aFs]; omega))
  have f3 : aJ z n 18 ≠ aJ z n 16 := by (first | omega | (simp only [aT, aN, aA, aJ, aM, aF, aFl, aFs]; omega))
  have g1 : aJ z n 15 ≠ aJ z n 14 := by (first | omega | (simp only [aT, aN, aA, aJ, aM, aF, aFl, aFs]; omega))
  have g3 : aJ z n 15 ≠ aJ z n 16 := by (first | omega | (simp only [aT, aN, aA, aJ, aM, aF, aFl, aFs]; omega))
  have g4 : aJ z n 15 ≠ aJ z n 18 := by (first | omega | (simp only [aT, aN, aA, aJ, aM, aF, aFl, aFs]; omega))
  have i1 : aJ z n 16 ≠ aJ z n 14 := by (first | omega | (simp only [aT, aN, aA, aJ, aM, aF, aFl, aFs]; omega))
  have i2 : aJ z n 16 ≠ aJ z n 15 := by (first | omega | (simp only [aT, aN, aA, aJ, aM, aF, aFl, aFs]; omega))
  have i4 : aJ z n 16 ≠ aJ z n 18 := by (first | omega | (simp only [aT, aN, aA, aJ, aM, aF, aFl, aFs]; omega))
  refine ⟨fun o ho => ?_, fun g h1 h2 => ?_⟩
  · simp only [u2_ne _ _ a1, u2_ne _ _ a2, u2_ne _ _ a3, u2_ne _ _ a4, u2_ne _ _ c1, u2_ne _ _ c2, u2_ne _ _ c3, u2_ne _ _ c4, u2_ne _ _ d4]
    by_cases e0 : o = q
    · subst e0
      rw [u2s, C.1 o ho]
      symm
      refine sumF_upd nf hf (fun x hx hne => ?_) ?_
      · rw [u2n (Or.inr hne), u2_ne _ _ d2, u2_ne _ _ d3]
      · rw [u2s, if_pos h13, if_pos h13, Int32.mul_add]
    · rw [u2n (Or.inr e0), u2_ne _ _ f1, u2_ne _ _ f2, u2_ne _ _ f3, C.1 o ho]
      refine sumF_congr (fun x hx => ?_)
      by_cases e1 : x = f
      · subst e1
        have : ¬ I (aJ z n 13) x = nI o := fun y => e0 (nI_inj (by omega) (by omega) (y.symm.trans h13))
        rw [if_neg this, if_neg this]
      · rw [u2n (Or.inr e1), u2_ne _ _ d2, u2_ne _ _ d3]
  · rw [u2_ne _ _ d4, u2n (Or.inr (by omega)), u2_ne _ _ d2, u2_ne _ _ d3, u2_ne _ _ g4, u2_ne _ _ g1, u2n (Or.inr (by omega)), u2_ne _ _ g3, u2_ne _ _ i4, u2_ne _ _ i1, u2_ne _ _ i2, u2n (Or.inr (by omega))]
    exact C.2 g h1 h2
/-- field g has got its share of the day -/
def GF (z n : Nat) (hA h : AH) (g : Nat) : Prop := h.2.2.1 (aJ z n 16) g = hA.2.2.1 (aJ z n 23) g ∧ h.2.2.1 (aJ z n 15) g = hA.2.2.1 (aJ z n 15) g + hA.2.2.1 (aJ z n 23) g ∧ h.2.2.1 (aJ z n 14) g = if hA.2.2.1 (aJ z n 23) g = hA.2.2.1 (aJ z n 12) g then hA.2.2.1 (aJ z n 14) g + 1 else hA.2.2.1 (aJ z n 14) g
def NF (z n : Nat) (hA h : AH) (g : Nat) : Prop := h.2.2.1 (aJ z n 16) g = hA.2.2.1 (aJ z n 16) g ∧ h.2.2.1 (aJ z n 15) g = hA.2.2.1 (aJ z n 15) g ∧ h.2.2.1 (aJ z n 14) g = hA.2.2.1 (aJ z n 14) g
theorem l_keep8 (K : AH → Nat → Option Nat → Option Nat → Option Nat → Int32 → Int32 → Int32 → Int32 → Int32 → Int32 → Option (Int32 × AH)) (W0 : WS z n nf hA) (V0 : WR z n nf hA) (hnf : nf ≤ 40) (e3 : hA.2.2.1 (aM z n) 3 = nI nf) (ow : ∀ f, f < nf → ∃ q, q ≤ 9 ∧ hA.2.2.1 (aJ z n 13) f = nI q) (i : Nat) (l1 l2 l3 : Option Nat) (l4 l5 l6 l7 l8 l14 : Int32) : ∀ (m f : Nat) (h : AH), nf - f < m → f ≤ nf → Ag (r8 z n) hA h → CO z n nf h.2.2.1 → (∀ g, g < nf → hA.2.2.1 (aJ z n 10) g = nI i → g < f → GF z n hA h g) → (∀ g, g < nf → (f ≤ g ∨ ¬ hA.2.2.1 (aJ z n 10) g = nI i) → NF z n hA h g) → ∃ h', f_X8_flows_297 K m h (aM z n) l1 l2 l3 l4 l5 l6 l7 l8 (nI i) l14 (nI f) = g297e K h' (aM z n) l1 l2 l3 l4 l5 l6 l7 l8 (nI i) l14 ∧ Ag (r8 z n) hA h' ∧ CO z n nf h'.2.2.1 ∧ (∀ g, g < nf → hA.2.2.1 (aJ z n 10) g = nI i → GF z n hA h' g) ∧ (∀ g, g < nf → ¬ hA.2.2.1 (aJ z n 10) g = nI i → NF z n hA h' g) := by
  intro m
  induction m with
  | zero => intro f h h1; omega
  | succ m ih =>
    intro f h h1 h2 p co hg hn
    have W := WS_ag W0 p
    have V := WR_ag V0 p
    have sM := W_M W
    have e3' : h.2.2.1 (aM z n) 3 = nI nf := (p.2.2.2 _ _ (by unfold r8 aM; omega)).trans e3
    have row : ∀ j, (j = 10 ∨ j = 12 ∨ j = 13 ∨ j = 23) → h.2.2.1 (aJ z n j) = hA.2.2.1 (aJ z n j) := fun j hj => funext (fun k => p.2.2.2 _ _ (by unfold r8 aJ; omega))
    unfold f_X8_flows_297
    rw [ev_gI sM, e3']
    by_cases hf : f < nf
    · rw [if_neg (nI_ge hf (by omega)), ev_gR sM, V_J10 V, ev_aI (W_J10 W) (by omega) (by omega), row 10 (by omega)]
      by_cases e : hA.2.2.1 (aJ z n 10) f = nI i
      · obtain ⟨q, hq, eq⟩ := ow f hf
        obtain ⟨n1, n2, n3⟩ := hn f hf (Or.inl (Nat.le_refl f))
        -- what is written
        have key : ∀ ee : Int32, (∃ x, x = hA.2.2.1 (aJ z n 14) f + ee ∧ x = if hA.2.2.1 (aJ z n 23) f = hA.2.2.1 (aJ z n 12) f then hA.2.2.1 (aJ z n 14) f + 1 else hA.2.2.1 (aJ z n 14) f) → ∃ h', f_X8_flows_297 K m (setI (setI (setI (setI h (aJ z n 16) f (hA.2.2.1 (aJ z n 23) f)) (aJ z n 15) f (hA.2.2.1 (aJ z n 15) f + hA.2.2.1 (aJ z n 23) f)) (aJ z n 14) f (hA.2.2.1 (aJ z n 14) f + ee)) (aJ z n 18) q (h.2.2.1 (aJ z n 18) q + hA.2.2.1 (aJ z n 12) f * ee)) (aM z n) l1 l2 l3 l4 l5 l6 l7 l8 (nI i) l14 (nI (f + 1)) = g297e K h' (aM z n) l1 l2 l3 l4 l5 l6 l7 l8 (nI i) l14 ∧ Ag (r8 z n) hA h' ∧ CO z n nf h'.2.2.1 ∧ (∀ g, g < nf → hA.2.2.1 (aJ z n 10) g = nI i → GF z n hA h' g) ∧ (∀ g, g < nf → ¬ hA.2.2.1 (aJ z n 10) g = nI i → NF z n hA h' g) := by
          rintro ee ⟨x, x1, x2⟩
          have k16 : ∀ k, r8 z n (aJ z n 16) k := fun k => by unfold r8 aJ; omega
          have k15 : ∀ k, r8 z n (aJ z n 15) k := fun k => by unfold r8 aJ; omega
          have k14 : ∀ k, r8 z n (aJ z n 14) k := fun k => by unfold r8 aJ; omega
          have k18 : ∀ k, r8 z n (aJ z n 18) k := fun k => by unfold r8 aJ; omega
          have d2 : aJ z n 14 ≠ aJ z n 15 := by (first | omega | (simp only [aT, aN, aA, aJ, aM, aF, aFl, aFs]; omega))
          have d3 : aJ z n 14 ≠ aJ z n 16 := by (first | omega | (simp only [aT, aN, aA, aJ, aM, aF, aFl, aFs]; omega))
          have d4 : aJ z n 14 ≠ aJ z n 18 := by (first | omega | (simp only [aT, aN, aA, aJ, aM, aF, aFl, aFs]; omega))
          have g1 : aJ z n 15 ≠ aJ z n 14 := by (first | omega | (simp only [aT, aN, aA, aJ, aM, aF, aFl, aFs]; omega))
          have g3 : aJ z n 15 ≠ aJ z n 16 := by (first | omega | (simp only [aT, aN, aA, aJ, aM, aF, aFl, aFs]; omega))
          have g4 : aJ z n 15 ≠ aJ z n 18 := by (first | omega | (simp only [aT, aN, aA, aJ, aM, aF, aFl, aFs]; omega))
          have i1 : aJ z n 16 ≠ aJ z n 14 := by (first | omega | (simp only [aT, aN, aA, aJ, aM, aF, aFl, aFs]; omega))
          have i2 : aJ z n 16 ≠ aJ z n 15 := by (first | omega | (simp only [aT, aN, aA, aJ, aM, aF, aFl, aFs]; omega))
          have i4 : aJ z n 16 ≠ aJ z n 18 := by (first | omega | (simp only [aT, aN, aA, aJ, aM, aF, aFl, aFs]; omega))
          refine ih (f + 1) _ (by omega) (by omega) ((((p.set (k16 f)).set (k15 f)).set (k14 f)).set (k18 q)) ?_ (fun g hg1 hg2 hg3 => ?_) (fun g hg1 hg2 => ?_)
          · have cs := CO_step (x := hA.2.2.1 (aJ z n 23) f) (y := hA.2.2.1 (aJ z n 15) f + hA.2.2.1 (aJ z n 23) f) (e := ee) co hf hnf hq (by rw [row 13 (by omega)]; exact eq)
            rw [n3, row 12 (by omega)] at cs
            exact cs
          · by_cases e0 : g = f
            · subst e0
              refine ⟨?_, ?_, ?_⟩
              · simp only [sI_u, u2_ne _ _ i4, u2_ne _ _ i1, u2_ne _ _ i2, u2s]
              · simp only [sI_u, u2_ne _ _ g4, u2_ne _ _ g1, u2s]
              · simp only [sI_u, u2_ne _ _ d4, u2s]
                rw [← x1]
                exact x2
            · have := hg g hg1 hg2 (by omega)
              unfold GF
              simp only [sI_u, u2_ne _ _ i4, u2_ne _ _ i1, u2_ne _ _ i2, u2_ne _ _ g4, u2_ne _ _ g1, u2_ne _ _ g3, u2_ne _ _ d4, u2_ne _ _ d2, u2_ne _ _ d3, u2n (Or.inr e0)]
              exact this
          · have e0 : g ≠ f := by
              rintro rfl
              rcases hg2 with y | y
              · omega
              · exact y e
            have := hn g hg1 (by rcases hg2 with y | y; exact Or.inl (by omega); exact Or.inr y)
            unfold NF
            simp only [sI_u, u2_ne _ _ i4, u2_ne _ _ i1, u2_ne _ _ i2, u2_ne _ _ g4, u2_ne _ _ g1, u2_ne _ _ g3, u2_ne _ _ d4, u2_ne _ _ d2, u2_ne _ _ d3, u2n (Or.inr e0)]
            exact this
        have hq10 : q < 10 := by omega
        have hf40 : f < 40 := by omega
        have gM : ∀ {α : Type} {hh : AH} {k : Nat} {K : Option Nat → Option α}, hh.2.1 = h.2.1 → hh.2.2.2 = h.2.2.2 → gR hh (some (aM z n)) 8 k K = K (h.2.2.2 (aM z n) k) := fun q1 q2 => by rw [ev_gR (by rw [q1]; exact sM), q2]
        have aI4 : ∀ {α : Type} {hh : AH} {j : Nat} {K : Int32 → Option α}, hh.2.1 = h.2.1 → h.2.1 (aJ z n j) = some (.inr (.int, 40)) → aI .int hh (some (aJ z n j)) (nI f) K = K (hh.2.2.1 (aJ z n j) f) := fun q1 q2 => ev_aI (by rw [q1]; exact q2) hf40 (by omega)
        have sI4 : ∀ {α : Type} {hh : AH} {j : Nat} {x : Int32} {K : AH → Option α}, hh.2.1 = h.2.1 → h.2.1 (aJ z n j) = some (.inr (.int, 40)) → sI .int hh (some (aJ z n j)) (nI f) x K = K (setI hh (aJ z n j) f x) := fun q1 q2 => by rw [ev_sI (by rw [q1]; exact q2) hf40 (by omega), vn_i]
        rw [if_pos e, gM (by rfl) (by rfl), V_J16 V, gM (by rfl) (by rfl), V_J23 V, aI4 (by rfl) (W_J23 W), sI4 (by rfl) (W_J16 W), gM (by rfl) (by rfl), V_J15 V, aI4 (by rfl) (W_J15 W), gM (by rfl) (by rfl), V_J23 V, aI4 (by rfl) (W_J23 W), sI4 (by rfl) (W_J15 W), gM (by rfl) (by rfl), V_J14 V, aI4 (by rfl) (W_J14 W), gM (by rfl) (by rfl), V_J23 V, aI4 (by rfl) (W_J23 W), gM (by rfl) (by rfl), V_J12 V, aI4 (by rfl) (W_J12 W)]
        simp (disch := first | omega | (simp only [aT, aN, aA, aJ, aM, aF, aFl, aFs]; omega)) only [sI_u, u2n, u2s]
        rw [row 23 (by omega), row 12 (by omega), n2, n3]
        have fin : ∀ (ee vv : Int32), ee = 0 ∨ ee = 1 → asn ee = ee → (ee = 1 ↔ hA.2.2.1 (aJ z n 23) f = hA.2.2.1 (aJ z n 12) f) → ∃ h', f_X8_flows_382 (f_X8_flows_297 K m) (setI (setI h (aJ z n 16) f (hA.2.2.1 (aJ z n 23) f)) (aJ z n 15) f (hA.2.2.1 (aJ z n 15) f + hA.2.2.1 (aJ z n 23) f)) (aM z n) l1 l2 l3 l4 l5 l6 l7 l8 (nI i) l14 (nI f) (some (aJ z n 14)) (nI f) (hA.2.2.1 (aJ z n 14) f) ee = g297e K h' (aM z n) l1 l2 l3 l4 l5 l6 l7 l8 (nI i) l14 ∧ Ag (r8 z n) hA h' ∧ CO z n nf h'.2.2.1 ∧ (∀ g, g < nf → hA.2.2.1 (aJ z n 10) g = nI i → GF z n hA h' g) ∧ (∀ g, g < nf → ¬ hA.2.2.1 (aJ z n 10) g = nI i → NF z n hA h' g) := by
          intro ee vv h01 ha hfe
          unfold f_X8_flows_382
          rw [k_one, ha, sI4 (by rfl) (W_J14 W), gM (by rfl) (by rfl), V_J18 V, gM (by rfl) (by rfl), V_J13 V, aI4 (by rfl) (W_J13 W)]
          simp (disch := first | omega | (simp only [aT, aN, aA, aJ, aM, aF, aFl, aFs]; omega)) only [sI_u, u2n, u2s]
          rw [row 13 (by omega), eq, ev_aI (N := 10) (by simp only [sI_s]; exact W_J18 W) hq10 (by omega), gM (by rfl) (by rfl), V_J23 V, aI4 (by rfl) (W_J23 W), gM (by rfl) (by rfl), V_J12 V, aI4 (by rfl) (W_J12 W)]
          simp (disch := first | omega | (simp only [aT, aN, aA, aJ, aM, aF, aFl, aFs]; omega)) only [sI_u, u2n, u2s]
          rw [row 23 (by omega), row 12 (by omega)]
          have last : ∀ v : Int32, v = hA.2.2.1 (aJ z n 12) f * ee → ∃ h', f_X8_flows_428 (f_X8_flows_297 K m) (setI (setI (setI h (aJ z n 16) f (hA.2.2.1 (aJ z n 23) f)) (aJ z n 15) f (hA.2.2.1 (aJ z n 15) f + hA.2.2.1 (aJ z n 23) f)) (aJ z n 14) f (hA.2.2.1 (aJ z n 14) f + ee)) (aM z n) l1 l2 l3 l4 l5 l6 l7 l8 (nI i) l14 (nI f) (some (aJ z n 18)) (nI q) (h.2.2.1 (aJ z n 18) q) v = g297e K h' (aM z n) l1 l2 l3 l4 l5 l6 l7 l8 (nI i) l14 ∧ Ag (r8 z n) hA h' ∧ CO z n nf h'.2.2.1 ∧ (∀ g, g < nf → hA.2.2.1 (aJ z n 10) g = nI i → GF z n hA h' g) ∧ (∀ g, g < nf → ¬ hA.2.2.1 (aJ z n 10) g = nI i → NF z n hA h' g) := by
            intro v hv
            subst hv
            unfold f_X8_flows_428 f_X8_flows_430
            rw [ev_sI (N := 10) (by simp only [sI_s]; exact W_J18 W) hq10 (by omega), vn_i, ev_bd, nI_1]
            refine key ee ⟨_, rfl, ?_⟩
            by_cases e2 : hA.2.2.1 (aJ z n 23) f = hA.2.2.1 (aJ z n 12) f
            · rw [if_pos e2, hfe.mpr e2]
            · rw [if_neg e2]
              rcases h01 with y | y
              · rw [y, Int32.add_zero]
              · exact absurd (hfe.mp y) e2
          by_cases e2 : hA.2.2.1 (aJ z n 23) f = hA.2.2.1 (aJ z n 12) f
          · rw [if_pos e2, gM (by rfl) (by rfl), V_J12 V, aI4 (by rfl) (W_J12 W)]
            simp (disch := first | omega | (simp only [aT, aN, aA, aJ, aM, aF, aFl, aFs]; omega)) only [sI_u, u2n, u2s]
            rw [row 12 (by omega)]
            exact last _ (by rw [hfe.mpr e2, Int32.mul_one])
          · rw [if_neg e2]
            exact last _ (by
              rcases h01 with y | y
              · rw [y, Int32.mul_zero]
              · exact absurd (hfe.mp y) e2)
        by_cases e2 : hA.2.2.1 (aJ z n 23) f = hA.2.2.1 (aJ z n 12) f
        · rw [if_pos e2]
          exact fin 1 0 (Or.inr rfl) rfl ⟨fun _ => e2, fun _ => rfl⟩
        · rw [if_neg e2]
          exact fin 0 0 (Or.inl rfl) rfl ⟨fun y => absurd y (by decide), fun y => absurd y e2⟩
      · rw [if_neg e]
        unfold f_X8_flows_430
        rw [ev_bd, nI_1]
        refine ih (f + 1) h (by omega) (by omega) p co (fun g hg1 hg2 hg3 => hg g hg1 hg2 ?_) (fun g hg1 hg2 => hn g hg1 ?_)
        · by_cases e0 : g = f
          · subst e0; exact absurd hg2 e
          · omega
        · by_cases e0 : g = f
          · subst e0; exact Or.inr e
          · rcases hg2 with y | y
            · exact Or.inl (by omega)
            · exact Or.inr y
    · have e : f = nf := by omega
      subst e
      rw [if_pos (nI_le (Nat.le_refl f) (by omega))]
      exact ⟨h, rfl, p, co, fun g hg1 hg2 => hg g hg1 hg2 hg1, fun g hg1 hg2 => hn g hg1 (Or.inr hg2)⟩
end K8
