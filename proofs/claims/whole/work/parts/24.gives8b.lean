/-! ===== what a tank gives: the reference, one more at a time; all ===== -/
def bi : Option Nat → Int32
  | none => -1
  | some x => nI x
theorem nI_nm1 {x : Nat} (hx : x < 2 ^ 31) : ¬ nI x = -1 := by
  intro q
  have := congrArg Int32.toInt q
  rw [nI_toInt hx] at this
  have : (-1 : Int32).toInt = -1 := by decide
  omega
theorem sumI_congr {S S' : Nat → Int32} : ∀ (l : List Nat) (a : Int32), (∀ f ∈ l, S f = S' f) → sumI S l a = sumI S' l a := by
  intro l
  induction l with
  | nil => intro a _; rfl
  | cons f l ih =>
    intro a h
    rw [sumI, sumI, h f List.mem_cons_self, ih _ (fun x hx => h x (List.mem_cons_of_mem _ hx))]
theorem pkM_mem {r : Nat → Nat} {M : Nat → Bool} : ∀ (l : List Nat) (b : Option Nat) (x : Nat), pkM r M l b = some x → x ∈ l ∨ b = some x := by
  intro l
  induction l with
  | nil => intro b x h; exact Or.inr h
  | cons f l ih =>
    intro b x h
    have go : ∀ b', pkM r M l b' = some x → (b' = b ∨ b' = some f) → x ∈ f :: l ∨ b = some x := by
      intro b' h' hb
      rcases ih b' x h' with q | q
      · exact Or.inl (List.mem_cons_of_mem _ q)
      · rcases hb with rfl | rfl
        · exact Or.inr q
        · cases q; exact Or.inl List.mem_cons_self
    rw [pkM_c] at h
    by_cases m : M f = true
    · rw [if_pos m] at h
      exact go _ h (Or.inl rfl)
    · rw [if_neg m] at h
      cases b with
      | none => exact go _ h (Or.inr rfl)
      | some y =>
        by_cases e : r f ≤ r y
        · exact go (some y) (by simpa only [if_pos e] using h) (Or.inl rfl)
        · exact go (some f) (by simpa only [if_neg e] using h) (Or.inr rfl)
section G8B
variable {z n nf : Nat} {h0 : AH}
def g279e (k_263 : AH → Nat → Int32 → Int32 → Int32 → Int32 → Int32 → Option (Int32 × AH)) (h : AH) (l0 : Nat) (l4 l5 l6 l7 l8 l9 : Int32) : Option (Int32 × AH) := gR h (some l0) 8 43 (fun v10 => sI .boolean h v10 l9 1 (fun h11 => gR h11 (some l0) 8 42 (fun v12 => aI .int h11 v12 l9 (fun v13 => sI .int h11 v12 l9 (v13 + 1) (fun h14 => bd (l4 + (-1)) (fun v15 => k_263 h14 l0 v15 l5 l6 l7 l8))))))
theorem l_gives279 (K : AH → Nat → Int32 → Int32 → Int32 → Int32 → Int32 → Option (Int32 × AH)) (W : WS z n nf h0) (V : WR z n nf h0) (hnf : nf ≤ 40) {g ar : Nat} (hg : g ≤ 20) (har : 0 < ar) (har2 : ar < 1000) {M : Nat → Bool} {r : Nat → Nat} {l : List Nat} (hr : Row z n h0.2.2.1 l) (hl : ∀ f ∈ l, f < nf ∧ h0.2.2.1 (aJ z n 24) f = b2i (M f) ∧ ∃ a, a ≤ 20 ∧ h0.2.2.1 (aJ z n 12) f = nI a ∧ (M f = false → r f = g * a % ar)) (hlen : l.length ≤ 40) (l4 : Int32) : ∀ (s p : List Nat) (m : Nat) (bM : Option Nat), l = p ++ s → s.length < m → (∀ x, bM = some x → x ∈ l ∧ M x = false) → f_X8_gives_279 K m h0 (aM z n) l4 (nI l.length) (nI ar) 1 (nI g) (bi bM) (nI p.length) = g279e K h0 (aM z n) l4 (nI l.length) (nI ar) 1 (nI g) (bi (pkM r M s bM)) := by
  have sM := W_M W
  have s22 := W_J22 W
  have s24 := W_J24 W
  have s12 := W_J12 W
  intro s
  induction s with
  | nil =>
    intro p m bM hps hm hb
    obtain ⟨m, rfl⟩ : ∃ m', m = m' + 1 := ⟨m - 1, by simp at hm; omega⟩
    unfold f_X8_gives_279
    rw [if_pos (by rw [hps, List.append_nil]; exact Int32.le_refl _)]
    rfl
  | cons f s ih =>
    intro p m bM hps hm hb
    obtain ⟨m, rfl⟩ : ∃ m', m = m' + 1 := ⟨m - 1, by simp at hm; omega⟩
    have hpl : p.length < l.length := by rw [hps]; simp
    have hfl : f ∈ l := by rw [hps]; simp
    obtain ⟨hf, hM, a, ha, ea, er⟩ := hl f hfl
    have e22 : h0.2.2.1 (aJ z n 22) p.length = nI f := Row_at (by rw [← hps]; exact hr)
    have hga : g * a ≤ 400 := Nat.le_trans (Nat.mul_le_mul hg ha) (by omega)
    have nx : ∀ bM', (∀ x, bM' = some x → x ∈ l ∧ M x = false) → f_X8_gives_279 K m h0 (aM z n) l4 (nI l.length) (nI ar) 1 (nI g) (bi bM') (nI (p.length + 1)) = g279e K h0 (aM z n) l4 (nI l.length) (nI ar) 1 (nI g) (bi (pkM r M s bM')) := by
      intro bM' hb'
      have := ih (p ++ [f]) m bM' (by rw [hps]; simp) (by simp at hm; omega) hb'
      rw [List.length_append, List.length_singleton] at this
      exact this
    have ar0 : ¬ nI ar = 0 := fun q => by have := nI_inj (b := 0) (by omega) (by omega) q; omega
    unfold f_X8_gives_279
    rw [if_neg (nI_ge hpl (by omega)), ev_gR sM, V_J24 V, ev_gR sM, V_J22 V, ev_aI s22 (by omega) (by omega), e22, ev_aI s24 (by omega) (by omega), hM, pkM_c]
    cases hMf : M f with
    | true =>
      unfold f_X8_gives_350
      rw [if_neg (by decide : ¬ b2i true = 0), ev_bd, nI_1, if_pos rfl]
      exact nx bM hb
    | false =>
      rw [if_pos (by decide : b2i false = 0), if_neg (show ¬ (false = true) by decide)]
      have own : ∀ x, some f = some x → x ∈ l ∧ M x = false := fun x hx => by cases hx; exact ⟨hfl, hMf⟩
      have to_f : f_X8_gives_341 (f_X8_gives_279 K m) h0 (aM z n) l4 (nI l.length) (nI ar) 1 (nI g) (nI p.length) = g279e K h0 (aM z n) l4 (nI l.length) (nI ar) 1 (nI g) (bi (pkM r M s (some f))) := by
        unfold f_X8_gives_341 f_X8_gives_350
        rw [ev_gR sM, V_J22 V, ev_aI s22 (by omega) (by omega), e22, ev_bd, nI_1]
        exact nx (some f) own
      cases bM with
      | none =>
        rw [if_pos (show bi none = -1 from rfl)]
        exact to_f
      | some x =>
        obtain ⟨hxl, hxM⟩ := hb x rfl
        obtain ⟨hx, -, ax, hax, eax, erx⟩ := hl x hxl
        have hgx : g * ax ≤ 400 := Nat.le_trans (Nat.mul_le_mul hg hax) (by omega)
        rw [if_neg (show ¬ bi (some x) = -1 from nI_nm1 (by omega)), ev_gR sM, V_J12 V, ev_gR sM, V_J22 V, ev_aI s22 (by omega) (by omega), e22, ev_aI s12 (by omega) (by omega), ea, nI_mul, ev_rm ar0, nI_mod (by omega) (by omega), ev_gR sM, V_J12 V, show bi (some x) = nI x from rfl, ev_aI s12 (by omega) (by omega), eax, nI_mul, ev_rm ar0, nI_mod (by omega) (by omega), ← er hMf, ← erx hxM]
        have hr1 : r f < 1000 := by rw [er hMf]; exact Nat.lt_trans (Nat.mod_lt _ har) har2
        have hr2 : r x < 1000 := by rw [erx hxM]; exact Nat.lt_trans (Nat.mod_lt _ har) har2
        by_cases e : r f ≤ r x
        · rw [if_pos ((nI_le_iff (by omega) (by omega)).mpr e)]
          unfold f_X8_gives_350
          rw [ev_bd, nI_1]
          have := nx (some x) hb
          simp only [if_pos e]
          exact this
        · rw [if_neg (fun q => e ((nI_le_iff (by omega) (by omega)).mp q))]
          simp only [if_neg e]
          exact to_f
theorem l_gives263 (W : WS z n nf h0) (V : WR z n nf h0) (hnf : nf ≤ 40) {g ar : Nat} (hg : g ≤ 20) (har : 0 < ar) (har2 : ar < 1000) {r : Nat → Nat} {l : List Nat} (hr : Row z n h0.2.2.1 l) (hd : l.Nodup) (hlen : l.length ≤ 40) : ∀ (k m : Nat) (h : AH) (S R : Nat → Nat) (M : Nat → Bool), k < m → On2 z n h0 h → (∀ f ∈ l, f < nf ∧ h.2.2.1 (aJ z n 24) f = b2i (M f) ∧ h.2.2.1 (aJ z n 23) f = nI (S f) ∧ R f = (if M f = true then 0 else r f) ∧ R f < ar ∧ ∃ a, a ≤ 20 ∧ h0.2.2.1 (aJ z n 12) f = nI a ∧ (M f = false → r f = g * a % ar)) → k * ar ≤ sN R l → k ≤ 20 → ∃ h', f_X8_gives_263 m h (aM z n) (nI k) (nI l.length) (nI ar) 1 (nI g) = f_X8_gives_381 h' (aM z n) (nI l.length) ∧ On2 z n h0 h' ∧ ∀ f ∈ l, h'.2.2.1 (aJ z n 23) f = nI (pkN l k R S f) := by
  intro k
  induction k with
  | zero =>
    intro m h S R M hm o hl _ _
    obtain ⟨m, rfl⟩ : ∃ m', m = m' + 1 := ⟨m - 1, by omega⟩
    unfold f_X8_gives_263
    rw [if_neg (by decide : ¬ (1 : Int32) = 0), if_pos (by decide : nI 0 ≤ 0)]
    exact ⟨h, rfl, o, fun f hf => (hl f hf).2.2.1⟩
  | succ k ih =>
    intro m h S R M hm o hl hk hk20
    obtain ⟨m, rfl⟩ : ∃ m', m = m' + 1 := ⟨m - 1, by omega⟩
    have W1 := o.W W
    have V1 := o.V V
    have sM := W_M W1
    have s23 := W_J23 W1
    have s24 := W_J24 W1
    obtain ⟨b, b1, b2, b3, b4, b5⟩ := pk_some hd hk (fun f hf => (hl f hf).2.2.2.2.1) har
    obtain ⟨-, q2⟩ := pk_same (R := R) (r := r) (M := M) l none 0 none (fun f hf => (hl f hf).2.2.2.1) (Or.inl ⟨rfl, rfl, fun x hx => by cases hx⟩)
    obtain ⟨c1, c2, -⟩ := q2 b b1
    obtain ⟨hb, hbM, hbS, hbR, -⟩ := hl b b2
    have hMb : M b = false := by
      cases q : M b with
      | false => rfl
      | true => rw [q, if_pos rfl] at hbR; omega
    have walk := l_gives279 (f_X8_gives_263 m) W1 V1 hnf hg har har2 (M := M) (r := r) (l := l) (by unfold Row; rw [o.J 22 (by omega)]; exact hr) (fun f hf => by
      obtain ⟨d1, d2, -, -, -, a, d3, d4, d5⟩ := hl f hf
      exact ⟨d1, d2, a, d3, by rw [o.J 12 (by omega)]; exact d4, d5⟩) hlen (nI (k + 1)) l [] FU none rfl (by rw [fu_big]; omega) (fun x hx => by cases hx)
    unfold f_X8_gives_263
    rw [if_neg (by decide : ¬ (1 : Int32) = 0), if_neg (fun q => by have := (nI_le_iff (b := 0) (by omega) (by omega)).mp q; omega)]
    rw [show (-1 : Int32) = bi none from rfl, show (0 : Int32) = nI ([] : List Nat).length from rfl, walk, c1]
    unfold g279e
    rw [show bi (some b) = nI b from rfl, ev_gR sM, V_J24 V1, ev_sI s24 (by omega) (by omega), vn_z1, ev_gR (by rw [sI_s]; exact sM), sI_r, V_J23 V1, ev_aI (by rw [sI_s]; exact s23) (by omega) (by omega), sI_u, u2_ne _ _ (by (first | omega | (simp only [aT, aN, aA, aJ, aM, aF, aFl, aFs]; omega))), hbS, nI_1, ev_sI (by rw [sI_s]; exact s23) (by omega) (by omega), vn_i, ev_bd, nI_pred2]
    obtain ⟨h', r1, r2, r3⟩ := ih m (setI (setI h (aJ z n 24) b 1) (aJ z n 23) b (nI (S b + 1))) (up S b (S b + 1)) (up R b 0) (upB M b true) (by omega) o.s24.s23 (fun f hf => by
      obtain ⟨d1, d2, d3, d4, d5, a, d6, d7, d8⟩ := hl f hf
      by_cases e : f = b
      · subst e
        refine ⟨d1, ?_, ?_, ?_, b5 f hf, a, d6, d7, ?_⟩
        · rw [sI_u, u2_ne _ _ (by (first | omega | (simp only [aT, aN, aA, aJ, aM, aF, aFl, aFs]; omega))), sI_u, u2s]
          unfold upB
          rw [if_pos rfl]
          rfl
        · rw [sI_u, u2s]
          unfold up
          rw [if_pos rfl]
        · unfold up upB
          rw [if_pos rfl, if_pos rfl, if_pos rfl]
        · unfold upB
          rw [if_pos rfl]
          intro q
          cases q
      · refine ⟨d1, ?_, ?_, ?_, b5 f hf, a, d6, d7, ?_⟩
        · rw [sI_u, u2_ne _ _ (by (first | omega | (simp only [aT, aN, aA, aJ, aM, aF, aFl, aFs]; omega))), sI_u, u2n (Or.inr e)]
          unfold upB
          rw [if_neg e]
          exact d2
        · rw [sI_u, u2n (Or.inr e), sI_u, u2_ne _ _ (by (first | omega | (simp only [aT, aN, aA, aJ, aM, aF, aFl, aFs]; omega)))]
          unfold up
          rw [if_neg e]
          exact d3
        · unfold up upB
          rw [if_neg e, if_neg e]
          exact d4
        · unfold upB
          rw [if_neg e]
          exact d8) b4 (by omega)
    refine ⟨h', r1, r2, fun f hf => ?_⟩
    rw [r3 f hf, pkN, b1]
theorem l_gives387 (W : WS z n nf h0) (V : WR z n nf h0) (hnf : nf ≤ 40) {l : List Nat} (hr : Row z n h0.2.2.1 l) (hl : ∀ f ∈ l, f < nf) (hlen : l.length ≤ 40) : ∀ (s p : List Nat) (m : Nat) (a : Int32), l = p ++ s → s.length < m → f_X8_gives_387 m h0 (aM z n) (nI l.length) a (nI p.length) = some (sumI (h0.2.2.1 (aJ z n 23)) s a, h0) := by
  have sM := W_M W
  have s22 := W_J22 W
  have s23 := W_J23 W
  intro s
  induction s with
  | nil =>
    intro p m a hps hm
    obtain ⟨m, rfl⟩ : ∃ m', m = m' + 1 := ⟨m - 1, by simp at hm; omega⟩
    unfold f_X8_gives_387
    rw [if_pos (by rw [hps, List.append_nil]; exact Int32.le_refl _)]
    rfl
  | cons f s ih =>
    intro p m a hps hm
    obtain ⟨m, rfl⟩ : ∃ m', m = m' + 1 := ⟨m - 1, by simp at hm; omega⟩
    have hpl : p.length < l.length := by rw [hps]; simp
    have hf := hl f (by rw [hps]; simp)
    have e22 : h0.2.2.1 (aJ z n 22) p.length = nI f := Row_at (by rw [← hps]; exact hr)
    unfold f_X8_gives_387
    rw [if_neg (nI_ge hpl (by omega)), ev_gR sM, V_J23 V, ev_gR sM, V_J22 V, ev_aI s22 (by omega) (by omega), e22, ev_aI s23 (by omega) (by omega), ev_bd, ev_bd, nI_1]
    have := ih (p ++ [f]) m (a + h0.2.2.1 (aJ z n 23) f) (by rw [hps]; simp) (by simp at hm; omega)
    rw [List.length_append, List.length_singleton] at this
    rw [this, sumI]
end G8B
