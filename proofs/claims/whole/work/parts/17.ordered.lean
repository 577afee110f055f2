/-! ===== the order: lists ===== -/
section LT
variable {K : Int32 → Nat → Nat}
theorem ahd_irr : ∀ (cs : List Int32) (f : Nat), ahd K cs f f = false := by
  intro cs
  induction cs with
  | nil => intro f; simp [ahd]
  | cons c cs ih => intro f; rw [ahd, if_pos rfl]; exact ih f
theorem ahd_tot : ∀ (cs : List Int32) (f g : Nat), f ≠ g → ahd K cs f g = true ∨ ahd K cs g f = true := by
  intro cs
  induction cs with
  | nil =>
    intro f g h
    simp only [ahd, decide_eq_true_eq]
    omega
  | cons c cs ih =>
    intro f g h
    rw [ahd, ahd]
    by_cases e : K c f = K c g
    · rw [if_pos e, if_pos e.symm]
      exact ih f g h
    · rw [if_neg e, if_neg (fun q => e q.symm)]
      simp only [decide_eq_true_eq]
      omega
theorem ahd_trans : ∀ (cs : List Int32) (f g k : Nat), ahd K cs f g = true → ahd K cs g k = true → ahd K cs f k = true := by
  intro cs
  induction cs with
  | nil =>
    intro f g k h1 h2
    simp only [ahd, decide_eq_true_eq] at h1 h2 ⊢
    omega
  | cons c cs ih =>
    intro f g k h1 h2
    rw [ahd] at h1 h2 ⊢
    by_cases e1 : K c f = K c g
    · rw [if_pos e1] at h1
      by_cases e2 : K c g = K c k
      · rw [if_pos e2] at h2
        rw [if_pos (e1.trans e2)]
        exact ih f g k h1 h2
      · rw [if_neg e2] at h2
        rw [if_neg (fun q => e2 (e1.symm.trans q)), e1]
        exact h2
    · rw [if_neg e1] at h1
      simp only [decide_eq_true_eq] at h1
      by_cases e2 : K c g = K c k
      · rw [← e2, if_neg e1]
        simp only [decide_eq_true_eq]
        exact h1
      · rw [if_neg e2] at h2
        simp only [decide_eq_true_eq] at h2
        rw [if_neg (by omega)]
        simp only [decide_eq_true_eq]
        omega
end LT
theorem mem_insL {lt : Nat → Nat → Bool} {f x : Nat} : ∀ {l : List Nat}, x ∈ insL lt f l ↔ x = f ∨ x ∈ l := by
  intro l
  induction l with
  | nil => simp [insL]
  | cons g l ih =>
    rw [insL]
    split
    · simp
    · simp only [List.mem_cons, ih]
      constructor
      · rintro (h | h | h)
        · exact Or.inr (Or.inl h)
        · exact Or.inl h
        · exact Or.inr (Or.inr h)
      · rintro (h | h | h)
        · exact Or.inr (Or.inl h)
        · exact Or.inl h
        · exact Or.inr (Or.inr h)
theorem len_insL {lt : Nat → Nat → Bool} {f : Nat} : ∀ (l : List Nat), (insL lt f l).length = l.length + 1 := by
  intro l
  induction l with
  | nil => rfl
  | cons g l ih =>
    rw [insL]
    split
    · rfl
    · rw [List.length_cons, ih, List.length_cons]
theorem insL_at {lt : Nat → Nat → Bool} {f : Nat} : ∀ (l : List Nat) (k : Nat), k ≤ l.length → (∀ j (hj : j < l.length), j < k → lt f l[j] = false) → (∀ (hk : k < l.length), lt f l[k] = true) → insL lt f l = l.take k ++ f :: l.drop k := by
  intro l
  induction l with
  | nil => intro k hk _ _; simp [insL]
  | cons g l ih =>
    intro k hk h1 h2
    rw [insL]
    cases k with
    | zero =>
      have := h2 (by simp)
      rw [if_pos (by simpa using this)]
      rfl
    | succ k =>
      have := h1 0 (by simp) (by omega)
      rw [if_neg (by simp at this; simp [this])]
      rw [ih k (by simpa using hk) (fun j hj hjk => h1 (j + 1) (by rw [List.length_cons]; omega) (by omega)) (fun hk' => h2 (by rw [List.length_cons]; omega))]
      rfl
def srt (lt : Nat → Nat → Bool) (l : List Nat) : Prop := l.Pairwise (fun a b => lt a b = true)
theorem srt_insL {K : Int32 → Nat → Nat} {cs : List Int32} {f : Nat} : ∀ {l : List Nat}, srt (ahd K cs) l → (∀ g ∈ l, f ≠ g) → srt (ahd K cs) (insL (ahd K cs) f l) := by
  intro l
  induction l with
  | nil => intro _ _; simp [insL, srt]
  | cons g l ih =>
    intro hs hn
    obtain ⟨h1, h2⟩ := List.pairwise_cons.mp hs
    rw [insL]
    split
    · rename_i e
      refine List.pairwise_cons.mpr ⟨fun x hx => ?_, hs⟩
      rcases List.mem_cons.mp hx with rfl | hx
      · exact e
      · exact ahd_trans cs f g x e (h1 x hx)
    · rename_i e
      refine List.pairwise_cons.mpr ⟨fun x hx => ?_, ih h2 (fun x hx => hn x (List.mem_cons_of_mem _ hx))⟩
      rcases mem_insL.mp hx with rfl | hx
      · rcases ahd_tot (K := K) cs x g (hn g List.mem_cons_self) with q | q
        · exact absurd q e
        · exact q
      · exact h1 x hx
/-- the first m fields of a tank in order -/
def ordp (z n : Nat) (I : Nat → Nat → Int32) (i m : Nat) : List Nat := ((List.range m).filter (fun f => decide (I (aJ z n 10) f = nI i))).foldl (fun l f => insL (ahd (ky z n I) (fsts z I)) f l) []
theorem ordp_nf {z n nf i : Nat} {I : Nat → Nat → Int32} : ordp z n I i nf = ordl z n nf I i := rfl
theorem ordp_0 {z n i : Nat} {I : Nat → Nat → Int32} : ordp z n I i 0 = [] := rfl
theorem ordp_s {z n i m : Nat} {I : Nat → Nat → Int32} : ordp z n I i (m + 1) = if I (aJ z n 10) m = nI i then insL (ahd (ky z n I) (fsts z I)) m (ordp z n I i m) else ordp z n I i m := by
  unfold ordp
  rw [List.range_succ, List.filter_append, List.foldl_append]
  by_cases e : I (aJ z n 10) m = nI i
  · simp [e]
  · simp [e]
theorem ordp_mem {z n i : Nat} {I : Nat → Nat → Int32} : ∀ (m x : Nat), x ∈ ordp z n I i m ↔ x < m ∧ I (aJ z n 10) x = nI i := by
  intro m
  induction m with
  | zero => intro x; simp [ordp_0]
  | succ m ih =>
    intro x
    rw [ordp_s]
    by_cases e : I (aJ z n 10) m = nI i
    · rw [if_pos e, mem_insL, ih x]
      constructor
      · rintro (rfl | ⟨h1, h2⟩)
        · exact ⟨by omega, e⟩
        · exact ⟨by omega, h2⟩
      · rintro ⟨h1, h2⟩
        rcases Nat.lt_or_ge x m with q | q
        · exact Or.inr ⟨q, h2⟩
        · exact Or.inl (by omega)
    · rw [if_neg e, ih x]
      constructor
      · rintro ⟨h1, h2⟩
        exact ⟨by omega, h2⟩
      · rintro ⟨h1, h2⟩
        rcases Nat.lt_or_ge x m with q | q
        · exact ⟨q, h2⟩
        · have : x = m := by omega
          subst this
          exact absurd h2 e
theorem ordp_srt {z n i : Nat} {I : Nat → Nat → Int32} : ∀ m, srt (ahd (ky z n I) (fsts z I)) (ordp z n I i m) := by
  intro m
  induction m with
  | zero => simp [ordp_0, srt]
  | succ m ih =>
    rw [ordp_s]
    split
    · refine srt_insL ih (fun g hg => ?_)
      have := ((ordp_mem m g).mp hg).1
      omega
    · exact ih
theorem ordp_len {z n i : Nat} {I : Nat → Nat → Int32} : ∀ m, (ordp z n I i m).length ≤ m := by
  intro m
  induction m with
  | zero => simp [ordp_0]
  | succ m ih =>
    rw [ordp_s]
    split
    · rw [len_insL]; omega
    · omega
/-! ===== ordered() ===== -/
/-- only row a0 has changed -/
def Only (a0 : Nat) (h h' : AH) : Prop := h'.1 = h.1 ∧ h'.2.1 = h.2.1 ∧ h'.2.2.2 = h.2.2.2 ∧ ∀ a, a ≠ a0 → h'.2.2.1 a = h.2.2.1 a
theorem Only.rf {a0 : Nat} {h : AH} : Only a0 h h := ⟨rfl, rfl, rfl, fun _ _ => rfl⟩
theorem Only.tr {a0 : Nat} {h h1 h2 : AH} (p : Only a0 h h1) (q : Only a0 h1 h2) : Only a0 h h2 := ⟨q.1.trans p.1, q.2.1.trans p.2.1, q.2.2.1.trans p.2.2.1, fun a ha => (q.2.2.2 a ha).trans (p.2.2.2 a ha)⟩
theorem Only.set {a0 k : Nat} {x : Int32} {h h1 : AH} (p : Only a0 h h1) : Only a0 h (setI h1 a0 k x) := ⟨p.1, p.2.1, p.2.2.1, fun a ha => by rw [sI_u, u2_ne _ _ ha]; exact p.2.2.2 a ha⟩
theorem nI_prd (k : Nat) : nI (k + 1) - 1 = nI k := by rw [← nI_1, Int32.add_sub_cancel]
theorem nI_pred2 (k : Nat) : nI (k + 1) + (-1) = nI k := by
  rw [← nI_1, Int32.add_assoc, show (1 : Int32) + (-1) = 0 by decide, Int32.add_zero]
section ORD
variable {z n nf dN hN : Nat} {h : AH}
/-- what isAhead of the reference needs -/
def AF (z n nf : Nat) (h : AH) : Prop := WS z n nf h ∧ WR z n nf h ∧ nf ≤ 40 ∧ h.2.2.1 (aM z n) 3 = nI nf ∧ (∃ k, k ≤ 10 ∧ h.2.2.1 (z + 4) 1 = nI k ∧ cusV z n h.2.2.1 0 0 = nI k ∧ ∀ j, j < k → h.2.2.1 (z + 5) j = h.2.2.1 (aJ z n 21) (j + 1)) ∧ ∀ f, f < nf → MD z n h.2.2.1 f
theorem AF_only {h' : AH} (A : AF z n nf h) (o : Only (aJ z n 22) h h') : AF z n nf h' := by
  obtain ⟨W, V, b, e3, ⟨k, hk, e1, e2, ej⟩, md⟩ := A
  obtain ⟨o1, o2, o3, o4⟩ := o
  refine ⟨by unfold WS; rw [o1, o2]; exact W, by unfold WR; rw [o3]; exact V, b, by rw [o4 _ (by (first | omega | (simp only [aT, aN, aA, aJ, aM, aF, aFl, aFs]; omega)))]; exact e3, ⟨k, hk, by rw [o4 _ (by (first | omega | (simp only [aT, aN, aA, aJ, aM, aF, aFl, aFs]; omega)))]; exact e1, ?_, fun j hj => by rw [o4 _ (by (first | omega | (simp only [aT, aN, aA, aJ, aM, aF, aFl, aFs]; omega))), o4 _ (by (first | omega | (simp only [aT, aN, aA, aJ, aM, aF, aFl, aFs]; omega)))]; exact ej j hj⟩, fun f hf => ?_⟩
  · unfold cusV at e2 ⊢
    rw [o4 (aM z n) (by (first | omega | (simp only [aT, aN, aA, aJ, aM, aF, aFl, aFs]; omega))), o4 (aJ z n 21) (by (first | omega | (simp only [aT, aN, aA, aJ, aM, aF, aFl, aFs]; omega)))]
    exact e2
  · have := md f hf
    unfold MD at this ⊢
    rw [o4 (aJ z n 11) (by (first | omega | (simp only [aT, aN, aA, aJ, aM, aF, aFl, aFs]; omega))), o4 (aJ z n 12) (by (first | omega | (simp only [aT, aN, aA, aJ, aM, aF, aFl, aFs]; omega))), o4 (aJ z n 17) (by (first | omega | (simp only [aT, aN, aA, aJ, aM, aF, aFl, aFs]; omega)))]
    exact this
theorem lt_only {h' : AH} (o : Only (aJ z n 22) h h') : ahd (ky z n h'.2.2.1) (fsts z h'.2.2.1) = ahd (ky z n h.2.2.1) (fsts z h.2.2.1) := by
  obtain ⟨o1, o2, o3, o4⟩ := o
  have e1 : ky z n h'.2.2.1 = ky z n h.2.2.1 := by
    funext c f
    simp only [ky, o4 (aJ z n 11) (by (first | omega | (simp only [aT, aN, aA, aJ, aM, aF, aFl, aFs]; omega))), o4 (aJ z n 12) (by (first | omega | (simp only [aT, aN, aA, aJ, aM, aF, aFl, aFs]; omega))), o4 (aJ z n 17) (by (first | omega | (simp only [aT, aN, aA, aJ, aM, aF, aFl, aFs]; omega)))]
  have e2 : fsts z h'.2.2.1 = fsts z h.2.2.1 := by simp only [fsts, o4 (z + 4) (by (first | omega | (simp only [aT, aN, aA, aJ, aM, aF, aFl, aFs]; omega))), o4 (z + 5) (by (first | omega | (simp only [aT, aN, aA, aJ, aM, aF, aFl, aFs]; omega)))]
  rw [e1, e2]
theorem v_ahead8A (A : AF z n nf h) {f g : Nat} (hf : f < nf) (hg : g < nf) : f_X8_isAhead h (aM z n) (nI f) (nI g) = some (b2i (ahd (ky z n h.2.2.1) (fsts z h.2.2.1) f g), h) := by
  obtain ⟨W, V, b, e3, ⟨k, hk, e1, e2, ej⟩, md⟩ := A
  exact v_ahead8 W V e1 hk e2 ej (by omega) (by omega) (md f hf) (md g hg)
/-- the row holds a list -/
def Row (z n : Nat) (I : Nat → Nat → Int32) (l : List Nat) : Prop := ∀ j (hj : j < l.length), I (aJ z n 22) j = nI l[j]
theorem l_ordered28 {β : Type} (k_4 : AH → Nat → Int32 → Int32 → Int32 → Option (Int32 × AH)) (h0 : AH) (A0 : AF z n nf h0) {f i : Nat} (hf : f < nf) (l : List Nat) (hl : l.length ≤ f) (hm : ∀ g ∈ l, g < f) (hs : srt (ahd (ky z n h0.2.2.1) (fsts z h0.2.2.1)) l) : ∀ (m k : Nat) (h : AH), k < m → k ≤ l.length → Only (aJ z n 22) h0 h → (∀ j (hj : j < l.length), j < k → h.2.2.1 (aJ z n 22) j = nI l[j]) → (∀ j (hj : j < l.length), k ≤ j → h.2.2.1 (aJ z n 22) (j + 1) = nI l[j] ∧ ahd (ky z n h0.2.2.1) (fsts z h0.2.2.1) f l[j] = true) →
    ∃ h', f_X8_ordered_28 k_4 m h (aM z n) (nI i) (nI l.length) (nI f) (nI k) = k_4 h' (aM z n) (nI i) (nI (l.length + 1)) (nI (f + 1)) ∧ Only (aJ z n 22) h0 h' ∧ Row z n h'.2.2.1 (insL (ahd (ky z n h0.2.2.1) (fsts z h0.2.2.1)) f l) := by
  have hf40 : f < 40 := by have := A0.2.2.1; omega
  intro m
  induction m with
  | zero => intro k h h1; omega
  | succ m ih =>
    intro k h h1 h2 o r1 r2
    have A := AF_only A0 o
    have W := A.1
    have V := A.2.1
    have sM := W_M W
    have s22 := W_J22 W
    -- the field is put at k
    have fin : (∀ j (hj : j < l.length), j < k → ahd (ky z n h0.2.2.1) (fsts z h0.2.2.1) f l[j] = false) → ∃ h', f_X8_ordered_72 k_4 h (aM z n) (nI i) (nI l.length) (nI f) (nI k) = k_4 h' (aM z n) (nI i) (nI (l.length + 1)) (nI (f + 1)) ∧ Only (aJ z n 22) h0 h' ∧ Row z n h'.2.2.1 (insL (ahd (ky z n h0.2.2.1) (fsts z h0.2.2.1)) f l) := by
      intro hk
      refine ⟨setI h (aJ z n 22) k (nI f), ?_, o.set, ?_⟩
      · unfold f_X8_ordered_72 f_X8_ordered_83
        rw [ev_gR sM, V_J22 V, ev_sI s22 (by omega) (by omega), ev_bd, ev_bd, nI_1, nI_1, vn_i]
      · have e := insL_at (lt := ahd (ky z n h0.2.2.1) (fsts z h0.2.2.1)) (f := f) l k h2 hk (fun hk' => (r2 k hk' (Nat.le_refl k)).2)
        rw [e]
        intro j hj
        rw [sI_u]
        have hlen : (l.take k ++ f :: l.drop k).length = l.length + 1 := by rw [← e, len_insL]
        rw [hlen] at hj
        by_cases q1 : j < k
        · rw [u2n (Or.inr (by omega)), List.getElem_append_left (by simp; omega)]
          rw [r1 j (by omega) q1]
          simp
        · by_cases q2 : j = k
          · subst q2
            rw [u2s, List.getElem_append_right (by simp; omega)]
            simp [show min j l.length = j by omega]
          · obtain ⟨j', rfl⟩ : ∃ j', j = j' + 1 := ⟨j - 1, by omega⟩
            rw [u2n (Or.inr q2), (r2 j' (by omega) (by omega)).1, List.getElem_append_right (by simp; omega)]
            congr 1
            simp only [List.length_take, show min k l.length = k by omega]
            rw [List.getElem_cons]
            rw [dif_neg (by omega)]
            simp only [List.getElem_drop]
            congr 1
            omega
    unfold f_X8_ordered_28
    cases k with
    | zero =>
      rw [if_pos (by decide : (nI 0 : Int32) ≤ 0)]
      exact fin (fun j hj hjk => by omega)
    | succ k =>
      have hne : ¬ nI (k + 1) ≤ 0 := by
        have : ¬ nI (k + 1) ≤ nI 0 := by rw [nI_le_iff (by omega) (by omega)]; omega
        exact this
      have hkl : k < l.length := by omega
      have hg : l[k] < f := hm _ (List.getElem_mem hkl)
      rw [if_neg hne, ev_gR sM, V_J22 V, nI_prd, ev_aI s22 (by omega) (by omega), r1 k hkl (by omega), ev_rcv sM, cal_eq (v_ahead8A A hf (by omega)), lt_only o]
      by_cases e : ahd (ky z n h0.2.2.1) (fsts z h0.2.2.1) f l[k] = true
      · rw [e, if_neg (by decide : ¬ b2i true = 0), ev_gR sM, V_J22 V, ev_gR sM, V_J22 V, ev_aI s22 (by omega) (by omega), r1 k hkl (by omega), ev_sI s22 (by omega) (by omega), ev_bd, nI_pred2, vn_i]
        refine ih k _ (by omega) (by omega) o.set (fun j hj hjk => ?_) (fun j hj hjk => ?_)
        · rw [sI_u, u2n (Or.inr (by omega))]
          exact r1 j hj (by omega)
        · rw [sI_u]
          by_cases q : j = k
          · subst q
            rw [u2s]
            exact ⟨rfl, e⟩
          · rw [u2n (Or.inr (by omega))]
            exact r2 j hj (by omega)
      · have e' : ahd (ky z n h0.2.2.1) (fsts z h0.2.2.1) f l[k] = false := by simpa using e
        rw [e', if_pos (by decide : b2i false = 0)]
        refine fin (fun j hj hjk => ?_)
        by_cases q : j = k
        · subst q; exact e'
        · cases hq : ahd (ky z n h0.2.2.1) (fsts z h0.2.2.1) f l[j] with
          | false => rfl
          | true =>
            have hjk2 : j < k := by omega
            have := List.pairwise_iff_getElem.mp hs j k hj hkl hjk2
            rw [ahd_trans _ _ _ _ hq this] at e'
            cases e'
theorem l_ordered4 (h0 : AH) (A0 : AF z n nf h0) {i : Nat} : ∀ (m f : Nat) (h : AH), nf - f < m → f ≤ nf → Only (aJ z n 22) h0 h → Row z n h.2.2.1 (ordp z n h0.2.2.1 i f) → ∃ h', f_X8_ordered_4 m h (aM z n) (nI i) (nI (ordp z n h0.2.2.1 i f).length) (nI f) = some (nI (ordl z n nf h0.2.2.1 i).length, h') ∧ Only (aJ z n 22) h0 h' ∧ Row z n h'.2.2.1 (ordl z n nf h0.2.2.1 i) := by
  have hnf := A0.2.2.1
  intro m
  induction m with
  | zero => intro f h h1; omega
  | succ m ih =>
    intro f h h1 h2 o r
    have A := AF_only A0 o
    have W := A.1
    have V := A.2.1
    have sM := W_M W
    have s10 := W_J10 W
    unfold f_X8_ordered_4
    rw [ev_gI sM, A.2.2.2.1]
    by_cases hf : f < nf
    · have e10 : h.2.2.1 (aJ z n 10) f = h0.2.2.1 (aJ z n 10) f := by rw [o.2.2.2 _ (by (first | omega | (simp only [aT, aN, aA, aJ, aM, aF, aFl, aFs]; omega)))]
      rw [if_neg (nI_ge hf (by omega)), ev_gR sM, V_J10 V, ev_aI s10 (by omega) (by omega), e10]
      by_cases e : h0.2.2.1 (aJ z n 10) f = nI i
      · rw [if_pos e]
        obtain ⟨h', q1, q2, q3⟩ := l_ordered28 (β := Unit) (f_X8_ordered_4 m) h0 A0 (i := i) hf (ordp z n h0.2.2.1 i f) (ordp_len f) (fun g hg => ((ordp_mem f g).mp hg).1) (ordp_srt f) FU _ h (by have := ordp_len (z := z) (n := n) (i := i) (I := h0.2.2.1) f; rw [fu_big]; omega) (Nat.le_refl _) o (fun j hj _ => r j hj) (fun j hj hjk => by omega)
        rw [q1]
        have es : ordp z n h0.2.2.1 i (f + 1) = insL (ahd (ky z n h0.2.2.1) (fsts z h0.2.2.1)) f (ordp z n h0.2.2.1 i f) := by rw [ordp_s, if_pos e]
        have := ih (f + 1) h' (by omega) (by omega) q2 (by rw [es]; exact q3)
        rw [es, len_insL] at this
        exact this
      · rw [if_neg e]
        have es : ordp z n h0.2.2.1 i (f + 1) = ordp z n h0.2.2.1 i f := by rw [ordp_s, if_neg e]
        have := ih (f + 1) h (by omega) (by omega) o (by rw [es]; exact r)
        rw [es] at this
        unfold f_X8_ordered_83
        rw [ev_bd, nI_1]
        exact this
    · have e : f = nf := by omega
      subst e
      rw [if_pos (nI_le (Nat.le_refl f) (by omega))]
      exact ⟨h, rfl, o, r⟩
theorem v_ordered (A : AF z n nf h) (i : Nat) : ∃ h', f_X8_ordered h (aM z n) (nI i) = some (nI (ordl z n nf h.2.2.1 i).length, h') ∧ Only (aJ z n 22) h h' ∧ Row z n h'.2.2.1 (ordl z n nf h.2.2.1 i) := by
  have hnf := A.2.2.1
  have := l_ordered4 h A (i := i) FU 0 h (by rw [fu_big]; omega) (by omega) Only.rf (fun j hj => absurd hj (by simp [ordp_0]))
  exact this
end ORD
