/-! ===== putInOrder ===== -/
theorem ahd_congr {K K' : Int32 → Nat → Nat} {f g : Nat} : ∀ (cs : List Int32), (∀ c, K c f = K' c f) → (∀ c, K c g = K' c g) → ahd K cs f g = ahd K' cs f g := by
  intro cs
  induction cs with
  | nil => intro _ _; rfl
  | cons c cs ih =>
    intro h1 h2
    rw [ahd, ahd, h1, h2, ih h1 h2]
theorem insL_congr {lt lt' : Nat → Nat → Bool} {f : Nat} : ∀ (l : List Nat), (∀ g ∈ l, lt f g = lt' f g) → insL lt f l = insL lt' f l := by
  intro l
  induction l with
  | nil => intro _; rfl
  | cons g l ih =>
    intro h
    rw [insL, insL, h g List.mem_cons_self, ih (fun x hx => h x (List.mem_cons_of_mem _ hx))]
theorem insL_app {lt : Nat → Nat → Bool} {f : Nat} : ∀ (p s : List Nat), (∀ g ∈ p, lt f g = false) → (∀ g s', s = g :: s' → lt f g = true) → insL lt f (p ++ s) = p ++ f :: s := by
  intro p
  induction p with
  | nil =>
    intro s _ h2
    cases s with
    | nil => rfl
    | cons g s =>
      simp only [List.nil_append]
      rw [insL, if_pos (h2 g s rfl)]
  | cons g p ih =>
    intro s h1 h2
    rw [List.cons_append, insL, if_neg (by rw [h1 g List.mem_cons_self]; decide), ih s (fun x hx => h1 x (List.mem_cons_of_mem _ hx)) h2]
    rfl
section CHN
variable {z n : Nat} {R R' : Nat → Nat → Option Nat}
theorem Chn_congr : ∀ (l : List Nat) (r : Option Nat), Chn z n R r l → (∀ x ∈ l, R' (aF z n x) 6 = R (aF z n x) 6) → Chn z n R' r l := by
  intro l
  induction l with
  | nil => intro r h _; exact h
  | cons f l ih =>
    intro r h hx
    refine ⟨h.1, ?_⟩
    rw [hx f List.mem_cons_self]
    exact ih _ h.2 (fun x hy => hx x (List.mem_cons_of_mem _ hy))
theorem Chn_ins {f g : Nat} {s : List Nat} : ∀ (p : List Nat) (r : Option Nat), Chn z n R r (p ++ g :: s) → (∀ x ∈ p, R' (aF z n x) 6 = R (aF z n x) 6) → R' (aF z n g) 6 = some (aF z n f) → R' (aF z n f) 6 = R (aF z n g) 6 → (∀ x ∈ s, R' (aF z n x) 6 = R (aF z n x) 6) → Chn z n R' r (p ++ g :: f :: s) := by
  intro p
  induction p with
  | nil =>
    intro r h _ h2 h3 h4
    refine ⟨h.1, h2, ?_⟩
    rw [h3]
    exact Chn_congr s _ h.2 h4
  | cons x p ih =>
    intro r h h1 h2 h3 h4
    refine ⟨h.1, ?_⟩
    rw [h1 x List.mem_cons_self]
    exact ih _ h.2 (fun y hy => h1 y (List.mem_cons_of_mem _ hy)) h2 h3 h4
theorem Chn_tail {g : Nat} {s : List Nat} : ∀ (p : List Nat) (r : Option Nat), Chn z n R r (p ++ g :: s) → Chn z n R (R (aF z n g) 6) s := by
  intro p
  induction p with
  | nil => intro r h; exact h.2
  | cons x p ih => intro r h; exact ih _ h.2
end CHN
/-- field f has been put into tank i's chain -/
def Put (z n i f : Nat) (l : List Nat) (h h' : AH) : Prop := h'.1 = h.1 ∧ h'.2.1 = h.2.1 ∧ h'.2.2.1 = h.2.2.1 ∧ Chn z n h'.2.2.2 (h'.2.2.2 (aT z n i) 9) (insL (ahd (kyC z n h.2.2.1) (fsts z h.2.2.1)) f l) ∧ ∀ a k, (a ≠ aT z n i ∨ k ≠ 9) → (k = 6 → ∀ g, (g = f ∨ g ∈ l) → a ≠ aF z n g) → h'.2.2.2 a k = h.2.2.2 a k
section PUT
variable {z n nf : Nat} {h : AH}
theorem v_put36 (hn : n ≤ 11) {i f : Nat} (hi : i < n) (sT : h.2.1 (aT z n i) = some (.inl 5)) {l p s : List Nat} {r b : Option Nat} (hl : l = p ++ s) (hs : ∀ g, (g = f ∨ g ∈ l) → h.2.1 (aF z n g) = some (.inl 1)) (hc : Chn z n h.2.2.2 (h.2.2.2 (aT z n i) 9) l) (hr : Chn z n h.2.2.2 r s) (hp : (p = [] ∧ b = none) ∨ ∃ p' g, p = p' ++ [g] ∧ b = some (aF z n g) ∧ r = h.2.2.2 (aF z n g) 6) (hf : f ∉ l) (hd : l.Nodup) (h1 : ∀ g ∈ p, ahd (kyC z n h.2.2.1) (fsts z h.2.2.1) f g = false) (h2 : ∀ g s', s = g :: s' → ahd (kyC z n h.2.2.1) (fsts z h.2.2.1) f g = true) : ∃ h', f_X5_putInOrder_36 h (aT z n i) (some (aF z n f)) b r = some ((), h') ∧ Put z n i f l h h' := by
  unfold f_X5_putInOrder_36 f_X5_putInOrder_59
  have sF := hs f (Or.inl rfl)
  have hins := insL_app p s h1 h2
  have aFi : ∀ x y, aF z n x = aF z n y → x = y := fun x y e => by unfold aF at e; omega
  have aTF : ∀ x, aT z n i ≠ aF z n x := fun x => by unfold aT aF; omega
  have hfs : ∀ x ∈ s, x ≠ f := fun x hx e => hf (by rw [hl, ← e]; exact List.mem_append_right _ hx)
  have hfp : ∀ x ∈ p, x ≠ f := fun x hx e => hf (by rw [hl, ← e]; exact List.mem_append_left _ hx)
  rcases hp with ⟨rfl, rfl⟩ | ⟨p', g, rfl, rfl, rfl⟩
  · refine ⟨setR (setR h (aF z n f) 6 r) (aT z n i) 9 (some (aF z n f)), ?_, rfl, rfl, rfl, ?_, ?_⟩
    · rw [ev_pR sF, ev_nulN, ev_pR (by rw [sR_s]; exact sT)]
    · rw [hl, hins]
      refine ⟨by rw [sR_r, if_pos ⟨rfl, rfl⟩], ?_⟩
      rw [sR_r, if_neg (fun e => aTF f e.1.symm), sR_r, if_pos ⟨rfl, rfl⟩]
      refine Chn_congr s _ hr (fun x hx => ?_)
      rw [sR_r, if_neg (fun e => aTF x e.1.symm), sR_r, if_neg (fun e => hfs x hx (aFi _ _ e.1))]
    · intro a k q1 q2
      rw [sR_r, if_neg (fun e => by rcases q1 with q | q; exact q e.1; exact q e.2), sR_r, if_neg (fun e => q2 e.2 f (Or.inl rfl) e.1)]
  · have hgl : g ∈ l := by rw [hl]; simp
    have sG := hs g (Or.inr hgl)
    have hgf : g ≠ f := fun e => hf (by rw [← e]; exact hgl)
    have hd' : (p' ++ g :: s).Nodup := by rw [hl] at hd; simpa using hd
    obtain ⟨d1, d2, d3⟩ := List.nodup_append.mp hd'
    obtain ⟨d4, d5⟩ := List.nodup_cons.mp d2
    refine ⟨setR (setR h (aF z n f) 6 (h.2.2.2 (aF z n g) 6)) (aF z n g) 6 (some (aF z n f)), ?_, rfl, rfl, rfl, ?_, ?_⟩
    · rw [ev_pR sF, ev_nulS, ev_pR (by rw [sR_s]; exact sG)]
    · rw [hl, hins]
      have e : (p' ++ [g]) ++ f :: s = p' ++ g :: f :: s := by simp
      rw [e]
      have hc' : Chn z n h.2.2.2 (h.2.2.2 (aT z n i) 9) (p' ++ g :: s) := by rw [hl] at hc; simpa using hc
      rw [sR_r, if_neg (fun e => aTF g e.1), sR_r, if_neg (fun e => aTF f e.1)]
      refine Chn_ins p' _ hc' (fun x hx => ?_) ?_ ?_ (fun x hx => ?_)
      · rw [sR_r, if_neg (fun e => d3 x hx g List.mem_cons_self (aFi _ _ e.1)), sR_r, if_neg (fun e => hfp x (List.mem_append_left _ hx) (aFi _ _ e.1))]
      · rw [sR_r, if_pos ⟨rfl, rfl⟩]
      · rw [sR_r, if_neg (fun e => hgf (aFi _ _ e.1).symm), sR_r, if_pos ⟨rfl, rfl⟩]
      · rw [sR_r, if_neg (fun e => d4 (by rw [← aFi _ _ e.1]; exact hx)), sR_r, if_neg (fun e => hfs x hx (aFi _ _ e.1))]
    · intro a k q1 q2
      rw [sR_r, if_neg (fun e => q2 e.2 g (Or.inr hgl) e.1), sR_r, if_neg (fun e => q2 e.2 f (Or.inl rfl) e.1)]
theorem l_put8 (W : WS z n nf h) (V : WR z n nf h) (hn : n ≤ 11) {k : Nat} (hk : h.2.2.1 (z + 4) 1 = nI k) (hk10 : k ≤ 10) {i f : Nat} (hi : i < n) {l : List Nat} (hl40 : ∀ g, (g = f ∨ g ∈ l) → g < 40 ∧ h.2.1 (aF z n g) = some (.inl 1) ∧ FD z n h.2.2.1 g) (hc : Chn z n h.2.2.2 (h.2.2.2 (aT z n i) 9) l) (hf : f ∉ l) (hd : l.Nodup) : ∀ (s p : List Nat) (m : Nat) (r b : Option Nat), s.length < m → l = p ++ s → Chn z n h.2.2.2 r s → ((p = [] ∧ b = none) ∨ ∃ p' g, p = p' ++ [g] ∧ b = some (aF z n g) ∧ r = h.2.2.2 (aF z n g) 6) → (∀ g ∈ p, ahd (kyC z n h.2.2.1) (fsts z h.2.2.1) f g = false) → ∃ h', f_X5_putInOrder_8 m h (aT z n i) (some (aF z n f)) (some (z + 4)) b r = some ((), h') ∧ Put z n i f l h h' := by
  have sT := W_T W hi
  have s4 := W_cu W
  intro s
  induction s with
  | nil =>
    intro p m r b hm hl hr hp h1
    obtain ⟨m, rfl⟩ : ∃ m', m = m' + 1 := ⟨m - 1, by simp at hm; omega⟩
    unfold f_X5_putInOrder_8
    have hr' : r = none := hr
    subst hr'
    rw [ev_nulN]
    exact v_put36 hn hi sT hl (fun g hg => (hl40 g hg).2.1) hc rfl hp hf hd h1 (fun g s' e => by cases e)
  | cons x s ih =>
    intro p m r b hm hl hr hp h1
    obtain ⟨m, rfl⟩ : ∃ m', m = m' + 1 := ⟨m - 1, by simp at hm; omega⟩
    unfold f_X5_putInOrder_8
    have hr' := hr.1
    subst hr'
    have hxl : x ∈ l := by rw [hl]; simp
    obtain ⟨x1, x2, x3⟩ := hl40 x (Or.inr hxl)
    obtain ⟨f1, f2, f3⟩ := hl40 f (Or.inl rfl)
    rw [ev_nulS, ev_rcv s4, cal_eq (v_ahead7 W V hk hk10 f1 x1 f2 x2 f3 x3)]
    by_cases e : ahd (kyC z n h.2.2.1) (fsts z h.2.2.1) f x = true
    · rw [e, if_neg (by decide : ¬ b2i true = 0)]
      exact v_put36 hn hi sT hl (fun g hg => (hl40 g hg).2.1) hc hr hp hf hd h1 (fun g s' e' => by cases e'; exact e)
    · have e' : ahd (kyC z n h.2.2.1) (fsts z h.2.2.1) f x = false := by simpa using e
      rw [e', if_pos (by decide : b2i false = 0), ev_gR x2]
      refine ih (p ++ [x]) m _ _ (by simp at hm; omega) (by rw [hl]; simp) hr.2 (Or.inr ⟨p, x, rfl, rfl, rfl⟩) (fun g hg => ?_)
      rcases List.mem_append.mp hg with q | q
      · exact h1 g q
      · rw [List.mem_singleton.mp q]; exact e'
theorem v_put (W : WS z n nf h) (V : WR z n nf h) (hn : n ≤ 11) {k : Nat} (hk : h.2.2.1 (z + 4) 1 = nI k) (hk10 : k ≤ 10) {i f : Nat} (hi : i < n) {l : List Nat} (hl40 : ∀ g, (g = f ∨ g ∈ l) → g < 40 ∧ h.2.1 (aF z n g) = some (.inl 1) ∧ FD z n h.2.2.1 g) (hc : Chn z n h.2.2.2 (h.2.2.2 (aT z n i) 9) l) (hf : f ∉ l) (hd : l.Nodup) (hl : l.length < 1000) : ∃ h', f_X5_putInOrder h (aT z n i) (some (aF z n f)) (some (z + 4)) = some ((), h') ∧ Put z n i f l h h' := by
  unfold f_X5_putInOrder
  rw [ev_gR (W_T W hi)]
  exact l_put8 W V hn hk hk10 hi hl40 hc hf hd l [] FU _ none (by rw [fu_big]; exact hl) rfl hc (Or.inl ⟨rfl, rfl⟩) (fun g hg => by cases hg)
end PUT
theorem srt_nodup {K : Int32 → Nat → Nat} {cs : List Int32} {l : List Nat} (h : srt (ahd K cs) l) : l.Nodup := by
  refine List.Pairwise.imp (fun {a b} q e => ?_) h
  subst e
  rw [ahd_irr] at q
  cases q
theorem ordl_nodup {z n nf i : Nat} {I : Nat → Nat → Int32} : (ordl z n nf I i).Nodup := srt_nodup (ordp_srt nf)
