/-! ===== what a tank gives: the class ===== -/
/-- only the cells of s have changed -/
def Ag (s : Nat → Nat → Prop) (h h' : AH) : Prop := h'.1 = h.1 ∧ h'.2.1 = h.2.1 ∧ h'.2.2.2 = h.2.2.2 ∧ ∀ a k, ¬ s a k → h'.2.2.1 a k = h.2.2.1 a k
section AG
variable {s t : Nat → Nat → Prop} {h h1 h2 : AH}
theorem Ag.rf : Ag s h h := ⟨rfl, rfl, rfl, fun _ _ _ => rfl⟩
theorem Ag.tr (p : Ag s h h1) (q : Ag s h1 h2) : Ag s h h2 := ⟨q.1.trans p.1, q.2.1.trans p.2.1, q.2.2.1.trans p.2.2.1, fun a k n => (q.2.2.2 a k n).trans (p.2.2.2 a k n)⟩
theorem Ag.mo (p : Ag s h h1) (i : ∀ a k, s a k → t a k) : Ag t h h1 := ⟨p.1, p.2.1, p.2.2.1, fun a k n => p.2.2.2 a k (fun q => n (i a k q))⟩
theorem Ag.set {a k : Nat} {x : Int32} (p : Ag s h h1) (q : s a k) : Ag s h (setI h1 a k x) := ⟨p.1, p.2.1, p.2.2.1, fun a' k' n => by
  rw [sI_u, u2n]
  · exact p.2.2.2 a' k' n
  · by_cases e : a' = a
    · right; rintro rfl; subst e; exact n q
    · exact Or.inl e⟩
end AG
/-- shares and remainders of the fields in l -/
def c78 (z n : Nat) (l : List Nat) (a k : Nat) : Prop := (∃ f ∈ l, a = aF z n f) ∧ (k = 7 ∨ k = 8)
theorem c78_mo {z n f : Nat} {l : List Nat} (a k : Nat) (h : c78 z n l a k) : c78 z n (f :: l) a k := by
  obtain ⟨⟨x, hx, e⟩, q⟩ := h
  exact ⟨⟨x, List.mem_cons_of_mem _ hx, e⟩, q⟩
theorem c78_hd {z n f k : Nat} {l : List Nat} (h : k = 7 ∨ k = 8) : c78 z n (f :: l) (aF z n f) k := ⟨⟨f, List.mem_cons_self, rfl⟩, h⟩
theorem c78_in {z n f k : Nat} {l : List Nat} (hf : f ∈ l) (h : k = 7 ∨ k = 8) : c78 z n l (aF z n f) k := ⟨⟨f, hf, rfl⟩, h⟩
theorem aF_inj {z n f g : Nat} (h : aF z n f = aF z n g) : f = g := by unfold aF at h; omega
theorem aF_ne {z n f g : Nat} (h : f ≠ g) : aF z n f ≠ aF z n g := fun e => h (aF_inj e)
section T7
variable {z n : Nat}
/-- what the loops read of the fields -/
def Rd (z n : Nat) (o : Nat → Bool) (A : Nat → Int32) (reach : Int32) (s : List Nat) (h : AH) : Prop := ∀ f ∈ s, h.2.1 (aF z n f) = some (.inl 1) ∧ (reach < h.2.2.1 (aF z n f) 2 ↔ o f = true) ∧ h.2.2.1 (aF z n f) 3 = A f
theorem Rd_ag {o : Nat → Bool} {A : Nat → Int32} {reach : Int32} {s l : List Nat} {h h' : AH} (r : Rd z n o A reach s h) (p : Ag (c78 z n l) h h') : Rd z n o A reach s h' := by
  intro f hf
  obtain ⟨r1, r2, r3⟩ := r f hf
  rw [p.2.1, p.2.2.2 _ _ (fun q => by rcases q.2 with q | q <;> omega), p.2.2.2 _ _ (fun q => by rcases q.2 with q | q <;> omega)]
  exact ⟨r1, r2, r3⟩
theorem Rd_tl {o : Nat → Bool} {A : Nat → Int32} {reach : Int32} {s : List Nat} {f : Nat} {h : AH} (r : Rd z n o A reach (f :: s) h) : Rd z n o A reach s h := fun x hx => r x (List.mem_cons_of_mem _ hx)
theorem l_areas7 {o : Nat → Bool} {A : Nat → Int32} {reach : Int32} {c : Nat → Nat} {h : AH} : ∀ (s : List Nat) (r : Option Nat) (m acc : Nat), Chn z n h.2.2.2 r s → Rd z n o A reach s h → (∀ f ∈ s, if o f = true then c f = 0 else A f = nI (c f)) → s.length < m → f_X2_areasWithin_7 m h reach (nI acc) r = some (nI (acc + sN c s), h) := by
  intro s
  induction s with
  | nil =>
    intro r m acc hc _ _ hm
    obtain ⟨m, rfl⟩ : ∃ m', m = m' + 1 := ⟨m - 1, by simp at hm; omega⟩
    unfold f_X2_areasWithin_7
    rw [show r = none from hc, ev_nulN]
    rfl
  | cons f s ih =>
    intro r m acc hc rd ha hm
    obtain ⟨m, rfl⟩ : ∃ m', m = m' + 1 := ⟨m - 1, by simp at hm; omega⟩
    obtain ⟨sF, ho, eA⟩ := rd f List.mem_cons_self
    have hcf := ha f List.mem_cons_self
    have nx : ∀ acc', f_X2_areasWithin_7 m h reach (nI acc') (h.2.2.2 (aF z n f) 6) = some (nI (acc' + sN c s), h) := fun acc' => ih _ m acc' hc.2 (Rd_tl rd) (fun x hx => ha x (List.mem_cons_of_mem _ hx)) (by simp at hm; omega)
    unfold f_X2_areasWithin_7 f_X2_areasWithin_28
    rw [hc.1, ev_nulS, ev_gI sF]
    by_cases e : o f = true
    · rw [if_pos e] at hcf
      rw [if_pos (ho.mpr e), ev_bd, Int32.add_zero, ev_gR sF, nx, sN, hcf, Nat.zero_add]
    · rw [if_neg e] at hcf
      rw [if_neg (fun q => e (ho.mp q)), ev_gI sF, ev_bd, eA, hcf, nI_ad, ev_gR sF, nx, sN, Nat.add_assoc]
theorem l_order7s {o : Nat → Bool} {A : Nat → Int32} {reach : Int32} : ∀ (s : List Nat) (r : Option Nat) (m : Nat) (left : Int32) (h : AH), s.Nodup → Chn z n h.2.2.2 r s → Rd z n o A reach s h → s.length < m → ∃ h', f_X2_shareInOrder_8 m h reach left r = some ((), h') ∧ Ag (c78 z n s) h h' ∧ ∀ f ∈ s, h'.2.2.1 (aF z n f) 7 = shI o A s left f := by
  intro s
  induction s with
  | nil =>
    intro r m left h _ hc _ hm
    obtain ⟨m, rfl⟩ : ∃ m', m = m' + 1 := ⟨m - 1, by simp at hm; omega⟩
    unfold f_X2_shareInOrder_8
    rw [show r = none from hc, ev_nulN]
    exact ⟨h, rfl, Ag.rf, fun f hf => by cases hf⟩
  | cons f s ih =>
    intro r m left h hd hc rd hm
    obtain ⟨m, rfl⟩ : ∃ m', m = m' + 1 := ⟨m - 1, by simp at hm; omega⟩
    obtain ⟨sF, ho, eA⟩ := rd f List.mem_cons_self
    obtain ⟨d1, d2⟩ := List.nodup_cons.mp hd
    have fin : ∀ y : Int32, y = (if o f = true then 0 else if left < A f then 0 else A f) → ∃ h', f_X2_shareInOrder_42 (f_X2_shareInOrder_8 m) h reach left (some (aF z n f)) (some (aF z n f)) y = some ((), h') ∧ Ag (c78 z n (f :: s)) h h' ∧ ∀ x ∈ f :: s, h'.2.2.1 (aF z n x) 7 = shI o A (f :: s) left x := by
      intro y hy
      have p1 : Ag (c78 z n (f :: s)) h (setI h (aF z n f) 7 y) := Ag.rf.set (c78_hd (Or.inl rfl))
      obtain ⟨h', q1, q2, q3⟩ := ih (h.2.2.2 (aF z n f) 6) m (left - y) (setI h (aF z n f) 7 y) d2 hc.2 (Rd_ag (Rd_tl rd) p1) (by simp at hm; omega)
      unfold f_X2_shareInOrder_42
      rw [ev_pI sF, ev_gI (by rw [sI_s]; exact sF), sI_u, u2s, ev_bd, ev_gR (by rw [sI_s]; exact sF), sI_r]
      refine ⟨h', q1, p1.tr (q2.mo c78_mo), fun x hx => ?_⟩
      rw [shI_c]
      rcases List.mem_cons.mp hx with rfl | hx
      · rw [if_pos rfl, q2.2.2.2 _ _ (fun q => by
          obtain ⟨⟨g, hg, e⟩, -⟩ := q
          exact d1 (by rw [aF_inj e]; exact hg)), sI_u, u2s, hy]
      · have ne : x ≠ f := fun e => d1 (by rw [← e]; exact hx)
        rw [if_neg ne, ← hy]
        exact q3 x hx
    unfold f_X2_shareInOrder_8
    rw [hc.1, ev_nulS, ev_gI sF]
    by_cases e : o f = true
    · rw [if_pos (ho.mpr e)]
      unfold f_X2_shareInOrder_41
      exact fin 0 (by rw [if_pos e])
    · rw [if_neg (fun q => e (ho.mp q)), ev_gI sF, eA]
      by_cases e2 : left < A f
      · rw [if_pos e2]
        unfold f_X2_shareInOrder_41
        exact fin 0 (by rw [if_neg e, if_pos e2])
      · rw [if_neg e2, ev_gI sF, eA]
        exact fin _ (by rw [if_neg e, if_neg e2])
/-- whole shares: base and remainder -/
theorem l_fair7s {o : Nat → Bool} {A : Nat → Int32} {reach : Int32} {c : Nat → Nat} {g ar : Nat} (hg : g ≤ 20) (har : 0 < ar) (har2 : ar < 1000) (rT : Option Nat) : ∀ (s : List Nat) (r : Option Nat) (m x : Nat) (h : AH), s.Nodup → Chn z n h.2.2.2 r s → Rd z n o A reach s h → (∀ f ∈ s, c f ≤ 20 ∧ if o f = true then c f = 0 else A f = nI (c f)) → x + sN (fun f => g * c f / ar) s ≤ g → s.length < m → ∃ h', f_X2_shareFairly_9 m h rT reach (nI g) (nI ar) (nI (g - x)) r = f_X2_shareFairly_88 FU h' rT (nI (g - x - sN (fun f => g * c f / ar) s)) ∧ Ag (c78 z n s) h h' ∧ ∀ f ∈ s, h'.2.2.1 (aF z n f) 7 = nI (g * c f / ar) ∧ h'.2.2.1 (aF z n f) 8 = nI (g * c f % ar) := by
  intro s
  induction s with
  | nil =>
    intro r m x h _ hc _ _ _ hm
    obtain ⟨m, rfl⟩ : ∃ m', m = m' + 1 := ⟨m - 1, by simp at hm; omega⟩
    unfold f_X2_shareFairly_9
    rw [show r = none from hc, ev_nulN]
    exact ⟨h, rfl, Ag.rf, fun f hf => by cases hf⟩
  | cons f s ih =>
    intro r m x h hd hc rd ha hx hm
    obtain ⟨m, rfl⟩ : ∃ m', m = m' + 1 := ⟨m - 1, by simp at hm; omega⟩
    obtain ⟨sF, ho, eA⟩ := rd f List.mem_cons_self
    obtain ⟨d1, d2⟩ := List.nodup_cons.mp hd
    obtain ⟨hc20, hcf⟩ := ha f List.mem_cons_self
    rw [sN] at hx
    have hgc : g * c f ≤ 400 := Nat.le_trans (Nat.mul_le_mul hg hc20) (by omega)
    have e1 : g * c f / ar ≤ g - x := by omega
    have ar0 : ¬ nI ar = 0 := fun q => by have := nI_inj (b := 0) (by omega) (by omega) q; omega
    have ar1 : ¬ nI ar ≤ 0 := fun q => by have := (nI_le_iff (b := 0) (by omega) (by omega)).mp q; omega
    have fin : ∃ h', f_X2_shareFairly_34 (f_X2_shareFairly_9 m) h rT reach (nI g) (nI ar) (nI (g - x)) (some (aF z n f)) (nI (g * c f)) = f_X2_shareFairly_88 FU h' rT (nI (g - x - sN (fun f => g * c f / ar) (f :: s))) ∧ Ag (c78 z n (f :: s)) h h' ∧ ∀ y ∈ f :: s, h'.2.2.1 (aF z n y) 7 = nI (g * c y / ar) ∧ h'.2.2.1 (aF z n y) 8 = nI (g * c y % ar) := by
      have p1 : Ag (c78 z n (f :: s)) h (setI (setI h (aF z n f) 7 (nI (g * c f / ar))) (aF z n f) 8 (nI (g * c f % ar))) := (Ag.rf.set (c78_hd (Or.inl rfl))).set (c78_hd (Or.inr rfl))
      obtain ⟨h', q1, q2, q3⟩ := ih (h.2.2.2 (aF z n f) 6) m (x + g * c f / ar) (setI (setI h (aF z n f) 7 (nI (g * c f / ar))) (aF z n f) 8 (nI (g * c f % ar))) d2 hc.2 (Rd_ag (Rd_tl rd) p1) (fun y hy => ha y (List.mem_cons_of_mem _ hy)) (by omega) (by simp at hm; omega)
      unfold f_X2_shareFairly_34 f_X2_shareFairly_50
      have emod : nI (g * c f) - nI (g * c f / ar) * nI ar = nI (g * c f % ar) := by
        rw [← nI_div (by omega) (by omega), nI_mod (by omega) (by omega)]
      rw [if_neg ar1, ev_dv ar0, nI_div (by omega) (by omega), ev_pI sF, ev_gI (by rw [sI_s]; exact sF), sI_u, u2s, emod, ev_pI (by rw [sI_s]; exact sF), ev_gI (by rw [sI_s, sI_s]; exact sF), sI_u, u2n (Or.inr (by omega)), sI_u, u2s, ev_bd, nI_sub e1, ev_gR (by rw [sI_s, sI_s]; exact sF), sI_r, sI_r]
      rw [← Nat.sub_sub] at q1
      refine ⟨h', by rw [q1, sN, Nat.sub_sub (g - x)], p1.tr (q2.mo c78_mo), fun y hy => ?_⟩
      rcases List.mem_cons.mp hy with rfl | hy
      · have nn : ∀ k, ¬ c78 z n s (aF z n y) k := fun k q => by
          obtain ⟨⟨g, hg, e⟩, -⟩ := q
          exact d1 (by rw [aF_inj e]; exact hg)
        rw [q2.2.2.2 _ _ (nn 7), q2.2.2.2 _ _ (nn 8), sI_u, u2n (Or.inr (by omega)), sI_u, u2s, u2s]
        exact ⟨rfl, rfl⟩
      · exact q3 y hy
    unfold f_X2_shareFairly_9
    rw [hc.1, ev_nulS, ev_gI sF]
    by_cases e : o f = true
    · rw [if_pos e] at hcf
      rw [hcf, Nat.mul_zero] at fin
      rw [if_pos (ho.mpr e)]
      exact fin
    · rw [if_neg e] at hcf
      rw [if_neg (fun q => e (ho.mp q)), ev_gI sF, eA, hcf, nI_mul]
      exact fin
/-- one more -/
theorem l_more9 {R : Nat → Nat} {h : AH} (l1 : Option Nat) : ∀ (s : List Nat) (r : Option Nat) (m : Nat) (b : Option Nat) (g : Nat), Chn z n h.2.2.2 r s → (∀ f ∈ s, h.2.1 (aF z n f) = some (.inl 1) ∧ h.2.2.1 (aF z n f) 8 = nI (R f) ∧ R f < 1000) → g < 1000 → s.length < m → f_X2_giveOneMore_9 m h (b.map (aF z n)) (nI g) r = nul ((pkC R s b g).map (aF z n)) (f_X2_giveOneMore_55 h) (gI h ((pkC R s b g).map (aF z n)) 1 7 (fun v2 => pI h ((pkC R s b g).map (aF z n)) 1 7 (v2 + 1) (fun h3 => pI h3 ((pkC R s b g).map (aF z n)) 1 8 0 (fun h4 => f_X2_giveOneMore_55 h4)))) := by
  intro s
  induction s with
  | nil =>
    intro r m b g hc _ _ hm
    obtain ⟨m, rfl⟩ : ∃ m', m = m' + 1 := ⟨m - 1, by simp at hm; omega⟩
    unfold f_X2_giveOneMore_9
    rw [show r = none from hc, ev_nulN]
    rfl
  | cons f s ih =>
    intro r m b g hc hs hg hm
    obtain ⟨m, rfl⟩ : ∃ m', m = m' + 1 := ⟨m - 1, by simp at hm; omega⟩
    obtain ⟨sF, e8, hR⟩ := hs f List.mem_cons_self
    have hs' : ∀ f ∈ s, h.2.1 (aF z n f) = some (.inl 1) ∧ h.2.2.1 (aF z n f) 8 = nI (R f) ∧ R f < 1000 := fun x hx => hs x (List.mem_cons_of_mem _ hx)
    rw [pkC]
    unfold f_X2_giveOneMore_9 f_X2_giveOneMore_28
    rw [hc.1, ev_nulS, ev_gI sF, e8]
    by_cases e : R f ≤ g
    · rw [if_pos ((nI_le_iff (by omega) (by omega)).mpr e), ev_gR sF, if_pos e]
      exact ih _ m b g hc.2 hs' hg (by simp at hm; omega)
    · rw [if_neg (fun q => e ((nI_le_iff (by omega) (by omega)).mp q)), ev_gI sF, e8, ev_gR sF, if_neg e]
      exact ih _ m (some f) (R f) hc.2 hs' hR (by simp at hm; omega)
theorem l_more88 {ar : Nat} (har : 0 < ar) (har2 : ar < 1000) {l : List Nat} (hd : l.Nodup) (hlen : l.length ≤ 40) {aTi : Nat} : ∀ (k m : Nat) (h : AH) (S R : Nat → Nat), k < m → k ≤ 20 → h.2.1 aTi = some (.inl 5) → Chn z n h.2.2.2 (h.2.2.2 aTi 9) l → (∀ f ∈ l, h.2.1 (aF z n f) = some (.inl 1) ∧ h.2.2.1 (aF z n f) 7 = nI (S f) ∧ h.2.2.1 (aF z n f) 8 = nI (R f) ∧ R f < ar) → k * ar ≤ sN R l → ∃ h', f_X2_shareFairly_88 m h (some aTi) (nI k) = some ((), h') ∧ Ag (c78 z n l) h h' ∧ ∀ f ∈ l, h'.2.2.1 (aF z n f) 7 = nI (pkN l k R S f) := by
  intro k
  induction k with
  | zero =>
    intro m h S R hm _ _ _ hl _
    obtain ⟨m, rfl⟩ : ∃ m', m = m' + 1 := ⟨m - 1, by omega⟩
    unfold f_X2_shareFairly_88
    rw [if_pos (by decide : nI 0 ≤ 0)]
    exact ⟨h, rfl, Ag.rf, fun f hf => (hl f hf).2.1⟩
  | succ k ih =>
    intro m h S R hm hk sT hc hl hsum
    obtain ⟨m, rfl⟩ : ∃ m', m = m' + 1 := ⟨m - 1, by omega⟩
    obtain ⟨b, b1, b2, b3, b4, b5⟩ := pk_some hd hsum (fun f hf => (hl f hf).2.2.2) har
    obtain ⟨sB, hS, hR, -⟩ := hl b b2
    have p1 : Ag (c78 z n l) h (setI (setI h (aF z n b) 7 (nI (S b + 1))) (aF z n b) 8 0) := (Ag.rf.set (c78_in b2 (Or.inl rfl))).set (c78_in b2 (Or.inr rfl))
    have e1 : f_X2_giveOneMore h (some aTi) = some ((), setI (setI h (aF z n b) 7 (nI (S b + 1))) (aF z n b) 8 0) := by
      unfold f_X2_giveOneMore
      have := l_more9 (h := h) (R := R) none l (h.2.2.2 aTi 9) FU none 0 hc (fun f hf => ⟨(hl f hf).1, (hl f hf).2.2.1, by have := (hl f hf).2.2.2; omega⟩) (by omega) (by rw [fu_big]; omega)
      rw [b1] at this
      rw [ev_gR sT]
      refine this.trans ?_
      unfold f_X2_giveOneMore_55
      rw [show (some b).map (aF z n) = some (aF z n b) from rfl, ev_nulS, ev_gI sB, hS, nI_1, ev_pI sB, ev_pI (by rw [sI_s]; exact sB)]
    unfold f_X2_shareFairly_88
    rw [if_neg (fun q => by have := (nI_le_iff (b := 0) (by omega) (by omega)).mp q; omega), cal_eq e1, ev_bd, nI_pred2]
    obtain ⟨h', q1, q2, q3⟩ := ih m (setI (setI h (aF z n b) 7 (nI (S b + 1))) (aF z n b) 8 0) (up S b (S b + 1)) (up R b 0) (by omega) (by omega) sT hc (fun f hf => by
      obtain ⟨g1, g2, g3, g4⟩ := hl f hf
      refine ⟨g1, ?_, ?_, b5 f hf⟩
      · unfold up
        by_cases e : f = b
        · subst e
          rw [if_pos rfl, sI_u, u2n (Or.inr (by omega)), sI_u, u2s]
        · rw [if_neg e, sI_u, u2_ne _ _ (aF_ne e), sI_u, u2_ne _ _ (aF_ne e)]
          exact g2
      · unfold up
        by_cases e : f = b
        · subst e
          rw [if_pos rfl, sI_u, u2s]
          rfl
        · rw [if_neg e, sI_u, u2_ne _ _ (aF_ne e), sI_u, u2_ne _ _ (aF_ne e)]
          exact g3) b4
    refine ⟨h', q1, p1.tr q2, fun f hf => ?_⟩
    rw [q3 f hf, pkN, b1]
end T7
