/-! ===== what a tank gives: the reference ===== -/
/-- a field's area; is it out of reach; what the tank has to give -/
def cAr (z n : Nat) (I : Nat → Nat → Int32) (f : Nat) : Nat := (I (aJ z n 12) f).toNatClampNeg
def outF (z n : Nat) (I : Nat → Nat → Int32) (i : Nat) (has : Int32) (f : Nat) : Bool := decide (¬ bad (I (aJ z n 1) i) has = 0 ∧ ¬ I (aJ z n 11) f ≤ cusV z n I 11 9)
def cFr (z n : Nat) (I : Nat → Nat → Int32) (i : Nat) (has : Int32) (f : Nat) : Nat := if outF z n I i has f = true then 0 else cAr z n I f
def givI (z n : Nat) (I : Nat → Nat → Int32) (i : Nat) (has op : Int32) : Int32 := mn op (mx 0 (has - cusV z n I 12 0 * I (aJ z n 1) i / 100))
def shI (o : Nat → Bool) (A : Nat → Int32) : List Nat → Int32 → Nat → Int32
  | [], _ => fun _ => 0
  | f :: l, left => fun x => if x = f then (if o f = true then 0 else if left < A f then 0 else A f) else shI o A l (left - (if o f = true then 0 else if left < A f then 0 else A f)) x
theorem shI_c {o : Nat → Bool} {A : Nat → Int32} {f x : Nat} {l : List Nat} {left : Int32} : shI o A (f :: l) left x = if x = f then (if o f = true then 0 else if left < A f then 0 else A f) else shI o A l (left - (if o f = true then 0 else if left < A f then 0 else A f)) x := rfl
def sumI (S : Nat → Int32) : List Nat → Int32 → Int32
  | [], a => a
  | f :: l, a => sumI S l (a + S f)
/-- the shares of the fields in l -/
def gShr (z n : Nat) (I : Nat → Nat → Int32) (i : Nat) (has op : Int32) (l : List Nat) : Nat → Int32 :=
  if cusV z n I 13 0 = 1 ∧ ¬ nI (sN (cFr z n I i has) l) ≤ givI z n I i has op then
    fun f => nI (pkN l ((givI z n I i has op).toNatClampNeg - sN (fun f => (givI z n I i has op).toNatClampNeg * cFr z n I i has f / sN (cFr z n I i has) l) l) (fun f => (givI z n I i has op).toNatClampNeg * cFr z n I i has f % sN (cFr z n I i has) l) (fun f => (givI z n I i has op).toNatClampNeg * cFr z n I i has f / sN (cFr z n I i has) l) f)
  else shI (outF z n I i has) (I (aJ z n 12)) l (givI z n I i has op)
theorem givI_nI {z n : Nat} {I : Nat → Nat → Int32} {i q : Nat} {has op : Int32} (hop : op = nI q) (hq : q ≤ 20) : ∃ g, g ≤ 20 ∧ givI z n I i has op = nI g := by
  subst hop
  unfold givI
  generalize has - cusV z n I 12 0 * I (aJ z n 1) i / 100 = y
  have h0 : ¬ mx 0 y < 0 := by
    unfold mx
    split
    · rename_i e
      rw [Int32.lt_iff_toInt_lt] at e ⊢
      omega
    · intro q
      rw [Int32.lt_iff_toInt_lt] at q
      omega
  obtain ⟨k, hk, e⟩ := nI_of h0
  rw [e]
  unfold mn
  split
  · rename_i e2
    rw [nI_lt_iff hk (by omega)] at e2
    exact ⟨k, by omega, rfl⟩
  · exact ⟨q, hq, rfl⟩
/-- only rows 23 and 24 have changed -/
def On2 (z n : Nat) (h h' : AH) : Prop := h'.1 = h.1 ∧ h'.2.1 = h.2.1 ∧ h'.2.2.2 = h.2.2.2 ∧ ∀ a, a ≠ aJ z n 23 → a ≠ aJ z n 24 → h'.2.2.1 a = h.2.2.1 a
theorem On2.rf {z n : Nat} {h : AH} : On2 z n h h := ⟨rfl, rfl, rfl, fun _ _ _ => rfl⟩
theorem On2.tr {z n : Nat} {h h1 h2 : AH} (p : On2 z n h h1) (q : On2 z n h1 h2) : On2 z n h h2 := ⟨q.1.trans p.1, q.2.1.trans p.2.1, q.2.2.1.trans p.2.2.1, fun a s t => (q.2.2.2 a s t).trans (p.2.2.2 a s t)⟩
theorem On2.s23 {z n k : Nat} {x : Int32} {h h1 : AH} (p : On2 z n h h1) : On2 z n h (setI h1 (aJ z n 23) k x) := ⟨p.1, p.2.1, p.2.2.1, fun a s t => by rw [sI_u, u2_ne _ _ s]; exact p.2.2.2 a s t⟩
theorem On2.s24 {z n k : Nat} {x : Int32} {h h1 : AH} (p : On2 z n h h1) : On2 z n h (setI h1 (aJ z n 24) k x) := ⟨p.1, p.2.1, p.2.2.1, fun a s t => by rw [sI_u, u2_ne _ _ t]; exact p.2.2.2 a s t⟩
section G8
variable {z n nf : Nat} {h0 : AH}
theorem On2.J {h : AH} (p : On2 z n h0 h) (j : Nat) (hj : j < 23) : h.2.2.1 (aJ z n j) = h0.2.2.1 (aJ z n j) := p.2.2.2 _ (by (first | omega | (simp only [aT, aN, aA, aJ, aM, aF, aFl, aFs]; omega))) (by (first | omega | (simp only [aT, aN, aA, aJ, aM, aF, aFl, aFs]; omega)))
theorem On2.M {h : AH} (p : On2 z n h0 h) : h.2.2.1 (aM z n) = h0.2.2.1 (aM z n) := p.2.2.2 _ (by (first | omega | (simp only [aT, aN, aA, aJ, aM, aF, aFl, aFs]; omega))) (by (first | omega | (simp only [aT, aN, aA, aJ, aM, aF, aFl, aFs]; omega)))
theorem On2.W {h : AH} (p : On2 z n h0 h) (W : WS z n nf h0) : WS z n nf h := by unfold WS; rw [p.1, p.2.1]; exact W
theorem On2.V {h : AH} (p : On2 z n h0 h) (V : WR z n nf h0) : WR z n nf h := by unfold WR; rw [p.2.2.1]; exact V
theorem On2.cus {h : AH} (p : On2 z n h0 h) (w : Nat) (d : Int32) : cusV z n h.2.2.1 w d = cusV z n h0.2.2.1 w d := by unfold cusV; rw [p.M, p.J 21 (by omega)]
theorem Row_at {I : Nat → Nat → Int32} {p s : List Nat} {f : Nat} (r : Row z n I (p ++ f :: s)) : I (aJ z n 22) p.length = nI f := by
  have := r p.length (by simp)
  rw [this]
  simp
def g42e (h : AH) (l0 : Nat) (l4 l5 l6 : Int32) : Option (Int32 × AH) := rcv h (some l0) 8 (fun a55 => cal (f_X8_custom h a55 13 0) (fun v52 h53 => if v52 = 1 then if l6 ≤ l4 then f_X8_gives_155 h53 l0 l4 l5 l6 else f_X8_gives_156 h53 l0 l4 l5 l6 1 else f_X8_gives_155 h53 l0 l4 l5 l6))
theorem l_gives42 (W : WS z n nf h0) (V : WR z n nf h0) (hnf : nf ≤ 40) {i : Nat} (hi : i < 11) {has giv : Int32} {l : List Nat} (hr : Row z n h0.2.2.1 l) (hl : ∀ f ∈ l, f < nf ∧ MD z n h0.2.2.1 f) (hd : l.Nodup) (hlen : l.length ≤ 40) : ∀ (s p : List Nat) (m acc : Nat) (h : AH), l = p ++ s → s.length < m → On2 z n h0 h → ∃ h', f_X8_gives_42 m h (aM z n) (nI i) has giv (nI l.length) (nI acc) (nI p.length) = g42e h' (aM z n) giv (nI l.length) (nI (acc + sN (cFr z n h0.2.2.1 i has) s)) ∧ On2 z n h0 h' ∧ (∀ f ∈ s, h'.2.2.1 (aJ z n 23) f = 0 ∧ h'.2.2.1 (aJ z n 24) f = b2i (outF z n h0.2.2.1 i has f)) ∧ ∀ f, f ∉ s → h'.2.2.1 (aJ z n 23) f = h.2.2.1 (aJ z n 23) f ∧ h'.2.2.1 (aJ z n 24) f = h.2.2.1 (aJ z n 24) f := by
  intro s
  induction s with
  | nil =>
    intro p m acc h hps hm o
    obtain ⟨m, rfl⟩ : ∃ m', m = m' + 1 := ⟨m - 1, by simp at hm; omega⟩
    unfold f_X8_gives_42
    rw [if_pos (by rw [hps, List.append_nil]; exact Int32.le_refl _)]
    exact ⟨h, rfl, o, fun f hf => (by cases hf), fun f _ => ⟨rfl, rfl⟩⟩
  | cons f s ih =>
    intro p m acc h hps hm o
    obtain ⟨m, rfl⟩ : ∃ m', m = m' + 1 := ⟨m - 1, by simp at hm; omega⟩
    have hpl : p.length < l.length := by rw [hps]; simp
    have hfl : f ∈ l := by rw [hps]; simp
    obtain ⟨hf, F⟩ := hl f hfl
    obtain ⟨-, ⟨a, a1, a2, ea⟩, -⟩ := F
    have W1 := o.W W
    have V1 := o.V V
    have sM := W_M W1
    have s22 := W_J22 W1
    have s23 := W_J23 W1
    have s24 := W_J24 W1
    have s15 := W_J11 W1
    have s16 := W_J12 W1
    have e22 : h.2.2.1 (aJ z n 22) p.length = nI f := by rw [o.J 22 (by omega)]; exact Row_at (by rw [← hps]; exact hr)
    have hfs : f ∉ s := by
      rw [hps] at hd
      exact (List.nodup_cons.mp (List.nodup_append.mp hd).2.1).1
    -- the row of the left out
    have fin : ∀ (x : Bool), x = outF z n h0.2.2.1 i has f → ∃ h', f_X8_gives_104 (f_X8_gives_42 m) (setI h (aJ z n 23) f 0) (aM z n) (nI i) has giv (nI l.length) (nI acc) (nI p.length) (nI f) (some (aJ z n 24)) (nI f) (b2i x) = g42e h' (aM z n) giv (nI l.length) (nI (acc + sN (cFr z n h0.2.2.1 i has) (f :: s))) ∧ On2 z n h0 h' ∧ (∀ f' ∈ f :: s, h'.2.2.1 (aJ z n 23) f' = 0 ∧ h'.2.2.1 (aJ z n 24) f' = b2i (outF z n h0.2.2.1 i has f')) ∧ ∀ f', f' ∉ f :: s → h'.2.2.1 (aJ z n 23) f' = h.2.2.1 (aJ z n 23) f' ∧ h'.2.2.1 (aJ z n 24) f' = h.2.2.1 (aJ z n 24) f' := by
      intro x hx
      have hb : vp_nar .boolean (b2i x) = b2i x := by cases x <;> rfl
      have ea0 : h.2.2.1 (aJ z n 12) f = nI a := by rw [o.J 12 (by omega)]; exact ea
      unfold f_X8_gives_104 f_X8_gives_127
      rw [ev_sI (h := setI h (aJ z n 23) f 0) (by rw [sI_s]; exact s24) (by omega) (by omega), hb, ev_gR (by rw [sI_s, sI_s]; exact sM), sI_r, sI_r, V_J24 V1, ev_aI (by rw [sI_s, sI_s]; exact s24) (by omega) (by omega), sI_u, u2s, ev_gR (by rw [sI_s, sI_s]; exact sM), sI_r, sI_r, V_J12 V1, ev_aI (by rw [sI_s, sI_s]; exact s16) (by omega) (by omega), sI_u, u2_ne _ _ (by (first | omega | (simp only [aT, aN, aA, aJ, aM, aF, aFl, aFs]; omega))), sI_u, u2_ne _ _ (by (first | omega | (simp only [aT, aN, aA, aJ, aM, aF, aFl, aFs]; omega))), ea0, ev_bd, nI_ad, ev_bd, nI_1, ev_bd]
      have ec : cFr z n h0.2.2.1 i has f = if x = true then 0 else a := by
        unfold cFr cAr
        rw [← hx, ea, nI_clamp (by omega)]
      have o' : On2 z n h0 (setI (setI h (aJ z n 23) f 0) (aJ z n 24) f (b2i x)) := o.s23.s24
      obtain ⟨h', q1, q2, q3, q4⟩ := ih (p ++ [f]) m (acc + cFr z n h0.2.2.1 i has f) _ (by rw [hps]; simp) (by simp at hm; omega) o'
      refine ⟨h', ?_, q2, fun f' hf' => ?_, fun f' hf' => ?_⟩
      · rw [sN, ← Nat.add_assoc, ← q1, List.length_append, List.length_singleton, ec]
        cases x with
        | true =>
          rw [if_neg (by decide : ¬ b2i true = 0), if_pos rfl]
          rfl
        | false =>
          rw [if_pos (by decide : b2i false = 0), if_neg (by decide)]
      · rcases List.mem_cons.mp hf' with rfl | hf'
        · obtain ⟨r1, r2⟩ := q4 f' hfs
          rw [r1, r2]
          refine ⟨?_, ?_⟩
          · rw [sI_u, u2_ne _ _ (by (first | omega | (simp only [aT, aN, aA, aJ, aM, aF, aFl, aFs]; omega))), sI_u, u2s]
          · rw [sI_u, u2s, hx]
        · exact q3 f' hf'
      · obtain ⟨r1, r2⟩ := q4 f' (fun q => hf' (List.mem_cons_of_mem _ q))
        have ne : f' ≠ f := fun q => hf' (by rw [q]; exact List.mem_cons_self)
        rw [r1, r2]
        refine ⟨?_, ?_⟩
        · rw [sI_u, u2_ne _ _ (by (first | omega | (simp only [aT, aN, aA, aJ, aM, aF, aFl, aFs]; omega))), sI_u, u2n (Or.inr ne)]
        · rw [sI_u, u2n (Or.inr ne), sI_u, u2_ne _ _ (by (first | omega | (simp only [aT, aN, aA, aJ, aM, aF, aFl, aFs]; omega)))]
    unfold f_X8_gives_42
    have ob : On2 z n h0 (setI h (aJ z n 23) f 0) := o.s23
    have Wb := ob.W W
    have Vb := ob.V V
    rw [if_neg (nI_ge hpl (by omega)), ev_gR sM, V_J22 V1, ev_aI s22 (by omega) (by omega), e22, ev_gR sM, V_J23 V1, ev_sI s23 (by omega) (by omega), vn_i, ev_gR (W_M Wb), V_J24 Vb, ev_rcv (W_M Wb), k_bad8 Wb Vb hi, ob.J 1 (by omega)]
    by_cases e1 : bad (h0.2.2.1 (aJ z n 1) i) has = 0
    · rw [if_pos e1]
      unfold f_X8_gives_103
      exact fin false (by unfold outF; simp [e1])
    · rw [if_neg e1, ev_gR (W_M Wb), V_J11 Vb, ev_aI (W_J11 Wb) (by omega) (by omega), ev_rcv (W_M Wb), cal_eq (v_cus11 Wb Vb), ob.cus, ob.J 11 (by omega)]
      by_cases e2 : h0.2.2.1 (aJ z n 11) f ≤ cusV z n h0.2.2.1 11 9
      · rw [if_pos e2]
        unfold f_X8_gives_103
        exact fin false (by unfold outF; simp [e2])
      · rw [if_neg e2]
        exact fin true (by unfold outF; rw [decide_eq_true (And.intro e1 e2)])
/-- shares in order -/
theorem l_gives165o (W : WS z n nf h0) (V : WR z n nf h0) (hnf : nf ≤ 40) {giv ar : Int32} {o : Nat → Bool} {l : List Nat} (hr : Row z n h0.2.2.1 l) (hl : ∀ f ∈ l, f < nf) (hd : l.Nodup) (hlen : l.length ≤ 40) : ∀ (s p : List Nat) (m : Nat) (left : Int32) (h : AH), l = p ++ s → s.length < m → On2 z n h0 h → (∀ f ∈ s, h.2.2.1 (aJ z n 23) f = 0) → (∀ f ∈ l, h.2.2.1 (aJ z n 24) f = b2i (o f)) → ∃ h' left', f_X8_gives_165 m h (aM z n) left (nI l.length) ar 0 giv (nI p.length) = f_X8_gives_263 FU h' (aM z n) left' (nI l.length) ar 0 giv ∧ On2 z n h0 h' ∧ (∀ f ∈ s, h'.2.2.1 (aJ z n 23) f = shI o (h0.2.2.1 (aJ z n 12)) s left f) ∧ ∀ f, f ∉ s → h'.2.2.1 (aJ z n 23) f = h.2.2.1 (aJ z n 23) f := by
  intro s
  induction s with
  | nil =>
    intro p m left h hps hm o' _ _
    obtain ⟨m, rfl⟩ : ∃ m', m = m' + 1 := ⟨m - 1, by simp at hm; omega⟩
    unfold f_X8_gives_165
    rw [if_pos (by rw [hps, List.append_nil]; exact Int32.le_refl _)]
    exact ⟨h, left, rfl, o', fun f hf => (by cases hf), fun f _ => rfl⟩
  | cons f s ih =>
    intro p m left h hps hm o' h23 h24
    obtain ⟨m, rfl⟩ : ∃ m', m = m' + 1 := ⟨m - 1, by simp at hm; omega⟩
    have hpl : p.length < l.length := by rw [hps]; simp
    have hfl : f ∈ l := by rw [hps]; simp
    have hf := hl f hfl
    have W1 := o'.W W
    have V1 := o'.V V
    have sM := W_M W1
    have s22 := W_J22 W1
    have s23 := W_J23 W1
    have s24 := W_J24 W1
    have s12 := W_J12 W1
    have e22 : h.2.2.1 (aJ z n 22) p.length = nI f := by rw [o'.J 22 (by omega)]; exact Row_at (by rw [← hps]; exact hr)
    have hfs : f ∉ s := by
      rw [hps] at hd
      exact (List.nodup_cons.mp (List.nodup_append.mp hd).2.1).1
    unfold f_X8_gives_165
    rw [if_neg (nI_ge hpl (by omega)), ev_gR sM, V_J22 V1, ev_aI s22 (by omega) (by omega), e22, ev_gR sM, V_J24 V1, ev_aI s24 (by omega) (by omega), h24 f hfl]
    cases ho : o f with
    | true =>
      unfold f_X8_gives_257
      rw [if_neg (by decide : ¬ b2i true = 0), ev_bd, nI_1]
      obtain ⟨h', left', q1, q2, q3, q4⟩ := ih (p ++ [f]) m left h (by rw [hps]; simp) (by simp at hm; omega) o' (fun x hx => h23 x (List.mem_cons_of_mem _ hx)) h24
      rw [List.length_append, List.length_singleton] at q1
      refine ⟨h', left', q1, q2, fun x hx => ?_, fun x hx => ?_⟩
      · rw [shI_c]
        rcases List.mem_cons.mp hx with rfl | hx
        · rw [if_pos rfl, if_pos ho, q4 x hfs]
          exact h23 x List.mem_cons_self
        · have ne : x ≠ f := fun e => hfs (by rw [← e]; exact hx)
          rw [if_neg ne, if_pos ho, Int32.sub_zero]
          exact q3 x hx
      · exact q4 x (fun q => hx (List.mem_cons_of_mem _ q))
    | false =>
      have fin : ∀ y : Int32, y = (if o f = true then 0 else if left < h0.2.2.1 (aJ z n 12) f then 0 else h0.2.2.1 (aJ z n 12) f) → ∃ h' left', f_X8_gives_244 (f_X8_gives_165 m) h (aM z n) left (nI l.length) ar 0 giv (nI p.length) (nI f) (some (aJ z n 23)) (nI f) y = f_X8_gives_263 FU h' (aM z n) left' (nI l.length) ar 0 giv ∧ On2 z n h0 h' ∧ (∀ f' ∈ f :: s, h'.2.2.1 (aJ z n 23) f' = shI o (h0.2.2.1 (aJ z n 12)) (f :: s) left f') ∧ ∀ f', f' ∉ f :: s → h'.2.2.1 (aJ z n 23) f' = h.2.2.1 (aJ z n 23) f' := by
        intro y hy
        unfold f_X8_gives_244 f_X8_gives_257
        rw [ev_sI s23 (by omega) (by omega), vn_i, ev_gR (by rw [sI_s]; exact sM), sI_r, V_J23 V1, ev_aI (by rw [sI_s]; exact s23) (by omega) (by omega), sI_u, u2s, ev_bd, ev_bd, nI_1]
        obtain ⟨h', left', q1, q2, q3, q4⟩ := ih (p ++ [f]) m (left - y) (setI h (aJ z n 23) f y) (by rw [hps]; simp) (by simp at hm; omega) o'.s23 (fun x hx => by
          rw [sI_u, u2n (Or.inr (fun e => hfs (by rw [← e]; exact hx)))]
          exact h23 x (List.mem_cons_of_mem _ hx)) (fun x hx => by
          rw [sI_u, u2_ne _ _ (by (first | omega | (simp only [aT, aN, aA, aJ, aM, aF, aFl, aFs]; omega)))]
          exact h24 x hx)
        rw [List.length_append, List.length_singleton] at q1
        refine ⟨h', left', q1, q2, fun x hx => ?_, fun x hx => ?_⟩
        · rw [shI_c]
          rcases List.mem_cons.mp hx with rfl | hx
          · rw [if_pos rfl, q4 x hfs, sI_u, u2s, hy]
          · have ne : x ≠ f := fun e => hfs (by rw [← e]; exact hx)
            rw [if_neg ne, ← hy]
            exact q3 x hx
        · rw [q4 x (fun q => hx (List.mem_cons_of_mem _ q)), sI_u, u2n (Or.inr (fun e => hx (by rw [e]; exact List.mem_cons_self)))]
      rw [if_pos (by decide : b2i false = 0), ev_gR sM, V_J23 V1, if_pos rfl, ev_gR sM, V_J12 V1, ev_aI s12 (by omega) (by omega), o'.J 12 (by omega)]
      by_cases e : left < h0.2.2.1 (aJ z n 12) f
      · rw [if_pos e]
        exact fin 0 (by rw [ho, if_neg (by decide), if_pos e])
      · rw [if_neg e, ev_gR sM, V_J12 V1, ev_aI s12 (by omega) (by omega), o'.J 12 (by omega)]
        exact fin _ (by rw [ho, if_neg (by decide), if_neg e])
/-- the base of whole shares -/
theorem l_gives165f (W : WS z n nf h0) (V : WR z n nf h0) (hnf : nf ≤ 40) {g ar : Nat} (hg : g ≤ 20) (har : 0 < ar) (har2 : ar < 1000) {o : Nat → Bool} {c : Nat → Nat} {l : List Nat} (hr : Row z n h0.2.2.1 l) (hl : ∀ f ∈ l, f < nf ∧ ∃ a, a ≤ 20 ∧ h0.2.2.1 (aJ z n 12) f = nI a ∧ c f = if o f = true then 0 else a) (hd : l.Nodup) (hlen : l.length ≤ 40) : ∀ (s p : List Nat) (m x : Nat) (h : AH), l = p ++ s → s.length < m → x + sN (fun f => g * c f / ar) s ≤ g → On2 z n h0 h → (∀ f ∈ s, h.2.2.1 (aJ z n 23) f = 0) → (∀ f ∈ l, h.2.2.1 (aJ z n 24) f = b2i (o f)) → ∃ h', f_X8_gives_165 m h (aM z n) (nI (g - x)) (nI l.length) (nI ar) 1 (nI g) (nI p.length) = f_X8_gives_263 FU h' (aM z n) (nI (g - x - sN (fun f => g * c f / ar) s)) (nI l.length) (nI ar) 1 (nI g) ∧ On2 z n h0 h' ∧ (∀ f ∈ s, h'.2.2.1 (aJ z n 23) f = nI (g * c f / ar)) ∧ (∀ f, f ∉ s → h'.2.2.1 (aJ z n 23) f = h.2.2.1 (aJ z n 23) f) ∧ h'.2.2.1 (aJ z n 24) = h.2.2.1 (aJ z n 24) := by
  intro s
  induction s with
  | nil =>
    intro p m x h hps hm hx o' _ _
    obtain ⟨m, rfl⟩ : ∃ m', m = m' + 1 := ⟨m - 1, by simp at hm; omega⟩
    unfold f_X8_gives_165
    rw [if_pos (by rw [hps, List.append_nil]; exact Int32.le_refl _)]
    exact ⟨h, rfl, o', fun f hf => (by cases hf), fun f _ => rfl, rfl⟩
  | cons f s ih =>
    intro p m x h hps hm hx o' h23 h24
    obtain ⟨m, rfl⟩ : ∃ m', m = m' + 1 := ⟨m - 1, by simp at hm; omega⟩
    have hpl : p.length < l.length := by rw [hps]; simp
    have hfl : f ∈ l := by rw [hps]; simp
    obtain ⟨hf, a, ha, ea, ec⟩ := hl f hfl
    have W1 := o'.W W
    have V1 := o'.V V
    have sM := W_M W1
    have s22 := W_J22 W1
    have s23 := W_J23 W1
    have s24 := W_J24 W1
    have s12 := W_J12 W1
    have e22 : h.2.2.1 (aJ z n 22) p.length = nI f := by rw [o'.J 22 (by omega)]; exact Row_at (by rw [← hps]; exact hr)
    have hfs : f ∉ s := by
      rw [hps] at hd
      exact (List.nodup_cons.mp (List.nodup_append.mp hd).2.1).1
    rw [sN] at hx
    unfold f_X8_gives_165
    rw [if_neg (nI_ge hpl (by omega)), ev_gR sM, V_J22 V1, ev_aI s22 (by omega) (by omega), e22, ev_gR sM, V_J24 V1, ev_aI s24 (by omega) (by omega), h24 f hfl]
    cases ho : o f with
    | true =>
      rw [ho, if_pos rfl] at ec
      have e0 : g * c f / ar = 0 := by rw [ec, Nat.mul_zero, Nat.zero_div]
      unfold f_X8_gives_257
      rw [if_neg (by decide : ¬ b2i true = 0), ev_bd, nI_1]
      obtain ⟨h', q1, q2, q3, q4, q5⟩ := ih (p ++ [f]) m x h (by rw [hps]; simp) (by simp at hm; omega) (by omega) o' (fun x hx => h23 x (List.mem_cons_of_mem _ hx)) h24
      rw [List.length_append, List.length_singleton] at q1
      refine ⟨h', by rw [q1, sN, e0, Nat.zero_add], q2, fun y hy => ?_, fun y hy => ?_, q5⟩
      · rcases List.mem_cons.mp hy with rfl | hy
        · rw [e0, q4 y hfs]
          exact h23 y List.mem_cons_self
        · exact q3 y hy
      · exact q4 y (fun q => hy (List.mem_cons_of_mem _ q))
    | false =>
      rw [ho, if_neg (by decide)] at ec
      have hga : g * a ≤ 400 := Nat.le_trans (Nat.mul_le_mul hg ha) (by omega)
      rw [if_pos (by decide : b2i false = 0), ev_gR sM, V_J23 V1, if_neg (by decide : ¬ (1 : Int32) = 0), ev_gR sM, V_J12 V1, ev_aI s12 (by omega) (by omega), o'.J 12 (by omega), ea, nI_mul, ev_dv (fun q => by have := nI_inj (b := 0) (by omega) (by omega) q; omega), nI_div (by omega) (by omega), ← ec]
      have e1 : g * c f / ar ≤ g - x := by omega
      unfold f_X8_gives_244 f_X8_gives_257
      rw [ev_sI s23 (by omega) (by omega), vn_i, ev_gR (by rw [sI_s]; exact sM), sI_r, V_J23 V1, ev_aI (by rw [sI_s]; exact s23) (by omega) (by omega), sI_u, u2s, ev_bd, nI_sub e1, ev_bd, nI_1]
      obtain ⟨h', q1, q2, q3, q4, q5⟩ := ih (p ++ [f]) m (x + g * c f / ar) (setI h (aJ z n 23) f (nI (g * c f / ar))) (by rw [hps]; simp) (by simp at hm; omega) (by omega) o'.s23 (fun y hy => by
        rw [sI_u, u2n (Or.inr (fun e => hfs (by rw [← e]; exact hy)))]
        exact h23 y (List.mem_cons_of_mem _ hy)) (fun y hy => by
        rw [sI_u, u2_ne _ _ (by (first | omega | (simp only [aT, aN, aA, aJ, aM, aF, aFl, aFs]; omega)))]
        exact h24 y hy)
      rw [List.length_append, List.length_singleton, ← Nat.sub_sub] at q1
      refine ⟨h', by rw [q1, sN, Nat.sub_sub (g - x)], q2, fun y hy => ?_, fun y hy => ?_, ?_⟩
      · rcases List.mem_cons.mp hy with rfl | hy
        · rw [q4 y hfs, sI_u, u2s]
        · exact q3 y hy
      · rw [q4 y (fun q => hy (List.mem_cons_of_mem _ q)), sI_u, u2n (Or.inr (fun e => hy (by rw [e]; exact List.mem_cons_self)))]
      · rw [q5, sI_u, u2_ne _ _ (by (first | omega | (simp only [aT, aN, aA, aJ, aM, aF, aFl, aFs]; omega)))]
end G8
