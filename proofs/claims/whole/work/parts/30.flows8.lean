/-! ===== a day down the chain: the reference ===== -/
theorem sumI_acc {g : Nat → Int32} : ∀ (l : List Nat) (a : Int32), sumI g l a = a + sumI g l 0 := by
  intro l
  induction l with
  | nil => intro a; rw [sumI, sumI, Int32.add_zero]
  | cons f l ih => intro a; rw [sumI, sumI, ih (a + g f), ih (0 + g f), Int32.zero_add, Int32.add_assoc]
theorem sumI_ins {g : Nat → Int32} {lt : Nat → Nat → Bool} {f : Nat} : ∀ (l : List Nat) (a : Int32), sumI g (insL lt f l) a = sumI g l a + g f := by
  intro l
  induction l with
  | nil => intro a; rfl
  | cons x l ih =>
    intro a
    rw [insL]
    split
    · rw [sumI, sumI, sumI, sumI_acc l (a + g f + g x), sumI_acc l (a + g x), Int32.add_assoc, Int32.add_assoc, Int32.add_assoc, Int32.add_assoc]
      congr 1
      rw [Int32.add_comm (g f), Int32.add_assoc]
    · rw [sumI, sumI, ih]
theorem sumI_ord {z n i : Nat} {I : Nat → Nat → Int32} {g : Nat → Int32} (a : Int32) : ∀ m, sumI g (ordp z n I i m) a = a + sumF m (fun f => if I (aJ z n 10) f = nI i then g f else 0) := by
  intro m
  induction m with
  | zero => rw [ordp_0, sumI, sumF, Int32.add_zero]
  | succ m ih =>
    rw [ordp_s, sumF]
    by_cases e : I (aJ z n 10) m = nI i
    · rw [if_pos e, if_pos e, sumI_ins, ih, Int32.add_assoc]
    · rw [if_neg e, if_neg e, ih, Int32.add_zero]
/-- what a flow writes of the reference's rows -/
def dyn (z n jw jb : Nat) (a _k : Nat) : Prop := a = aJ z n 22 ∨ a = aJ z n 23 ∨ a = aJ z n 24 ∨ a = aJ z n jw ∨ a = aJ z n jb
/-- the rows of a flow: of a day, or of a trial -/
def FR (jw jb jo : Nat) : Prop := (jw = 3 ∧ jb = 9 ∧ jo = 4) ∨ (jw = 25 ∧ jb = 27 ∧ jo = 26)
section FL8
variable {z n nf jw jb jo : Nat} {h : AH}
theorem W_w (W : WS z n nf h) (J : FR jw jb jo) : h.2.1 (aJ z n jw) = some (.inr (.int, 11)) ∧ h.2.1 (aJ z n jb) = some (.inr (.boolean, 11)) ∧ h.2.1 (aJ z n jo) = some (.inr (.int, 11)) := by
  rcases J with ⟨rfl, rfl, rfl⟩ | ⟨rfl, rfl, rfl⟩
  · exact ⟨W_J3 W, W_J9 W, W_J4 W⟩
  · exact ⟨W_J25 W, W_J27 W, W_J26 W⟩
theorem l_flow1 (J : FR jw jb jo) (A : AF z n nf h) (hm : h.2.2.1 (aM z n) 0 = nI n) (hn : n ≤ 11) {i q : Nat} (hi : i < n) (hq : q ≤ 20) (hop : h.2.2.1 (aJ z n jo) i = nI q) (m : Nat) (rain l5 d fed brk : Int32) : ∃ h', f_X8_flows_12 (m + 1) h (aM z n) (some (aJ z n jw)) (some (aJ z n jb)) (some (aJ z n jo)) rain l5 d fed brk (nI i) = f_X8_flows_166 (f_X8_flows_12 m) FU h' (aM z n) (some (aJ z n jw)) (some (aJ z n jb)) (some (aJ z n jo)) rain l5 (pD z n nf h.2.2.1 i rain (h.2.2.1 (aJ z n jw) i) (h.2.2.1 (aJ z n jb) i) (nI q) d) fed brk (nI i) (pX z n h.2.2.1 i rain (h.2.2.1 (aJ z n jw) i) d / 50) (pT z n nf h.2.2.1 i rain (h.2.2.1 (aJ z n jw) i) (nI q) d) (pSpl z n nf h.2.2.1 i rain (h.2.2.1 (aJ z n jw) i) (h.2.2.1 (aJ z n jb) i) (nI q) d) (b2i (pBrk z n nf h.2.2.1 i rain (h.2.2.1 (aJ z n jw) i) (h.2.2.1 (aJ z n jb) i) (nI q) d)) 0 ∧ Ag (dyn z n jw jb) h h' ∧ h'.2.2.1 (aJ z n jw) i = pW z n nf h.2.2.1 i rain (h.2.2.1 (aJ z n jw) i) (h.2.2.1 (aJ z n jb) i) (nI q) d ∧ h'.2.2.1 (aJ z n jb) i = pB z n nf h.2.2.1 i rain (h.2.2.1 (aJ z n jw) i) (h.2.2.1 (aJ z n jb) i) (nI q) d ∧ (∀ k, k ≠ i → h'.2.2.1 (aJ z n jw) k = h.2.2.1 (aJ z n jw) k ∧ h'.2.2.1 (aJ z n jb) k = h.2.2.1 (aJ z n jb) k) ∧ ∀ f ∈ ordl z n nf h.2.2.1 i, h'.2.2.1 (aJ z n 23) f = pS z n nf h.2.2.1 i rain (h.2.2.1 (aJ z n jw) i) (nI q) d f := by
  have W := A.1
  have V := A.2.1
  obtain ⟨sw, sb, so⟩ := W_w W J
  have sM := W_M W
  have hi11 : i < 11 := by omega
  obtain ⟨h1, e1, o1, hS⟩ := v_gives8 A hi11 hq (pH z n h.2.2.1 i rain (h.2.2.1 (aJ z n jw) i) d)
  have W1 : WS z n nf h1 := by unfold WS; rw [o1.1, o1.2.1]; exact W
  have V1 : WR z n nf h1 := by unfold WR; rw [o1.2.2.1]; exact V
  obtain ⟨sw1, sb1, so1⟩ := W_w W1 J
  have sM1 := W_M W1
  have jne : ∀ j, (j = jw ∨ j = jb ∨ j = 1 ∨ j = 5 ∨ j = 2) → h1.2.2.1 (aJ z n j) = h.2.2.1 (aJ z n j) := fun j hj => o1.2.2.2 _ (by unfold FR at J; unfold aJ; omega) (by unfold FR at J; unfold aJ; omega) (by unfold FR at J; unfold aJ; omega)
  have wb : aJ z n jw ≠ aJ z n jb := by unfold FR at J; unfold aJ; omega
  have bw : aJ z n jb ≠ aJ z n jw := fun e => wb e.symm
  have p1 : Ag (dyn z n jw jb) h h1 := ⟨o1.1, o1.2.1, o1.2.2.1, fun a k s => by
    unfold dyn at s
    rw [o1.2.2.2 a (fun e => s (Or.inl e)) (fun e => s (Or.inr (Or.inl e))) (fun e => s (Or.inr (Or.inr (Or.inl e))))]⟩
  have dw : ∀ k, dyn z n jw jb (aJ z n jw) k := fun k => Or.inr (Or.inr (Or.inr (Or.inl rfl)))
  have db : ∀ k, dyn z n jw jb (aJ z n jb) k := fun k => Or.inr (Or.inr (Or.inr (Or.inr rfl)))
  have n23w : aJ z n 23 ≠ aJ z n jw := by unfold FR at J; unfold aJ; omega
  have n23b : aJ z n 23 ≠ aJ z n jb := by unfold FR at J; unfold aJ; omega
  -- no breach
  have no : pBrk z n nf h.2.2.1 i rain (h.2.2.1 (aJ z n jw) i) (h.2.2.1 (aJ z n jb) i) (nI q) d = false → ∃ h', f_X8_flows_125 (f_X8_flows_12 m) h1 (aM z n) (some (aJ z n jw)) (some (aJ z n jb)) (some (aJ z n jo)) rain l5 fed brk (nI i) (pL z n nf h.2.2.1 i rain (h.2.2.1 (aJ z n jw) i) (nI q) d - pSp z n nf h.2.2.1 i rain (h.2.2.1 (aJ z n jw) i) (h.2.2.1 (aJ z n jb) i) (nI q) d) (pX z n h.2.2.1 i rain (h.2.2.1 (aJ z n jw) i) d / 50) (pT z n nf h.2.2.1 i rain (h.2.2.1 (aJ z n jw) i) (nI q) d) (pSp z n nf h.2.2.1 i rain (h.2.2.1 (aJ z n jw) i) (h.2.2.1 (aJ z n jb) i) (nI q) d) = f_X8_flows_166 (f_X8_flows_12 m) FU h' (aM z n) (some (aJ z n jw)) (some (aJ z n jb)) (some (aJ z n jo)) rain l5 (pD z n nf h.2.2.1 i rain (h.2.2.1 (aJ z n jw) i) (h.2.2.1 (aJ z n jb) i) (nI q) d) fed brk (nI i) (pX z n h.2.2.1 i rain (h.2.2.1 (aJ z n jw) i) d / 50) (pT z n nf h.2.2.1 i rain (h.2.2.1 (aJ z n jw) i) (nI q) d) (pSpl z n nf h.2.2.1 i rain (h.2.2.1 (aJ z n jw) i) (h.2.2.1 (aJ z n jb) i) (nI q) d) (b2i (pBrk z n nf h.2.2.1 i rain (h.2.2.1 (aJ z n jw) i) (h.2.2.1 (aJ z n jb) i) (nI q) d)) 0 ∧ Ag (dyn z n jw jb) h h' ∧ h'.2.2.1 (aJ z n jw) i = pW z n nf h.2.2.1 i rain (h.2.2.1 (aJ z n jw) i) (h.2.2.1 (aJ z n jb) i) (nI q) d ∧ h'.2.2.1 (aJ z n jb) i = pB z n nf h.2.2.1 i rain (h.2.2.1 (aJ z n jw) i) (h.2.2.1 (aJ z n jb) i) (nI q) d ∧ (∀ k, k ≠ i → h'.2.2.1 (aJ z n jw) k = h.2.2.1 (aJ z n jw) k ∧ h'.2.2.1 (aJ z n jb) k = h.2.2.1 (aJ z n jb) k) ∧ ∀ f ∈ ordl z n nf h.2.2.1 i, h'.2.2.1 (aJ z n 23) f = pS z n nf h.2.2.1 i rain (h.2.2.1 (aJ z n jw) i) (nI q) d f := by
    intro nb
    have eS : pSpl z n nf h.2.2.1 i rain (h.2.2.1 (aJ z n jw) i) (h.2.2.1 (aJ z n jb) i) (nI q) d = pSp z n nf h.2.2.1 i rain (h.2.2.1 (aJ z n jw) i) (h.2.2.1 (aJ z n jb) i) (nI q) d := by unfold pSpl; rw [nb, if_neg (by decide)]
    unfold f_X8_flows_125 f_X8_flows_126 f_X8_flows_148
    rw [if_pos rfl, ev_sI sw1 hi11 (by omega), vn_i, ev_dv (by decide), ev_bd, nb]
    refine ⟨setI h1 (aJ z n jw) i (pL z n nf h.2.2.1 i rain (h.2.2.1 (aJ z n jw) i) (nI q) d - pSp z n nf h.2.2.1 i rain (h.2.2.1 (aJ z n jw) i) (h.2.2.1 (aJ z n jb) i) (nI q) d), ?_, p1.set (dw i), ?_, ?_, fun k hk => ⟨?_, ?_⟩, fun f hf => ?_⟩
    · unfold pD
      rw [eS]
      rfl
    · rw [sI_u, u2s]
      unfold pW
      rw [eS]
    · rw [sI_u, u2_ne _ _ bw, jne jb (by omega)]
      unfold pB
      rw [nb, if_neg (by decide)]
    · rw [sI_u, u2n (Or.inr hk), jne jw (by omega)]
    · rw [sI_u, u2_ne _ _ bw, jne jb (by omega)]
    · rw [sI_u, u2_ne _ _ n23w]
      exact hS f hf
  unfold f_X8_flows_12
  rw [ev_gI sM, hm, if_neg (nI_ge hi (by omega)), ev_aI sw hi11 (by omega), ev_gR sM, V_J0 V, ev_aI (W_J0 W) hi11 (by omega), ev_bd, ev_dv (by decide), ev_bd, ev_aI so hi11 (by omega), hop, ev_rcv sM]
  have e1' : f_X8_gives h (aM z n) (nI i) (h.2.2.1 (aJ z n jw) i + rain * h.2.2.1 (aJ z n 0) i + d - (h.2.2.1 (aJ z n jw) i + rain * h.2.2.1 (aJ z n 0) i + d) / 50) (nI q) = some (pT z n nf h.2.2.1 i rain (h.2.2.1 (aJ z n jw) i) (nI q) d, h1) := e1
  rw [cal_eq e1', ev_bd, ev_aI sb1 hi11 (by omega), jne jb (by omega), ev_rcv sM1, k_room W1 V1 hi11, jne 1 (by omega), jne 5 (by omega), ev_bd, ev_bd, ev_aI sb1 hi11 (by omega), jne jb (by omega)]
  by_cases e : h.2.2.1 (aJ z n jb) i = 0
  · rw [if_pos e, ev_gR sM1, V_J2 V1, ev_aI (W_J2 W1) hi11 (by omega), jne 2 (by omega)]
    by_cases e2 : pSp z n nf h.2.2.1 i rain (h.2.2.1 (aJ z n jw) i) (h.2.2.1 (aJ z n jb) i) (nI q) d ≤ h.2.2.1 (aJ z n 2) i
    · have nb : pBrk z n nf h.2.2.1 i rain (h.2.2.1 (aJ z n jw) i) (h.2.2.1 (aJ z n jb) i) (nI q) d = false := decide_eq_false (fun x => x.2 e2)
      have e2' := e2
      unfold pSp pL pH pX at e2'
      rw [if_pos e2']
      exact no nb
    · have nb : pBrk z n nf h.2.2.1 i rain (h.2.2.1 (aJ z n jw) i) (h.2.2.1 (aJ z n jb) i) (nI q) d = true := decide_eq_true ⟨e, e2⟩
      have eS : pSpl z n nf h.2.2.1 i rain (h.2.2.1 (aJ z n jw) i) (h.2.2.1 (aJ z n jb) i) (nI q) d = pL z n nf h.2.2.1 i rain (h.2.2.1 (aJ z n jw) i) (nI q) d := by unfold pSpl; rw [nb, if_pos rfl]
      have e2' := e2
      unfold pSp pL pH pX at e2'
      rw [if_neg e2']
      have sumL : ∀ s L : Int32, s + (L - s) = L := fun s L => by rw [Int32.add_comm, Int32.sub_add_cancel]
      unfold f_X8_flows_126 f_X8_flows_148
      rw [if_neg one_ne, ev_sI sb1 hi11 (by omega), vn_z1, ev_bd, ev_sI (by rw [sI_s]; exact sw1) hi11 (by omega), vn_i, ev_dv (by decide), ev_bd, nb, sumL]
      refine ⟨setI (setI h1 (aJ z n jb) i 1) (aJ z n jw) i 0, ?_, (p1.set (db i)).set (dw i), ?_, ?_, fun k hk => ⟨?_, ?_⟩, fun f hf => ?_⟩
      · unfold pD
        rw [eS]
        rfl
      · rw [sI_u, u2s]
        unfold pW
        rw [eS, Int32.sub_self]
      · rw [sI_u, u2_ne _ _ bw, sI_u, u2s]
        unfold pB
        rw [nb, if_pos rfl]
      · rw [sI_u, u2n (Or.inr hk), sI_u, u2_ne _ _ wb, jne jw (by omega)]
      · rw [sI_u, u2_ne _ _ bw, sI_u, u2n (Or.inr hk), jne jb (by omega)]
      · rw [sI_u, u2_ne _ _ n23w, sI_u, u2_ne _ _ n23b]
        exact hS f hf
  · have nb : pBrk z n nf h.2.2.1 i rain (h.2.2.1 (aJ z n jw) i) (h.2.2.1 (aJ z n jb) i) (nI q) d = false := decide_eq_false (fun x => e x.1)
    rw [if_neg e]
    exact no nb
end FL8
