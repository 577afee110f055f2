/-! ===== custom: the reference reads a text ===== -/
def mk (z n : Nat) (ks : List Nat) (a k : Nat) : Prop := a = aM z n ∧ k ∈ ks
/-- the text's first e bytes -/
def Tx8 (z n : Nat) (T : Nat → Int32) (e : Nat) (h : AH) : Prop := (∀ k, k < e → h.2.2.1 (aJ z n 20) k = T k) ∧ h.2.2.1 (aM z n) 35 = nI e
section R8
variable {z n nf : Nat} {h : AH}
theorem mk_mo {ks ks' : List Nat} (hs : ∀ k ∈ ks, k ∈ ks') {h' : AH} (p : Ag (mk z n ks) h h') : Ag (mk z n ks') h h' := p.mo (fun _ _ q => ⟨q.1, hs _ q.2⟩)
theorem mk_k {ks : List Nat} {h' : AH} (p : Ag (mk z n ks) h h') {k : Nat} (hk : ¬ k ∈ ks) : h'.2.2.1 (aM z n) k = h.2.2.1 (aM z n) k := p.2.2.2 _ _ (fun q => hk q.2)
theorem mk_J {ks : List Nat} {h' : AH} (p : Ag (mk z n ks) h h') (j : Nat) : h'.2.2.1 (aJ z n j) = h.2.2.1 (aJ z n j) := funext (fun k => p.2.2.2 _ _ (fun q => by have := q.1; revert this; (first | omega | (simp only [aT, aN, aA, aJ, aM, aF, aFl, aFs]; omega))))
theorem mk_Tx {ks : List Nat} {h' : AH} {T : Nat → Int32} {e : Nat} (p : Ag (mk z n ks) h h') (hk : ¬ 35 ∈ ks) (t : Tx8 z n T e h) : Tx8 z n T e h' := ⟨fun k hk' => by rw [mk_J p]; exact t.1 k hk', by rw [mk_k p hk]; exact t.2⟩
theorem l_bl0 {T : Nat → Int32} {e : Nat} (he : e ≤ 300) : ∀ (m p : Nat) (h : AH), e - p < m → p ≤ e → WS z n nf h → WR z n nf h → Tx8 z n T e h → h.2.2.1 (aM z n) 34 = nI p → ∃ h', f_X8_blanks_0 m h (aM z n) = some ((), h') ∧ Ag (mk z n [34]) h h' ∧ h'.2.2.1 (aM z n) 34 = nI (rn blk T e p) := by
  intro m
  induction m with
  | zero => intro p h h1; omega
  | succ m ih =>
    intro p h h1 h2 W V t e4
    have sM := W_M W
    have s20 := W_J20 W
    unfold f_X8_blanks_0 f_X8_blanks_52
    rw [ev_gI sM, e4, ev_gI sM, t.2]
    by_cases hp : p < e
    · have go : blk (T p) = true → ∃ h', f_X8_blanks_39 (f_X8_blanks_0 m) h (aM z n) = some ((), h') ∧ Ag (mk z n [34]) h h' ∧ h'.2.2.1 (aM z n) 34 = nI (rn blk T e p) := by
        intro hb
        unfold f_X8_blanks_39
        rw [ev_gI sM, e4, ev_pI sM, nI_1]
        have p1 : Ag (mk z n [34]) h (setI h (aM z n) 34 (nI (p + 1))) := Ag.rf.set ⟨rfl, by simp⟩
        obtain ⟨h', e1, p2, q1⟩ := ih (p + 1) _ (by omega) (by omega) (WS_ag W p1) (WR_ag V p1) (mk_Tx p1 (by simp) t) (by rw [sI_u, u2s])
        exact ⟨h', e1, p1.tr p2, by rw [q1, rn_y hp hb]⟩
      rw [if_neg (nI_ge hp (by omega)), ev_gR sM, V_J20 V, ev_gI sM, e4, ev_aI s20 (by omega) (by omega), t.1 p hp]
      by_cases b1 : T p = 32
      · rw [if_pos b1]
        exact go (decide_eq_true (Or.inl b1))
      · rw [if_neg b1, ev_gR sM, V_J20 V, ev_gI sM, e4, ev_aI s20 (by omega) (by omega), t.1 p hp]
        by_cases b2 : T p = 10
        · rw [if_pos b2]
          exact go (decide_eq_true (Or.inr b2))
        · rw [if_neg b2]
          have hb : ¬ blk (T p) = true := fun q => by
            rcases of_decide_eq_true q with x | x
            · exact b1 x
            · exact b2 x
          exact ⟨h, rfl, Ag.rf, by rw [e4, rn_n hb]⟩
    · rw [if_pos (nI_le (by omega) (by omega))]
      exact ⟨h, rfl, Ag.rf, by rw [e4, rn_out (by omega)]⟩
theorem v_blanks {T : Nat → Int32} {e p : Nat} (he : e ≤ 300) (hp : p ≤ e) (W : WS z n nf h) (V : WR z n nf h) (t : Tx8 z n T e h) (e4 : h.2.2.1 (aM z n) 34 = nI p) : ∃ h', f_X8_blanks h (aM z n) = some ((), h') ∧ Ag (mk z n [34]) h h' ∧ h'.2.2.1 (aM z n) 34 = nI (rn blk T e p) := l_bl0 he FU p h (by rw [fu_big]; omega) hp W V t e4
theorem l_wd14 {T : Nat → Int32} {e B : Nat} (he : e ≤ 300) (hB : B ≤ e) : ∀ (m p : Nat) (h : AH), e - p < m → B ≤ p → p ≤ e → WS z n nf h → WR z n nf h → Tx8 z n T e h → h.2.2.1 (aM z n) 34 = nI B → h.2.2.1 (aM z n) 39 = nI p → (∀ j, j < p - B → ltr (T (B + j)) = true) → ∃ h', f_X8_word_14 m h (aM z n) (wv T B (p - B)) = some (wv T B (rn ltr T e p - B), h') ∧ Ag (mk z n [39]) h h' ∧ h'.2.2.1 (aM z n) 39 = nI (rn ltr T e p) := by
  intro m
  induction m with
  | zero => intro p h h1; omega
  | succ m ih =>
    intro p h h1 hBp h2 W V t e4 e9 hl
    have sM := W_M W
    have s20 := W_J20 W
    have fin : rn ltr T e p = p → ∃ h', f_X8_word_100 h (aM z n) (wv T B (p - B)) = some (wv T B (rn ltr T e p - B), h') ∧ Ag (mk z n [39]) h h' ∧ h'.2.2.1 (aM z n) 39 = nI (rn ltr T e p) := by
      intro hr
      unfold f_X8_word_100 f_X8_word_119
      rw [hr, ev_gI sM, e9, ev_gI sM, e4, nI_sub hBp]
      by_cases h7 : p - B ≤ 7
      · rw [if_pos (show nI (p - B) ≤ 7 from (nI_le_iff (b := 7) (by omega) (by omega)).mpr h7)]
        exact ⟨h, rfl, Ag.rf, e9⟩
      · rw [if_neg (show ¬ nI (p - B) ≤ 7 from fun x => h7 ((nI_le_iff (b := 7) (by omega) (by omega)).mp x))]
        exact ⟨h, by unfold wv; rw [if_neg h7], Ag.rf, e9⟩
    unfold f_X8_word_14
    rw [ev_gI sM, e9, ev_gI sM, t.2]
    by_cases hp : p < e
    · rw [if_neg (nI_ge hp (by omega)), ev_gR sM, V_J20 V, ev_gI sM, e9, ev_aI s20 (by omega) (by omega), t.1 p hp]
      by_cases b1 : T p < 97
      · rw [if_pos b1]
        exact fin (rn_n (fun q => (of_decide_eq_true q).1 b1))
      · rw [if_neg b1, ev_gR sM, V_J20 V, ev_gI sM, e9, ev_aI s20 (by omega) (by omega), t.1 p hp]
        by_cases b2 : 122 < T p
        · rw [if_pos b2]
          exact fin (rn_n (fun q => (of_decide_eq_true q).2 b2))
        · have hb : ltr (T p) = true := decide_eq_true ⟨b1, b2⟩
          have hl' : ∀ j, j < (p + 1) - B → ltr (T (B + j)) = true := fun j hj => by
            by_cases q : j = p - B
            · subst q
              rw [show B + (p - B) = p by omega]
              exact hb
            · exact hl j (by omega)
          have go : ∃ h', f_X8_word_86 (f_X8_word_14 m) h (aM z n) (wv T B (p + 1 - B)) = some (wv T B (rn ltr T e p - B), h') ∧ Ag (mk z n [39]) h h' ∧ h'.2.2.1 (aM z n) 39 = nI (rn ltr T e p) := by
            unfold f_X8_word_86
            rw [ev_gI sM, e9, ev_pI sM, nI_1]
            have p1 : Ag (mk z n [39]) h (setI h (aM z n) 39 (nI (p + 1))) := Ag.rf.set ⟨rfl, by simp⟩
            obtain ⟨h', e1, p2, q1⟩ := ih (p + 1) _ (by omega) (by omega) (by omega) (WS_ag W p1) (WR_ag V p1) (mk_Tx p1 (by simp) t) ((mk_k p1 (by simp)).trans e4) (by rw [sI_u, u2s]) hl'
            rw [← rn_y hp hb] at e1 q1
            exact ⟨h', e1, p1.tr p2, q1⟩
          rw [if_neg b2, ev_gI sM, e9, ev_gI sM, e4, nI_sub hBp]
          by_cases h7 : 7 ≤ p - B
          · rw [if_pos (show (7 : Int32) ≤ nI (p - B) from (nI_le_iff (a := 7) (by omega) (by omega)).mpr h7)]
            have : wv T B (p + 1 - B) = 0 := by unfold wv; rw [if_neg (by omega)]
            rw [this] at go
            exact go
          · rw [if_neg (show ¬ (7 : Int32) ≤ nI (p - B) from fun x => h7 ((nI_le_iff (a := 7) (by omega) (by omega)).mp x)), ev_gR sM, V_J20 V, ev_gI sM, e9, ev_aI s20 (by omega) (by omega), t.1 p hp]
            have st := wv_step (T := T) (B := B) (m := p - B) (by omega) (fun j hj => hl' j (by omega))
            rw [show B + (p - B) = p by omega, show p - B + 1 = p + 1 - B by omega] at st
            rw [st]
            exact go
    · rw [if_pos (nI_le (by omega) (by omega))]
      exact fin (rn_out (by omega))
/-- a word is looked for at p: B behind the blanks -/
theorem v_takes {T : Nat → Int32} {e p wi : Nat} (hw : wi < 6) (he : e ≤ 300) (hp : p ≤ e) (W : WS z n nf h) (V : WR z n nf h) (t : Tx8 z n T e h) (e4 : h.2.2.1 (aM z n) 34 = nI p) : ∃ h', f_X8_takes h (aM z n) (cst wi) = some (b2i (lw T e (rn blk T e p) wi), h') ∧ Ag (mk z n [34, 39]) h h' ∧ h'.2.2.1 (aM z n) 34 = nI (if lw T e (rn blk T e p) wi = true then rn ltr T e (rn blk T e p) else rn blk T e p) := by
  have sM := W_M W
  obtain ⟨h1, e1, p1, q1⟩ := v_blanks he hp W V t e4
  have hB : rn blk T e p ≤ e := rn_le hp
  have W1 := WS_ag W p1
  have V1 := WR_ag V p1
  have p2 : Ag (mk z n [34, 39]) h (setI h1 (aM z n) 39 (nI (rn blk T e p))) := (mk_mo (by simp) p1).set ⟨rfl, by simp⟩
  obtain ⟨h2, e2, p3, q3⟩ := l_wd14 (z := z) (n := n) (nf := nf) (T := T) he hB FU (rn blk T e p) (setI h1 (aM z n) 39 (nI (rn blk T e p))) (by rw [fu_big]; omega) (Nat.le_refl _) hB (WS_ag W p2) (WR_ag V p2) (mk_Tx p2 (by simp) t) (by rw [sI_u, u2n (Or.inr (by omega))]; exact q1) (by rw [sI_u, u2s]) (fun j hj => by omega)
  have p4 : Ag (mk z n [34, 39]) h h2 := p2.tr (mk_mo (by simp) p3)
  have ew : f_X8_word h (aM z n) = some (wv T (rn blk T e p) (rn ltr T e (rn blk T e p) - rn blk T e p), h2) := by
    unfold f_X8_word
    rw [ev_rcv sM, cal_eq e1, ev_gI (W_M W1), q1, ev_pI (W_M W1)]
    rw [Nat.sub_self] at e2
    exact e2
  have s2 := W_M (WS_ag W p4)
  have q4 : h2.2.2.1 (aM z n) 34 = nI (rn blk T e p) := by
    rw [mk_k p3 (by simp), sI_u, u2n (Or.inr (by omega))]
    exact q1
  unfold f_X8_takes
  rw [ev_rcv sM, cal_eq ew]
  by_cases e0 : lw T e (rn blk T e p) wi = true
  · rw [if_pos ((wv_lw hw).mpr e0), e0, ev_gI s2, q3, ev_pI s2, if_pos rfl]
    exact ⟨_, ev_rZ1, p4.set ⟨rfl, by simp⟩, by rw [sI_u, u2s]⟩
  · rw [if_neg (fun x => e0 ((wv_lw hw).mp x)), if_neg e0, show lw T e (rn blk T e p) wi = false by simpa using e0]
    exact ⟨h2, ev_rZ0, p4, q4⟩
theorem l_tn14 {T : Nat → Int32} {e B : Nat} (he : e ≤ 300) (hB : B ≤ e) : ∀ (m p : Nat) (h : AH), e - p < m → B ≤ p → p ≤ e → WS z n nf h → WR z n nf h → Tx8 z n T e h → h.2.2.1 (aM z n) 34 = nI B → (p - B ≤ 3 → ∀ k, k ≤ 3 - (p - B) → nmb T k p (h.2.2.1 (aM z n) 40) = nmb T (p - B + k) B 0) → ∃ h', f_X8_takesNumber_14 m h (aM z n) (nI p) = f_X8_takesNumber_81 h' (aM z n) (nI (rn dgt T e p)) ∧ Ag (mk z n [40]) h h' ∧ (rn dgt T e p - B ≤ 3 → h'.2.2.1 (aM z n) 40 = nmb T (rn dgt T e p - B) B 0) := by
  intro m
  induction m with
  | zero => intro p h h1; omega
  | succ m ih =>
    intro p h h1 hBp h2 W V t e4 hn
    have sM := W_M W
    have s20 := W_J20 W
    have fin : rn dgt T e p = p → ∃ h', f_X8_takesNumber_81 h (aM z n) (nI p) = f_X8_takesNumber_81 h' (aM z n) (nI (rn dgt T e p)) ∧ Ag (mk z n [40]) h h' ∧ (rn dgt T e p - B ≤ 3 → h'.2.2.1 (aM z n) 40 = nmb T (rn dgt T e p - B) B 0) := by
      intro hr
      refine ⟨h, by rw [hr], Ag.rf, fun x => ?_⟩
      rw [hr] at x ⊢
      exact hn x 0 (by omega)
    unfold f_X8_takesNumber_14
    rw [ev_gI sM, t.2]
    by_cases hp : p < e
    · rw [if_neg (nI_ge hp (by omega)), ev_gR sM, V_J20 V, ev_aI s20 (by omega) (by omega), t.1 p hp]
      by_cases b1 : T p < 48
      · rw [if_pos b1]
        exact fin (rn_n (fun q => (of_decide_eq_true q).1 b1))
      · rw [if_neg b1, ev_gR sM, V_J20 V, ev_aI s20 (by omega) (by omega), t.1 p hp]
        by_cases b2 : 57 < T p
        · rw [if_pos b2]
          exact fin (rn_n (fun q => (of_decide_eq_true q).2 b2))
        · have hb : dgt (T p) = true := decide_eq_true ⟨b1, b2⟩
          rw [if_neg b2, ev_gI sM, e4, nI_sub hBp]
          unfold f_X8_takesNumber_75
          by_cases h3 : 3 ≤ p - B
          · rw [if_pos (show (3 : Int32) ≤ nI (p - B) from (nI_le_iff (a := 3) (by omega) (by omega)).mpr h3), ev_bd, nI_1]
            obtain ⟨h', e1, p2, q1⟩ := ih (p + 1) h (by omega) (by omega) (by omega) W V t e4 (fun x => by omega)
            rw [← rn_y hp hb] at e1 q1
            exact ⟨h', e1, p2, q1⟩
          · rw [if_neg (show ¬ (3 : Int32) ≤ nI (p - B) from fun x => h3 ((nI_le_iff (a := 3) (by omega) (by omega)).mp x)), ev_gI sM, ev_gR sM, V_J20 V, ev_aI s20 (by omega) (by omega), t.1 p hp, ev_pI sM, ev_bd, nI_1]
            have p1 : Ag (mk z n [40]) h (setI h (aM z n) 40 (10 * h.2.2.1 (aM z n) 40 + T p - 48)) := Ag.rf.set ⟨rfl, by simp⟩
            obtain ⟨h', e1, p2, q1⟩ := ih (p + 1) _ (by omega) (by omega) (by omega) (WS_ag W p1) (WR_ag V p1) (mk_Tx p1 (by simp) t) ((mk_k p1 (by simp)).trans e4) (fun x k hk => by
              have := hn (by omega) (k + 1) (by omega)
              rw [nmb] at this
              rw [sI_u, u2s, Int32.mul_comm, this, show p - B + (k + 1) = p + 1 - B + k by omega])
            rw [← rn_y hp hb] at e1 q1
            exact ⟨h', e1, p1.tr p2, q1⟩
    · rw [if_pos (nI_le (by omega) (by omega))]
      exact fin (rn_out (by omega))
/-- a number is looked for at p -/
theorem v_takesNumber {T : Nat → Int32} {e p : Nat} (he : e ≤ 300) (hp : p ≤ e) (W : WS z n nf h) (V : WR z n nf h) (t : Tx8 z n T e h) (e4 : h.2.2.1 (aM z n) 34 = nI p) : ∃ h', f_X8_takesNumber h (aM z n) = some (b2i (decide (nmH T e (rn blk T e p) ≠ -1)), h') ∧ Ag (mk z n [34, 40]) h h' ∧ h'.2.2.1 (aM z n) 34 = nI (if nmH T e (rn blk T e p) ≠ -1 then rn dgt T e (rn blk T e p) else rn blk T e p) ∧ (nmH T e (rn blk T e p) ≠ -1 → h'.2.2.1 (aM z n) 40 = nmH T e (rn blk T e p)) := by
  have sM := W_M W
  obtain ⟨h1, e1, p1, q1⟩ := v_blanks he hp W V t e4
  have hB : rn blk T e p ≤ e := rn_le hp
  generalize rn blk T e p = B at hB q1
  have W1 := WS_ag W p1
  have V1 := WR_ag V p1
  have p2 : Ag (mk z n [34, 40]) h (setI h1 (aM z n) 40 0) := (mk_mo (by simp) p1).set ⟨rfl, by simp⟩
  have W2 := WS_ag W p2
  have V2 := WR_ag V p2
  obtain ⟨h2, e2, p3, q3⟩ := l_tn14 (z := z) (n := n) (nf := nf) (T := T) he hB FU B (setI h1 (aM z n) 40 0) (by rw [fu_big]; omega) (Nat.le_refl _) hB W2 V2 (mk_Tx p2 (by simp) t) (by rw [sI_u, u2n (Or.inr (by omega))]; exact q1) (fun _ k _ => by rw [sI_u, u2s, Nat.sub_self, Nat.zero_add])
  have p4 : Ag (mk z n [34, 40]) h h2 := p2.tr (mk_mo (by simp) p3)
  have s2 := W_M (WS_ag W p4)
  have q4 : h2.2.2.1 (aM z n) 34 = nI B := by
    rw [mk_k p3 (by simp), sI_u, u2n (Or.inr (by omega))]
    exact q1
  have r1 := rn_ge (P := dgt) (T := T) (e := e) (p := B)
  have r2 := rn_le (P := dgt) (T := T) hB
  unfold f_X8_takesNumber
  rw [ev_rcv sM, cal_eq e1, ev_gI (W_M W1), q1, ev_pI (W_M W1), e2]
  unfold f_X8_takesNumber_81 f_X8_takesNumber_99
  rw [ev_gI s2, q4]
  have hno : ¬ (rn dgt T e B ≠ B ∧ rn dgt T e B - B ≤ 3) → nmH T e B = -1 := fun x => by unfold nmH; rw [if_neg x]
  by_cases e0 : rn dgt T e B = B
  · have := hno (fun x => x.1 e0)
    rw [if_pos (by rw [e0]), this, if_neg (fun x => x rfl), decide_eq_false (fun x => x rfl)]
    exact ⟨h2, ev_rZ0, p4, q4, fun x => absurd rfl x⟩
  · rw [if_neg (fun x => e0 (nI_inj (by omega) (by omega) x)), ev_gI s2, q4, nI_sub r1]
    by_cases h3 : rn dgt T e B - B ≤ 3
    · have hv : nmH T e B = nmb T (rn dgt T e B - B) B 0 := by unfold nmH; rw [if_pos ⟨e0, h3⟩]
      obtain ⟨v, hv1, hv2⟩ := nmb_ok (T := T) (rn dgt T e B - B) B 0 (Nat.pos_of_ne_zero (fun x => by simp at x)) h3 (fun i h1 h2 => rn_in (P := dgt) (T := T) (e := e) (p := B) h1 (by omega))
      have hne : nmH T e B ≠ -1 := by
        rw [hv, show (0 : Int32) = nI 0 from rfl, hv2]
        intro x
        have := congrArg Int32.toInt x
        rw [nI_toInt (by omega)] at this
        have m1 : (-1 : Int32).toInt = -1 := by decide
        omega
      rw [if_pos (show nI (rn dgt T e B - B) ≤ 3 from (nI_le_iff (b := 3) (by omega) (by omega)).mpr h3), ev_pI s2, if_pos hne, decide_eq_true hne]
      refine ⟨_, ev_rZ1, p4.set ⟨rfl, by simp⟩, by rw [sI_u, u2s], fun _ => ?_⟩
      rw [sI_u, u2n (Or.inr (by omega)), hv]
      exact q3 h3
    · have := hno (fun x => h3 x.2)
      rw [if_neg (show ¬ nI (rn dgt T e B - B) ≤ 3 from fun x => h3 ((nI_le_iff (b := 3) (by omega) (by omega)).mp x)), this, if_neg (fun x => x rfl), decide_eq_false (fun x => x rfl)]
      exact ⟨h2, ev_rZ0, p4, q4, fun x => absurd rfl x⟩
/-- the statement's end -/
theorem v_semi8 {T : Nat → Int32} {e p : Nat} (he : e ≤ 300) (hp : p ≤ e) (W : WS z n nf h) (V : WR z n nf h) (t : Tx8 z n T e h) (e4 : h.2.2.1 (aM z n) 34 = nI p) : ∃ h', f_X8_statement_177 h (aM z n) = some (b2i (decide (rn blk T e p < e ∧ T (rn blk T e p) = 59)), h') ∧ Ag (mk z n [34]) h h' ∧ h'.2.2.1 (aM z n) 34 = nI (if rn blk T e p < e ∧ T (rn blk T e p) = 59 then rn blk T e p + 1 else rn blk T e p) := by
  have sM := W_M W
  obtain ⟨h1, e1, p1, q1⟩ := v_blanks he hp W V t e4
  have hB : rn blk T e p ≤ e := rn_le hp
  generalize rn blk T e p = B at hB q1
  have W1 := WS_ag W p1
  have V1 := WR_ag V p1
  have s1 := W_M W1
  have t1 := mk_Tx p1 (by simp) t
  unfold f_X8_statement_177 f_X8_statement_206
  rw [ev_rcv sM, cal_eq e1, ev_gI s1, q1, ev_gI s1, t1.2]
  by_cases hb : B < e
  · rw [if_neg (fun x => by have := nI_inj (by omega) (by omega) x; omega), ev_gR s1, V_J20 V1, ev_gI s1, q1, ev_aI (W_J20 W1) (by omega) (by omega), t1.1 B hb]
    by_cases h59 : T B = 59
    · rw [if_pos h59, ev_gI s1, q1, ev_pI s1, nI_1, if_pos ⟨hb, h59⟩, decide_eq_true ⟨hb, h59⟩]
      exact ⟨_, ev_rZ1, p1.set ⟨rfl, by simp⟩, by rw [sI_u, u2s]⟩
    · rw [if_neg h59, if_neg (fun x => h59 x.2), decide_eq_false (fun x => h59 x.2)]
      exact ⟨h1, ev_rZ0, p1, q1⟩
  · have : B = e := by omega
    rw [if_pos (by rw [this]), if_neg (fun x => hb x.1), decide_eq_false (fun x => hb x.1)]
    exact ⟨h1, ev_rZ0, p1, q1⟩
end R8
