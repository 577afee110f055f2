/-! ===== custom: the whole text ===== -/
/-- the fault's place (or none), statements left, the draft -/
def prs (T : Nat → Int32) (e : Nat) : Nat → Nat → Dr → Int32 × Nat × Dr
  | 0, B, d => if B < e then (nI B, 0, d) else (-1, 0, d)
  | l + 1, B, d => if B < e then (if (stm T e B d).1 = true then prs T e l (rn blk T e (stm T e B d).2.1) (stm T e B d).2.2 else (nI (stm T e B d).2.1, l + 1, d)) else (-1, l + 1, d)
theorem nI_ne1 {k : Nat} (h : k < 2 ^ 31) : nI k ≠ -1 := by
  intro x
  have := congrArg Int32.toInt x
  rw [nI_toInt h] at this
  have m1 : (-1 : Int32).toInt = -1 := by decide
  omega
theorem prs_left {T : Nat → Int32} {e : Nat} : ∀ (l B : Nat) (d : Dr), (prs T e l B d).2.1 ≤ l := by
  intro l
  induction l with
  | zero => intro B d; rw [prs]; split <;> exact Nat.le_refl 0
  | succ l ih =>
    intro B d
    rw [prs]
    split
    · split
      · have := ih (rn blk T e (stm T e B d).2.1) (stm T e B d).2.2
        omega
      · exact Nat.le_refl _
    · exact Nat.le_refl _
theorem prs_len {T : Nat → Int32} {e : Nat} : ∀ (l B : Nat) (d : Dr), d.1.length + l ≤ 10 → (prs T e l B d).2.2.1.length ≤ 10 := by
  intro l
  induction l with
  | zero => intro B d h; rw [prs]; split <;> (show d.1.length ≤ 10; omega)
  | succ l ih =>
    intro B d h
    rw [prs]
    split
    · split
      · refine ih _ _ ?_
        have := stm_len (T := T) (e := e) (B := B) d
        omega
      · show d.1.length ≤ 10; omega
    · show d.1.length ≤ 10; omega
def cp7 (z a k : Nat) : Prop := (a = z + 2 ∧ k ≠ 1) ∨ a = z + 6 ∨ a = z + 7
section PR
variable {z n nf : Nat} {h : AH}
theorem cs_cp {h' : AH} (p : Ag (cs7 z) h h') : Ag (cp7 z) h h' := p.mo (fun a k q => by unfold cs7 at q; unfold cp7; omega)
theorem tk_cp {h' : AH} {ks : List Nat} (hk : ¬ 1 ∈ ks) (p : Ag (tk z ks) h h') : Ag (cp7 z) h h' := p.mo (fun a k q => Or.inl ⟨q.1, fun x => hk (by rw [← x]; exact q.2)⟩)
/-- the class's loop over statements -/
theorem l_parse7 {T : Nat → Int32} {e : Nat} (he : e ≤ 300) : ∀ (m l B : Nat) (d : Dr) (h : AH), l < m → l ≤ 10 → B ≤ e → WS z n nf h → WR z n nf h → Tok z T e B h → D7 z d h → h.2.2.1 (z + 6) 5 = nI (10 - l) → d.1.length + l ≤ 10 → ∃ h', f_X6_faultReading_18 m h (z + 2) (some (z + 6)) = some ((prs T e l B d).1, h') ∧ Ag (cp7 z) h h' ∧ ((prs T e l B d).1 = -1 → D7 z (prs T e l B d).2.2 h' ∧ h'.2.2.1 (z + 6) 5 = nI (10 - (prs T e l B d).2.1)) := by
  intro m
  induction m with
  | zero => intro l B d h h1; omega
  | succ m ih =>
    intro l B d h h1 h2 hB W V t D e65 hl
    have s2 := W_tp W
    have s6 := W_dr W
    obtain ⟨hT, e2, e3, e4, e5⟩ := id t
    have hk := kd_lt (T := T) (e := e) (B := B)
    unfold f_X6_faultReading_18 f_X6_faultReading_64 f_X6_faultReading_79
    rw [ev_gI s2, e3]
    by_cases hb : B < e
    · have k0 : ¬ kd T e B = 0 := fun q => kd_0.mp q hb
      have k0' : ¬ nI (kd T e B) = 0 := fun q => k0 (nI_inj (b := 0) (by omega) (by omega) q)
      rw [if_neg k0', ev_gI s6, e65]
      cases l with
      | zero =>
        rw [if_pos (show (10 : Int32) ≤ nI (10 - 0) from (nI_le_iff (a := 10) (by omega) (by omega)).mpr (by omega)), ev_gI s2, e3, if_neg k0', ev_gI s2, e4, prs, if_pos hb]
        exact ⟨h, rfl, Ag.rf, fun q => absurd q (nI_ne1 (by omega))⟩
      | succ l =>
        rw [if_neg (show ¬ (10 : Int32) ≤ nI (10 - (l + 1)) from fun q => by have := (nI_le_iff (a := 10) (by omega) (by omega)).mp q; omega), ev_rcv s2]
        obtain ⟨h1', x1, x2, x3, x4⟩ := v_stm7 he hB W V t D (by omega)
        rw [cal_eq x1, prs, if_pos hb]
        have W1 := WS_ag W x2
        have V1 := WR_ag V x2
        have hT1 : h1'.2.2.1 (z + 3) = T := (funext (fun k => x2.2.2.2 _ _ (by unfold cs7; omega))).trans hT
        have e21 : h1'.2.2.1 (z + 2) 2 = nI e := (x2.2.2.2 _ _ (by unfold cs7; omega)).trans e2
        have e651 : h1'.2.2.1 (z + 6) 5 = nI (10 - (l + 1)) := (x2.2.2.2 _ _ (by unfold cs7; omega)).trans e65
        cases c : (stm T e B d).1 with
        | false =>
          rw [b2i_f, if_pos rfl, if_neg (by decide), ev_gI (W_tp W1), x4 c]
          have := stm_le (T := T) d hB
          exact ⟨h1', rfl, cs_cp x2, fun q => absurd q (nI_ne1 (by omega))⟩
        | true =>
          obtain ⟨y1, y2⟩ := x3 c
          rw [b2i_t, if_neg one_ne, if_pos rfl, ev_gI (W_dr W1), e651, ev_pI (W_dr W1), nI_1, ev_rcv (by rw [sI_s]; exact W_tp W1)]
          have px : Ag (cp7 z) h (setI h1' (z + 6) 5 (nI (10 - (l + 1) + 1))) := (cs_cp x2).set (Or.inr (Or.inl rfl))
          have W2 := WS_ag W px
          have V2 := WR_ag V px
          obtain ⟨h2', z1, z2, z3⟩ := v_next (T := T) he (stm_le (T := T) d hB) W2 V2 (by rw [sI_u, u2_ne _ _ (by omega)]; exact hT1) (by rw [sI_u, u2_ne _ _ (by omega)]; exact e21) (by rw [sI_u, u2_ne _ _ (by omega)]; exact y1)
          rw [cal_eq z1]
          have p2 := px.tr (tk_cp (by simp) z2)
          have Dx : D7 z (stm T e B d).2.2 h2' := by
            refine D7_tk ?_ z2
            obtain ⟨d1, d2, d3, d4, d5, d6⟩ := y2
            refine ⟨?_, fun j hj => ?_, ?_, ?_, ?_, d6⟩
            · rw [sI_u, u2n (Or.inr (by omega))]; exact d1
            · rw [sI_u, u2_ne _ _ (by omega)]; exact d2 j hj
            · rw [sI_u, u2n (Or.inr (by omega))]; exact d3
            · rw [sI_u, u2n (Or.inr (by omega))]; exact d4
            · rw [sI_u, u2n (Or.inr (by omega))]; exact d5
          have hlen := stm_len (T := T) (e := e) (B := B) d
          obtain ⟨h3, w1, w2, w3⟩ := ih l _ _ h2' (by omega) (by omega) (rn_le (stm_le (T := T) d hB)) (WS_ag W p2) (WR_ag V p2) z3 Dx (by
            rw [z2.2.2.2 _ _ (fun q => by have := q.1; omega), sI_u, u2s]
            congr 1
            omega) (by omega)
          exact ⟨h3, w1, p2.tr w2, w3⟩
    · have k0 : kd T e B = 0 := kd_0.mpr hb
      rw [if_pos (show nI (kd T e B) = 0 by rw [k0]; rfl), ev_gI s2, e3, if_pos (show nI (kd T e B) = 0 by rw [k0]; rfl)]
      cases l with
      | zero => rw [prs, if_neg hb]; exact ⟨h, rfl, Ag.rf, fun _ => ⟨D, e65⟩⟩
      | succ l => rw [prs, if_neg hb]; exact ⟨h, rfl, Ag.rf, fun _ => ⟨D, e65⟩⟩
def d00 : Dr := ([], 9, 0, 0)
theorem v_clear {a : Nat} (sa : h.2.1 a = some (.inl 0)) : f_X0_clear h a = some ((), setI (setI (setI (setI (setI h a 1 0) a 2 9) a 3 0) a 4 0) a 5 0) := by
  unfold f_X0_clear
  rw [ev_pI sa, ev_pI (by simp only [sI_s]; exact sa), ev_pI (by simp only [sI_s]; exact sa), ev_pZ0 (by simp only [sI_s]; exact sa), ev_pI (by simp only [sI_s]; exact sa)]
theorem v_fault7 {T : Nat → Int32} {e : Nat} (he : e ≤ 300) (W : WS z n nf h) (V : WR z n nf h) (hT : h.2.2.1 (z + 3) = T) : ∃ h', f_X6_faultReading h (z + 2) (some (z + 6)) (nI e) = some ((prs T e 10 (rn blk T e 0) d00).1, h') ∧ Ag (cp7 z) h h' ∧ ((prs T e 10 (rn blk T e 0) d00).1 = -1 → D7 z (prs T e 10 (rn blk T e 0) d00).2.2 h' ∧ h'.2.2.1 (z + 6) 5 = nI (10 - (prs T e 10 (rn blk T e 0) d00).2.1)) := by
  have s2 := W_tp W
  have s6 := W_dr W
  unfold f_X6_faultReading
  rw [ev_pI s2, ev_pI (by rw [sI_s]; exact s2), ev_rcv (by simp only [sI_s]; exact s6), cal_eq (v_clear (by simp only [sI_s]; exact s6)), ev_rcv (by simp only [sI_s]; exact s2)]
  have px : Ag (cp7 z) h (setI (setI (setI (setI (setI (setI (setI h (z + 2) 2 (nI e)) (z + 2) 5 0) (z + 6) 1 0) (z + 6) 2 9) (z + 6) 3 0) (z + 6) 4 0) (z + 6) 5 0) := ((((((Ag.rf.set (Or.inl ⟨rfl, by omega⟩)).set (Or.inl ⟨rfl, by omega⟩)).set (Or.inr (Or.inl rfl))).set (Or.inr (Or.inl rfl))).set (Or.inr (Or.inl rfl))).set (Or.inr (Or.inl rfl))).set (Or.inr (Or.inl rfl))
  have W1 := WS_ag W px
  have V1 := WR_ag V px
  have n26 : z + 2 ≠ z + 6 := by omega
  obtain ⟨h1, x1, x2, x3⟩ := v_next (T := T) (e := e) (p := 0) he (by omega) W1 V1 (by
    have n36 : z + 3 ≠ z + 6 := by omega
    have n32 : z + 3 ≠ z + 2 := by omega
    simp only [sI_u, u2_ne _ _ n36, u2_ne _ _ n32]
    exact hT) (by simp (disch := (refine Or.inr ?_; omega)) only [sI_u, u2_ne _ _ n26, u2n, u2s]) (by simp (disch := (refine Or.inr ?_; omega)) only [sI_u, u2_ne _ _ n26, u2n, u2s]; rfl)
  rw [cal_eq x1]
  have p1 := px.tr (tk_cp (by simp) x2)
  have Dx : D7 z d00 h1 := by
    refine D7_tk ?_ x2
    refine ⟨?_, fun j hj => ?_, ?_, ?_, ?_, Or.inl rfl⟩
    · simp (disch := (refine Or.inr ?_; omega)) only [sI_u, u2n, u2s]; rfl
    · exact absurd hj (Nat.not_lt_zero j)
    · simp (disch := (refine Or.inr ?_; omega)) only [sI_u, u2n, u2s]; rfl
    · simp (disch := (refine Or.inr ?_; omega)) only [sI_u, u2n, u2s]; rfl
    · simp (disch := (refine Or.inr ?_; omega)) only [sI_u, u2n, u2s]; rfl
  obtain ⟨h2, y1, y2, y3⟩ := l_parse7 he FU 10 _ d00 h1 (by rw [fu_big]; omega) (by omega) (rn_le (by omega)) (WS_ag W p1) (WR_ag V p1) x3 Dx (by
    rw [x2.2.2.2 _ _ (fun q => by have := q.1; omega), sI_u, u2s]
    rfl) (by show 0 + 10 ≤ 10; omega)
  exact ⟨h2, y1, p1.tr y2, y3⟩
/-- the reference's loop over statements -/
theorem l_parse8 {T : Nat → Int32} {e : Nat} (he : e ≤ 300) : ∀ (m l B : Nat) (d : Dr) (h : AH), l + 1 < m → l ≤ 10 → B ≤ e → rn blk T e B = B → WS z n nf h → WR z n nf h → Tx8 z n T e h → h.2.2.1 (aM z n) 34 = nI B → D8 z n d h → d.1.length + l ≤ 10 → ∃ h' many, f_X8_custom__98 m h (aM z n) (nI (10 - l)) 1 = f_X8_custom__146 h' (aM z n) many (if (prs T e l B d).1 = -1 then 1 else 0) ∧ Ag (cs8 z n) h h' ∧ ((prs T e l B d).1 = -1 → many = nI (10 - (prs T e l B d).2.1) ∧ D8 z n (prs T e l B d).2.2 h') ∧ ((prs T e l B d).1 ≠ -1 → h'.2.2.1 (aM z n) 34 = (prs T e l B d).1) := by
  intro m
  induction m with
  | zero => intro l B d h h1; omega
  | succ m ih =>
    intro l B d h h1 h2 hB hbB W V t e4 D hl
    have sM := W_M W
    -- it stops with a fault
    have stop : ∀ (g : AH) (k : Int32), f_X8_custom__130 (f_X8_custom__98 m) g (aM z n) k = f_X8_custom__146 g (aM z n) (k + 1) 0 := fun g k => by
      obtain ⟨m', rfl⟩ : ∃ m', m = m' + 1 := ⟨m - 1, by omega⟩
      unfold f_X8_custom__130 f_X8_custom__131
      rw [ev_bd, if_pos rfl]
      unfold f_X8_custom__98
      rw [if_pos rfl]
    unfold f_X8_custom__98
    rw [if_neg one_ne, ev_gI sM, e4, ev_gI sM, t.2]
    by_cases hb : B < e
    · rw [if_neg (nI_ge hb (by omega))]
      cases l with
      | zero =>
        rw [if_pos (show (10 : Int32) ≤ nI (10 - 0) from (nI_le_iff (a := 10) (by omega) (by omega)).mpr (by omega)), stop, prs, if_pos hb]
        have := nI_ne1 (k := B) (by omega)
        exact ⟨h, _, by rw [if_neg this], Ag.rf, fun q => absurd q this, fun _ => e4⟩
      | succ l =>
        rw [if_neg (show ¬ (10 : Int32) ≤ nI (10 - (l + 1)) from fun q => by have := (nI_le_iff (a := 10) (by omega) (by omega)).mp q; omega), ev_rcv sM]
        obtain ⟨h1', x1, x2, x3, x4⟩ := v_stm8 he hB hbB W V t e4 D (by omega)
        rw [cal_eq x1, prs, if_pos hb]
        have W1 := WS_ag W x2
        have V1 := WR_ag V x2
        have hle := stm_le (T := T) d hB
        cases c : (stm T e B d).1 with
        | false =>
          have := nI_ne1 (k := (stm T e B d).2.1) (by omega)
          rw [b2i_f, if_pos rfl, stop, if_neg (show ¬ false = true by decide), if_neg this]
          exact ⟨h1', _, rfl, x2, fun q => absurd q this, fun _ => x3⟩
        | true =>
          rw [b2i_t, if_neg one_ne, if_pos rfl]
          obtain ⟨h2', y1, y2, y3⟩ := v_blanks he hle W1 V1 (cs8_Tx x2 t) x3
          unfold f_X8_custom__131
          rw [ev_bd, if_neg one_ne, ev_rcv (W_M W1), cal_eq y1, nI_1, show 10 - (l + 1) + 1 = 10 - l by omega]
          have p2 := x2.tr (mk_c8 (by simp) y2)
          have hlen := stm_len (T := T) (e := e) (B := B) d
          obtain ⟨h3, many, w1, w2, w3, w4⟩ := ih l _ _ h2' (by omega) (by omega) (rn_le hle) (rn_id hle) (WS_ag W p2) (WR_ag V p2) (cs8_Tx p2 t) y3 (D8_mk (x4 c) y2) (by omega)
          exact ⟨h3, many, w1, p2.tr w2, w3, w4⟩
    · rw [if_pos (nI_le (by omega) (by omega))]
      cases l with
      | zero => rw [prs, if_neg hb]; exact ⟨h, _, by rw [if_pos rfl], Ag.rf, fun _ => ⟨rfl, D⟩, fun q => absurd rfl q⟩
      | succ l => rw [prs, if_neg hb]; exact ⟨h, _, by rw [if_pos rfl], Ag.rf, fun _ => ⟨rfl, D⟩, fun q => absurd rfl q⟩
end PR
