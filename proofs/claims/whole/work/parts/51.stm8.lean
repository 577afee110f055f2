/-! ===== custom: one statement, the reference ===== -/
theorem ct_0 : (439855772532 : Int64) = cst 0 := rfl
theorem ct_1 : (1852137842 : Int64) = cst 1 := rfl
theorem ct_2 : (1752132708 : Int64) = cst 2 := rfl
theorem ct_3 : (1717660018 : Int64) = cst 3 := rfl
theorem ct_4 : (127978976603237 : Int64) = cst 4 := rfl
theorem ct_5 : (495756340332 : Int64) = cst 5 := rfl
section S8
variable {z n nf : Nat} {h : AH}
theorem mk_c8 {ks : List Nat} {h' : AH} (hk : ∀ k ∈ ks, k = 34 ∨ k = 39 ∨ k = 40) (p : Ag (mk z n ks) h h') : Ag (cs8 z n) h h' := p.mo (fun a k q => Or.inl ⟨q.1, hk k q.2⟩)
theorem D8_mk {d : Dr} {ks : List Nat} {h' : AH} (D : D8 z n d h) (p : Ag (mk z n ks) h h') : D8 z n d h' := by
  unfold D8
  rw [mk_J p]
  exact D
theorem cs8_Tx {h' : AH} {T : Nat → Int32} {e : Nat} (p : Ag (cs8 z n) h h') (t : Tx8 z n T e h) : Tx8 z n T e h' := ⟨fun k hk => by rw [p.2.2.2 _ _ (by unfold cs8 aM aJ; omega)]; exact t.1 k hk, by rw [p.2.2.2 _ _ (by unfold cs8 aM aJ; omega)]; exact t.2⟩
/-- what a statement has made of the reference -/
def St8 (z n : Nat) (r : Bool × Nat × Dr) (h h' : AH) : Prop := Ag (cs8 z n) h h' ∧ h'.2.2.1 (aM z n) 34 = nI r.2.1 ∧ (r.1 = true → D8 z n r.2.2 h')
theorem v_sem8 {T : Nat → Int32} {e p : Nat} (he : e ≤ 300) (hp : p ≤ e) (W : WS z n nf h) (V : WR z n nf h) {h0 : AH} (q : Ag (cs8 z n) h0 h) (t : Tx8 z n T e h) (e4 : h.2.2.1 (aM z n) 34 = nI p) {d : Dr} (D : D8 z n d h) : ∃ h', f_X8_statement_177 h (aM z n) = some (b2i (sem T e p d).1, h') ∧ St8 z n (sem T e p d) h0 h' := by
  obtain ⟨h1, x1, x2, x3⟩ := v_semi8 he hp W V t e4
  refine ⟨h1, ?_, q.tr (mk_c8 (by simp) x2), ?_, fun _ => by rw [sem_d]; exact D8_mk D x2⟩
  · rw [x1]
    unfold sem
    by_cases c : rn blk T e p < e ∧ T (rn blk T e p) = 59
    · rw [if_pos c, decide_eq_true c]
    · rw [if_neg c, decide_eq_false c]
  · rw [x3]
    unfold sem
    by_cases c : rn blk T e p < e ∧ T (rn blk T e p) = 59
    · rw [if_pos c, if_pos c]
    · rw [if_neg c, if_neg c]
theorem v_st53 (W : WS z n nf h) (V : WR z n nf h) {d : Dr} (D : D8 z n d h) (hl : d.1.length < 10) {x : Int32} (hx : ¬ x = -1) : ∃ h', f_X8_statement_53 h (aM z n) x = f_X8_statement_177 h' (aM z n) ∧ Ag (cs8 z n) h h' ∧ D8 z n (d.1 ++ [x], d.2) h' ∧ h'.2.2.1 (aM z n) 34 = h.2.2.1 (aM z n) 34 := by
  have sM := W_M W
  have s21 := W_J21 W
  obtain ⟨d1, d2, d3, d4, d5⟩ := D
  have e15 : (15 : Int32) + nI d.1.length = nI (15 + d.1.length) := nI_ad 15 _
  have hx0 : 15 + d.1.length ≠ 14 := by omega
  unfold f_X8_statement_53
  rw [if_neg hx, ev_gR sM, V_J21 V, ev_gR sM, V_J21 V, show (14 : Int32) = nI 14 from rfl, ev_aI s21 (by omega) (by omega), d1, e15, ev_sI s21 (by omega) (by omega), vn_i, ev_gR (by rw [sI_s]; exact sM), sI_r, V_J21 V, ev_aI (by rw [sI_s]; exact s21) (by omega) (by omega), sI_u, u2n (Or.inr (by omega)), d1, nI_1, ev_sI (by rw [sI_s]; exact s21) (by omega) (by omega), vn_i]
  refine ⟨_, rfl, (Ag.rf.set (Or.inr ⟨rfl, by omega⟩)).set (Or.inr ⟨rfl, by omega⟩), ⟨?_, fun j hj => ?_, ?_, ?_, ?_⟩, ?_⟩
  · rw [sI_u, u2s, List.length_append]
    rfl
  · rw [List.length_append] at hj
    rw [sI_u, u2n (Or.inr (by omega)), sI_u]
    show u2 _ _ _ _ _ _ = (d.1 ++ [x]).getD j 0
    rw [getD_snoc]
    by_cases q : j = d.1.length
    · rw [q, u2s, if_neg (by omega), if_pos rfl]
    · have : j < d.1.length := by simp at hj; omega
      rw [u2n (Or.inr (by omega)), if_pos this]
      exact d2 j this
  · rw [sI_u, u2n (Or.inr (by omega)), sI_u, u2n (Or.inr (by omega))]; exact d3
  · rw [sI_u, u2n (Or.inr (by omega)), sI_u, u2n (Or.inr (by omega))]; exact d4
  · rw [sI_u, u2n (Or.inr (by omega)), sI_u, u2n (Or.inr (by omega))]; exact d5
  · rw [sI_u, u2_ne _ _ (by (first | omega | (simp only [aT, aN, aA, aJ, aM, aF, aFl, aFs]; omega))), sI_u, u2_ne _ _ (by (first | omega | (simp only [aT, aN, aA, aJ, aM, aF, aFl, aFs]; omega)))]
theorem v_stm8 {T : Nat → Int32} {e B : Nat} (he : e ≤ 300) (hB : B ≤ e) (hbB : rn blk T e B = B) (W : WS z n nf h) (V : WR z n nf h) (t : Tx8 z n T e h) (e4 : h.2.2.1 (aM z n) 34 = nI B) {d : Dr} (D : D8 z n d h) (hl : d.1.length < 10) : ∃ h', f_X8_statement h (aM z n) = some (b2i (stm T e B d).1, h') ∧ St8 z n (stm T e B d) h h' := by
  have sM := W_M W
  have hr : rn ltr T e B ≤ e := rn_le hB
  have hC := nxt_le (T := T) hB
  -- a word is tried at B
  have tw : ∀ (wi : Nat) (g : AH), wi < 6 → Ag (cs8 z n) h g → g.2.2.1 (aM z n) 34 = nI B → D8 z n d g → ∃ h', f_X8_takes g (aM z n) (cst wi) = some (b2i (lw T e B wi), h') ∧ Ag (cs8 z n) h h' ∧ D8 z n d h' ∧ h'.2.2.1 (aM z n) 34 = nI (if lw T e B wi = true then rn ltr T e B else B) := fun wi g hwi pg g4 Dg => by
    obtain ⟨h1, x1, x2, x3⟩ := v_takes hwi he hB (WS_ag W pg) (WR_ag V pg) (cs8_Tx pg t) g4
    rw [hbB] at x1 x3
    exact ⟨h1, x1, pg.tr (mk_c8 (by simp) x2), D8_mk Dg x2, x3⟩
  unfold f_X8_statement
  rw [ct_0, ct_1, ct_2, ct_3, ct_4, ct_5]
  obtain ⟨g0, y0, p0, D0, q0⟩ := tw 0 h (by omega) Ag.rf e4 D
  rw [ev_rcv sM, cal_eq y0]
  unfold stm
  simp only [b2i_0]
  by_cases c0 : lw T e B 0 = true
  · rw [if_neg (fun q => q c0), if_pos c0]
    rw [if_pos c0] at q0
    -- a word is tried behind "first"
    have W0 := WS_ag W p0
    have V0 := WR_ag V p0
    have hn2 : rn blk T e (nxt T e B) = nxt T e B := rn_id hr
    have tx : ∀ (wi : Nat) (g : AH) (p : Nat), wi < 6 → p ≤ e → rn blk T e p = nxt T e B → Ag (cs8 z n) h g → g.2.2.1 (aM z n) 34 = nI p → D8 z n d g → ∃ h', f_X8_takes g (aM z n) (cst wi) = some (b2i (lw T e (nxt T e B) wi), h') ∧ Ag (cs8 z n) h h' ∧ D8 z n d h' ∧ h'.2.2.1 (aM z n) 34 = nI (if lw T e (nxt T e B) wi = true then rn ltr T e (nxt T e B) else nxt T e B) := fun wi g p hwi hp hpn pg g4 Dg => by
      obtain ⟨h1, x1, x2, x3⟩ := v_takes hwi he hp (WS_ag W pg) (WR_ag V pg) (cs8_Tx pg t) g4
      rw [hpn] at x1 x3
      exact ⟨h1, x1, pg.tr (mk_c8 (by simp) x2), D8_mk Dg x2, x3⟩
    have key : ∀ (x : Int32) (g : AH), ¬ x = -1 → Ag (cs8 z n) h g → g.2.2.1 (aM z n) 34 = nI (rn ltr T e (nxt T e B)) → D8 z n d g → ∃ h', f_X8_statement_53 g (aM z n) x = some (b2i (sem T e (rn ltr T e (nxt T e B)) (d.1 ++ [x], d.2)).1, h') ∧ St8 z n (sem T e (rn ltr T e (nxt T e B)) (d.1 ++ [x], d.2)) h h' := fun x g hx pg g4 Dg => by
      obtain ⟨h1, x1, x2, x3, x4⟩ := v_st53 (WS_ag W pg) (WR_ag V pg) Dg hl hx
      rw [x1]
      have p2 := pg.tr x2
      exact v_sem8 he (rn_le hC) (WS_ag W p2) (WR_ag V p2) p2 (cs8_Tx p2 t) (x4.trans g4) x3
    obtain ⟨g4, y4, p4, D4, q4⟩ := tx 4 g0 _ (by omega) hr rfl p0 q0 D0
    rw [ev_rcv (W_M W0), cal_eq y4]
    simp only [b2i_0]
    by_cases c4 : lw T e (nxt T e B) 4 = true
    · rw [if_neg (fun q => q c4), if_pos c4]
      rw [if_pos c4] at q4
      exact key 0 g4 (by decide) p4 q4 D4
    rw [if_neg c4] at q4
    obtain ⟨g5, y5, p5, D5, q5⟩ := tx 5 g4 _ (by omega) hC hn2 p4 q4 D4
    rw [if_pos c4, if_neg c4, ev_rcv (W_M (WS_ag W p4)), cal_eq y5]
    simp only [b2i_0]
    by_cases c5 : lw T e (nxt T e B) 5 = true
    · rw [if_neg (fun q => q c5), if_pos c5]
      rw [if_pos c5] at q5
      exact key 1 g5 (by decide) p5 q5 D5
    rw [if_neg c5] at q5
    obtain ⟨g1, y1, p1, D1, q1⟩ := tx 1 g5 _ (by omega) hC hn2 p5 q5 D5
    rw [if_pos c5, if_neg c5, ev_rcv (W_M (WS_ag W p5)), cal_eq y1]
    simp only [b2i_0]
    by_cases c1 : lw T e (nxt T e B) 1 = true
    · rw [if_neg (fun q => q c1), if_pos c1]
      rw [if_pos c1] at q1
      exact key 2 g1 (by decide) p1 q1 D1
    rw [if_neg c1] at q1
    rw [if_pos c1, if_neg c1]
    unfold f_X8_statement_53
    rw [if_pos rfl]
    exact ⟨g1, ev_rZ0, p1, q1, fun x => by cases x⟩
  rw [if_neg c0] at q0
  obtain ⟨g1, y1, p1, D1, q1⟩ := tw 1 g0 (by omega) p0 q0 D0
  rw [if_pos c0, if_neg c0, ev_rcv (W_M (WS_ag W p0)), cal_eq y1]
  simp only [b2i_0]
  by_cases c1 : lw T e B 1 = true
  · rw [if_neg (fun q => q c1), if_pos c1]
    rw [if_pos c1] at q1
    have W1 := WS_ag W p1
    have V1 := WR_ag V p1
    obtain ⟨g2, y2, pn, q2, v2⟩ := v_takesNumber he hr W1 V1 (cs8_Tx p1 t) q1
    have p2 : Ag (cs8 z n) h g2 := p1.tr (mk_c8 (by simp) pn)
    have D2 := D8_mk D1 pn
    have W2 := WS_ag W p2
    have V2 := WR_ag V p2
    have y2' : f_X8_takesNumber g1 (aM z n) = some (b2i (decide (nmH T e (nxt T e B) ≠ -1)), g2) := y2
    have q2' : g2.2.2.1 (aM z n) 34 = nI (if nmH T e (nxt T e B) ≠ -1 then rn dgt T e (nxt T e B) else nxt T e B) := q2
    rw [ev_rcv (W_M W1), cal_eq y2']
    by_cases cn : nmH T e (nxt T e B) ≠ -1
    · rw [if_pos cn] at q2'
      rw [decide_eq_true cn, b2i_t, if_neg one_ne, if_pos cn, ev_gR (W_M W2), V_J21 V2, ev_gI (W_M W2), show g2.2.2.1 (aM z n) 40 = nmH T e (nxt T e B) from v2 cn, show (25 : Int32) = nI 25 from rfl, ev_sI (W_J21 W2) (by omega) (by omega), vn_i]
      obtain ⟨d1, d2, d3, d4, d5⟩ := D2
      have px : Ag (cs8 z n) h (setI g2 (aJ z n 21) 25 (nmH T e (nxt T e B))) := p2.set (Or.inr ⟨rfl, by omega⟩)
      refine v_sem8 he (rn_le hC) (WS_ag W px) (WR_ag V px) px (cs8_Tx px t) (by rw [sI_u, u2_ne _ _ (by (first | omega | (simp only [aT, aN, aA, aJ, aM, aF, aFl, aFs]; omega)))]; exact q2') ⟨?_, fun j hj => ?_, ?_, ?_, ?_⟩
      · rw [sI_u, u2n (Or.inr (by omega))]; exact d1
      · have hj' : j < d.1.length := hj
        rw [sI_u, u2n (Or.inr (by omega))]; exact d2 j hj
      · rw [sI_u, u2s]
      · rw [sI_u, u2n (Or.inr (by omega))]; exact d4
      · rw [sI_u, u2n (Or.inr (by omega))]; exact d5
    · rw [if_neg cn] at q2'
      rw [decide_eq_false cn, b2i_f, if_pos rfl, if_neg cn]
      exact ⟨g2, ev_rZ0, p2, q2', fun x => by cases x⟩
  rw [if_neg c1] at q1
  obtain ⟨g2, y2, p2, D2, q2⟩ := tw 2 g1 (by omega) p1 q1 D1
  rw [if_pos c1, if_neg c1, ev_rcv (W_M (WS_ag W p1)), cal_eq y2]
  simp only [b2i_0]
  by_cases c2 : lw T e B 2 = true
  · rw [if_neg (fun q => q c2), if_pos c2]
    rw [if_pos c2] at q2
    have W1 := WS_ag W p2
    have V1 := WR_ag V p2
    obtain ⟨g3, y3, pn, q3, v3⟩ := v_takesNumber he hr W1 V1 (cs8_Tx p2 t) q2
    have p3 : Ag (cs8 z n) h g3 := p2.tr (mk_c8 (by simp) pn)
    have D3 := D8_mk D2 pn
    have W2 := WS_ag W p3
    have V2 := WR_ag V p3
    have y3' : f_X8_takesNumber g2 (aM z n) = some (b2i (decide (nmH T e (nxt T e B) ≠ -1)), g3) := y3
    have q3' : g3.2.2.1 (aM z n) 34 = nI (if nmH T e (nxt T e B) ≠ -1 then rn dgt T e (nxt T e B) else nxt T e B) := q3
    rw [ev_rcv (W_M W1), cal_eq y3']
    by_cases cn : nmH T e (nxt T e B) ≠ -1
    · rw [if_pos cn] at q3'
      rw [decide_eq_true cn, b2i_t, if_neg one_ne, if_pos cn, ev_gR (W_M W2), V_J21 V2, ev_gI (W_M W2), show g3.2.2.1 (aM z n) 40 = nmH T e (nxt T e B) from v3 cn, show (26 : Int32) = nI 26 from rfl, ev_sI (W_J21 W2) (by omega) (by omega), vn_i]
      obtain ⟨d1, d2, d3, d4, d5⟩ := D3
      have px : Ag (cs8 z n) h (setI g3 (aJ z n 21) 26 (nmH T e (nxt T e B))) := p3.set (Or.inr ⟨rfl, by omega⟩)
      refine v_sem8 he (rn_le hC) (WS_ag W px) (WR_ag V px) px (cs8_Tx px t) (by rw [sI_u, u2_ne _ _ (by (first | omega | (simp only [aT, aN, aA, aJ, aM, aF, aFl, aFs]; omega)))]; exact q3') ⟨?_, fun j hj => ?_, ?_, ?_, ?_⟩
      · rw [sI_u, u2n (Or.inr (by omega))]; exact d1
      · have hj' : j < d.1.length := hj
        rw [sI_u, u2n (Or.inr (by omega))]; exact d2 j hj
      · rw [sI_u, u2n (Or.inr (by omega))]; exact d3
      · rw [sI_u, u2s]
      · rw [sI_u, u2n (Or.inr (by omega))]; exact d5
    · rw [if_neg cn] at q3'
      rw [decide_eq_false cn, b2i_f, if_pos rfl, if_neg cn]
      exact ⟨g3, ev_rZ0, p3, q3', fun x => by cases x⟩
  rw [if_neg c2] at q2
  obtain ⟨g3, y3, p3, D3, q3⟩ := tw 3 g2 (by omega) p2 q2 D2
  rw [if_pos c2, if_neg c2, ev_rcv (W_M (WS_ag W p2)), cal_eq y3]
  simp only [b2i_0]
  by_cases c3 : lw T e B 3 = true
  · rw [if_neg (fun q => q c3), if_pos c3]
    rw [if_pos c3] at q3
    have W3 := WS_ag W p3
    have V3 := WR_ag V p3
    rw [ev_gR (W_M W3), V_J21 V3, show (27 : Int32) = nI 27 from rfl, ev_sI (W_J21 W3) (by omega) (by omega), vn_i]
    obtain ⟨d1, d2, d3, d4, d5⟩ := D3
    have px : Ag (cs8 z n) h (setI g3 (aJ z n 21) 27 1) := p3.set (Or.inr ⟨rfl, by omega⟩)
    refine v_sem8 he hr (WS_ag W px) (WR_ag V px) px (cs8_Tx px t) (by rw [sI_u, u2_ne _ _ (by (first | omega | (simp only [aT, aN, aA, aJ, aM, aF, aFl, aFs]; omega)))]; exact q3) ⟨?_, fun j hj => ?_, ?_, ?_, ?_⟩
    · rw [sI_u, u2n (Or.inr (by omega))]; exact d1
    · have hj' : j < d.1.length := hj
      rw [sI_u, u2n (Or.inr (by omega))]; exact d2 j hj
    · rw [sI_u, u2n (Or.inr (by omega))]; exact d3
    · rw [sI_u, u2n (Or.inr (by omega))]; exact d4
    · rw [sI_u, u2s]
  · rw [if_neg c3] at q3
    rw [if_pos c3, if_neg c3]
    exact ⟨g3, ev_rZ0, p3, q3, fun x => by cases x⟩
end S8
