/-! ===== custom: one statement ===== -/
abbrev Dr : Type := List Int32 × Int32 × Int32 × Int32
def sem (T : Nat → Int32) (e p : Nat) (d : Dr) : Bool × Nat × Dr := if rn blk T e p < e ∧ T (rn blk T e p) = 59 then (true, rn blk T e p + 1, d) else (false, rn blk T e p, d)
/-- where the token behind the word at B begins -/
def nxt (T : Nat → Int32) (e B : Nat) : Nat := rn blk T e (rn ltr T e B)
def stm (T : Nat → Int32) (e B : Nat) (d : Dr) : Bool × Nat × Dr :=
  if lw T e B 0 = true then
    (if lw T e (nxt T e B) 4 = true then sem T e (rn ltr T e (nxt T e B)) (d.1 ++ [0], d.2)
    else if lw T e (nxt T e B) 5 = true then sem T e (rn ltr T e (nxt T e B)) (d.1 ++ [1], d.2)
    else if lw T e (nxt T e B) 1 = true then sem T e (rn ltr T e (nxt T e B)) (d.1 ++ [2], d.2)
    else (false, nxt T e B, d))
  else if lw T e B 1 = true then (if nmH T e (nxt T e B) ≠ -1 then sem T e (rn dgt T e (nxt T e B)) (d.1, nmH T e (nxt T e B), d.2.2) else (false, nxt T e B, d))
  else if lw T e B 2 = true then (if nmH T e (nxt T e B) ≠ -1 then sem T e (rn dgt T e (nxt T e B)) (d.1, d.2.1, nmH T e (nxt T e B), d.2.2.2) else (false, nxt T e B, d))
  else if lw T e B 3 = true then sem T e (rn ltr T e B) (d.1, d.2.1, d.2.2.1, 1)
  else (false, B, d)
theorem nxt_le {T : Nat → Int32} {e B : Nat} (h : B ≤ e) : nxt T e B ≤ e := rn_le (rn_le h)
theorem sem_le {T : Nat → Int32} {e p : Nat} (d : Dr) (h : p ≤ e) : (sem T e p d).2.1 ≤ e := by
  have := rn_le (P := blk) (T := T) h
  unfold sem
  split
  · rename_i q
    exact q.1
  · exact this
theorem sem_d {T : Nat → Int32} {e p : Nat} (d : Dr) : (sem T e p d).2.2 = d := by
  unfold sem
  split <;> rfl
theorem stm_le {T : Nat → Int32} {e B : Nat} (d : Dr) (h : B ≤ e) : (stm T e B d).2.1 ≤ e := by
  have h1 := nxt_le (T := T) h
  unfold stm
  repeat' split
  all_goals first | exact h1 | exact h | exact sem_le _ (rn_le h1) | exact sem_le _ (rn_le h)
theorem stm_len {T : Nat → Int32} {e B : Nat} (d : Dr) : (stm T e B d).2.2.1.length ≤ d.1.length + 1 := by
  unfold stm
  repeat' split
  all_goals first | (rw [sem_d]; simp) | simp
theorem kd_3 {T : Nat → Int32} {e B : Nat} : kd T e B = 3 ↔ (B < e ∧ T B = 59) := by
  unfold kd
  constructor
  · intro h
    by_cases h1 : B < e
    · rw [if_pos h1] at h
      refine ⟨h1, ?_⟩
      split at h
      · omega
      · split at h
        · omega
        · split at h
          · assumption
          · omega
    · rw [if_neg h1] at h
      omega
  · rintro ⟨h1, h2⟩
    rw [if_pos h1, h2, if_neg (by decide), if_neg (by decide), if_pos rfl]
theorem kd_0 {T : Nat → Int32} {e B : Nat} : kd T e B = 0 ↔ ¬ B < e := by
  unfold kd
  by_cases h : B < e
  · rw [if_pos h]
    refine ⟨fun q => ?_, fun q => absurd h q⟩
    exfalso
    revert q
    repeat' split
    all_goals omega
  · rw [if_neg h]
    exact ⟨fun _ => h, fun _ => rfl⟩
theorem kd_lt {T : Nat → Int32} {e B : Nat} : kd T e B < 5 := by
  unfold kd
  repeat' split
  all_goals omega
/-- behind a word its end is the token's -/
theorem lw_en {T : Nat → Int32} {e B wi : Nat} (hw : wi < 6) (h : lw T e B wi = true) : en T e B = rn ltr T e B := by
  rw [← lw_kd hw] at h
  have h1 : kd T e B = 1 := by
    by_cases q : kd T e B = 1
    · exact q
    · rw [decide_eq_false q, Bool.false_and] at h
      cases h
  unfold kd at h1
  unfold en
  by_cases hB : B < e
  · rw [if_pos hB] at h1 ⊢
    by_cases hl : ltr (T B) = true
    · rw [if_pos hl]
    · rw [if_neg hl] at h1
      exfalso
      revert h1
      repeat' split
      all_goals omega
  · rw [if_neg hB] at h1
    omega
theorem getD_snoc {l : List Int32} {x : Int32} {j : Nat} : (l ++ [x]).getD j 0 = if j < l.length then l.getD j 0 else if j = l.length then x else 0 := by
  rw [List.getD_eq_getElem?_getD, List.getD_eq_getElem?_getD]
  by_cases h : j < l.length
  · rw [if_pos h, List.getElem?_append_left h]
  · rw [if_neg h, List.getElem?_append_right (by omega)]
    by_cases e : j = l.length
    · rw [if_pos e, e, Nat.sub_self]
      rfl
    · rw [if_neg e]
      obtain ⟨k, hk⟩ : ∃ k, j - l.length = k + 1 := ⟨j - l.length - 1, by omega⟩
      rw [hk]
      rfl
/-- the draft of the class; of the reference -/
def D7 (z : Nat) (d : Dr) (h : AH) : Prop := h.2.2.1 (z + 6) 1 = nI d.1.length ∧ (∀ j, j < d.1.length → h.2.2.1 (z + 7) j = d.1.getD j 0) ∧ h.2.2.1 (z + 6) 2 = d.2.1 ∧ h.2.2.1 (z + 6) 3 = d.2.2.1 ∧ h.2.2.1 (z + 6) 4 = d.2.2.2 ∧ (d.2.2.2 = 0 ∨ d.2.2.2 = 1)
def D8 (z n : Nat) (d : Dr) (h : AH) : Prop := h.2.2.1 (aJ z n 21) 14 = nI d.1.length ∧ (∀ j, j < d.1.length → h.2.2.1 (aJ z n 21) (15 + j) = d.1.getD j 0) ∧ h.2.2.1 (aJ z n 21) 25 = d.2.1 ∧ h.2.2.1 (aJ z n 21) 26 = d.2.2.1 ∧ h.2.2.1 (aJ z n 21) 27 = d.2.2.2
/-- what a statement writes: the class; the reference -/
def cs7 (z a k : Nat) : Prop := (a = z + 2 ∧ (k = 3 ∨ k = 4 ∨ k = 5)) ∨ (a = z + 6 ∧ k ≠ 5) ∨ a = z + 7
def cs8 (z n a k : Nat) : Prop := (a = aM z n ∧ (k = 34 ∨ k = 39 ∨ k = 40)) ∨ (a = aJ z n 21 ∧ 14 ≤ k)
section S7
variable {z n nf : Nat} {h : AH}
theorem tk_cs {h' : AH} (p : Ag (tk z [3, 4, 5]) h h') : Ag (cs7 z) h h' := p.mo (fun a k q => by
  obtain ⟨q1, q2⟩ := q
  simp at q2
  exact Or.inl ⟨q1, q2⟩)
theorem D7_tk {d : Dr} {ks : List Nat} {h' : AH} (D : D7 z d h) (p : Ag (tk z ks) h h') : D7 z d h' := by
  unfold D7
  have e6 : h'.2.2.1 (z + 6) = h.2.2.1 (z + 6) := funext (fun k => p.2.2.2 _ _ (fun q => by have := q.1; omega))
  have e7 : h'.2.2.1 (z + 7) = h.2.2.1 (z + 7) := funext (fun k => p.2.2.2 _ _ (fun q => by have := q.1; omega))
  rw [e6, e7]
  exact D
theorem v_addFirst (W : WS z n nf h) (V : WR z n nf h) {d : Dr} (D : D7 z d h) (hl : d.1.length < 10) (x : Int32) : ∃ h', f_X0_addFirst h (z + 6) x = some ((), h') ∧ Ag (cs7 z) h h' ∧ D7 z (d.1 ++ [x], d.2) h' ∧ h'.2.2.1 (z + 2) = h.2.2.1 (z + 2) ∧ h'.2.2.1 (z + 3) = h.2.2.1 (z + 3) := by
  have s6 := W_dr W
  have s7 := W_df W
  obtain ⟨d1, d2, d3, d4, d5, d6⟩ := D
  have n67 : z + 6 ≠ z + 7 := by omega
  unfold f_X0_addFirst f_X0_addFirst_32
  rw [ev_gI s6, d1, ev_gR s6, V_df V, ev_aL s7, if_neg (show ¬ Int32.ofNat 10 ≤ nI d.1.length from nI_ge hl (by omega)), ev_gR s6, V_df V, ev_gI s6, d1, ev_sI s7 hl (by omega), vn_i, ev_gI (by rw [sI_s]; exact s6), sI_u, u2_ne _ _ n67, d1, nI_1, ev_pI (by rw [sI_s]; exact s6)]
  refine ⟨_, rfl, (Ag.rf.set (Or.inr (Or.inr rfl))).set (Or.inr (Or.inl ⟨rfl, by omega⟩)), ⟨?_, fun j hj => ?_, ?_, ?_, ?_, d6⟩, ?_, ?_⟩
  · rw [sI_u, u2s, List.length_append]
    rfl
  · rw [List.length_append] at hj
    rw [sI_u, u2_ne _ _ (by omega), sI_u]
    show u2 _ _ _ _ _ _ = (d.1 ++ [x]).getD j 0
    rw [getD_snoc]
    by_cases q : j = d.1.length
    · rw [q, u2s, if_neg (by omega), if_pos rfl]
    · have : j < d.1.length := by simp at hj; omega
      rw [u2n (Or.inr q), if_pos this]
      exact d2 j this
  · rw [sI_u, u2n (Or.inr (by omega)), sI_u, u2_ne _ _ n67]; exact d3
  · rw [sI_u, u2n (Or.inr (by omega)), sI_u, u2_ne _ _ n67]; exact d4
  · rw [sI_u, u2n (Or.inr (by omega)), sI_u, u2_ne _ _ n67]; exact d5
  · rw [sI_u, u2_ne _ _ (by omega), sI_u, u2_ne _ _ (by omega)]
  · rw [sI_u, u2_ne _ _ (by omega), sI_u, u2_ne _ _ (by omega)]
/-- what a statement has made of the class -/
def St7 (z : Nat) (r : Bool × Nat × Dr) (h h' : AH) : Prop := Ag (cs7 z) h h' ∧ (r.1 = true → h'.2.2.1 (z + 2) 5 = nI r.2.1 ∧ D7 z r.2.2 h') ∧ (r.1 = false → h'.2.2.1 (z + 2) 4 = nI r.2.1)
theorem v_sem7 {T : Nat → Int32} {e p : Nat} (he : e ≤ 300) (hp : p ≤ e) (W : WS z n nf h) (V : WR z n nf h) {h0 : AH} (q : Ag (cs7 z) h0 h) (hT : h.2.2.1 (z + 3) = T) (e2 : h.2.2.1 (z + 2) 2 = nI e) (e5 : h.2.2.1 (z + 2) 5 = nI p) {d : Dr} (D : D7 z d h) : ∃ h', f_X6_readStatement_125 h (z + 2) 1 = some (b2i (sem T e p d).1, h') ∧ St7 z (sem T e p d) h0 h' := by
  obtain ⟨h1, x1, x2, ⟨-, -, t3, t4, t5⟩⟩ := v_next he hp W V hT e2 e5
  have W1 := WS_ag W x2
  unfold f_X6_readStatement_125 f_X6_readStatement_148
  rw [if_neg one_ne, ev_rcv (W_tp W), cal_eq x1, ev_gI (W_tp W1), t3]
  have hk := kd_lt (T := T) (e := e) (B := rn blk T e p)
  unfold sem
  by_cases c : rn blk T e p < e ∧ T (rn blk T e p) = 59
  · have k3 := kd_3.mpr c
    rw [if_pos (show nI (kd T e (rn blk T e p)) = 3 by rw [k3]; rfl), if_pos c]
    refine ⟨h1, ev_rZ1, q.tr (tk_cs x2), fun _ => ⟨?_, D7_tk D x2⟩, fun x => (by cases x)⟩
    rw [t5]
    unfold en
    rw [if_pos c.1, c.2, if_neg (by decide), if_neg (by decide)]
  · have k3 : ¬ kd T e (rn blk T e p) = 3 := fun x => c (kd_3.mp x)
    rw [if_neg (show ¬ nI (kd T e (rn blk T e p)) = 3 from fun x => k3 (nI_inj (b := 3) (by omega) (by omega) x)), if_neg c]
    exact ⟨h1, ev_rZ0, q.tr (tk_cs x2), fun x => (by cases x), fun _ => t4⟩
theorem v_stm7 {T : Nat → Int32} {e B : Nat} (he : e ≤ 300) (hB : B ≤ e) (W : WS z n nf h) (V : WR z n nf h) (t : Tok z T e B h) {d : Dr} (D : D7 z d h) (hl : d.1.length < 10) : ∃ h', f_X6_readStatement h (z + 2) (some (z + 6)) = some (b2i (stm T e B d).1, h') ∧ St7 z (stm T e B d) h h' := by
  have s2 := W_tp W
  have s6 := W_dr W
  have hw : ∀ wi, wi < 6 → f_X6_isWord h (z + 2) wi = some (b2i (lw T e B wi), h) := fun wi hwi => v_isWord hwi he hB W V t
  obtain ⟨hT, e2, e3, e4, e5⟩ := id t
  have hr : rn ltr T e B ≤ e := rn_le hB
  have hC := nxt_le (T := T) hB
  -- the next token, behind a word
  have nx : ∀ wi, wi < 6 → lw T e B wi = true → ∃ h1, f_X6_nextToken h (z + 2) = some ((), h1) ∧ Ag (tk z [3, 4, 5]) h h1 ∧ Tok z T e (nxt T e B) h1 := fun wi hwi hlw => by
    refine v_next he hr W V hT e2 ?_
    rw [e5, lw_en hwi hlw]
  -- a number, behind a word
  have num : ∀ wi, wi < 6 → lw T e B wi = true → ∃ h1, f_X6_nextToken h (z + 2) = some ((), h1) ∧ Ag (tk z [3, 4, 5]) h h1 ∧ Tok z T e (nxt T e B) h1 ∧ f_X6_numberHere h1 (z + 2) = some (nmH T e (nxt T e B), h1) ∧ (nmH T e (nxt T e B) ≠ -1 → en T e (nxt T e B) = rn dgt T e (nxt T e B)) := fun wi hwi hlw => by
    obtain ⟨h1, x1, x2, x3⟩ := nx wi hwi hlw
    obtain ⟨y1, y2⟩ := v_number he hC (WS_ag W x2) (WR_ag V x2) x3
    exact ⟨h1, x1, x2, x3, y1, fun q => (y2 q).2⟩
  unfold f_X6_readStatement stm
  rw [ev_rcv s2, cal_eq (hw 0 (by omega))]
  simp only [b2i_0]
  by_cases c0 : lw T e B 0 = true
  · obtain ⟨h1, x1, x2, x3⟩ := nx 0 (by omega) c0
    have W1 := WS_ag W x2
    have V1 := WR_ag V x2
    have D1 := D7_tk D x2
    have t2 := W_tp W1
    have hw1 : ∀ wi, wi < 6 → f_X6_isWord h1 (z + 2) wi = some (b2i (lw T e (nxt T e B) wi), h1) := fun wi hwi => v_isWord hwi he hC W1 V1 x3
    have key : ∀ (wi : Nat) (x : Int32), wi < 6 → lw T e (nxt T e B) wi = true → ∃ h', cal (f_X0_addFirst h1 (z + 6) x) (fun _ h20 => f_X6_readFirst_53 h20) = some (1, h') ∧ ∃ h2, f_X6_readStatement_125 h' (z + 2) 1 = some (b2i (sem T e (rn ltr T e (nxt T e B)) (d.1 ++ [x], d.2)).1, h2) ∧ St7 z (sem T e (rn ltr T e (nxt T e B)) (d.1 ++ [x], d.2)) h h2 := by
      intro wi x hwi hlw
      obtain ⟨h2, y1, y2, y3, y4, y5⟩ := v_addFirst W1 V1 D1 hl x
      refine ⟨h2, ?_, ?_⟩
      · rw [cal_eq y1]
        exact ev_rZ1
      · refine v_sem7 he (rn_le hC) (WS_ag W1 y2) (WR_ag V1 y2) ((tk_cs x2).tr y2) (y5.trans x3.1) ?_ ?_ y3
        · rw [y4]; exact x3.2.1
        · rw [y4, x3.2.2.2.2, lw_en hwi hlw]
    rw [if_neg (fun q => q c0), if_pos c0, ev_rcv s2, cal_eq x1, ev_rcv t2]
    unfold f_X6_readFirst
    rw [ev_rcv t2, cal_eq (hw1 4 (by omega))]
    simp only [b2i_0]
    by_cases c4 : lw T e (nxt T e B) 4 = true
    · obtain ⟨h2, y1, h3, y2, y3⟩ := key 4 0 (by omega) c4
      rw [if_neg (fun q => q c4), if_pos c4, ev_rcv (W_dr W1), cal_eq y1]
      exact ⟨h3, y2, y3⟩
    rw [if_pos c4, if_neg c4, ev_rcv t2, cal_eq (hw1 5 (by omega))]
    simp only [b2i_0]
    by_cases c5 : lw T e (nxt T e B) 5 = true
    · obtain ⟨h2, y1, h3, y2, y3⟩ := key 5 1 (by omega) c5
      rw [if_neg (fun q => q c5), if_pos c5, ev_rcv (W_dr W1), cal_eq y1]
      exact ⟨h3, y2, y3⟩
    rw [if_pos c5, if_neg c5, ev_rcv t2, cal_eq (hw1 1 (by omega))]
    simp only [b2i_0]
    by_cases c1 : lw T e (nxt T e B) 1 = true
    · obtain ⟨h2, y1, h3, y2, y3⟩ := key 1 2 (by omega) c1
      rw [if_neg (fun q => q c1), if_pos c1, ev_rcv (W_dr W1), cal_eq y1]
      exact ⟨h3, y2, y3⟩
    rw [if_pos c1, if_neg c1, ev_rZ0, ev_cal]
    unfold f_X6_readStatement_125
    rw [if_pos rfl]
    exact ⟨h1, ev_rZ0, tk_cs x2, fun x => (by cases x), fun _ => x3.2.2.2.1⟩
  rw [if_pos c0, if_neg c0, ev_rcv s2, cal_eq (hw 1 (by omega))]
  simp only [b2i_0]
  by_cases c1 : lw T e B 1 = true
  · obtain ⟨h1, x1, x2, x3, y1, y2⟩ := num 1 (by omega) c1
    have W1 := WS_ag W x2
    have V1 := WR_ag V x2
    have t2 := W_tp W1
    have t6 := W_dr W1
    obtain ⟨d1, d2, d3, d4, d5, d6⟩ := D7_tk D x2
    rw [if_neg (fun q => q c1), if_pos c1, ev_rcv s2, cal_eq x1, ev_rcv t2, cal_eq y1, ev_pI t6, ev_gI (by rw [sI_s]; exact t6), sI_u, u2s]
    have px : Ag (cs7 z) h (setI h1 (z + 6) 2 (nmH T e (nxt T e B))) := (tk_cs x2).set (Or.inr (Or.inl ⟨rfl, by omega⟩))
    by_cases cn : nmH T e (nxt T e B) = -1
    · rw [if_pos cn, if_neg (fun q => q cn)]
      unfold f_X6_readStatement_56 f_X6_readStatement_125
      rw [if_pos rfl]
      exact ⟨_, ev_rZ0, px, fun x => (by cases x), fun _ => by rw [sI_u, u2_ne _ _ (by omega)]; exact x3.2.2.2.1⟩
    · rw [if_neg cn, if_pos cn]
      unfold f_X6_readStatement_56
      refine v_sem7 he (rn_le hC) (WS_ag W px) (WR_ag V px) px (by rw [sI_u, u2_ne _ _ (by omega)]; exact x3.1) (by rw [sI_u, u2_ne _ _ (by omega)]; exact x3.2.1) (by rw [sI_u, u2_ne _ _ (by omega), x3.2.2.2.2, y2 cn]) ⟨?_, fun j hj => ?_, ?_, ?_, ?_, d6⟩
      · rw [sI_u, u2n (Or.inr (by omega))]; exact d1
      · rw [sI_u, u2_ne _ _ (by omega)]; exact d2 j hj
      · rw [sI_u, u2s]
      · rw [sI_u, u2n (Or.inr (by omega))]; exact d4
      · rw [sI_u, u2n (Or.inr (by omega))]; exact d5
  rw [if_pos c1, if_neg c1, ev_rcv s2, cal_eq (hw 2 (by omega))]
  simp only [b2i_0]
  by_cases c2 : lw T e B 2 = true
  · obtain ⟨h1, x1, x2, x3, y1, y2⟩ := num 2 (by omega) c2
    have W1 := WS_ag W x2
    have V1 := WR_ag V x2
    have t2 := W_tp W1
    have t6 := W_dr W1
    obtain ⟨d1, d2, d3, d4, d5, d6⟩ := D7_tk D x2
    rw [if_neg (fun q => q c2), if_pos c2, ev_rcv s2, cal_eq x1, ev_rcv t2, cal_eq y1, ev_pI t6, ev_gI (by rw [sI_s]; exact t6), sI_u, u2s]
    have px : Ag (cs7 z) h (setI h1 (z + 6) 3 (nmH T e (nxt T e B))) := (tk_cs x2).set (Or.inr (Or.inl ⟨rfl, by omega⟩))
    by_cases cn : nmH T e (nxt T e B) = -1
    · rw [if_pos cn, if_neg (fun q => q cn)]
      unfold f_X6_readStatement_94 f_X6_readStatement_125
      rw [if_pos rfl]
      exact ⟨_, ev_rZ0, px, fun x => (by cases x), fun _ => by rw [sI_u, u2_ne _ _ (by omega)]; exact x3.2.2.2.1⟩
    · rw [if_neg cn, if_pos cn]
      unfold f_X6_readStatement_94
      refine v_sem7 he (rn_le hC) (WS_ag W px) (WR_ag V px) px (by rw [sI_u, u2_ne _ _ (by omega)]; exact x3.1) (by rw [sI_u, u2_ne _ _ (by omega)]; exact x3.2.1) (by rw [sI_u, u2_ne _ _ (by omega), x3.2.2.2.2, y2 cn]) ⟨?_, fun j hj => ?_, ?_, ?_, ?_, d6⟩
      · rw [sI_u, u2n (Or.inr (by omega))]; exact d1
      · rw [sI_u, u2_ne _ _ (by omega)]; exact d2 j hj
      · rw [sI_u, u2n (Or.inr (by omega))]; exact d3
      · rw [sI_u, u2s]
      · rw [sI_u, u2n (Or.inr (by omega))]; exact d5
  obtain ⟨d1, d2, d3, d4, d5, d6⟩ := D
  rw [if_pos c2, if_neg c2, ev_rcv s2, cal_eq (hw 3 (by omega)), ev_gI s6, d5]
  by_cases c3 : lw T e B 3 = true
  · have px : Ag (cs7 z) h (setI h (z + 6) 4 1) := Ag.rf.set (Or.inr (Or.inl ⟨rfl, by omega⟩))
    have go : ∃ h', f_X6_readStatement_117 h (z + 2) 1 (some (z + 6)) = some (b2i (sem T e (rn ltr T e B) (d.1, d.2.1, d.2.2.1, 1)).1, h') ∧ St7 z (sem T e (rn ltr T e B) (d.1, d.2.1, d.2.2.1, 1)) h h' := by
      unfold f_X6_readStatement_117 f_X6_readStatement_122
      rw [ev_pZ1 s6]
      refine v_sem7 he hr (WS_ag W px) (WR_ag V px) px (by rw [sI_u, u2_ne _ _ (by omega)]; exact hT) (by rw [sI_u, u2_ne _ _ (by omega)]; exact e2) (by rw [sI_u, u2_ne _ _ (by omega), e5, lw_en (by omega) c3]) ⟨?_, fun j hj => ?_, ?_, ?_, ?_, Or.inr rfl⟩
      · rw [sI_u, u2n (Or.inr (by omega))]; exact d1
      · rw [sI_u, u2_ne _ _ (by omega)]; exact d2 j hj
      · rw [sI_u, u2n (Or.inr (by omega))]; exact d3
      · rw [sI_u, u2n (Or.inr (by omega))]; exact d4
      · rw [sI_u, u2s]
    rw [c3, b2i_t, if_neg one_ne, if_pos rfl]
    by_cases c9 : d.2.2.2 = 0
    · rw [if_pos c9]; exact go
    · rw [if_neg c9]; exact go
  · have c3' : lw T e B 3 = false := by simpa using c3
    rw [c3', b2i_f, if_pos rfl, if_neg (show ¬ false = true by decide)]
    have go : ∀ x : Int32, x = 0 ∨ x = 1 → ∃ h', f_X6_readStatement_122 h (z + 2) 0 (some (z + 6)) x = some (b2i (false, B, d).1, h') ∧ St7 z (false, B, d) h h' := by
      intro x hx
      unfold f_X6_readStatement_122 f_X6_readStatement_125
      rw [ev_pZ s6 hx, if_pos rfl]
      exact ⟨_, ev_rZ0, Ag.rf.set (Or.inr (Or.inl ⟨rfl, by omega⟩)), fun x => (by cases x), fun _ => by rw [sI_u, u2_ne _ _ (by omega)]; exact e4⟩
    by_cases c9 : d.2.2.2 = 0
    · rw [if_pos c9]
      exact go 0 (Or.inl rfl)
    · rw [if_neg c9]
      unfold f_X6_readStatement_117
      exact go 1 (Or.inr rfl)
end S7
