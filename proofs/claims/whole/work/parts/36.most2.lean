/-! ===== most: the reference; the choice ===== -/
section MO2
variable {z n nf dN hN : Nat} {h0 : AH}
theorem neg1 (x : Int32) : x + (-1) = x - 1 := (Int32.sub_eq_add_neg x 1).symm
/-- J26 with the last mm - i of the tanks set -/
theorem l_set8 (C : Cpl z n nf dN hN h0) (K : AH → Nat → Int32 → Int32 → Int32 → Int32 → Int32 → Int32 → Int32 → Int32 → Int32 → Option (Int32 × AH)) {o : Nat → Int32} {c kk mm : Nat} (hc : c < 1000) (hmm : 1 ≤ mm ∧ mm ≤ 3) (hk : kk + mm ≤ n) (l3 l4 l5 l6 l7 l8 l9 : Int32) : ∀ (i m : Nat) (h : AH), i < m → i ≤ mm → Scr z n h0 h → (∀ j, j < n → (kk ≤ j ∧ j < kk + i) ∨ h.2.2.1 (aJ z n 26) j = opC o c kk mm mm j) → ∃ h' l10, f_X8_most_96 K m h (aM z n) (nI kk) (nI mm) l3 l4 l5 l6 l7 l8 l9 (nI (c / 5 ^ (mm - i))) (nI i - 1) = f_X8_most_96 K 1 h' (aM z n) (nI kk) (nI mm) l3 l4 l5 l6 l7 l8 l9 l10 (nI 0 - 1) ∧ Scr z n h0 h' ∧ ∀ j, j < n → h'.2.2.1 (aJ z n 26) j = opC o c kk mm mm j := by
  have hn := C.1.2.1
  intro i
  induction i with
  | zero =>
    intro m h hm _ p t
    obtain ⟨m, rfl⟩ : ∃ m', m = m' + 1 := ⟨m - 1, by omega⟩
    refine ⟨h, nI (c / 5 ^ (mm - 0)), ?_, p, fun j hj => ?_⟩
    · unfold f_X8_most_96
      rw [if_pos (by decide : nI 0 - 1 < 0), if_pos (by decide : nI 0 - 1 < 0)]
    · rcases t j hj with q | q
      · omega
      · exact q
  | succ i ih =>
    intro m h hm hi p t
    obtain ⟨m, rfl⟩ : ∃ m', m = m' + 1 := ⟨m - 1, by omega⟩
    have W := WS_scr C.2.1 p
    have V := WR_scr C.2.2.1 p
    have hq : c / 5 ^ (mm - (i + 1)) < 1000 := Nat.lt_of_le_of_lt (Nat.div_le_self _ _) hc
    have hneg : ¬ nI i < 0 := nI_pos (by omega)
    have e5 : (5 : Int32) = nI 5 := rfl
    obtain ⟨h', l10, e1, p1, t1⟩ := ih m (setI h (aJ z n 26) (kk + i) (nI (opI c (mm - 1 - i)))) (by omega) (by omega) (p.set (by unfold sc aJ; omega)) (fun j hj => by
      by_cases e : j = kk + i
      · subst e
        right
        rw [sI_u, u2s]
        unfold opC
        rw [if_pos (by omega)]
        congr 2
        omega
      · rw [sI_u, u2n (Or.inr e)]
        rcases t j hj with q | q
        · left; omega
        · right; exact q)
    refine ⟨h', l10, ?_, p1, t1⟩
    rw [← e1]
    have ev : nI 5 * nI (c / 5 ^ (mm - (i + 1)) % 5) = nI (opI c (mm - 1 - i)) := by
      rw [nI_mul]
      unfold opI
      rw [Nat.mul_comm, show mm - (i + 1) = mm - 1 - i by omega]
    have ediv : c / 5 ^ (mm - (i + 1)) / 5 = c / 5 ^ (mm - i) := by
      rw [Nat.div_div_eq_div_mul, ← Nat.pow_succ, show (mm - (i + 1)).succ = mm - i by omega]
    have un : f_X8_most_96 K (m + 1) h (aM z n) (nI kk) (nI mm) l3 l4 l5 l6 l7 l8 l9 (nI (c / 5 ^ (mm - (i + 1)))) (nI i) = f_X8_most_96 K m (setI h (aJ z n 26) (kk + i) (nI (opI c (mm - 1 - i)))) (aM z n) (nI kk) (nI mm) l3 l4 l5 l6 l7 l8 l9 (nI (c / 5 ^ (mm - i))) (nI i - 1) := by
      rw [f_X8_most_96]
      rw [if_neg hneg, ev_gR (W_M W), V_J26 V, ev_rm (by decide), e5, nI_mod (by omega) (by omega), nI_ad, ev, ev_sI (W_J26 W) (by omega) (by omega), vn_i, ev_dv (by decide), nI_div (by omega) (by omega), ev_bd, ediv, neg1]
    rw [nI_prd]
    exact un
/-- the best of the first c choices -/
def bst (F : Nat → Int32) : Nat → Int32 × Nat
  | 0 => (-1, 0)
  | c + 1 => if F c ≤ (bst F c).1 then bst F c else (F c, c)
theorem bst_lt {F : Nat → Int32} : ∀ c, (bst F c).2 ≤ c := by
  intro c
  induction c with
  | zero => exact Nat.le_refl 0
  | succ c ih =>
    rw [bst]
    split
    · omega
    · show c ≤ c + 1
      omega
/-- what choice c feeds -/
def fedBy (z n nf : Nat) (I : Nat → Nat → Int32) (rain : Int32) (kk mm d c : Nat) : Int32 := trF z n nf I rain (I (aJ z n 3)) (I (aJ z n 9)) (opC (I (aJ z n 4)) c kk mm mm) d
theorem l_most7 (C : Cpl z n nf dN hN h0) (rain : Int32) {kk mm d wh N : Nat} (hmm : 1 ≤ mm ∧ mm ≤ 3) (hk : kk + mm ≤ n) (hd : d ≤ 10) (hwh : wh ≤ mm) (hN1 : N ≤ 125) : ∀ (m c : Nat) (h : AH), N - c < m → c ≤ N → Scr z n h0 h → ∃ h', f_X7_most_95 m h z (nI kk) (nI mm) (nI d) rain (nI wh) (nI N) (bst (fedBy z n nf h0.2.2.1 rain kk mm d) c).1 (nI (bst (fedBy z n nf h0.2.2.1 rain kk mm d) c).2) (nI c) = some ((if wh = 0 then (bst (fedBy z n nf h0.2.2.1 rain kk mm d) N).1 else nI (opI (bst (fedBy z n nf h0.2.2.1 rain kk mm d) N).2 (mm - wh))), h') ∧ Scr z n h0 h' := by
  intro m
  induction m with
  | zero => intro c h h1; omega
  | succ m ih =>
    intro c h h1 h2 p
    have W := WS_scr C.2.1 p
    unfold f_X7_most_95 f_X7_most_155 f_X7_most_130
    by_cases hc : c < N
    · obtain ⟨h', e1, p1⟩ := v_areas7 C p rain (c := c) (by omega) hmm hk hd
      have e1' : f_X7_areasFedBy h z (nI c) (nI kk) (nI mm) (nI d) rain = some (fedBy z n nf h0.2.2.1 rain kk mm d c, h') := e1
      have nx := ih (c + 1) h' (by omega) (by omega) p1
      rw [if_neg (nI_ge hc (by omega)), ev_rcv (W_z W), cal_eq e1', ev_bd, nI_1]
      rw [bst] at nx
      by_cases e : fedBy z n nf h0.2.2.1 rain kk mm d c ≤ (bst (fedBy z n nf h0.2.2.1 rain kk mm d) c).1
      · rw [if_pos e] at nx ⊢
        exact nx
      · rw [if_neg e] at nx ⊢
        rw [ev_bd]
        exact nx
    · have e : c = N := by omega
      subst e
      rw [if_pos (nI_le (Nat.le_refl c) (by omega))]
      by_cases e2 : wh = 0
      · subst e2
        rw [if_pos (show nI 0 = 0 from rfl), if_pos rfl]
        exact ⟨h, rfl, p⟩
      · have := bst_lt (F := fedBy z n nf h0.2.2.1 rain kk mm d) c
        have ne : ¬ nI wh = 0 := fun q => e2 (nI_inj (b := 0) (by omega) (by omega) q)
        rw [if_neg ne, if_neg e2, nI_sub hwh, cal_eq (v_opIn _ (mm - wh) (by omega) (by omega))]
        exact ⟨h, rfl, p⟩
theorem l_179 {h : AH} : ∀ (b c j m : Nat), b < m → c < 2 ^ 31 → j + b < 2 ^ 31 → f_X8_most_179 m h (nI (j + b)) (nI c) (nI j) = some (nI (opI c b), h) := by
  intro b
  induction b with
  | zero =>
    intro c j m hm hc hj
    obtain ⟨m, rfl⟩ : ∃ m', m = m' + 1 := ⟨m - 1, by omega⟩
    unfold f_X8_most_179
    rw [if_pos (nI_le (by omega) (by omega)), ev_rm (by decide), show (5 : Int32) = nI 5 from rfl, nI_mod hc (by omega), nI_mul]
    unfold opI
    rw [Nat.pow_zero, Nat.div_one, Nat.mul_comm]
  | succ b ih =>
    intro c j m hm hc hj
    obtain ⟨m, rfl⟩ : ∃ m', m = m' + 1 := ⟨m - 1, by omega⟩
    unfold f_X8_most_179
    have hd : c / 5 < 2 ^ 31 := Nat.lt_of_le_of_lt (Nat.div_le_self c 5) hc
    have := ih (c / 5) (j + 1) m (by omega) hd (by omega)
    rw [if_neg (nI_ge (by omega) (by omega)), ev_dv (by decide), show (5 : Int32) = nI 5 from rfl, nI_div hc (by omega), ev_bd, nI_1, show j + (b + 1) = j + 1 + b by omega, this]
    unfold opI
    rw [Nat.div_div_eq_div_mul, Nat.pow_succ, Nat.mul_comm 5]
end MO2
