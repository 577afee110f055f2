/-! ===== most: what both sides try ===== -/
section MO
variable {z n nf dN hN : Nat} {h0 : AH}
theorem sumI_fed {A S : Nat → Int32} : ∀ (l : List Nat) (x : Nat), (∀ f ∈ l, ∃ a, a ≤ 20 ∧ A f = nI a) → ∃ y, y ≤ x + 20 * l.length ∧ sumI (fedF A S) l (nI x) = nI y := by
  intro l
  induction l with
  | nil => intro x _; exact ⟨x, by omega, rfl⟩
  | cons f l ih =>
    intro x h
    obtain ⟨a, ha, ea⟩ := h f List.mem_cons_self
    have hf : ∃ v, v ≤ 20 ∧ fedF A S f = nI v := by
      unfold fedF
      split
      · exact ⟨a, ha, ea⟩
      · exact ⟨0, by omega, rfl⟩
    obtain ⟨v, hv, ev⟩ := hf
    obtain ⟨y, hy, ey⟩ := ih (x + v) (fun g hg => h g (List.mem_cons_of_mem _ hg))
    refine ⟨y, ?_, ?_⟩
    · rw [List.length_cons]; omega
    · rw [sumI, ev, nI_ad, ey]
theorem fdD_nI (C : Cpl z n nf dN hN h0) (rain : Int32) (w b o : Nat → Int32) : ∀ i, ∃ y, y ≤ 800 * i ∧ fdD z n nf h0.2.2.1 rain w b o i = nI y := by
  intro i
  induction i with
  | zero => exact ⟨0, by omega, rfl⟩
  | succ i ih =>
    obtain ⟨x, hx, ex⟩ := ih
    obtain ⟨y, hy, ey⟩ := sumI_fed (A := h0.2.2.1 (aJ z n 12)) (S := pS z n nf h0.2.2.1 i rain (w i) (o i) (dD z n nf h0.2.2.1 rain w b o i)) (ordl z n nf h0.2.2.1 i) x (fun f hf => by
      obtain ⟨-, ⟨a, a1, a2, ea⟩, -⟩ := MD_of C.2.2.2.2.1 (ordl_mem.mp hf).1
      exact ⟨a, a2, ea⟩)
    refine ⟨y, ?_, ?_⟩
    · have h1 := ordl_len (z := z) (n := n) (nf := nf) i h0.2.2.1
      have h2 := C.1.2.2.1
      omega
    · rw [fdD, ex, ey]
theorem trF_nI (C : Cpl z n nf dN hN h0) (rain : Int32) (w b o : Nat → Int32) : ∀ k, ∃ y, y ≤ 8800 * k ∧ trF z n nf h0.2.2.1 rain w b o k = nI y := by
  intro k
  induction k with
  | zero => exact ⟨0, by omega, rfl⟩
  | succ k ih =>
    obtain ⟨x, hx, ex⟩ := ih
    obtain ⟨y, hy, ey⟩ := fdD_nI C rain (trl z n nf h0.2.2.1 rain w b o k).1 (trl z n nf h0.2.2.1 rain w b o k).2 o n
    have := C.1.2.1
    exact ⟨x + y, by omega, by rw [trF, ex, ey, nI_ad]⟩
/-- the opening that choice c gives to the tank with j behind it -/
def opI (c j : Nat) : Nat := c / 5 ^ j % 5 * 5
theorem opI_le (c j : Nat) : opI c j ≤ 20 := by
  unfold opI
  have := Nat.mod_lt (c / 5 ^ j) (show 0 < 5 by omega)
  omega
theorem l_opIn {h : AH} : ∀ (b c j m : Nat), b < m → c < 2 ^ 31 → j + b < 2 ^ 31 → f_X7_openingIn_4 m h (nI (j + b)) (nI c) (nI j) = some (nI (opI c b), h) := by
  intro b
  induction b with
  | zero =>
    intro c j m hm hc hj
    obtain ⟨m, rfl⟩ : ∃ m', m = m' + 1 := ⟨m - 1, by omega⟩
    unfold f_X7_openingIn_4
    rw [if_pos (nI_le (by omega) (by omega)), ev_rm (by decide), show (5 : Int32) = nI 5 from rfl, nI_mod hc (by omega), nI_mul]
    unfold opI
    rw [Nat.pow_zero, Nat.div_one]
  | succ b ih =>
    intro c j m hm hc hj
    obtain ⟨m, rfl⟩ : ∃ m', m = m' + 1 := ⟨m - 1, by omega⟩
    unfold f_X7_openingIn_4
    have hd : c / 5 < 2 ^ 31 := Nat.lt_of_le_of_lt (Nat.div_le_self c 5) hc
    have := ih (c / 5) (j + 1) m (by omega) hd (by omega)
    rw [if_neg (nI_ge (by omega) (by omega)), ev_dv (by decide), show (5 : Int32) = nI 5 from rfl, nI_div hc (by omega), ev_bd, nI_1, show j + (b + 1) = j + 1 + b by omega, this]
    unfold opI
    rw [Nat.div_div_eq_div_mul, Nat.pow_succ, Nat.mul_comm 5]
theorem v_opIn {h : AH} (c b : Nat) (hc : c < 2 ^ 31) (hb : b < 900) : f_X7_openingIn h (nI c) (nI b) = some (nI (opI c b), h) := by
  unfold f_X7_openingIn
  have := l_opIn (h := h) b c 0 FU (by rw [fu_big]; omega) hc (by omega)
  rw [Nat.zero_add] at this
  exact this
/-- the openings of choice c: the first i of mm tanks from kk on -/
def opC (o : Nat → Int32) (c kk mm i : Nat) (j : Nat) : Int32 := if kk ≤ j ∧ j < kk + i then nI (opI c (mm - 1 - (j - kk))) else o j
theorem ho_opC {o : Nat → Int32} {c kk mm i : Nat} (ho : ∀ i, i < n → ∃ q, q ≤ 20 ∧ o i = nI q) : ∀ j, j < n → ∃ q, q ≤ 20 ∧ opC o c kk mm i j = nI q := by
  intro j hj
  unfold opC
  split
  · exact ⟨_, opI_le _ _, rfl⟩
  · exact ho j hj
theorem l_days61 (C : Cpl z n nf dN hN h0) (rain : Int32) {w b o : Nat → Int32} (ho : ∀ i, i < n → ∃ q, q ≤ 20 ∧ o i = nI q) {d : Nat} (hd : d ≤ 10) : ∀ (m k : Nat) (h : AH), d - k < m → k ≤ d → Scr z n h0 h → TS7 z n (trl z n nf h0.2.2.1 rain w b o k).1 (trl z n nf h0.2.2.1 rain w b o k).2 o h → ∃ h', f_X7_areasFedBy_61 m h z (nI d) rain (trF z n nf h0.2.2.1 rain w b o k) (nI k) = some (trF z n nf h0.2.2.1 rain w b o d, h') ∧ Scr z n h0 h' := by
  intro m
  induction m with
  | zero => intro k h h1; omega
  | succ m ih =>
    intro k h h1 h2 p st
    have W := WS_scr C.2.1 p
    have V := WR_scr C.2.2.1 p
    unfold f_X7_areasFedBy_61
    by_cases hk : k < d
    · obtain ⟨h', e1, p1, st1, f1⟩ := v_day7 C p rain ho st
      have W1 := WS_scr C.2.1 p1
      have V1 := WR_scr C.2.2.1 p1
      rw [if_neg (nI_ge hk (by omega)), ev_gR (W_z W), V_fl V, ev_rcv (W_fl W), cal_eq e1, ev_gR (W_z W1), V_fl V1, ev_gI (W_fl W1), f1, ev_bd, ev_bd, nI_1]
      exact ih (k + 1) h' (by omega) (by omega) p1 (by rw [trl]; exact st1)
    · have e : k = d := by omega
      subst e
      rw [if_pos (nI_le (Nat.le_refl k) (by omega))]
      exact ⟨h, rfl, p⟩
theorem l_set7 (C : Cpl z n nf dN hN h0) (rain : Int32) {w b o : Nat → Int32} {c kk mm d : Nat} (hc : c < 1000) (hmm : 1 ≤ mm ∧ mm ≤ 3) (hk : kk + mm ≤ n) : ∀ (m i : Nat) (h : AH), mm - i < m → i ≤ mm → Scr z n h0 h → TS7 z n w b (opC o c kk mm i) h → ∃ h', f_X7_areasFedBy_10 m h z (nI c) (nI kk) (nI mm) (nI d) rain (nI i) = f_X7_areasFedBy_61 FU h' z (nI d) rain 0 0 ∧ Scr z n h0 h' ∧ TS7 z n w b (opC o c kk mm mm) h' := by
  have hn := C.1.2.1
  intro m
  induction m with
  | zero => intro i h h1; omega
  | succ m ih =>
    intro i h h1 h2 p t
    have W := WS_scr C.2.1 p
    have V := WR_scr C.2.2.1 p
    unfold f_X7_areasFedBy_10 f_X7_areasFedBy_49
    by_cases hi : i < mm
    · obtain ⟨mp, rfl⟩ : ∃ mp, mm = mp + 1 := ⟨mm - 1, by omega⟩
      rw [if_neg (nI_ge hi (by omega)), ev_rcv (W_z W), nI_ad, k_tankIn W V hn (show kk + i < n by omega), ev_nulS, ev_gR (W_T W (by omega)), V_A V (show kk + i < n by omega), nI_prd, nI_sub (by omega), cal_eq (v_opIn c (mp - i) (by omega) (by omega)), ev_pI (W_A W (by omega)), ev_bd, nI_1]
      refine ih (i + 1) _ (by omega) (by omega) (p.set (by unfold sc aA; omega)) (fun j hj => ?_)
      obtain ⟨t0, t1, t2⟩ := t j hj
      by_cases e : j = kk + i
      · subst e
        refine ⟨?_, ?_, ?_⟩
        · rw [sI_u, u2n (Or.inr (by omega))]; exact t0
        · rw [sI_u, u2s]
          unfold opC
          rw [if_pos (by omega)]
          congr 2
          omega
        · rw [sI_u, u2n (Or.inr (by omega))]; exact t2
      · have ne : aA z n j ≠ aA z n (kk + i) := by unfold aA; omega
        refine ⟨?_, ?_, ?_⟩
        · rw [sI_u, u2_ne _ _ ne]; exact t0
        · rw [sI_u, u2_ne _ _ ne, t1]
          unfold opC
          by_cases q : kk ≤ j ∧ j < kk + i
          · rw [if_pos q, if_pos (by omega)]
          · rw [if_neg q, if_neg (by omega)]
        · rw [sI_u, u2_ne _ _ ne]; exact t2
    · have e : i = mm := by omega
      subst e
      rw [if_pos (nI_le (Nat.le_refl i) (by omega))]
      exact ⟨h, rfl, p, t⟩
theorem v_areas7 (C : Cpl z n nf dN hN h0) {h : AH} (p : Scr z n h0 h) (rain : Int32) {c kk mm d : Nat} (hc : c < 1000) (hmm : 1 ≤ mm ∧ mm ≤ 3) (hk : kk + mm ≤ n) (hd : d ≤ 10) : ∃ h', f_X7_areasFedBy h z (nI c) (nI kk) (nI mm) (nI d) rain = some (trF z n nf h0.2.2.1 rain (h0.2.2.1 (aJ z n 3)) (h0.2.2.1 (aJ z n 9)) (opC (h0.2.2.1 (aJ z n 4)) c kk mm mm) d, h') ∧ Scr z n h0 h' := by
  have W := WS_scr C.2.1 p
  have V := WR_scr C.2.2.1 p
  obtain ⟨h1, e1, p1, t1⟩ := v_from7 C p
  obtain ⟨h2, e2, p2, t2⟩ := l_set7 C rain (w := h0.2.2.1 (aJ z n 3)) (b := h0.2.2.1 (aJ z n 9)) (o := h0.2.2.1 (aJ z n 4)) (d := d) hc hmm hk FU 0 h1 (by rw [fu_big]; omega) (by omega) p1 (fun j hj => by
    obtain ⟨t0, tt, t2⟩ := t1 j hj
    refine ⟨t0, ?_, t2⟩
    unfold opC
    rw [if_neg (by omega)]
    exact tt)
  obtain ⟨h3, e3, p3⟩ := l_days61 C rain (w := h0.2.2.1 (aJ z n 3)) (b := h0.2.2.1 (aJ z n 9)) (ho_opC (c := c) (kk := kk) (mm := mm) (i := mm) (ho_of C)) hd FU 0 h2 (by rw [fu_big]; omega) (by omega) p2 (by rw [trl]; exact t2)
  rw [trF] at e3
  refine ⟨h3, ?_, p3⟩
  unfold f_X7_areasFedBy
  rw [ev_gR (W_z W), V_fl V, ev_rcv (W_fl W), cal_eq e1]
  rw [show nI 0 = (0 : Int32) from rfl] at e2 e3
  exact e2.trans e3
end MO
