/-! ===== custom: reading a text; the class's tokens ===== -/
def blk (x : Int32) : Bool := decide (x = 32 ∨ x = 10)
def ltr (x : Int32) : Bool := decide (¬ x < 97 ∧ ¬ 122 < x)
def dgt (x : Int32) : Bool := decide (¬ x < 48 ∧ ¬ 57 < x)
def run (P : Int32 → Bool) (T : Nat → Int32) : Nat → Nat → Nat
  | 0, p => p
  | m + 1, p => if P (T p) = true then run P T m (p + 1) else p
/-- the first place from p on, before e, where P ends -/
def rn (P : Int32 → Bool) (T : Nat → Int32) (e p : Nat) : Nat := run P T (e - p) p
section RN
variable {P : Int32 → Bool} {T : Nat → Int32} {e p : Nat}
theorem rn_out (h : e ≤ p) : rn P T e p = p := by
  unfold rn
  rw [show e - p = 0 by omega]
  rfl
theorem rn_y (h : p < e) (hp : P (T p) = true) : rn P T e p = rn P T e (p + 1) := by
  unfold rn
  rw [show e - p = (e - (p + 1)) + 1 by omega, run, if_pos hp]
theorem rn_n (hp : ¬ P (T p) = true) : rn P T e p = p := by
  unfold rn
  cases e - p with
  | zero => rfl
  | succ m => rw [run, if_neg hp]
theorem run_ge : ∀ (m p : Nat), p ≤ run P T m p ∧ run P T m p ≤ p + m := by
  intro m
  induction m with
  | zero => intro p; exact ⟨Nat.le_refl p, Nat.le_refl p⟩
  | succ m ih =>
    intro p
    rw [run]
    split
    · have := ih (p + 1); omega
    · omega
theorem run_in : ∀ (m p i : Nat), p ≤ i → i < run P T m p → P (T i) = true := by
  intro m
  induction m with
  | zero => intro p i h1 h2; rw [run] at h2; omega
  | succ m ih =>
    intro p i h1 h2
    rw [run] at h2
    by_cases q : P (T p) = true
    · rw [if_pos q] at h2
      by_cases e : i = p
      · subst e; exact q
      · exact ih (p + 1) i (by omega) h2
    · rw [if_neg q] at h2
      omega
theorem run_st : ∀ (m p : Nat), run P T m p < p + m → ¬ P (T (run P T m p)) = true := by
  intro m
  induction m with
  | zero => intro p h; rw [run] at h; omega
  | succ m ih =>
    intro p h
    rw [run] at h ⊢
    by_cases q : P (T p) = true
    · rw [if_pos q] at h ⊢
      exact ih (p + 1) (by omega)
    · rw [if_neg q]
      exact q
theorem rn_ge : p ≤ rn P T e p := (run_ge _ _).1
theorem rn_le (h : p ≤ e) : rn P T e p ≤ e := by
  have := (run_ge (P := P) (T := T) (e - p) p).2
  unfold rn
  omega
theorem rn_in {i : Nat} (h1 : p ≤ i) (h2 : i < rn P T e p) : P (T i) = true := run_in _ _ _ h1 h2
theorem rn_st (h1 : p ≤ e) (h : rn P T e p < e) : ¬ P (T (rn P T e p)) = true := run_st _ _ (by unfold rn at h; omega)
theorem rn_id (h1 : p ≤ e) : rn P T e (rn P T e p) = rn P T e p := by
  by_cases h : rn P T e p < e
  · exact rn_n (rn_st h1 h)
  · exact rn_out (by omega)
end RN
/-- a token's kind and end -/
def kd (T : Nat → Int32) (e B : Nat) : Nat := if B < e then (if ltr (T B) = true then 1 else if dgt (T B) = true then 2 else if T B = 59 then 3 else 4) else 0
def en (T : Nat → Int32) (e B : Nat) : Nat := if B < e then (if ltr (T B) = true then rn ltr T e B else if dgt (T B) = true then rn dgt T e B else B + 1) else B
theorem en_le {T : Nat → Int32} {e B : Nat} (h : B ≤ e) : B ≤ en T e B ∧ en T e B ≤ e := by
  unfold en
  split
  · split
    · exact ⟨rn_ge, rn_le h⟩
    · split
      · exact ⟨rn_ge, rn_le h⟩
      · omega
  · omega
/-- the words of the custom -/
def wlen (wi : Nat) : Nat := r_len.getD wi 0
def wb (wi j : Nat) : Int32 := (r_byt.getD wi []).getD j 0
def isw (T : Nat → Int32) (B E wi : Nat) : Bool := decide (E - B = wlen wi ∧ ∀ j, j < wlen wi → T (B + j) = wb wi j)
/-- the word at B is word wi -/
def lw (T : Nat → Int32) (e B wi : Nat) : Bool := isw T B (rn ltr T e B) wi
theorem wlen_pos {wi : Nat} (h : wi < 6) : 4 ≤ wlen wi ∧ wlen wi ≤ 6 := by
  revert h
  rcases wi with _ | _ | _ | _ | _ | _ | wi
  all_goals first | (intro _; decide) | (intro h; omega)
theorem lw_kd {T : Nat → Int32} {e B wi : Nat} (hw : wi < 6) : (decide (kd T e B = 1) && isw T B (en T e B) wi) = lw T e B wi := by
  have h4 := (wlen_pos hw).1
  have no : rn ltr T e B = B → lw T e B wi = false := by
    intro h
    unfold lw isw
    rw [h]
    exact decide_eq_false (fun q => by omega)
  unfold kd en
  by_cases h : B < e
  · rw [if_pos h, if_pos h]
    by_cases h1 : ltr (T B) = true
    · rw [if_pos h1, if_pos h1]
      rfl
    · rw [if_neg h1, if_neg h1, no (rn_n h1)]
      have : ¬ (if dgt (T B) = true then 2 else if T B = 59 then 3 else 4) = 1 := by split <;> (try split) <;> decide
      rw [decide_eq_false this]
      rfl
  · rw [if_neg h, if_neg h, no (rn_out (by omega))]
    rfl
/-- a number of m digits from p on -/
def nmb (T : Nat → Int32) : Nat → Nat → Int32 → Int32
  | 0, _, a => a
  | m + 1, p, a => nmb T m (p + 1) (a * 10 + T p - 48)
theorem nmb_ok {T : Nat → Int32} : ∀ (m p : Nat) (k : Nat), k < 10 ^ (3 - m) → m ≤ 3 → (∀ i, p ≤ i → i < p + m → dgt (T i) = true) → ∃ v, v < 1000 ∧ nmb T m p (nI k) = nI v := by
  intro m
  induction m with
  | zero => intro p k hk _ _; exact ⟨k, by simpa using hk, rfl⟩
  | succ m ih =>
    intro p k hk hm hd
    obtain ⟨d1, d2⟩ := of_decide_eq_true (hd p (Nat.le_refl p) (by omega))
    have h48 : nI 48 = (48 : Int32) := rfl
    have h57 : nI 57 = (57 : Int32) := rfl
    have hk100 : k < 100 := by
      have : (10 : Nat) ^ (3 - (m + 1)) ≤ 10 ^ 2 := Nat.pow_le_pow_right (by decide) (by omega)
      omega
    have hx : ¬ T p < 0 := fun q => d1 (by
      rw [Int32.lt_iff_toInt_lt] at q ⊢
      have z0 : (0 : Int32).toInt = 0 := by decide
      have z1 : (48 : Int32).toInt = 48 := by decide
      omega)
    obtain ⟨x, hx1, ex⟩ := nI_of hx
    rw [ex, ← h48, nI_lt_iff hx1 (by omega)] at d1
    rw [ex, ← h57, nI_lt_iff (by omega) hx1] at d2
    rw [nmb, ex, show nI k * 10 + nI x - 48 = nI (k * 10 + (x - 48)) by
      rw [show (10 : Int32) = nI 10 from rfl, nI_mul, nI_ad, ← h48, nI_sub (by omega), show k * 10 + x - 48 = k * 10 + (x - 48) by omega]]
    refine ih (p + 1) _ ?_ (by omega) (fun i h1 h2 => hd i (by omega) (by omega))
    have : (10 : Nat) ^ (3 - m) = 10 ^ (3 - (m + 1)) * 10 := by
      rw [← Nat.pow_succ]
      congr 1
      omega
    rw [this]
    omega
theorem ev_stL {α : Type} {wi : Nat} {K : Int32 → Option α} (hw : wi < 6) : stL wi K = K (nI (wlen wi)) := by
  unfold stL
  rw [if_pos hw]
  rfl
theorem ev_stC {α : Type} {wi k : Nat} {K : Int32 → Option α} (hw : wi < 6) (hk : k < wlen wi) : stC wi (nI k) K = K (wb wi k) := by
  have := wlen_pos hw
  unfold stC
  rw [nI_clamp (by omega), if_pos ⟨hw, nI_pos (by omega), hk⟩]
  rfl
section TK
variable {z n nf : Nat} {h : AH}
theorem v_byteAt (W : WS z n nf h) (V : WR z n nf h) {p : Nat} (hp : p < 300) : f_X6_byteAt h (z + 2) (nI p) = some (h.2.2.1 (z + 3) p, h) := by
  unfold f_X6_byteAt f_X6_byteAt_23
  rw [if_neg (nI_pos (by omega)), ev_gR (W_tp W), V_tb V, ev_aL (W_tb W), if_neg (show ¬ Int32.ofNat 300 ≤ nI p from nI_ge hp (by omega)), ev_gR (W_tp W), V_tb V, ev_aI (W_tb W) hp (by omega)]
theorem v_blank (x : Int32) : f_X6_isBlank h x = some (b2i (blk x), h) := by
  unfold f_X6_isBlank f_X6_isBlank_12 f_X6_isBlank_17
  by_cases e : x = 32
  · rw [if_pos e, show blk x = true from decide_eq_true (Or.inl e)]
    exact ev_rZ1
  · rw [if_neg e]
    by_cases e2 : x = 10
    · rw [if_pos e2, show blk x = true from decide_eq_true (Or.inr e2)]
      exact ev_rZ1
    · rw [if_neg e2, show blk x = false from decide_eq_false (fun q => by rcases q with q | q; exact e q; exact e2 q)]
      exact ev_rZ0
theorem v_letter (x : Int32) : f_X6_isLetter h x = some (b2i (ltr x), h) := by
  unfold f_X6_isLetter f_X6_isLetter_16 f_X6_isLetter_17
  by_cases e : x < 97
  · rw [if_pos e, show ltr x = false from decide_eq_false (fun q => q.1 e)]
    exact ev_rZ0
  · rw [if_neg e]
    by_cases e2 : 122 < x
    · rw [if_pos e2, show ltr x = false from decide_eq_false (fun q => q.2 e2)]
      exact ev_rZ0
    · rw [if_neg e2, show ltr x = true from decide_eq_true ⟨e, e2⟩]
      exact ev_rZ1
theorem v_digit (x : Int32) : f_X6_isDigit h x = some (b2i (dgt x), h) := by
  unfold f_X6_isDigit f_X6_isDigit_16 f_X6_isDigit_17
  by_cases e : x < 48
  · rw [if_pos e, show dgt x = false from decide_eq_false (fun q => q.1 e)]
    exact ev_rZ0
  · rw [if_neg e]
    by_cases e2 : 57 < x
    · rw [if_pos e2, show dgt x = false from decide_eq_false (fun q => q.2 e2)]
      exact ev_rZ0
    · rw [if_neg e2, show dgt x = true from decide_eq_true ⟨e, e2⟩]
      exact ev_rZ1
theorem b2i_t : b2i true = 1 := rfl
theorem b2i_f : b2i false = 0 := rfl
theorem b2i_0 (b : Bool) : (b2i b = 0) = (¬ b = true) := by cases b <;> simp [b2i]
def tk (z : Nat) (ks : List Nat) (a k : Nat) : Prop := a = z + 2 ∧ k ∈ ks
theorem tk_mo {ks ks' : List Nat} (hs : ∀ k ∈ ks, k ∈ ks') {h' : AH} (p : Ag (tk z ks) h h') : Ag (tk z ks') h h' := p.mo (fun _ _ q => ⟨q.1, hs _ q.2⟩)
theorem tk_T {ks : List Nat} {h' : AH} (p : Ag (tk z ks) h h') : h'.2.2.1 (z + 3) = h.2.2.1 (z + 3) := funext (fun k => p.2.2.2 _ _ (fun q => by have := q.1; omega))
theorem tk_k {ks : List Nat} {h' : AH} (p : Ag (tk z ks) h h') {k : Nat} (hk : ¬ k ∈ ks) : h'.2.2.1 (z + 2) k = h.2.2.1 (z + 2) k := p.2.2.2 _ _ (fun q => hk q.2)
/-- the blanks -/
theorem l_nt8 {T : Nat → Int32} {e : Nat} (he : e ≤ 300) : ∀ (m p : Nat) (h : AH), e - p < m → p ≤ e → WS z n nf h → WR z n nf h → h.2.2.1 (z + 3) = T → h.2.2.1 (z + 2) 2 = nI e → h.2.2.1 (z + 2) 4 = nI p → ∃ h', f_X6_nextToken_8 m h (z + 2) = f_X6_nextToken_46 h' (z + 2) ∧ Ag (tk z [4]) h h' ∧ h'.2.2.1 (z + 2) 4 = nI (rn blk T e p) := by
  intro m
  induction m with
  | zero => intro p h h1; omega
  | succ m ih =>
    intro p h h1 h2 W V hT e2 e4
    have s2 := W_tp W
    unfold f_X6_nextToken_8
    rw [ev_gI s2, e4, ev_gI s2, e2]
    by_cases hp : p < e
    · rw [if_neg (nI_ge hp (by omega)), ev_gI s2, e4, ev_rcv s2, cal_eq (v_byteAt W V (by omega)), cal_eq (v_blank _), hT]
      simp only [b2i_0]
      by_cases hb : blk (T p) = true
      · rw [if_neg (fun q => q hb), ev_gI s2, e4, ev_pI s2, nI_1]
        obtain ⟨h', e1, p1, q1⟩ := ih (p + 1) (setI h (z + 2) 4 (nI (p + 1))) (by omega) (by omega) W V (by rw [sI_u, u2_ne _ _ (by omega)]; exact hT) (by rw [sI_u, u2n (Or.inr (by omega))]; exact e2) (by rw [sI_u, u2s])
        refine ⟨h', e1, (Ag.rf.set ⟨rfl, by simp⟩).tr p1, ?_⟩
        rw [q1, rn_y hp hb]
      · rw [if_pos hb]
        exact ⟨h, rfl, Ag.rf, by rw [e4, rn_n hb]⟩
    · rw [if_pos (nI_le (by omega) (by omega))]
      exact ⟨h, rfl, Ag.rf, by rw [e4, rn_out (by omega)]⟩
theorem l_nt92 {T : Nat → Int32} {e : Nat} (he : e ≤ 300) : ∀ (m p : Nat) (h : AH), e - p < m → p ≤ e → WS z n nf h → WR z n nf h → h.2.2.1 (z + 3) = T → h.2.2.1 (z + 2) 2 = nI e → h.2.2.1 (z + 2) 5 = nI p → ∃ h', f_X6_nextToken_92 m h (z + 2) = some ((), h') ∧ Ag (tk z [5]) h h' ∧ h'.2.2.1 (z + 2) 5 = nI (rn ltr T e p) := by
  intro m
  induction m with
  | zero => intro p h h1; omega
  | succ m ih =>
    intro p h h1 h2 W V hT e2 e4
    have s2 := W_tp W
    unfold f_X6_nextToken_92 f_X6_nextToken_219
    rw [ev_gI s2, e4, ev_gI s2, e2]
    by_cases hp : p < e
    · rw [if_neg (nI_ge hp (by omega)), ev_gI s2, e4, ev_rcv s2, cal_eq (v_byteAt W V (by omega)), cal_eq (v_letter _), hT]
      simp only [b2i_0]
      by_cases hb : ltr (T p) = true
      · rw [if_neg (fun q => q hb), ev_gI s2, e4, ev_pI s2, nI_1]
        obtain ⟨h', e1, p1, q1⟩ := ih (p + 1) (setI h (z + 2) 5 (nI (p + 1))) (by omega) (by omega) W V (by rw [sI_u, u2_ne _ _ (by omega)]; exact hT) (by rw [sI_u, u2n (Or.inr (by omega))]; exact e2) (by rw [sI_u, u2s])
        refine ⟨h', e1, (Ag.rf.set ⟨rfl, by simp⟩).tr p1, ?_⟩
        rw [q1, rn_y hp hb]
      · rw [if_pos hb]
        exact ⟨h, rfl, Ag.rf, by rw [e4, rn_n hb]⟩
    · rw [if_pos (nI_le (by omega) (by omega))]
      exact ⟨h, rfl, Ag.rf, by rw [e4, rn_out (by omega)]⟩
theorem l_nt149 {T : Nat → Int32} {e : Nat} (he : e ≤ 300) : ∀ (m p : Nat) (h : AH), e - p < m → p ≤ e → WS z n nf h → WR z n nf h → h.2.2.1 (z + 3) = T → h.2.2.1 (z + 2) 2 = nI e → h.2.2.1 (z + 2) 5 = nI p → ∃ h', f_X6_nextToken_149 m h (z + 2) = some ((), h') ∧ Ag (tk z [5]) h h' ∧ h'.2.2.1 (z + 2) 5 = nI (rn dgt T e p) := by
  intro m
  induction m with
  | zero => intro p h h1; omega
  | succ m ih =>
    intro p h h1 h2 W V hT e2 e4
    have s2 := W_tp W
    unfold f_X6_nextToken_149 f_X6_nextToken_219
    rw [ev_gI s2, e4, ev_gI s2, e2]
    by_cases hp : p < e
    · rw [if_neg (nI_ge hp (by omega)), ev_gI s2, e4, ev_rcv s2, cal_eq (v_byteAt W V (by omega)), cal_eq (v_digit _), hT]
      simp only [b2i_0]
      by_cases hb : dgt (T p) = true
      · rw [if_neg (fun q => q hb), ev_gI s2, e4, ev_pI s2, nI_1]
        obtain ⟨h', e1, p1, q1⟩ := ih (p + 1) (setI h (z + 2) 5 (nI (p + 1))) (by omega) (by omega) W V (by rw [sI_u, u2_ne _ _ (by omega)]; exact hT) (by rw [sI_u, u2n (Or.inr (by omega))]; exact e2) (by rw [sI_u, u2s])
        refine ⟨h', e1, (Ag.rf.set ⟨rfl, by simp⟩).tr p1, ?_⟩
        rw [q1, rn_y hp hb]
      · rw [if_pos hb]
        exact ⟨h, rfl, Ag.rf, by rw [e4, rn_n hb]⟩
    · rw [if_pos (nI_le (by omega) (by omega))]
      exact ⟨h, rfl, Ag.rf, by rw [e4, rn_out (by omega)]⟩
theorem v_nt46 {T : Nat → Int32} {e B : Nat} (he : e ≤ 300) (hB : B ≤ e) (W : WS z n nf h) (V : WR z n nf h) (hT : h.2.2.1 (z + 3) = T) (e2 : h.2.2.1 (z + 2) 2 = nI e) (e4 : h.2.2.1 (z + 2) 4 = nI B) : ∃ h', f_X6_nextToken_46 h (z + 2) = some ((), h') ∧ Ag (tk z [3, 5]) h h' ∧ h'.2.2.1 (z + 2) 3 = nI (kd T e B) ∧ h'.2.2.1 (z + 2) 5 = nI (en T e B) := by
  have s2 := W_tp W
  unfold f_X6_nextToken_46
  rw [ev_gI s2, e4, ev_pI s2]
  have W1 : WS z n nf (setI h (z + 2) 5 (nI B)) := W
  have V1 : WR z n nf (setI h (z + 2) 5 (nI B)) := V
  have hT1 : (setI h (z + 2) 5 (nI B)).2.2.1 (z + 3) = T := by rw [sI_u, u2_ne _ _ (by omega)]; exact hT
  have f2 : (setI h (z + 2) 5 (nI B)).2.2.1 (z + 2) 2 = nI e := by rw [sI_u, u2n (Or.inr (by omega))]; exact e2
  have f4 : (setI h (z + 2) 5 (nI B)).2.2.1 (z + 2) 4 = nI B := by rw [sI_u, u2n (Or.inr (by omega))]; exact e4
  have f5 : (setI h (z + 2) 5 (nI B)).2.2.1 (z + 2) 5 = nI B := by rw [sI_u, u2s]
  have p1 : Ag (tk z [3, 5]) h (setI h (z + 2) 5 (nI B)) := Ag.rf.set ⟨rfl, by simp⟩
  generalize setI h (z + 2) 5 (nI B) = g at W1 V1 hT1 f2 f4 f5 p1 ⊢
  have t2 := W_tp W1
  rw [ev_gI t2, f4, ev_gI t2, f2]
  unfold kd en
  by_cases hp : B < e
  · rw [if_pos ((nI_lt_iff (by omega) (by omega)).mpr hp), ev_gI t2, f4, ev_rcv t2, cal_eq (v_byteAt W1 V1 (by omega)), cal_eq (v_letter _), hT1, if_pos hp, if_pos hp]
    simp only [b2i_0]
    by_cases h1 : ltr (T B) = true
    · rw [if_neg (fun q => q h1), ev_pI t2, if_pos h1, if_pos h1]
      obtain ⟨h', x1, x2, x3⟩ := l_nt92 (z := z) (n := n) (nf := nf) (T := T) he FU B (setI g (z + 2) 3 1) (by rw [fu_big]; omega) hB W1 V1 (by rw [sI_u, u2_ne _ _ (by omega)]; exact hT1) (by rw [sI_u, u2n (Or.inr (by omega))]; exact f2) (by rw [sI_u, u2n (Or.inr (by omega))]; exact f5)
      refine ⟨h', x1, (p1.set ⟨rfl, by simp⟩).tr (tk_mo (by simp) x2), ?_, x3⟩
      rw [tk_k x2 (by simp), sI_u, u2s]
      rfl
    · rw [if_pos h1, ev_gI t2, f4, ev_rcv t2, cal_eq (v_byteAt W1 V1 (by omega)), cal_eq (v_digit _), hT1, if_neg h1, if_neg h1]
      simp only [b2i_0]
      by_cases h2 : dgt (T B) = true
      · rw [if_neg (fun q => q h2), ev_pI t2, if_pos h2, if_pos h2]
        obtain ⟨h', x1, x2, x3⟩ := l_nt149 (z := z) (n := n) (nf := nf) (T := T) he FU B (setI g (z + 2) 3 2) (by rw [fu_big]; omega) hB W1 V1 (by rw [sI_u, u2_ne _ _ (by omega)]; exact hT1) (by rw [sI_u, u2n (Or.inr (by omega))]; exact f2) (by rw [sI_u, u2n (Or.inr (by omega))]; exact f5)
        refine ⟨h', x1, (p1.set ⟨rfl, by simp⟩).tr (tk_mo (by simp) x2), ?_, x3⟩
        rw [tk_k x2 (by simp), sI_u, u2s]
        rfl
      · rw [if_pos h2, ev_gI t2, f4, ev_rcv t2, cal_eq (v_byteAt W1 V1 (by omega)), hT1, if_neg h2, if_neg h2]
        have fin : ∀ c : Int32, ∃ h', f_X6_nextToken_206 g (z + 2) (z + 2) c = some ((), h') ∧ Ag (tk z [3, 5]) h h' ∧ h'.2.2.1 (z + 2) 3 = c ∧ h'.2.2.1 (z + 2) 5 = nI (B + 1) := by
          intro c
          unfold f_X6_nextToken_206 f_X6_nextToken_219
          rw [ev_pI t2, ev_gI (by rw [sI_s]; exact t2), sI_u, u2n (Or.inr (by omega)), f5, nI_1, ev_pI (by rw [sI_s]; exact t2)]
          refine ⟨_, rfl, (p1.set ⟨rfl, by simp⟩).set ⟨rfl, by simp⟩, ?_, ?_⟩
          · rw [sI_u, u2n (Or.inr (by omega)), sI_u, u2s]
          · rw [sI_u, u2s]
        by_cases h3 : T B = 59
        · rw [if_pos h3, if_pos h3]
          exact fin 3
        · rw [if_neg h3, if_neg h3]
          exact fin 4
  · rw [if_neg (fun q => hp ((nI_lt_iff (by omega) (by omega)).mp q)), ev_pI t2, if_neg hp, if_neg hp]
    unfold f_X6_nextToken_219
    refine ⟨_, rfl, p1.set ⟨rfl, by simp⟩, ?_, ?_⟩
    · rw [sI_u, u2s]
      rfl
    · rw [sI_u, u2n (Or.inr (by omega))]
      exact f5
/-- the tape stands at the token that begins at B -/
def Tok (z : Nat) (T : Nat → Int32) (e B : Nat) (h : AH) : Prop := h.2.2.1 (z + 3) = T ∧ h.2.2.1 (z + 2) 2 = nI e ∧ h.2.2.1 (z + 2) 3 = nI (kd T e B) ∧ h.2.2.1 (z + 2) 4 = nI B ∧ h.2.2.1 (z + 2) 5 = nI (en T e B)
theorem v_next {T : Nat → Int32} {e p : Nat} (he : e ≤ 300) (hp : p ≤ e) (W : WS z n nf h) (V : WR z n nf h) (hT : h.2.2.1 (z + 3) = T) (e2 : h.2.2.1 (z + 2) 2 = nI e) (e5 : h.2.2.1 (z + 2) 5 = nI p) : ∃ h', f_X6_nextToken h (z + 2) = some ((), h') ∧ Ag (tk z [3, 4, 5]) h h' ∧ Tok z T e (rn blk T e p) h' := by
  have s2 := W_tp W
  unfold f_X6_nextToken
  rw [ev_gI s2, e5, ev_pI s2]
  obtain ⟨h1, x1, x2, x3⟩ := l_nt8 (z := z) (n := n) (nf := nf) (T := T) he FU p (setI h (z + 2) 4 (nI p)) (by rw [fu_big]; omega) hp W V (by rw [sI_u, u2_ne _ _ (by omega)]; exact hT) (by rw [sI_u, u2n (Or.inr (by omega))]; exact e2) (by rw [sI_u, u2s])
  have p1 : Ag (tk z [3, 4, 5]) h h1 := (Ag.rf.set ⟨rfl, by simp⟩).tr (tk_mo (by simp) x2)
  have W1 := WS_ag W p1
  have V1 := WR_ag V p1
  have hT1 := (tk_T p1).trans hT
  have f2 := (tk_k p1 (k := 2) (by simp)).trans e2
  obtain ⟨h2, y1, y2, y3, y5⟩ := v_nt46 he (rn_le hp) W1 V1 hT1 f2 x3
  rw [x1]
  exact ⟨h2, y1, p1.tr (tk_mo (by simp) y2), (tk_T y2).trans hT1, (tk_k y2 (by simp)).trans f2, y3, (tk_k y2 (by simp)).trans x3, y5⟩
theorem l_word28 {T : Nat → Int32} {B wi : Nat} (hw : wi < 6) (hB : B + wlen wi ≤ 300) (W : WS z n nf h) (V : WR z n nf h) (hT : h.2.2.1 (z + 3) = T) (e4 : h.2.2.1 (z + 2) 4 = nI B) : ∀ (m i : Nat), wlen wi - i < m → i ≤ wlen wi → (∀ j, j < i → T (B + j) = wb wi j) → f_X6_isWord_28 m h (z + 2) wi (nI i) = some (b2i (decide (∀ j, j < wlen wi → T (B + j) = wb wi j)), h) := by
  have s2 := W_tp W
  have h46 := wlen_pos hw
  intro m
  induction m with
  | zero => intro i h1; omega
  | succ m ih =>
    intro i h1 h2 h3
    unfold f_X6_isWord_28
    rw [ev_stL hw]
    by_cases hi : i < wlen wi
    · rw [if_neg (nI_ge hi (by omega)), ev_gI s2, e4, ev_rcv s2, nI_ad, cal_eq (v_byteAt W V (by omega)), hT, ev_stC hw hi]
      by_cases e : T (B + i) = wb wi i
      · rw [if_pos e, ev_bd, nI_1]
        refine ih (i + 1) (by omega) (by omega) (fun j hj => ?_)
        by_cases q : j = i
        · subst q; exact e
        · exact h3 j (by omega)
      · rw [if_neg e, decide_eq_false (fun q => e (q i hi))]
        exact ev_rZ0
    · rw [if_pos (nI_le (by omega) (by omega)), decide_eq_true (fun j hj => h3 j (by omega))]
      exact ev_rZ1
theorem v_isWord {T : Nat → Int32} {e B wi : Nat} (hw : wi < 6) (he : e ≤ 300) (hB : B ≤ e) (W : WS z n nf h) (V : WR z n nf h) (t : Tok z T e B h) : f_X6_isWord h (z + 2) wi = some (b2i (lw T e B wi), h) := by
  obtain ⟨hT, e2, e3, e4, e5⟩ := t
  have s2 := W_tp W
  have h46 := wlen_pos hw
  obtain ⟨n1, n2⟩ := en_le (T := T) hB
  have hk : kd T e B < 5 := by
    unfold kd
    split <;> (try split) <;> (try split) <;> (try split) <;> omega
  unfold f_X6_isWord f_X6_isWord_24
  rw [← lw_kd hw, ev_gI s2, e3]
  by_cases q : kd T e B = 1
  · rw [if_pos (show nI (kd T e B) = 1 by rw [q]; rfl), decide_eq_true q, Bool.true_and, ev_gI s2, e5, ev_gI s2, e4, nI_sub n1, ev_stL hw]
    unfold isw
    by_cases q2 : en T e B - B = wlen wi
    · rw [if_pos (show nI (en T e B - B) = nI (wlen wi) by rw [q2])]
      have := l_word28 hw (by omega) W V hT e4 FU 0 (by rw [fu_big]; omega) (by omega) (fun j hj => by omega)
      rw [show (0 : Int32) = nI 0 from rfl, this]
      congr 2
      by_cases q3 : ∀ j, j < wlen wi → T (B + j) = wb wi j
      · rw [decide_eq_true q3, decide_eq_true ⟨q2, q3⟩]
      · rw [decide_eq_false q3, decide_eq_false (fun x => q3 x.2)]
    · rw [if_neg (fun x => q2 (nI_inj (by omega) (by omega) x)), decide_eq_false (fun x => q2 x.1)]
      exact ev_rZ0
  · rw [if_neg (show ¬ nI (kd T e B) = 1 from fun x => q (nI_inj (b := 1) (by omega) (by omega) x)), decide_eq_false q, Bool.false_and]
    exact ev_rZ0
theorem l_num30 {T : Nat → Int32} {E : Nat} (hE : E ≤ 300) (W : WS z n nf h) (V : WR z n nf h) (hT : h.2.2.1 (z + 3) = T) (e5 : h.2.2.1 (z + 2) 5 = nI E) : ∀ (m p : Nat) (a : Int32), E - p < m → p ≤ E → f_X6_numberHere_30 m h (z + 2) a (nI p) = some (nmb T (E - p) p a, h) := by
  have s2 := W_tp W
  intro m
  induction m with
  | zero => intro p a h1; omega
  | succ m ih =>
    intro p a h1 h2
    unfold f_X6_numberHere_30
    rw [ev_gI s2, e5]
    by_cases hp : p < E
    · rw [if_neg (nI_ge hp (by omega)), ev_rcv s2, cal_eq (v_byteAt W V (by omega)), ev_bd, ev_bd, nI_1, ih (p + 1) _ (by omega) (by omega), hT, show E - p = (E - (p + 1)) + 1 by omega, nmb]
    · rw [if_pos (nI_le (by omega) (by omega)), show E - p = 0 by omega, nmb]
/-- the number at B, or none -/
def nmH (T : Nat → Int32) (e B : Nat) : Int32 := if rn dgt T e B ≠ B ∧ rn dgt T e B - B ≤ 3 then nmb T (rn dgt T e B - B) B 0 else -1
theorem ltr_dgt {x : Int32} (h : dgt x = true) : ¬ ltr x = true := by
  intro q
  have a := (of_decide_eq_true h).2
  have b := (of_decide_eq_true q).1
  rw [Int32.lt_iff_toInt_lt] at a b
  have z0 : (57 : Int32).toInt = 57 := by decide
  have z1 : (97 : Int32).toInt = 97 := by decide
  omega
theorem v_number {T : Nat → Int32} {e B : Nat} (he : e ≤ 300) (hB : B ≤ e) (W : WS z n nf h) (V : WR z n nf h) (t : Tok z T e B h) : f_X6_numberHere h (z + 2) = some (nmH T e B, h) ∧ (nmH T e B ≠ -1 → kd T e B = 2 ∧ en T e B = rn dgt T e B) := by
  obtain ⟨hT, e2, e3, e4, e5⟩ := t
  have s2 := W_tp W
  have r1 := rn_ge (P := dgt) (T := T) (e := e) (p := B)
  have r2 := rn_le (P := dgt) (T := T) hB
  have hk : kd T e B < 5 := by
    unfold kd
    split <;> (try split) <;> (try split) <;> (try split) <;> omega
  unfold f_X6_numberHere f_X6_numberHere_21 nmH
  rw [ev_gI s2, e3]
  by_cases q : kd T e B = 2
  · have hBe : B < e := by
      rcases Nat.lt_or_ge B e with x | x
      · exact x
      · unfold kd at q
        rw [if_neg (by omega)] at q
        omega
    have hd : dgt (T B) = true := by
      unfold kd at q
      rw [if_pos hBe] at q
      by_cases x : ltr (T B) = true
      · rw [if_pos x] at q; omega
      · rw [if_neg x] at q
        by_cases y : dgt (T B) = true
        · exact y
        · rw [if_neg y] at q
          split at q <;> omega
    have ee : en T e B = rn dgt T e B := by
      unfold en
      rw [if_pos hBe, if_neg (ltr_dgt hd), if_pos hd]
    have hne : rn dgt T e B ≠ B := by
      rw [rn_y hBe hd]
      have := rn_ge (P := dgt) (T := T) (e := e) (p := B + 1)
      omega
    refine ⟨?_, fun _ => ⟨q, ee⟩⟩
    rw [if_pos (show nI (kd T e B) = 2 by rw [q]; rfl), ev_gI s2, e5, ev_gI s2, e4, ee, nI_sub r1]
    by_cases q2 : rn dgt T e B - B ≤ 3
    · rw [if_pos (show nI (rn dgt T e B - B) ≤ 3 from (nI_le_iff (b := 3) (by omega) (by omega)).mpr q2), ev_gI s2, e4, if_pos ⟨hne, q2⟩]
      exact l_num30 (by omega) W V hT (by rw [e5, ee]) FU B 0 (by rw [fu_big]; omega) r1
    · rw [if_neg (show ¬ nI (rn dgt T e B - B) ≤ 3 from fun x => q2 ((nI_le_iff (b := 3) (by omega) (by omega)).mp x)), if_neg (fun x => q2 x.2)]
  · have hne : rn dgt T e B = B := by
      rcases Nat.lt_or_ge B e with x | x
      · refine rn_n (fun y => q ?_)
        unfold kd
        rw [if_pos x, if_neg (ltr_dgt y), if_pos y]
      · exact rn_out x
    rw [if_neg (show ¬ nI (kd T e B) = 2 from fun x => q (nI_inj (b := 2) (by omega) (by omega) x)), if_neg (fun x => x.1 hne)]
    exact ⟨rfl, fun x => absurd rfl x⟩
end TK
