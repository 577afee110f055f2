/-! ===== pure part: where the cells lie (z: the first new address, n: tanks), what holds of them ===== -/
def aT (z n i : Nat) : Nat := z + 10 + 3 * (n - 1 - i)
def aN (z n i : Nat) : Nat := z + 11 + 3 * (n - 1 - i)
def aA (z n i : Nat) : Nat := z + 12 + 3 * (n - 1 - i)
def aFl (z n : Nat) : Nat := z + 10 + 3 * n
def aFs (z n : Nat) : Nat := z + 11 + 3 * n
def aM (z n : Nat) : Nat := z + 12 + 3 * n
/-- the reference's j-th array -/
def aJ (z n j : Nat) : Nat := z + 13 + 3 * n + j
/-- the field of number f -/
def aF (z n f : Nat) : Nat := z + 41 + 3 * n + f
/-- types and lengths of the reference's arrays; the field of the reference that holds each -/
def jTy : List (FieldType × Nat) := [(.int, 11), (.int, 11), (.int, 11), (.int, 11), (.int, 11), (.int, 11), (.int, 11), (.int, 11), (.int, 11), (.boolean, 11), (.int, 40), (.int, 40), (.int, 40), (.int, 40), (.int, 40), (.int, 40), (.int, 40), (.boolean, 40), (.int, 10), (.byte, 300), (.byte, 300), (.int, 28), (.int, 40), (.int, 40), (.boolean, 40), (.int, 11), (.int, 11), (.boolean, 11)]
def jFd : List Nat := [4, 5, 6, 7, 8, 9, 10, 11, 12, 13, 14, 15, 16, 17, 18, 19, 20, 21, 22, 31, 32, 37, 41, 42, 43, 44, 45, 46]
/-- the shapes -/
def WS (z n nf : Nat) (h : AH) : Prop := h.1 = z + 41 + 3 * n + nf ∧ h.2.1 z = some (.inl 7) ∧ h.2.1 (z + 1) = some (.inr (.object RX1, 40)) ∧ h.2.1 (z + 2) = some (.inl 6) ∧ h.2.1 (z + 3) = some (.inr (.byte, 300)) ∧ h.2.1 (z + 4) = some (.inl 0) ∧ h.2.1 (z + 5) = some (.inr (.int, 10)) ∧ h.2.1 (z + 6) = some (.inl 0) ∧ h.2.1 (z + 7) = some (.inr (.int, 10)) ∧ h.2.1 (z + 8) = some (.inl 4) ∧ h.2.1 (z + 9) = some (.inr (.object RX5, n)) ∧
  (∀ i, i < n → h.2.1 (aT z n i) = some (.inl 5) ∧ h.2.1 (aN z n i) = some (.inl 3) ∧ h.2.1 (aA z n i) = some (.inl 3)) ∧ h.2.1 (aFl z n) = some (.inl 2) ∧ h.2.1 (aFs z n) = some (.inl 4) ∧ h.2.1 (aM z n) = some (.inl 8) ∧ (∀ j, j < 28 → h.2.1 (aJ z n j) = some (.inr (jTy.getD j (.int, 0)))) ∧ ∀ f, f < nf → h.2.1 (aF z n f) = some (.inl 1)
/-- the references that never change, but for the fields' row -/
def WR (z n nf : Nat) (h : AH) : Prop := h.2.2.2 z 0 = some (z + 9) ∧ h.2.2.2 z 1 = some (z + 1) ∧ h.2.2.2 z 2 = some (z + 2) ∧ h.2.2.2 z 3 = some (z + 4) ∧ h.2.2.2 z 4 = some (z + 6) ∧ h.2.2.2 z 5 = some (aFl z n) ∧ h.2.2.2 z 6 = some (z + 8) ∧ h.2.2.2 (z + 2) 0 = some (z + 3) ∧ h.2.2.2 (z + 4) 0 = some (z + 5) ∧ h.2.2.2 (z + 6) 0 = some (z + 7) ∧
  h.2.2.2 (aFl z n) 0 = some (aT z n 0) ∧ h.2.2.2 (aFl z n) 1 = some (z + 4) ∧ h.2.2.2 (aFl z n) 2 = some (aFs z n) ∧
  (∀ i, i < n → h.2.2.2 (z + 9) i = some (aT z n i) ∧ h.2.2.2 (aT z n i) 1 = (if i + 1 < n then some (aT z n (i + 1)) else none) ∧ h.2.2.2 (aT z n i) 2 = some (aN z n i) ∧ h.2.2.2 (aT z n i) 3 = some (aA z n i)) ∧
  (∀ f, f < 40 → h.2.2.2 (z + 1) f = if f < nf then some (aF z n f) else none) ∧ ∀ j, j < 28 → h.2.2.2 (aM z n) (jFd.getD j 0) = some (aJ z n j)
/-! reading a function -/
section EV
variable {α β : Type} {h : AH} {a ci k : Nat}
theorem ev_gI {K : Int32 → Option α} (hs : h.2.1 a = some (.inl ci)) : gI h (some a) ci k K = K (h.2.2.1 a k) := by simp [gI, hs]
theorem ev_gR {K : Option Nat → Option α} (hs : h.2.1 a = some (.inl ci)) : gR h (some a) ci k K = K (h.2.2.2 a k) := by simp [gR, hs]
theorem ev_pI {x : Int32} {K : AH → Option α} (hs : h.2.1 a = some (.inl ci)) : pI h (some a) ci k x K = K (setI h a k x) := by simp [pI, hs]
theorem ev_pZ {x : Int32} {K : AH → Option α} (hs : h.2.1 a = some (.inl ci)) (hx : x = 0 ∨ x = 1) : pZ h (some a) ci k x K = K (setI h a k x) := by
  unfold pZ
  simp only [if_pos (And.intro hs hx)]
theorem ev_pR {x : Option Nat} {K : AH → Option α} (hs : h.2.1 a = some (.inl ci)) : pR h (some a) ci k x K = K (setR h a k x) := by simp [pR, hs]
theorem ev_pZ0 {K : AH → Option α} (hs : h.2.1 a = some (.inl ci)) : pZ h (some a) ci k 0 K = K (setI h a k 0) := ev_pZ hs (Or.inl rfl)
theorem ev_pZ1 {K : AH → Option α} (hs : h.2.1 a = some (.inl ci)) : pZ h (some a) ci k 1 K = K (setI h a k 1) := ev_pZ hs (Or.inr rfl)
theorem ev_rcv {K : Nat → Option α} (hs : h.2.1 a = some (.inl ci)) : rcv h (some a) ci K = K a := by simp [rcv, hs]
theorem ev_cal {x : α} {h1 : AH} {K : α → AH → Option β} : cal (some (x, h1)) K = K x h1 := rfl
theorem ev_bd {x : α} {K : α → Option β} : bd x K = K x := rfl
theorem ev_dv {x y : Int32} {K : Int32 → Option α} (hy : ¬ y = 0) : dv x y K = K (x / y) := by simp only [dv, if_neg hy]
theorem ev_rm {x y : Int32} {K : Int32 → Option α} (hy : ¬ y = 0) : rm x y K = K (x - x / y * y) := by simp only [rm, if_neg hy]
theorem ev_rZ0 : rZ 0 h = some (0, h) := by simp [rZ]
theorem ev_rZ1 : rZ 1 h = some (1, h) := by simp [rZ]
theorem ev_nulN {A B : Option α} : nul none A B = A := rfl
theorem ev_nulS {A B : Option α} : nul (some a) A B = B := rfl
theorem ev_aL {ty : FieldType} {N : Nat} {K : Int32 → Option α} (hs : h.2.1 a = some (.inr (ty, N))) : aL ty h (some a) K = K (Int32.ofNat N) := by simp [aL, arl, hs]
theorem ev_aI {ty : FieldType} {N i : Nat} {K : Int32 → Option α} (hs : h.2.1 a = some (.inr (ty, N))) (hi : i < N) (hN : N < 2 ^ 31) : aI ty h (some a) (nI i) K = K (h.2.2.1 a i) := by
  have h1 := nI_in hi hN
  rw [nI_clamp (show i < 2 ^ 31 by omega)] at h1
  simp only [aI, arl, hs, if_true, nI_clamp (show i < 2 ^ 31 by omega), if_neg h1]
theorem ev_aR {ty : FieldType} {N i : Nat} {K : Option Nat → Option α} (hs : h.2.1 a = some (.inr (ty, N))) (hi : i < N) (hN : N < 2 ^ 31) : aR ty h (some a) (nI i) K = K (h.2.2.2 a i) := by
  have h1 := nI_in hi hN
  rw [nI_clamp (show i < 2 ^ 31 by omega)] at h1
  simp only [aR, arl, hs, if_true, nI_clamp (show i < 2 ^ 31 by omega), if_neg h1]
theorem ev_sI {ty : FieldType} {N i : Nat} {x : Int32} {K : AH → Option α} (hs : h.2.1 a = some (.inr (ty, N))) (hi : i < N) (hN : N < 2 ^ 31) : sI ty h (some a) (nI i) x K = K (setI h a i (vp_nar ty x)) := by
  have h1 := nI_in hi hN
  rw [nI_clamp (show i < 2 ^ 31 by omega)] at h1
  simp only [sI, arl, hs, if_true, nI_clamp (show i < 2 ^ 31 by omega), if_neg h1]
theorem ev_sR {ty : FieldType} {N i v : Nat} {K : AH → Option α} (hs : h.2.1 a = some (.inr (ty, N))) (hi : i < N) (hN : N < 2 ^ 31) (hv : h.2.1 v = some (.inl ci)) : sR ty ci h (some a) (nI i) (some v) K = K (setR h a i (some v)) := by
  have h1 := nI_in hi hN
  have h2 : ¬ ((nI i < 0 ∨ N ≤ (nI i).toNatClampNeg) ∨ ¬ h.2.1 v = some (.inl ci)) := by
    intro z
    rcases z with z | z
    · exact h1 z
    · exact z hv
  rw [nI_clamp (show i < 2 ^ 31 by omega)] at h2
  simp only [sR, arl, hs, if_true, nI_clamp (show i < 2 ^ 31 by omega), if_neg h2]
theorem vn_i (x : Int32) : vp_nar .int x = x := rfl
theorem vn_b (x : Int32) : vp_nar .byte x = x.toInt8.toInt32 := rfl
theorem vn_z0 : vp_nar .boolean 0 = 0 := rfl
theorem vn_z1 : vp_nar .boolean 1 = 1 := rfl
theorem vn_z {x : Int32} (h : x = 0 ∨ x = 1) : vp_nar .boolean x = x := by rcases h with rfl | rfl <;> rfl
theorem sI_1 {x : Int32} : (setI h a k x).1 = h.1 := rfl
theorem sI_s {x : Int32} : (setI h a k x).2.1 = h.2.1 := rfl
theorem sI_r {x : Int32} : (setI h a k x).2.2.2 = h.2.2.2 := rfl
theorem sI_i {x : Int32} {a' k' : Nat} : (setI h a k x).2.2.1 a' k' = if a' = a ∧ k' = k then x else h.2.2.1 a' k' := rfl
theorem sI_u {x : Int32} : (setI h a k x).2.2.1 = u2 h.2.2.1 a k x := rfl
theorem sR_1 {x : Option Nat} : (setR h a k x).1 = h.1 := rfl
theorem sR_s {x : Option Nat} : (setR h a k x).2.1 = h.2.1 := rfl
theorem sR_i {x : Option Nat} : (setR h a k x).2.2.1 = h.2.2.1 := rfl
theorem sR_r {x : Option Nat} {a' k' : Nat} : (setR h a k x).2.2.2 a' k' = if a' = a ∧ k' = k then x else h.2.2.2 a' k' := rfl
end EV
theorem one_ne : ¬ (1 : Int32) = 0 := by decide
/-! whole numbers as counts -/
theorem nI_inj {a b : Nat} (ha : a < 2 ^ 31) (hb : b < 2 ^ 31) (h : nI a = nI b) : a = b := by
  have := congrArg Int32.toNatClampNeg h
  rwa [nI_clamp ha, nI_clamp hb] at this
theorem nI_lt_iff {a b : Nat} (ha : a < 2 ^ 31) (hb : b < 2 ^ 31) : nI a < nI b ↔ a < b := by
  rw [Int32.lt_iff_toInt_lt, nI_toInt ha, nI_toInt hb]
  omega
theorem nI_le_iff {a b : Nat} (ha : a < 2 ^ 31) (hb : b < 2 ^ 31) : nI a ≤ nI b ↔ a ≤ b := by
  rw [Int32.le_iff_toInt_le, nI_toInt ha, nI_toInt hb]
  omega
theorem nI_eq_iff {a b : Nat} (ha : a < 2 ^ 31) (hb : b < 2 ^ 31) : nI a = nI b ↔ a = b := ⟨nI_inj ha hb, fun h => by rw [h]⟩
/-- in the range of the tanks -/
abbrev isT (n : Nat) (t : Int32) : Prop := ¬ t < 0 ∧ ¬ nI n ≤ t
theorem isT_nI {n : Nat} {t : Int32} (h : isT n t) (hn : n < 2 ^ 31) : ∃ i, i < n ∧ t = nI i := by
  obtain ⟨i, hi, rfl⟩ := nI_of h.1
  exact ⟨i, by have := h.2; rw [nI_le_iff hn hi] at this; omega, rfl⟩
/-! isWithin, isIn -/
def wi (x a b : Int32) : Int32 := if x < a then 0 else if b < x then 0 else 1
theorem wi_01 (x a b : Int32) : wi x a b = 0 ∨ wi x a b = 1 := by unfold wi; split; exact Or.inl rfl; split; exact Or.inl rfl; exact Or.inr rfl
theorem wi_1 {x a b : Int32} (h1 : ¬ x < a) (h2 : ¬ b < x) : wi x a b = 1 := by rw [wi, if_neg h1, if_neg h2]
theorem wi_ne {x a b : Int32} (h : ¬ wi x a b = 0) : ¬ x < a ∧ ¬ b < x := by
  unfold wi at h
  by_cases h1 : x < a
  · rw [if_pos h1] at h; exact absurd rfl h
  · rw [if_neg h1] at h
    by_cases h2 : b < x
    · rw [if_pos h2] at h; exact absurd rfl h
    · exact ⟨h1, h2⟩
theorem v_isWithin (h : AH) (x a b : Int32) : f_X7_isWithin h x a b = some (wi x a b, h) := by
  unfold f_X7_isWithin f_X7_isWithin_14 f_X7_isWithin_15 wi
  split
  · exact ev_rZ0
  · split
    · exact ev_rZ0
    · exact ev_rZ1
theorem v_isIn (h : AH) (x a b : Int32) : f_X8_isIn h x a b = some (wi x a b, h) := by
  unfold f_X8_isIn f_X8_isIn_14 f_X8_isIn_15 wi
  split
  · exact ev_rZ0
  · split
    · exact ev_rZ0
    · exact ev_rZ1
theorem v_tankAt {z n nf : Nat} {h : AH} (W : WS z n nf h) (V : WR z n nf h) (hn : n ≤ 11) (t : Int32) : f_X7_tankAt h z t = some ((if isT n t then some (aT z n t.toNatClampNeg) else none), h) := by
  obtain ⟨-, s0, -, -, -, -, -, -, -, -, s9, -⟩ := W
  obtain ⟨r0, -, -, -, -, -, -, -, -, -, -, -, -, rT, -⟩ := V
  unfold f_X7_tankAt f_X7_tankAt_22 f_X7_tankAt_23
  by_cases h0 : t < 0
  · rw [if_pos h0, if_neg (fun q => q.1 h0)]
  · rw [if_neg h0, ev_gR s0, r0, ev_aL s9]
    by_cases h1 : nI n ≤ t
    · rw [if_pos (show Int32.ofNat n ≤ t from h1), if_neg (fun q => q.2 h1)]
    · rw [if_neg (show ¬ Int32.ofNat n ≤ t from h1), if_pos ⟨h0, h1⟩]
      obtain ⟨i, hi, rfl⟩ := isT_nI ⟨h0, h1⟩ (by omega)
      rw [ev_gR s0, r0, ev_aR s9 hi (by omega), (rT i hi).1, nI_clamp (by omega)]
theorem v_isTank {z n nf : Nat} {h : AH} (W : WS z n nf h) (hm : h.2.2.1 (aM z n) 0 = nI n) (hn : n ≤ 11) (hn2 : 2 ≤ n) (t : Int32) : ∃ r, f_X8_isTank h (aM z n) t = some (r, h) ∧ (isT n t → r = 1) ∧ (¬ isT n t → r = 0) := by
  obtain ⟨-, -, -, -, -, -, -, -, -, -, -, -, -, -, sm, -⟩ := W
  unfold f_X8_isTank
  rw [ev_gI sm, v_isIn, ev_cal, hm]
  have e : nI n - 1 = nI (n - 1) := by
    have : nI n = nI (n - 1) + 1 := by rw [nI_1]; congr 1; omega
    rw [this]
    rw [Int32.add_sub_cancel]
  refine ⟨wi t 0 (nI n - 1), ?_, ?_, ?_⟩
  · rcases wi_01 t 0 (nI n - 1) with q | q <;> rw [q]
    · exact ev_rZ0
    · exact ev_rZ1
  · intro q
    obtain ⟨i, hi, rfl⟩ := isT_nI q (by omega)
    refine wi_1 q.1 ?_
    rw [e, nI_lt_iff (by omega) (by omega)]
    omega
  · intro q
    rcases wi_01 t 0 (nI n - 1) with w | w
    · exact w
    · exfalso
      have := wi_ne (x := t) (a := 0) (b := nI n - 1) (by rw [w]; decide)
      obtain ⟨i, hi, rfl⟩ := nI_of this.1
      have h2 := this.2
      rw [e, nI_lt_iff (by omega) hi] at h2
      refine q ⟨this.1, ?_⟩
      rw [nI_le_iff (by omega) hi]
      omega
