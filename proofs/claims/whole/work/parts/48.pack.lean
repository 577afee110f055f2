/-! ===== custom: a word as a number ===== -/
theorem pk_step {a b : Nat} (ha : a < 2 ^ 48) (hb : b < 128) : (Int64.ofNat a <<< ((8 : Int32).toInt64 &&& 63)) ||| (Int32.toInt64 (nI b)) = Int64.ofNat (a * 256 + b) := by
  have e8 : ((8 : Int32).toInt64 &&& 63) = 8 := by decide
  have eb : Int32.toInt64 (nI b) = Int64.ofNat b := Int32.toInt64_ofNat' (by
    have : Int32.maxValue.toInt = 2147483647 := by decide
    omega)
  rw [e8, eb]
  apply Int64.toBitVec_inj.mp
  rw [Int64.toBitVec_or, Int64.toBitVec_shiftLeft]
  have s8 : (8 : Int64).toBitVec.smod 64 = 8 := by decide
  rw [s8]
  apply BitVec.eq_of_toNat_eq
  have ea : (Int64.ofNat a).toBitVec.toNat = a := by
    show (BitVec.ofNat 64 a).toNat = a
    rw [BitVec.toNat_ofNat]
    omega
  have eb' : (Int64.ofNat b).toBitVec.toNat = b := by
    show (BitVec.ofNat 64 b).toNat = b
    rw [BitVec.toNat_ofNat]
    omega
  have ec : (Int64.ofNat (a * 256 + b)).toBitVec.toNat = a * 256 + b := by
    show (BitVec.ofNat 64 (a * 256 + b)).toNat = _
    rw [BitVec.toNat_ofNat]
    omega
  rw [BitVec.shiftLeft_eq', BitVec.toNat_or, BitVec.toNat_shiftLeft, ea, eb', ec]
  have e88 : (8 : BitVec 64).toNat = 8 := by decide
  rw [e88, Nat.shiftLeft_eq, Nat.mod_eq_of_lt (by omega), ← Nat.shiftLeft_eq, ← Nat.shiftLeft_add_eq_or_of_lt (by omega), Nat.shiftLeft_eq]
/-- m digits, the first the highest -/
def pk (f : Nat → Nat) : Nat → Nat
  | 0 => 0
  | m + 1 => pk f m * 256 + f m
theorem pk_inj {f g : Nat → Nat} : ∀ (m k : Nat), (∀ j, j < m → 0 < f j ∧ f j < 256) → (∀ j, j < k → 0 < g j ∧ g j < 256) → pk f m = pk g k → m = k ∧ ∀ j, j < m → f j = g j := by
  intro m
  induction m with
  | zero =>
    intro k _ h2 h
    cases k with
    | zero => exact ⟨rfl, fun j hj => by omega⟩
    | succ k =>
      have := (h2 k (by omega)).1
      rw [pk, pk] at h
      omega
  | succ m ih =>
    intro k h1 h2 h
    cases k with
    | zero =>
      have := (h1 m (by omega)).1
      rw [pk, pk] at h
      omega
    | succ k =>
      have a1 := h1 m (by omega)
      have a2 := h2 k (by omega)
      rw [pk, pk] at h
      obtain ⟨r1, r2⟩ := ih k (fun j hj => h1 j (by omega)) (fun j hj => h2 j (by omega)) (by omega)
      refine ⟨by omega, fun j hj => ?_⟩
      by_cases e : j = m
      · subst e
        subst r1
        omega
      · exact r2 j (by omega)
theorem pkw_lt {f : Nat → Nat} : ∀ (m : Nat), (∀ j, j < m → f j < 256) → pk f m < 256 ^ m := by
  intro m
  induction m with
  | zero => intro _; exact Nat.one_pos
  | succ m ih =>
    intro h
    have := ih (fun j hj => h j (by omega))
    have := h m (by omega)
    rw [pk, Nat.pow_succ]
    omega
/-- letters from B on -/
def lt8 (T : Nat → Int32) (B : Nat) (j : Nat) : Nat := (T (B + j)).toNatClampNeg
def wv (T : Nat → Int32) (B m : Nat) : Int64 := if m ≤ 7 then Int64.ofNat (pk (lt8 T B) m) else 0
def cst (wi : Nat) : Int64 := [439855772532, 1852137842, 1752132708, 1717660018, 127978976603237, 495756340332].getD wi 0
def wbN (wi j : Nat) : Nat := (wb wi j).toNatClampNeg
theorem cst_ok {wi : Nat} (h : wi < 6) : cst wi = Int64.ofNat (pk (wbN wi) (wlen wi)) := by
  revert h
  rcases wi with _ | _ | _ | _ | _ | _ | wi
  all_goals first | (intro _; decide) | (intro h; omega)
theorem wb_ok {wi : Nat} (h : wi < 6) : ∀ j, j < wlen wi → (0 < wbN wi j ∧ wbN wi j < 256) ∧ wb wi j = nI (wbN wi j) := by
  revert h
  rcases wi with _ | _ | _ | _ | _ | _ | wi
  all_goals first | (intro _; decide) | (intro h; omega)
theorem ltr_nI {x : Int32} (h : ltr x = true) : ∃ k, 97 ≤ k ∧ k ≤ 122 ∧ x = nI k := by
  obtain ⟨d1, d2⟩ := of_decide_eq_true h
  have hx : ¬ x < 0 := fun q => d1 (by
    rw [Int32.lt_iff_toInt_lt] at q ⊢
    have z0 : (0 : Int32).toInt = 0 := by decide
    have z1 : (97 : Int32).toInt = 97 := by decide
    omega)
  obtain ⟨k, hk, rfl⟩ := nI_of hx
  have e1 : (97 : Int32) = nI 97 := rfl
  have e2 : (122 : Int32) = nI 122 := rfl
  rw [e1, nI_lt_iff hk (by omega)] at d1
  rw [e2, nI_lt_iff (by omega) hk] at d2
  exact ⟨k, by omega, by omega, rfl⟩
theorem wv_step {T : Nat → Int32} {B m : Nat} (hm : m < 7) (hl : ∀ j, j ≤ m → ltr (T (B + j)) = true) : (wv T B m <<< ((8 : Int32).toInt64 &&& 63)) ||| (Int32.toInt64 (T (B + m))) = wv T B (m + 1) := by
  have hd : ∀ j, j ≤ m → lt8 T B j < 128 := fun j hj => by
    obtain ⟨k, h1, h2, e⟩ := ltr_nI (hl j hj)
    unfold lt8
    rw [e, nI_clamp (by omega)]
    omega
  have hp := pkw_lt (f := lt8 T B) m (fun j hj => by have := hd j (by omega); omega)
  have h48 : (256 : Nat) ^ m ≤ 256 ^ 6 := Nat.pow_le_pow_right (by decide) (by omega)
  obtain ⟨k, h1, h2, e⟩ := ltr_nI (hl m (Nat.le_refl m))
  have ek : lt8 T B m = k := by
    unfold lt8
    rw [e, nI_clamp (by omega)]
  unfold wv
  rw [if_pos (by omega), if_pos (by omega), e, pk_step (by omega) (by omega), pk, ek]
theorem lg_eq {x y : Int64} : lg_cmp x y = 0 ↔ x = y := by
  unfold lg_cmp
  by_cases h : x > y
  · rw [if_pos h]
    refine ⟨fun q => absurd q (by decide), fun q => ?_⟩
    subst q
    exact absurd h (Int64.lt_irrefl)
  · rw [if_neg h]
    by_cases e : x = y
    · rw [if_pos e]
      exact ⟨fun _ => e, fun _ => rfl⟩
    · rw [if_neg e]
      exact ⟨fun q => absurd q (by decide), fun q => absurd q e⟩
theorem pkw_63 {f : Nat → Nat} {m : Nat} (h : ∀ j, j < m → f j < 256) (hm : m ≤ 7) : pk f m < 2 ^ 63 := by
  have a := pkw_lt m h
  have b : (256 : Nat) ^ m ≤ 256 ^ 7 := Nat.pow_le_pow_right (by decide) hm
  omega
theorem oI_inj {a b : Nat} (ha : a < 2 ^ 63) (hb : b < 2 ^ 63) (h : Int64.ofNat a = Int64.ofNat b) : a = b := by
  have hN := congrArg Int64.toNatClampNeg h
  rwa [Int64.toNatClampNeg_ofNat_of_lt ha, Int64.toNatClampNeg_ofNat_of_lt hb] at hN
theorem pkw_pos {f : Nat → Nat} {m : Nat} (h : ∀ j, j < m → 0 < f j) (hm : 0 < m) : 0 < pk f m := by
  obtain ⟨k, rfl⟩ : ∃ k, m = k + 1 := ⟨m - 1, by omega⟩
  have := h k (by omega)
  rw [pk]
  omega
theorem pkw_congr {f g : Nat → Nat} : ∀ k, (∀ j, j < k → f j = g j) → pk f k = pk g k := by
  intro k
  induction k with
  | zero => intro _; rfl
  | succ k ih =>
    intro h
    rw [pk, pk, ih (fun j hj => h j (by omega)), h k (by omega)]
theorem wv_eq {T : Nat → Int32} {B m wi : Nat} (hw : wi < 6) (hf : ∀ j, j < m → 0 < lt8 T B j ∧ lt8 T B j < 256) : wv T B m = Int64.ofNat (pk (wbN wi) (wlen wi)) ↔ (m = wlen wi ∧ ∀ j, j < m → lt8 T B j = wbN wi j) := by
  have h46 := wlen_pos hw
  have hg := wb_ok hw
  have g6 : pk (wbN wi) (wlen wi) < 2 ^ 63 := pkw_63 (fun j hj => (hg j hj).1.2) (by omega)
  unfold wv
  constructor
  · intro h
    by_cases h7 : m ≤ 7
    · rw [if_pos h7] at h
      exact pk_inj m (wlen wi) hf (fun j hj => (hg j hj).1) (oI_inj (pkw_63 (fun j hj => (hf j hj).2) h7) g6 h)
    · rw [if_neg h7] at h
      have z0 : (0 : Int64) = Int64.ofNat 0 := rfl
      rw [z0] at h
      have := oI_inj (Nat.two_pow_pos 63) g6 h
      have := pkw_pos (f := wbN wi) (m := wlen wi) (fun j hj => (hg j hj).1.1) (by omega)
      omega
  · rintro ⟨rfl, h⟩
    rw [if_pos (by omega), pkw_congr _ h]
/-- the packed word is the constant where the letters are the word -/
theorem wv_lw {T : Nat → Int32} {e B wi : Nat} (hw : wi < 6) : lg_cmp (wv T B (rn ltr T e B - B)) (cst wi) = 0 ↔ lw T e B wi = true := by
  have hg := wb_ok hw
  have hl : ∀ j, j < rn ltr T e B - B → ∃ k, 97 ≤ k ∧ k ≤ 122 ∧ T (B + j) = nI k := fun j hj => ltr_nI (rn_in (P := ltr) (T := T) (e := e) (p := B) (by omega) (by omega))
  rw [lg_eq, cst_ok hw]
  unfold lw isw
  generalize rn ltr T e B - B = m at hl
  have hv : ∀ j, j < m → ∃ k, 97 ≤ k ∧ k ≤ 122 ∧ T (B + j) = nI k ∧ lt8 T B j = k := fun j hj => by
    obtain ⟨k, h1, h2, e⟩ := hl j hj
    refine ⟨k, h1, h2, e, ?_⟩
    unfold lt8
    rw [e, nI_clamp (by omega)]
  rw [wv_eq hw (fun j hj => by
    obtain ⟨k, h1, h2, -, e⟩ := hv j hj
    omega)]
  constructor
  · rintro ⟨r1, r2⟩
    refine decide_eq_true ⟨r1, fun j hj => ?_⟩
    obtain ⟨k, h1, h2, e1, e2⟩ := hv j (by omega)
    rw [e1, (hg j hj).2, ← r2 j (by omega), e2]
  · intro h
    obtain ⟨r1, r2⟩ := of_decide_eq_true h
    refine ⟨r1, fun j hj => ?_⟩
    unfold lt8 wbN
    rw [r2 j (by omega)]
