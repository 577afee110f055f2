/-! ===== what a tank gives: numbers ===== -/
theorem nI_ad (a b : Nat) : nI a + nI b = nI (a + b) := (Int32.ofNat_add a b).symm
theorem nI_mul (a b : Nat) : nI a * nI b = nI (a * b) := (Int32.ofNat_mul a b).symm
theorem nI_sub {a b : Nat} (h : b ≤ a) : nI a - nI b = nI (a - b) := by
  have : nI a = nI (a - b) + nI b := by rw [nI_ad]; congr 1; omega
  rw [this, Int32.add_sub_cancel]
theorem nI_div {x y : Nat} (hx : x < 2 ^ 31) (hy : y < 2 ^ 31) : nI x / nI y = nI (x / y) := by
  apply Int32.toInt_inj.mp
  have hd : x / y < 2 ^ 31 := Nat.lt_of_le_of_lt (Nat.div_le_self x y) hx
  rw [Int32.toInt_div, nI_toInt hx, nI_toInt hy, nI_toInt hd]
  rw [Int.tdiv_eq_ediv_of_nonneg (by omega)]
  have e : (x : Int) / (y : Int) = ((x / y : Nat) : Int) := rfl
  rw [e]
  generalize x / y = d at hd ⊢
  rw [Int.bmod_eq_of_le] <;> omega
theorem nI_mod {x y : Nat} (hx : x < 2 ^ 31) (hy : y < 2 ^ 31) : nI x - nI x / nI y * nI y = nI (x % y) := by
  rw [nI_div hx hy, nI_mul, nI_sub (Nat.div_mul_le_self x y)]
  congr 1
  have := Nat.div_add_mod x y
  rw [Nat.mul_comm] at this
  omega
def up (R : Nat → Nat) (b x : Nat) : Nat → Nat := fun f => if f = b then x else R f
def upB (R : Nat → Bool) (b : Nat) (x : Bool) : Nat → Bool := fun f => if f = b then x else R f
def sN (R : Nat → Nat) : List Nat → Nat
  | [] => 0
  | f :: l => R f + sN R l
/-- the class's choice of the greatest remainder -/
def pkC (R : Nat → Nat) : List Nat → Option Nat → Nat → Option Nat
  | [], b, _ => b
  | f :: l, b, g => if R f ≤ g then pkC R l b g else pkC R l (some f) (R f)
/-- the reference's -/
def pkM (r : Nat → Nat) (M : Nat → Bool) : List Nat → Option Nat → Option Nat
  | [], b => b
  | f :: l, b => if M f then pkM r M l b else match b with
    | none => pkM r M l (some f)
    | some x => if r f ≤ r x then pkM r M l (some x) else pkM r M l (some f)
theorem pkM_c {r : Nat → Nat} {M : Nat → Bool} {f : Nat} {l : List Nat} {b : Option Nat} : pkM r M (f :: l) b = if M f = true then pkM r M l b else match b with
    | none => pkM r M l (some f)
    | some x => if r f ≤ r x then pkM r M l (some x) else pkM r M l (some f) := by cases b <;> rfl
theorem pk_same {R r : Nat → Nat} {M : Nat → Bool} : ∀ (l : List Nat) (b : Option Nat) (g : Nat) (bM : Option Nat), (∀ f ∈ l, R f = if M f then 0 else r f) → ((b = none ∧ g = 0 ∧ ∀ x, bM = some x → r x = 0) ∨ (∃ x, b = some x ∧ bM = some x ∧ g = r x ∧ R x = g ∧ 0 < g)) → (pkC R l b g = none → ∀ f ∈ l, R f = 0) ∧ ∀ x, pkC R l b g = some x → pkM r M l bM = some x ∧ 0 < R x ∧ (x ∈ l ∨ b = some x) := by
  intro l
  induction l with
  | nil =>
    intro b g bM _ h2
    refine ⟨fun _ f hf => (by cases hf), fun x hx => ?_⟩
    rcases h2 with ⟨h, -, -⟩ | ⟨y, h3, h4, h5, h6, h7⟩
    · rw [pkC, h] at hx
      cases hx
    · rw [pkC, h3] at hx
      cases hx
      exact ⟨h4, by omega, Or.inr h3⟩
  | cons f l ih =>
    intro b g bM h1 h2
    have hf := h1 f List.mem_cons_self
    have h1' : ∀ x ∈ l, R x = if M x then 0 else r x := fun x hx => h1 x (List.mem_cons_of_mem _ hx)
    rw [pkC]
    by_cases e : R f ≤ g
    · rw [if_pos e]
      have key : ∃ bM', pkM r M (f :: l) bM = pkM r M l bM' ∧ ((b = none ∧ g = 0 ∧ ∀ x, bM' = some x → r x = 0) ∨ (∃ x, b = some x ∧ bM' = some x ∧ g = r x ∧ R x = g ∧ 0 < g)) := by
        rw [pkM_c]
        by_cases m : M f = true
        · exact ⟨bM, if_pos m, h2⟩
        · rw [if_neg m] at hf ⊢
          rcases h2 with ⟨h3, h4, h5⟩ | ⟨y, h3, h4, h5, h6, h7⟩
          · cases bM with
            | none => exact ⟨some f, rfl, Or.inl ⟨h3, h4, fun x hx => by cases hx; omega⟩⟩
            | some x =>
              have := h5 x rfl
              refine ⟨some x, ?_, Or.inl ⟨h3, h4, h5⟩⟩
              show (if r f ≤ r x then _ else _) = _
              rw [if_pos (by omega)]
          · subst h4
            refine ⟨some y, ?_, Or.inr ⟨y, h3, rfl, h5, h6, h7⟩⟩
            show (if r f ≤ r y then _ else _) = _
            rw [if_pos (by omega)]
      obtain ⟨bM', k1, k2⟩ := key
      rw [k1]
      obtain ⟨q1, q2⟩ := ih b g bM' h1' k2
      refine ⟨fun hn x hx => ?_, fun x hx => ?_⟩
      · rcases List.mem_cons.mp hx with rfl | hx
        · rcases k2 with ⟨h3, h4, -⟩ | ⟨y, h3, -⟩
          · omega
          · exfalso
            have : ∀ (l : List Nat) (y g : Nat), pkC R l (some y) g ≠ none := by
              intro l
              induction l with
              | nil => intro y g q; cases q
              | cons f l ih => intro y g; rw [pkC]; split; exact ih y g; exact ih f _
            rw [h3] at hn
            exact this _ _ _ hn
        · exact q1 hn x hx
      · obtain ⟨k3, k4, k5⟩ := q2 x hx
        refine ⟨k3, k4, ?_⟩
        rcases k5 with k5 | k5
        · exact Or.inl (List.mem_cons_of_mem _ k5)
        · exact Or.inr k5
    · rw [if_neg e]
      have m : ¬ M f = true := fun m => by rw [if_pos m] at hf; omega
      rw [if_neg m] at hf
      have key : pkM r M (f :: l) bM = pkM r M l (some f) := by
        rw [pkM_c, if_neg m]
        cases bM with
        | none => rfl
        | some x =>
          show (if r f ≤ r x then _ else _) = _
          rw [if_neg]
          rcases h2 with ⟨h3, h4, h5⟩ | ⟨y, h3, h4, h5, h6, h7⟩
          · have := h5 x rfl; omega
          · cases h4; omega
      rw [key]
      obtain ⟨q1, q2⟩ := ih (some f) (R f) (some f) h1' (Or.inr ⟨f, rfl, rfl, hf, rfl, by omega⟩)
      refine ⟨fun hn => ?_, fun x hx => ?_⟩
      · exfalso
        have : ∀ (l : List Nat) (y g : Nat), pkC R l (some y) g ≠ none := by
          intro l
          induction l with
          | nil => intro y g q; cases q
          | cons f l ih => intro y g; rw [pkC]; split; exact ih y g; exact ih f _
        exact this _ _ _ hn
      · obtain ⟨k3, k4, k5⟩ := q2 x hx
        refine ⟨k3, k4, Or.inl ?_⟩
        rcases k5 with k5 | k5
        · exact List.mem_cons_of_mem _ k5
        · cases k5; exact List.mem_cons_self
theorem sN_congr {R R' : Nat → Nat} : ∀ (l : List Nat), (∀ f ∈ l, R f = R' f) → sN R l = sN R' l := by
  intro l
  induction l with
  | nil => intro _; rfl
  | cons f l ih =>
    intro h
    rw [sN, sN, h f List.mem_cons_self, ih (fun x hx => h x (List.mem_cons_of_mem _ hx))]
theorem sN_up {R : Nat → Nat} {b : Nat} : ∀ (l : List Nat), l.Nodup → b ∈ l → sN R l = sN (up R b 0) l + R b := by
  intro l
  induction l with
  | nil => intro _ h; cases h
  | cons f l ih =>
    intro hd hb
    obtain ⟨d1, d2⟩ := List.nodup_cons.mp hd
    rw [sN, sN]
    by_cases e : f = b
    · subst e
      rw [sN_congr (R := up R f 0) (R' := R) l (fun x hx => by unfold up; rw [if_neg (fun q => d1 (by rw [← q]; exact hx))])]
      unfold up
      rw [if_pos rfl]
      omega
    · have hb' : b ∈ l := by
        rcases List.mem_cons.mp hb with q | q
        · exact absurd q.symm e
        · exact q
      rw [ih d2 hb']
      unfold up
      rw [if_neg e]
      omega
theorem sN_pos {R : Nat → Nat} : ∀ (l : List Nat), (∀ f ∈ l, R f = 0) → sN R l = 0 := by
  intro l
  induction l with
  | nil => intro _; rfl
  | cons f l ih =>
    intro h
    rw [sN, h f List.mem_cons_self, ih (fun x hx => h x (List.mem_cons_of_mem _ hx))]
/-- k more, one at a time -/
def pkN (l : List Nat) : Nat → (Nat → Nat) → (Nat → Nat) → (Nat → Nat)
  | 0, _, S => S
  | k + 1, R, S => match pkC R l none 0 with
    | none => S
    | some b => pkN l k (up R b 0) (up S b (S b + 1))
/-- there is always one that gets it -/
theorem pk_some {R : Nat → Nat} {l : List Nat} {k ar : Nat} (hd : l.Nodup) (h1 : (k + 1) * ar ≤ sN R l) (h2 : ∀ f ∈ l, R f < ar) (h3 : 0 < ar) : ∃ b, pkC R l none 0 = some b ∧ b ∈ l ∧ 0 < R b ∧ k * ar ≤ sN (up R b 0) l ∧ ∀ f ∈ l, up R b 0 f < ar := by
  obtain ⟨q1, q2⟩ := pk_same (R := R) (r := R) (M := fun _ => false) l none 0 none (fun f _ => rfl) (Or.inl ⟨rfl, rfl, fun x hx => by cases hx⟩)
  cases e : pkC R l none 0 with
  | none =>
    exfalso
    rw [sN_pos l (q1 e), Nat.succ_mul] at h1
    omega
  | some b =>
    obtain ⟨-, b1, b2⟩ := q2 b e
    have hb : b ∈ l := by
      rcases b2 with q | q
      · exact q
      · cases q
    refine ⟨b, rfl, hb, b1, ?_, fun f hf => ?_⟩
    · have := sN_up (R := R) l hd hb
      have := h2 b hb
      rw [Nat.succ_mul] at h1
      omega
    · unfold up
      split
      · exact h3
      · exact h2 f hf
/-- base shares and remainders -/
theorem sN_base {c : Nat → Nat} {g ar : Nat} : ∀ (l : List Nat), sN (fun f => g * c f / ar) l * ar + sN (fun f => g * c f % ar) l = g * sN c l := by
  intro l
  induction l with
  | nil => simp [sN]
  | cons f l ih =>
    rw [sN, sN, sN, Nat.mul_add, ← ih, Nat.add_mul]
    have := Nat.div_add_mod (g * c f) ar
    rw [Nat.mul_comm] at this
    omega
theorem sN_base_le {c : Nat → Nat} {g ar : Nat} {l : List Nat} (har : sN c l = ar) (h0 : 0 < ar) : sN (fun f => g * c f / ar) l ≤ g ∧ (g - sN (fun f => g * c f / ar) l) * ar = sN (fun f => g * c f % ar) l := by
  have h := sN_base (c := c) (g := g) (ar := ar) l
  rw [har] at h
  have h1 : sN (fun f => g * c f / ar) l ≤ g := by
    refine Nat.le_of_mul_le_mul_right (c := ar) ?_ h0
    omega
  refine ⟨h1, ?_⟩
  rw [Nat.mul_sub_right_distrib]
  omega
