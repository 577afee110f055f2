/-- the law's function answers for every script -/
theorem fun_ok (xs : Nat → Int32) (L : Nat) (hL : L ≤ 3073) (z : Nat) : ∃ hh, f_L_law xs L (z, fun _ => none, fun _ _ => 0, fun _ _ => none) = some ((), hh) := sorry
