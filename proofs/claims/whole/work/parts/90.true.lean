/-- the law's loop answers 1 on every script -/
theorem law_true (xs : Nat → Int32) (L : Nat) (hL : L ≤ 2560) : fl_L_law_18 xs L (s0, 0) = some 1 := sorry
