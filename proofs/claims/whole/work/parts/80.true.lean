/-- LAYER 2: the law, as a function, comes to its end for every script -/
theorem law_true (b L : Nat) (xs : Nat → Int32) (a : Nat) (hL : L ≤ 2560) : ∃ o, L_law L xs (b, fun _ => none) a = some o := sorry
