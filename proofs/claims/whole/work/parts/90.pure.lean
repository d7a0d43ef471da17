theorem law_pure (L : Nat) (xs : Nat → Int32) (hL : L ≤ 2560) : ∃ S, FL_law_18 L xs FU 0 S0 = some (1, S) := sorry
