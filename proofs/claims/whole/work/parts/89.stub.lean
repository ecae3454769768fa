theorem law_ok (L : Nat) (xs : Nat → Int32) (hL : L ≤ 2560) : ∃ F μ2, f_law F L xs μI = some (1, μ2) := sorry
