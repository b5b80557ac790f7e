theorem pure_claim (L : Nat) (xs : Nat → Int32) (hL : L ≤ 2560) : xt_law L xs = some 1 := sorry
