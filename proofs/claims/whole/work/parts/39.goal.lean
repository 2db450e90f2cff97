/-- the pure statement -/
theorem pure_law (L : Nat) (xs : Nat → Int32) (hL : L ≤ 3072) : w_L_law L xs pm_0 := pure_run L xs hL
