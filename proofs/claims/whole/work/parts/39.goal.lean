def pm_0 : pm_M := (fun _ _ => 0, fun _ _ => 0, fun _ _ => none, fun _ => 0, fun _ => 0, 0)
/-- WHAT IS LEFT: the pure statement -/
theorem pure_law (L : Nat) (xs : Nat → Int32) (hL : L ≤ 3072) : w_L_law L xs pm_0 := by
  sorry
