/-- what the law asks holds of every script -/
theorem pure_law (n : Nat) (xs : Nat → Int32) (h : n ≤ 2560) : p_L_law n xs (fun r => r = 1) := by
  sorry
