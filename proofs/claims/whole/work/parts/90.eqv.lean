/-- class and reference answer alike, over every script -/
theorem eqv (L : Nat) (xs : Nat → Int32) (hL : L ≤ 2048) : ∃ N w, l_L_law_18 N L xs N 0 cz_2 = some (1, w) := by
  sorry
