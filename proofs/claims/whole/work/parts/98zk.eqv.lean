/-- class and reference answer alike, over every script -/
theorem eqv (L : Nat) (xs : Nat → Int32) (hL : L ≤ 2048) : ∃ N w, l_L_law_18 N L xs N 0 cz_2 = some (1, w) := by
  have key : ∀ (u N : Nat), u + 20000 ≤ N → 7000 ≤ N ∧ u + 2 ≤ N := fun u N h => ⟨by omega, by omega⟩
  obtain ⟨N, hN⟩ : ∃ N, N = UB 9 + 20000 := ⟨_, rfl⟩
  have hU : UB 9 + 20000 ≤ N := Nat.le_of_eq hN.symm
  have h1 := key (UB 9) N hU
  obtain ⟨w, hw⟩ := eqv_of hU (s_hands h1.1 h1.2) (s_share h1.1) L xs hL
  exact ⟨N, w, hw⟩
