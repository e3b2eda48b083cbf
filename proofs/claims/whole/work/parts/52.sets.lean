section SETS
variable {D : LD} {r : RD} {σ : St} {N : Nat}
theorem a_setOf_loop (ho : LandOk D) (ha : LandA D σ) (hr : RowA D r (σ 24)) (v1 : Int32) : ∀ (d n p : Nat), p + d = nP D → d < n →
    l_X1_setOf_4 N n v1 (mset (fun q => decide (nI (r 1 q) = v1)) p) (nI p) σ = some (mset (fun q => decide (nI (r 1 q) = v1)) (nP D), σ)
  | d, 0, p, _, hn => absurd hn (Nat.not_lt_zero _)
  | 0, n + 1, p, hp, _ => by
    have h7 := ho.p7
    rw [l_X1_setOf_4, ha.1.2.2.2, if_pos (nI_le (by omega) (by omega))]
    have e : p = nP D := by omega
    rw [e]
  | d + 1, n + 1, p, hp, hn => by
    have h7 := ho.p7
    have hlt : p < nP D := by omega
    rw [l_X1_setOf_4, ha.1.2.2.2, if_neg (nI_ge hlt (by omega)), a_how ho hr hlt]
    have ih := a_setOf_loop ho ha hr v1 d n (p + 1) (by omega) (by omega)
    rw [mset] at ih
    by_cases h : nI (r 1 p) = v1
    · rw [if_pos h]
      rw [if_pos (by simpa using h)] at ih
      show l_X1_setOf_4 N n v1 _ (nI p + 1) σ = _
      rw [← nI_succ]
      exact ih
    · rw [if_neg h]
      rw [if_neg (by simpa using h)] at ih
      show l_X1_setOf_4 N n v1 _ (nI p + 1) σ = _
      rw [← nI_succ]
      exact ih
theorem a_setOf (ho : LandOk D) (ha : LandA D σ) (hr : RowA D r (σ 24)) (hN : 100 ≤ N) (v1 : Int32) : o_X1_setOf N v1 σ = some (mset (fun q => decide (nI (r 1 q) = v1)) (nP D), σ) := by
  have h7 := ho.p7
  exact a_setOf_loop ho ha hr v1 (nP D) N 0 (by omega) (by omega)
end SETS
