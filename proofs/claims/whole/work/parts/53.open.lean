/-! ranges, and what the reference's small readers say -/
theorem i64_le (x y : Int32) : x.toInt64 ≤ y.toInt64 ↔ x ≤ y := by
  rw [Int64.le_iff_toInt_le, Int32.le_iff_toInt_le, Int32.toInt_toInt64, Int32.toInt_toInt64]
theorem i64_lt (x y : Int32) : x.toInt64 < y.toInt64 ↔ x < y := by
  rw [Int64.lt_iff_toInt_lt, Int32.lt_iff_toInt_lt, Int32.toInt_toInt64, Int32.toInt_toInt64]
theorem b_in (a x y : Int32) (σ : St) : p_X10_in a.toInt64 x.toInt64 y.toInt64 σ = if a < x ∨ y < a then 0 else 1 := by
  unfold p_X10_in j_X10_in_17
  by_cases h1 : a < x
  · rw [if_pos ((lg_cmp_lt _ _).mpr ((i64_lt _ _).mpr h1)), if_pos (Or.inl h1)]
  · rw [if_neg (fun h => h1 ((i64_lt _ _).mp ((lg_cmp_lt _ _).mp h)))]
    by_cases h2 : y < a
    · rw [if_pos ((lg_cmp_gt _ _).mpr ((i64_lt _ _).mpr h2)), if_pos (Or.inr h2)]
    · rw [if_neg (fun h => h2 ((i64_lt _ _).mp ((lg_cmp_gt _ _).mp h))), if_neg (by rintro (h | h); exact h1 h; exact h2 h)]
theorem nI_nlt_lt {a n : Nat} (h : a < n) (hn : n < 2 ^ 31) : ¬ (nI a < (0 : Int32) ∨ nI (n - 1) < nI a) := by
  rintro (e | e)
  · exact nI_pos (by omega) e
  · rw [nI_lt_iff (by omega) (by omega)] at e
    omega
/-- a place that one has, or has not -/
theorem b_in_lt {a n : Nat} (h : a < n) (hn : n < 2 ^ 31) (σ : St) : p_X10_in (nI a).toInt64 0 ((nI n - 1).toInt64) σ = 1 := by
  have e : (nI n - 1 : Int32) = nI (n - 1) := by
    show nI n - nI 1 = _
    exact nI_sub (by omega)
  rw [e]
  show p_X10_in (nI a).toInt64 (0 : Int32).toInt64 (nI (n - 1)).toInt64 σ = 1
  rw [b_in, if_neg (nI_nlt_lt h hn)]
theorem b_in_out {x : Int32} {n : Nat} (h : x < 0 ∨ nI n ≤ x) (hn : n < 2 ^ 31) (σ : St) : p_X10_in x.toInt64 0 ((nI n - 1).toInt64) σ = 0 := by
  show p_X10_in x.toInt64 (0 : Int32).toInt64 (nI n - 1).toInt64 σ = 0
  rw [b_in, if_pos]
  rcases h with h | h
  · exact Or.inl h
  · right
    rcases int_cases x with h0 | ⟨q, hq, rfl⟩
    · exfalso
      have h1 : (0 : Int32) ≤ nI n := nI_le (a := 0) (by omega) hn
      exact absurd (Int32.lt_of_le_of_lt (Int32.le_trans h1 h) h0) (by decide)
    · rw [nI_le_iff hn hq] at h
      by_cases hz : n = 0
      · subst hz
        have e : (nI 0 - 1 : Int32) < 0 := by decide
        have e2 : (0 : Int32) ≤ nI q := nI_le (a := 0) (by omega) hq
        exact Int32.lt_of_lt_of_le e e2
      · have e : (nI n - 1 : Int32) = nI (n - 1) := by
          show nI n - nI 1 = _
          exact nI_sub (by omega)
        rw [e, nI_lt_iff (by omega) hq]
        omega
section RB
variable {D : LD} {r : RD} {σ : St} {N : Nat}
theorem w_nI {c : Nat → Int32} {x : Nat} (h : x < 2 ^ 31) : c (nI x).toNatClampNeg = c x := by rw [nI_clamp h]
theorem b_cka {β : Type} {x n : Nat} (o : Option β) (h : x < n) (hn : n < 2 ^ 31) : ckA (nI x) n o = o := ckA_in o (nI_vp h hn)
theorem one_0 (σ : St) : p_X10_one 0 σ = 0 := rfl
theorem one_1 (σ : St) : p_X10_one 1 σ = 1 := rfl
theorem shl_0 {p : Nat} (h : p < 32) : (0 : Int32) <<< (nI p &&& 31) = 0 := by
  rw [shl_and h]
  have h1 : ∀ p : Fin 32, (0 : Int32) <<< (nI p.val) = 0 := by decide +kernel
  exact h1 ⟨p, h⟩
theorem b_isKeeper_in (hb : LandB D σ) (ho : LandOk D) {k : Nat} (hk : k < nK D) : o_X10_isKeeper N (nI k) σ = some (1, σ) := by
  have h3 := ho.k3
  unfold o_X10_isKeeper
  rw [hb.1.2.2.1, b_in_lt hk (by omega)]
  rfl
theorem b_isKeeper_out (hb : LandB D σ) (ho : LandOk D) {x : Int32} (hx : x < 0 ∨ nI (nK D) ≤ x) : o_X10_isKeeper N x σ = some (0, σ) := by
  have h3 := ho.k3
  unfold o_X10_isKeeper
  rw [hb.1.2.2.1, b_in_out hx (by omega)]
  rfl
theorem a_hasKeeper_in (ha : LandA D σ) (ho : LandOk D) {k : Nat} (hk : k < nK D) : p_X5_hasKeeper (nI k) σ = 1 := by
  have h3 := ho.k3
  unfold p_X5_hasKeeper
  rw [ha.1.2.2.1, if_neg (nI_pos (by omega)), if_neg (nI_ge hk (by omega))]
theorem a_hasKeeper_out (ha : LandA D σ) {x : Int32} (hx : x < 0 ∨ nI (nK D) ≤ x) : p_X5_hasKeeper x σ = 0 := by
  unfold p_X5_hasKeeper j_X5_hasKeeper_16
  rw [ha.1.2.2.1]
  by_cases h : x < 0
  · rw [if_pos h]
  · rw [if_neg h, if_pos (hx.resolve_left h)]
theorem a_hasPromise_in (ha : LandA D σ) (ho : LandOk D) {p : Nat} (hp : p < nP D) : p_X5_hasPromise (nI p) σ = 1 := by
  have h3 := ho.p7
  unfold p_X5_hasPromise
  rw [ha.1.2.2.2, if_neg (nI_pos (by omega)), if_neg (nI_ge hp (by omega))]
theorem a_hasPromise_out (ha : LandA D σ) {x : Int32} (hx : x < 0 ∨ nI (nP D) ≤ x) : p_X5_hasPromise x σ = 0 := by
  unfold p_X5_hasPromise j_X5_hasPromise_16
  rw [ha.1.2.2.2]
  by_cases h : x < 0
  · rw [if_pos h]
  · rw [if_neg h, if_pos (hx.resolve_left h)]
theorem b_how (hr : RowB D r (σ 80) 0) {p : Nat} (hp : p < nP D) : σ 80 p = nI (r 1 p) := by
  have h := (hr.2.1 p hp).1
  rw [Nat.zero_add] at h
  exact h
theorem b_whose (hr : RowB D r (σ 80) 0) {p : Nat} (hp : p < nP D) : σ 80 (14 + p) = nI (r 3 p) := by
  have h := (hr.2.1 p hp).2.2.1
  rw [Nat.zero_add] at h
  exact h
/-- the set of those whom a test takes -/
abbrev wayS (D : LD) (r : RD) (w : Int32) : Int32 := mset (fun q => decide (nI (r 1 q) = w)) (nP D)
abbrev ownS (D : LD) (r : RD) (k : Int32) : Int32 := mset (fun q => decide (nI (r 3 q) = k)) (nP D)
theorem a_heldBy_loop (ho : LandOk D) (ha : LandA D σ) (hr : RowA D r (σ 24)) (v1 : Int32) : ∀ (d n p : Nat), p + d = nP D → d < n →
    l_X1_heldBy_4 N n v1 (mset (fun q => decide (nI (r 3 q) = v1)) p) (nI p) σ = some (ownS D r v1, σ)
  | d, 0, p, _, hn => absurd hn (Nat.not_lt_zero _)
  | 0, n + 1, p, hp, _ => by
    have h7 := ho.p7
    rw [l_X1_heldBy_4, ha.1.2.2.2, if_pos (nI_le (by omega) (by omega))]
    have e : p = nP D := by omega
    rw [e]
  | d + 1, n + 1, p, hp, hn => by
    have h7 := ho.p7
    have hlt : p < nP D := by omega
    rw [l_X1_heldBy_4, ha.1.2.2.2, if_neg (nI_ge hlt (by omega)), a_holder ho hr hlt]
    have ih := a_heldBy_loop ho ha hr v1 d n (p + 1) (by omega) (by omega)
    rw [mset] at ih
    by_cases h : nI (r 3 p) = v1
    · rw [if_pos h]
      rw [if_pos (by simpa using h)] at ih
      show l_X1_heldBy_4 N n v1 _ (nI p + 1) σ = _
      rw [← nI_succ]
      exact ih
    · rw [if_neg h]
      rw [if_neg (by simpa using h)] at ih
      show l_X1_heldBy_4 N n v1 _ (nI p + 1) σ = _
      rw [← nI_succ]
      exact ih
theorem a_heldBy (ho : LandOk D) (ha : LandA D σ) (hr : RowA D r (σ 24)) (hN : 100 ≤ N) (v1 : Int32) : o_X1_heldBy N v1 σ = some (ownS D r v1, σ) := by
  have h7 := ho.p7
  exact a_heldBy_loop ho ha hr v1 (nP D) N 0 (by omega) (by omega)
theorem a_openOf (ho : LandOk D) (ha : LandA D σ) (hr : RowA D r (σ 24)) (hN : 100 ≤ N) (v1 : Int32) : o_X1_openOf N v1 σ = some (ownS D r v1 &&& wayS D r 0, σ) := by
  unfold o_X1_openOf
  rw [a_heldBy ho ha hr hN, bd_some, a_setOf ho ha hr hN, bd_some]
theorem b_inWay_loop (ho : LandOk D) (hb : LandB D σ) (hr : RowB D r (σ 80) 0) (v1 : Int32) : ∀ (d n p : Nat), p + d = nP D → d < n →
    l_X10_inWay_4 N n v1 (mset (fun q => decide (nI (r 1 q) = v1)) p) (nI p) σ = some (wayS D r v1, σ)
  | d, 0, p, _, hn => absurd hn (Nat.not_lt_zero _)
  | 0, n + 1, p, hp, _ => by
    have h7 := ho.p7
    rw [l_X10_inWay_4, hb.1.2.2.2, if_pos (nI_le (by omega) (by omega))]
    have e : p = nP D := by omega
    rw [e]
  | d + 1, n + 1, p, hp, hn => by
    have h7 := ho.p7
    have hlt : p < nP D := by omega
    rw [l_X10_inWay_4, hb.1.2.2.2, if_neg (nI_ge hlt (by omega)), b_cka _ (by omega) (by decide), w_nI (c := σ 80) (by omega), b_how hr hlt]
    have ih := b_inWay_loop ho hb hr v1 d n (p + 1) (by omega) (by omega)
    rw [mset] at ih
    by_cases h : nI (r 1 p) = v1
    · rw [if_pos h]
      rw [if_pos (by simpa using h)] at ih
      show l_X10_inWay_4 N n v1 _ (nI p + 1) σ = _
      rw [← nI_succ]
      exact ih
    · rw [if_neg h]
      rw [if_neg (by simpa using h)] at ih
      show l_X10_inWay_4 N n v1 (_ ||| (0 : Int32) <<< (nI p &&& 31)) (nI p + 1) σ = _
      rw [← nI_succ, shl_0 (by omega)]
      exact ih
theorem b_inWay (ho : LandOk D) (hb : LandB D σ) (hr : RowB D r (σ 80) 0) (hN : 100 ≤ N) (v1 : Int32) : o_X10_inWay N v1 σ = some (wayS D r v1, σ) := by
  have h7 := ho.p7
  exact b_inWay_loop ho hb hr v1 (nP D) N 0 (by omega) (by omega)
theorem b_ofKeeper_loop (ho : LandOk D) (hb : LandB D σ) (hr : RowB D r (σ 80) 0) (v1 : Int32) : ∀ (d n p : Nat), p + d = nP D → d < n →
    l_X10_ofKeeper_4 N n v1 (mset (fun q => decide (nI (r 3 q) = v1)) p) (nI p) σ = some (ownS D r v1, σ)
  | d, 0, p, _, hn => absurd hn (Nat.not_lt_zero _)
  | 0, n + 1, p, hp, _ => by
    have h7 := ho.p7
    rw [l_X10_ofKeeper_4, hb.1.2.2.2, if_pos (nI_le (by omega) (by omega))]
    have e : p = nP D := by omega
    rw [e]
  | d + 1, n + 1, p, hp, hn => by
    have h7 := ho.p7
    have hlt : p < nP D := by omega
    have e14 : (14 : Int32) + nI p = nI (14 + p) := nI_add 14 p
    rw [l_X10_ofKeeper_4, hb.1.2.2.2, if_neg (nI_ge hlt (by omega)), e14, b_cka _ (by omega) (by decide), w_nI (c := σ 80) (by omega), b_whose hr hlt]
    have ih := b_ofKeeper_loop ho hb hr v1 d n (p + 1) (by omega) (by omega)
    rw [mset] at ih
    by_cases h : nI (r 3 p) = v1
    · rw [if_pos h]
      rw [if_pos (by simpa using h)] at ih
      show l_X10_ofKeeper_4 N n v1 _ (nI p + 1) σ = _
      rw [← nI_succ]
      exact ih
    · rw [if_neg h]
      rw [if_neg (by simpa using h)] at ih
      show l_X10_ofKeeper_4 N n v1 (_ ||| (0 : Int32) <<< (nI p &&& 31)) (nI p + 1) σ = _
      rw [← nI_succ, shl_0 (by omega)]
      exact ih
theorem b_ofKeeper (ho : LandOk D) (hb : LandB D σ) (hr : RowB D r (σ 80) 0) (hN : 100 ≤ N) (v1 : Int32) : o_X10_ofKeeper N v1 σ = some (ownS D r v1, σ) := by
  have h7 := ho.p7
  exact b_ofKeeper_loop ho hb hr v1 (nP D) N 0 (by omega) (by omega)
theorem b_openOf (ho : LandOk D) (hb : LandB D σ) (hr : RowB D r (σ 80) 0) (hN : 100 ≤ N) (v1 : Int32) : o_X10_openOf N v1 σ = some (ownS D r v1 &&& wayS D r 0, σ) := by
  unfold o_X10_openOf
  rw [b_ofKeeper ho hb hr hN, bd_some, b_inWay ho hb hr hN, bd_some]
end RB
