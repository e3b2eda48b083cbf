/-! long numbers; draws -/
abbrev nL (n : Nat) : Int64 := Int64.ofNat n
theorem nL_toInt {n : Nat} (h : n < 2 ^ 63) : (nL n).toInt = n := Int64.toInt_ofNat_of_lt h
theorem nL_of {s : Nat} (h : s < 2 ^ 31) : (nI s).toInt64 = nL s := Int64.toInt_inj.mp (by rw [Int32.toInt_toInt64, nI_toInt h, nL_toInt (by omega)])
theorem nL_mul (a b : Nat) : nL a * nL b = nL (a * b) := (Int64.ofNat_mul a b).symm
theorem nL_add (a b : Nat) : nL a + nL b = nL (a + b) := (Int64.ofNat_add a b).symm
theorem nL_sub {a b : Nat} (h : b ≤ a) : nL a - nL b = nL (a - b) := by
  have e : nL a = nL (a - b) + nL b := by
    rw [nL_add]
    congr 1
    omega
  rw [e, Int64.add_sub_cancel]
theorem nL_div {a b : Nat} (ha : a < 2 ^ 63) (hb : b < 2 ^ 63) : nL a / nL b = nL (a / b) := by
  apply Int64.toInt_inj.mp
  have hd : a / b ≤ a := Nat.div_le_self a b
  rw [Int64.toInt_div, nL_toInt ha, nL_toInt hb, nL_toInt (by omega)]
  show (((a / b : Nat) : Int)).bmod (2 ^ 64) = _
  generalize a / b = q at hd ⊢
  exact Int.bmod_eq_of_le (by omega) (by omega)
theorem nL_mod {a b : Nat} (ha : a < 2 ^ 63) (hb : b < 2 ^ 63) : nL a - nL a / nL b * nL b = nL (a % b) := by
  rw [nL_div ha hb, nL_mul, nL_sub (Nat.div_mul_le_self a b)]
  congr 1
  have := Nat.mod_add_div' a b
  omega
theorem nL_and {a : Nat} (h : a < 2 ^ 63) : nL a &&& 2147483647 = nL (a % 2147483648) := by
  apply Int64.toBitVec_inj.mp
  apply BitVec.eq_of_toNat_eq
  have e1 : (2147483647 : Int64).toBitVec.toNat = 2 ^ 31 - 1 := by decide
  have e2 : ∀ n, n < 2 ^ 63 → (nL n).toBitVec.toNat = n := by
    intro n hn
    show (BitVec.ofNat 64 n).toNat = n
    rw [BitVec.toNat_ofNat, Nat.mod_eq_of_lt (by omega)]
  rw [Int64.toBitVec_and, BitVec.toNat_and, e1, Nat.and_two_pow_sub_one_eq_mod, e2 a h, e2 _ (by omega)]
theorem nL_int (n : Nat) : (nL n).toInt32 = nI n := Int64.toInt32_ofNat'
/-- chosen, not told, so that no check counts so far up -/
theorem nxS_ex (s : Nat) : ∃ u, u = (s * 1103515245 + 12345) % 2147483648 := ⟨_, rfl⟩
noncomputable def nxS (s : Nat) : Nat := (nxS_ex s).choose
theorem nxS_eq (s : Nat) : nxS s = (s * 1103515245 + 12345) % 2147483648 := (nxS_ex s).choose_spec
theorem nxS_lt (s : Nat) : nxS s < 2 ^ 31 := by
  rw [nxS_eq]
  exact Nat.mod_lt _ (by decide)
noncomputable def drV (D : LD) (s : Nat) : Nat := nxS s / 65536 % (2 * nT D)
section DRAW
variable {D : LD} {r : RD} {N : Nat}
theorem draw_mod {x t : Nat} (hx : x < 2 ^ 31) (ht : 1 ≤ t) (h5 : t ≤ 5) : nI x / 65536 - nI x / 65536 / nI (2 * t) * nI (2 * t) = nI (x / 65536 % (2 * t)) := by
  have e : nI x / 65536 = nI (x / 65536) := nI_div (a := x) (b := 65536) hx (by omega)
  rw [e, nI_mod (by omega) (by omega)]
theorem a_draw {σ : St} {s : Nat} (ho : LandOk D) (hT : 1 ≤ nT D) (hs : s < 2 ^ 31) (h : σ 62 0 = nI s) : o_X2_draw N (nI (2 * nT D)) σ = some (nI (drV D s), st σ 62 0 (nI (nxS s))) := by
  have h5 := ho.t5
  have hx := nxS_lt s
  have e : (((nI s).toInt64 * 1103515245 + 12345) &&& 2147483647).toInt32 = nI (nxS s) := by
    rw [nL_of hs]
    show ((nL s * nL 1103515245 + nL 12345) &&& 2147483647).toInt32 = _
    rw [nL_mul, nL_add, nL_and (by omega), nL_int, nxS_eq]
  have hp : (0 : Int32) < nI (2 * nT D) := (nI_lt_iff (a := 0) (b := 2 * nT D) (by omega) (by omega)).mpr (by omega)
  have hne : ¬ nI (2 * nT D) = 0 := fun e => absurd ((nI_eq (a := 2 * nT D) (b := 0) (by omega) (by omega)).mp e) (by omega)
  unfold o_X2_draw bt ckDI
  dsimp only
  rw [h, e, if_pos hp, if_neg hne, st_same, draw_mod hx hT h5]
  rfl
theorem b_draw {τ : St} {s : Nat} (ho : LandOk D) (hT : 1 ≤ nT D) (hs : s < 2 ^ 31) (h : τ 80 38 = nI s) : o_X10_draw N (nI (2 * nT D)) τ = some (nI (drV D s), st τ 80 38 (nI (nxS s))) := by
  have h5 := ho.t5
  have hx := nxS_lt s
  have c38 : (38 : Int32).toNatClampNeg = 38 := rfl
  have e : (((nI s).toInt64 * 1103515245 + 12345) - ((nI s).toInt64 * 1103515245 + 12345) / 2147483648 * 2147483648).toInt32 = nI (nxS s) := by
    rw [nL_of hs]
    show ((nL s * nL 1103515245 + nL 12345) - (nL s * nL 1103515245 + nL 12345) / nL 2147483648 * nL 2147483648).toInt32 = _
    rw [nL_mul, nL_add, nL_mod (by omega) (by omega), nL_int, nxS_eq]
  have hne : ¬ nI (2 * nT D) = 0 := fun e => absurd ((nI_eq (a := 2 * nT D) (b := 0) (by omega) (by omega)).mp e) (by omega)
  unfold o_X10_draw bt ckDI
  dsimp only
  rw [c38, h, e, if_neg hne, st_same, draw_mod hx hT h5]
  rfl
/-- what a keeper does by draws: it keeps all that it can, rising; then it may go -/
def kdR (D : LD) (r : RD) (k : Nat) : Nat → RD
  | 0 => r
  | p + 1 => if kdR D r k p 3 p = k ∧ canV D (kdR D r k p) p = true then kpR (kdR D r k p) p else kdR D r k p
def kbR (D : LD) (r : RD) (k t : Nat) : RD := if t < nT D ∧ goV D (kdR D r k (nP D)) k t = true then goR D (kdR D r k (nP D)) k t else kdR D r k (nP D)
theorem kdR_s (k p : Nat) : kdR D r k (p + 1) = if kdR D r k p 3 p = k ∧ canV D (kdR D r k p) p = true then kpR (kdR D r k p) p else kdR D r k p := rfl
theorem kdR_ok (ho : LandOk D) (hO : RowOk D r) (k : Nat) : ∀ (n : Nat), n ≤ nP D → RowOk D (kdR D r k n) ∧ kdR D r k n 0 0 = r 0 0
  | 0, _ => ⟨hO, rfl⟩
  | n + 1, hn => by
    obtain ⟨i1, i2⟩ := kdR_ok ho hO k n (by omega)
    rw [kdR_s]
    by_cases c : kdR D r k n 3 n = k ∧ canV D (kdR D r k n) n = true
    · rw [if_pos c]
      exact ⟨kpR_ok ho (by omega) c.2 i1, i2⟩
    · rw [if_neg c]
      exact ⟨i1, i2⟩
theorem goV_far {k b : Nat} (h : goV D r k b = true) : ¬ D 7 (5 * r 4 k + b) = 1000 := by
  intro e
  unfold goV at h
  rw [decide_eq_true e] at h
  simp at h
theorem kbR_ok (ho : LandOk D) (hO : RowOk D r) {k t : Nat} (hk : k < nK D) : RowOk D (kbR D r k t) ∧ kbR D r k t 0 0 = r 0 0 := by
  obtain ⟨i1, i2⟩ := kdR_ok ho hO k (nP D) (Nat.le_refl _)
  unfold kbR
  by_cases c : t < nT D ∧ goV D (kdR D r k (nP D)) k t = true
  · rw [if_pos c]
    exact ⟨goR_ok (goR_in ⟨ho, i1.1⟩ hk c.1 (goV_far c.2)) i1, i2⟩
  · rw [if_neg c]
    exact ⟨i1, i2⟩
theorem a_drawFor_loop (ho : LandOk D) (hO : RowOk D r) {k s : Nat} (hk : k < nK D) (hs : s < 2 ^ 31) : ∀ (c n p : Nat) (σ : St), LandA D σ → RowA D (kdR D r k p) (σ 24) → σ 62 0 = nI s → p + c = nP D → c < n →
    ∃ w, l_X9_drawFor_14 N n (nI k) (nI p) σ = some ((), w) ∧ RowA D (kbR D r k (drV D s)) (w 24) ∧ w 62 0 = nI (nxS s) ∧ ∀ a, ¬ (a = 24 ∨ a = 62) → w a = σ a
  | c, 0, p, _, _, _, _, _, hn => absurd hn (Nat.not_lt_zero _)
  | 0, n + 1, p, σ, ha, hr, h62, hp, _ => by
    have h7 := ho.p7
    have h5 := ho.t5
    have hT : 1 ≤ nT D := by have := (ho.ke hk).2; omega
    have e : p = nP D := by omega
    obtain ⟨i1, i2⟩ := kdR_ok ho hO k p (by omega)
    have l1 : LandA D (st σ 62 0 (nI (nxS s))) := LandA_of (fun a ha => st_cell (by omega)) ha
    have r1 : RowA D (kdR D r k p) (st σ 62 0 (nI (nxS s)) 24) := by
      rw [st_cell (by decide)]
      exact hr
    have g : RlA D (kdR D r k p) (st σ 62 0 (nI (nxS s))) := ⟨ho, l1, r1, i1.1⟩
    have e2 : (2 : Int32) * nI (nT D) = nI (2 * nT D) := nI_mul 2 (nT D)
    have hlt : drV D s < 2 * nT D := Nat.mod_lt _ (by omega)
    rw [l_X9_drawFor_14, ha.1.2.2.2, if_pos (nI_le (by omega) (by omega)), ha.1.1, e2, a_draw ho hT hs h62, bd_some]
    unfold kbR
    rw [e] at g r1
    by_cases c1 : drV D s < nT D
    · rw [a_hasTown_in l1 ho c1, if_neg one_ne, a_depart g hk c1]
      unfold bt
      cases hg : goV D (kdR D r k (nP D)) k (drV D s)
      · refine ⟨st σ 62 0 (nI (nxS s)), rfl, ?_, st_same, fun a ha => st_cell (by omega)⟩
        rw [if_neg (fun x => by cases x.2)]
        exact r1
      · refine ⟨st (st (st σ 62 0 (nI (nxS s))) 24 (22 + k) (nI (drV D s))) 24 (25 + k) (nI (kdR D r k (nP D) 0 0 + D 7 (5 * kdR D r k (nP D) 4 k + drV D s))), rfl, ?_, ?_, fun a ha => ?_⟩
        · rw [if_pos ⟨c1, rfl⟩]
          exact goR_A g hk
        · rw [st_cell (by decide), st_cell (by decide), st_same]
        · rw [st_cell (by omega), st_cell (by omega), st_cell (by omega)]
    · have hout : p_X5_hasTown (nI (drV D s)) (st σ 62 0 (nI (nxS s))) = 0 := a_hasTown_out l1 (Or.inr (nI_le (by omega) (by omega)))
      have e0 : (0 : Int32) = 0 := rfl
      rw [hout, if_pos e0, if_neg (fun x => c1 x.1)]
      exact ⟨_, rfl, r1, st_same, fun a ha => st_cell (by omega)⟩
  | c + 1, n + 1, p, σ, ha, hr, h62, hp, hn => by
    have h7 := ho.p7
    have h3 := ho.k3
    have hlt : p < nP D := by omega
    obtain ⟨i1, i2⟩ := kdR_ok ho hO k p (by omega)
    have h : RlA D (kdR D r k p) σ := ⟨ho, ha, hr, i1.1⟩
    have hk3 := (i1.1.2.1 p hlt).2.2.1
    have es : nI (p + 1) = nI p + 1 := by rw [nI_succ]
    have en := kdR_s (D := D) (r := r) k p
    have skip : ¬ (kdR D r k p 3 p = k ∧ canV D (kdR D r k p) p = true) → ∃ w, j_X9_drawFor_64 N (l_X9_drawFor_14 N n) (nI k) (nI p) σ = some ((), w) ∧ RowA D (kbR D r k (drV D s)) (w 24) ∧ w 62 0 = nI (nxS s) ∧ ∀ a, ¬ (a = 24 ∨ a = 62) → w a = σ a := by
      intro hf
      rw [if_neg hf] at en
      have := a_drawFor_loop ho hO hk hs c n (p + 1) σ ha (by rw [en]; exact hr) h62 (by omega) (by omega)
      rw [es] at this
      exact this
    rw [l_X9_drawFor_14, ha.1.2.2.2, if_neg (nI_ge hlt (by omega)), a_holder ho hr hlt]
    by_cases c1 : kdR D r k p 3 p = k
    · rw [if_pos (by rw [c1]), a_canKeep h hlt, bd_some]
      have e1 : ¬ b01 true = 0 := one_ne
      have e2 : b01 false = 0 := rfl
      cases hc : canV D (kdR D r k p) p
      · rw [if_pos e2]
        exact skip (fun x => by rw [hc] at x; cases x.2)
      · rw [if_pos ⟨c1, hc⟩] at en
        have ht : p_X1_today_23 σ = nI (kdR D r k p 0 0) := a_today hr
        have hw : ∀ a, ¬ a = 24 → st (st σ 24 (1 + p) 1) 24 (8 + p) (nI (kdR D r k p 0 0)) a = σ a := fun a ha => (st_cell ha).trans (st_cell ha)
        have r1 : RowA D (kdR D r k (p + 1)) (st (st σ 24 (1 + p) 1) 24 (8 + p) (nI (kdR D r k p 0 0)) 24) := by
          rw [en]
          refine rowA_end ho hlt hr fun i => ?_
          rw [st_get, st_get]
          rfl
        obtain ⟨w, q1, q2, q3, q4⟩ := a_drawFor_loop ho hO hk hs c n (p + 1) _ (LandA_24 hw ha) r1 (by rw [hw 62 (by decide)]; exact h62) (by omega) (by omega)
        refine ⟨w, ?_, q2, q3, fun a ha => (q4 a ha).trans (hw a (by omega))⟩
        rw [if_neg e1, ht, a_end h hlt]
        unfold bt j_X9_drawFor_64 bt
        rw [← es]
        exact q1
    · have hn2 : ¬ nI (kdR D r k p 3 p) = nI k := fun e => c1 ((nI_eq (by omega) (by omega)).mp e)
      rw [if_neg hn2]
      exact skip (fun x => c1 x.1)
theorem b_drawFor_loop (ho : LandOk D) (hO : RowOk D r) {k s : Nat} (hk : k < nK D) (hs : s < 2 ^ 31) (hN : 7000 ≤ N) : ∀ (c n p : Nat) (τ : St), LandB D τ → RowB D (kdR D r k p) (τ 80) 0 → τ 80 38 = nI s → p + c = nP D → c < n →
    ∃ w, l_X10_keeperByDraws_2 N n (nI k) (nI p) τ = some ((), w) ∧ RowB D (kbR D r k (drV D s)) (w 80) 0 ∧ w 80 38 = nI (nxS s) ∧ (∀ a, ¬ a = 80 → w a = τ a) ∧ ∀ i, 38 < i → w 80 i = τ 80 i
  | c, 0, p, _, _, _, _, _, hn => absurd hn (Nat.not_lt_zero _)
  | 0, n + 1, p, τ, hb, hr, h38, hp, _ => by
    have h7 := ho.p7
    have h5 := ho.t5
    have h3 := ho.k3
    have hT : 1 ≤ nT D := by have := (ho.ke hk).2; omega
    have e : p = nP D := by omega
    obtain ⟨i1, i2⟩ := kdR_ok ho hO k p (by omega)
    have l1 : LandB D (st τ 80 38 (nI (nxS s))) := LandB_80 (fun a ha => st_cell ha) hb
    have r1 : RowB D (kdR D r k p) (st τ 80 38 (nI (nxS s)) 80) 0 := rowB_mv ho (fun i hi => st_place (by omega)) hr
    have g : RlB D (kdR D r k p) (st τ 80 38 (nI (nxS s))) := ⟨ho, l1, r1, i1.1⟩
    have e2 : (2 : Int32) * nI (nT D) = nI (2 * nT D) := nI_mul 2 (nT D)
    have hlt : drV D s < 2 * nT D := Nat.mod_lt _ (by omega)
    rw [l_X10_keeperByDraws_2, hb.1.2.2.2, if_pos (nI_le (by omega) (by omega)), hb.1.1, e2, b_draw ho hT hs h38, bd_some, l1.1.1]
    unfold kbR
    rw [e] at g r1
    by_cases c1 : drV D s < nT D
    · rw [if_neg (nI_ge c1 (by omega)), b_canGo g hk c1, bd_some]
      have e1 : ¬ b01 true = 0 := one_ne
      have e2 : b01 false = 0 := rfl
      cases hg : goV D (kdR D r k (nP D)) k (drV D s)
      · rw [if_pos e2, if_neg (fun x => by cases x.2)]
        exact ⟨_, rfl, r1, st_same, fun a ha => st_cell ha, fun i hi => st_place (by omega)⟩
      · rw [if_neg e1, b_goTo g hk c1 (goV_far hg), bd_some, if_pos ⟨c1, rfl⟩]
        refine ⟨_, rfl, goR_B g hk, ?_, fun a ha => ?_, fun i hi => ?_⟩
        · rw [st_place (by omega), st_place (by omega), st_same]
        · rw [st_cell ha, st_cell ha, st_cell ha]
        · rw [st_place (by omega), st_place (by omega), st_place (by omega)]
    · rw [if_pos (nI_le (by omega) (by omega)), if_neg (fun x => c1 x.1)]
      exact ⟨_, rfl, r1, st_same, fun a ha => st_cell ha, fun i hi => st_place (by omega)⟩
  | c + 1, n + 1, p, τ, hb, hr, h38, hp, hn => by
    have h7 := ho.p7
    have h3 := ho.k3
    have hlt : p < nP D := by omega
    obtain ⟨i1, i2⟩ := kdR_ok ho hO k p (by omega)
    have h : RlB D (kdR D r k p) τ := ⟨ho, hb, hr, i1.1⟩
    have hk3 := (i1.1.2.1 p hlt).2.2.1
    have es : nI (p + 1) = nI p + 1 := by rw [nI_succ]
    have en := kdR_s (D := D) (r := r) k p
    have skip : ¬ (kdR D r k p 3 p = k ∧ canV D (kdR D r k p) p = true) → ∃ w, j_X10_keeperByDraws_36 N (l_X10_keeperByDraws_2 N n) (nI k) (nI p) τ = some ((), w) ∧ RowB D (kbR D r k (drV D s)) (w 80) 0 ∧ w 80 38 = nI (nxS s) ∧ (∀ a, ¬ a = 80 → w a = τ a) ∧ ∀ i, 38 < i → w 80 i = τ 80 i := by
      intro hf
      rw [if_neg hf] at en
      have := b_drawFor_loop ho hO hk hs hN c n (p + 1) τ hb (by rw [en]; exact hr) h38 (by omega) (by omega)
      rw [es] at this
      exact this
    rw [l_X10_keeperByDraws_2, hb.1.2.2.2, if_neg (nI_ge hlt (by omega)), show (14 : Int32) + nI p = nI (14 + p) from nI_add 14 p, b_cka (x := 14 + p) _ (by omega) (by decide), w_nI (c := τ 80) (x := 14 + p) (by omega), b_whose hr hlt]
    by_cases c1 : kdR D r k p 3 p = k
    · rw [if_pos (by rw [c1]), b_canKeep h i1.2.1 hlt hN, bd_some]
      have e1 : ¬ b01 true = 0 := one_ne
      have e2 : b01 false = 0 := rfl
      cases hc : canV D (kdR D r k p) p
      · rw [if_pos e2]
        exact skip (fun x => by rw [hc] at x; cases x.2)
      · rw [if_pos ⟨c1, hc⟩] at en
        obtain ⟨w1, b1, b2, b3, b4⟩ := b_keepNow (N := N) h hlt hN
        obtain ⟨w, q1, q2, q3, q4, q5⟩ := b_drawFor_loop ho hO hk hs hN c n (p + 1) w1 (LandB_80 b3 hb) (by rw [en]; exact b2) (by rw [b4 38 (by omega)]; exact h38) (by omega) (by omega)
        refine ⟨w, ?_, q2, q3, fun a ha => (q4 a ha).trans (b3 a ha), fun i hi => (q5 i hi).trans (b4 i (by omega))⟩
        rw [if_neg e1, b1, bd_some]
        unfold j_X10_keeperByDraws_36 bt
        rw [← es]
        exact q1
    · have hn2 : ¬ nI (kdR D r k p 3 p) = nI k := fun e => c1 ((nI_eq (by omega) (by omega)).mp e)
      rw [if_neg hn2]
      exact skip (fun x => c1 x.1)
end DRAW
