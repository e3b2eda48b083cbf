section TAKE7
variable {N : Nat} {D : LD} {n : Nat} {l : Nat → Nat}
theorem begE_79 {w : St} : begE w 79 44 = 0 ∧ begE w 79 28 = 0 ∧ ∀ i, ¬ i = 44 → ¬ i = 28 → begE w 79 i = w 79 i := by
  unfold begE
  refine ⟨?_, ?_, fun i h1 h2 => ?_⟩
  · rw [st_cell (by decide), st_cell (by decide), st_place (by decide), st_same]
  · rw [st_cell (by decide), st_cell (by decide), st_same]
  · rw [st_cell (by decide), st_cell (by decide), st_place h2, st_place h1]
theorem begE_81 {w : St} : begE w 81 0 = 0 ∧ begE w 81 1 = 0 := by
  have e0 : (0 : Int32).toNatClampNeg = 0 := rfl
  have e1 : (1 : Int32).toNatClampNeg = 1 := rfl
  have ev : vp_nar .boolean 0 = 0 := rfl
  unfold begE
  rw [e0, e1, ev]
  refine ⟨?_, st_same⟩
  rw [st_place (by decide), st_same]
theorem begE_c {w : St} {c : Nat} (h1 : ¬ c = 79) (h2 : ¬ c = 81) : begE w c = w c := by
  unfold begE
  rw [st_cell h2, st_cell h2, st_cell h1, st_cell h1]
theorem b_begin {τ : St} (ho : LandOk D) (hB : LandB D τ) (hN : 7000 ≤ N) : ∃ w, o_X10_begin N τ = some ((), w) ∧ LandB D w ∧ RowB D (begR D) (w 80) 0 ∧ w 80 38 = τ 80 38 ∧ w 79 44 = 0 ∧ w 79 28 = 0 ∧ (∀ i, ¬ i = 44 → ¬ i = 28 → w 79 i = τ 79 i) ∧ (w 81 0 = 0 ∧ w 81 1 = 0) ∧ ∀ c, ¬ (79 ≤ c ∧ c ≤ 81) → w c = τ c := by
  have h7 := ho.p7
  have h3 := ho.k3
  have e38 : (38 : Int32).toNatClampNeg = 38 := rfl
  obtain ⟨w1, a1, a2, a3⟩ := b_beg10 (N := N) (s := τ 80 38) 40 N 0 τ (by omega) (by omega)
  obtain ⟨w2, b1, b2, b3, b4, -⟩ := b_beg39 (N := N) 7 N 0 (st w1 80 38 (τ 80 38)) (by omega) (by omega)
  obtain ⟨w3, c1, c2, c3⟩ := b_beg103 (N := N) 3 N 0 w2 (by omega) (by omega)
  have wc : ∀ c, ¬ c = 80 → w3 c = τ c := fun c hc => by rw [c2 c hc, b2 c hc, st_cell hc, a2 c hc]
  have g : ∀ j, st w1 80 38 (τ 80 38) 80 j = if j = 38 then τ 80 38 else if j < 40 then 0 else τ 80 j := fun j => by
    rw [st_get, a3]
    by_cases e : j < 40
    · rw [if_pos e, if_pos (⟨Nat.zero_le _, e⟩ : 0 ≤ j ∧ j < 40)]
    · have c3 : ¬ (0 ≤ j ∧ j < 40) := fun z => e z.2
      rw [if_neg e, if_neg c3]
  have g84 : ∀ j, w2 84 j = τ 84 j := fun j => by rw [b2 84 (by decide), st_cell (by decide), a2 84 (by decide)]
  have g86 : ∀ j, st w1 80 38 (τ 80 38) 86 j = τ 86 j := fun j => by rw [st_cell (by decide), a2 86 (by decide)]
  have g91 : ∀ j, st w1 80 38 (τ 80 38) 91 j = τ 91 j := fun j => by rw [st_cell (by decide), a2 91 (by decide)]
  have z : ∀ j, j < 40 → ¬ j = 38 → ¬ (7 ≤ j ∧ j < 28) → ¬ (28 ≤ j ∧ j < 31) → begE w3 80 j = 0 := fun j h1 h2 h3 h4 => by
    rw [begE_c (by decide) (by decide), c3, if_neg h4, b3 j h3, g, if_neg h2, if_pos h1]
  have mid : ∀ j, ¬ (28 ≤ j ∧ j < 31) → begE w3 80 j = w2 80 j := fun j h => by rw [begE_c (by decide) (by decide), c3, if_neg h]
  refine ⟨begE w3, ?_, ?_, ⟨?_, fun p hp => ⟨?_, ?_, ?_, ?_⟩, fun k hk => ⟨?_, ?_⟩, fun f hf => ?_⟩, ?_, begE_79.1, begE_79.2.1, fun i h1 h2 => by rw [begE_79.2.2 i h1 h2, wc 79 (by decide)], begE_81, fun c hc => by rw [begE_c (by omega) (by omega), wc c (by omega)]⟩
  · unfold o_X10_begin
    have a1' : l_X10_begin_10 N N (τ 80 38) 0 τ = _ := a1
    have b1' : l_X10_begin_39 N N 0 (st w1 80 38 (τ 80 38)) = _ := b1
    have c1' : l_X10_begin_103 N N 0 w2 = _ := c1
    rw [bt_eq, e38, a1', e38, bt_eq, b1', c1']
  · exact LandB_of (fun i hi => by rw [begE_79.2.2 i (by omega) (by omega), wc 79 (by decide)]) (fun a h1 h2 => by rw [begE_c (by omega) (by omega), wc a (by omega)]) hB
  · show begE w3 80 37 = 0
    exact z 37 (by decide) (by decide) (by decide) (by decide)
  · rw [Nat.zero_add]
    exact z p (by omega) (by omega) (by omega) (by omega)
  · show begE w3 80 (7 + p) = -1
    rw [mid _ (by omega)]
    exact (b4 p (Nat.zero_le _) (by omega)).1
  · show begE w3 80 (14 + p) = nI (D 10 p)
    rw [mid _ (by omega), (b4 p (Nat.zero_le _) (by omega)).2.1, g86]
    exact (hB.2.2.2.1 p hp).1
  · show begE w3 80 (21 + p) = _
    rw [mid _ (by omega), (b4 p (Nat.zero_le _) (by omega)).2.2, g91, (hB.2.2.2.1 p hp).2.2.2.2.2]
    have hq := ho.pr hp
    unfold gvn
    by_cases e : D 6 p = 9
    · rw [if_pos e, if_pos (by rw [e]; rfl)]
      rfl
    · have hne : ¬ nI (D 6 p) = 9 := fun q => e ((nI_eq (a := D 6 p) (b := 9) (by omega) (by omega)).mp q)
      rw [if_neg e, if_neg hne]
      rfl
  · show begE w3 80 (28 + k) = nI (D 9 k)
    rw [begE_c (by decide) (by decide), c3, if_pos ⟨by omega, by omega⟩, Nat.add_sub_cancel_left, g84]
    exact (hB.2.2.1 k hk).2
  · show begE w3 80 (31 + k) = 0
    exact z _ (by omega) (by omega) (by omega) (by omega)
  · show begE w3 80 (34 + f) = 0
    exact z _ (by omega) (by omega) (by omega) (by omega)
  · rw [mid _ (by decide), b3 _ (by decide), g, if_pos rfl]
theorem b_land64 : ∀ (c f i : Nat) (τ : St), i + c = 25 → c < f → ∃ w, l_X10_land_64 N f (nI (25 + i)) τ = l_X10_land_84 N N w ∧ (∀ c, ¬ c = 82 → w c = τ c) ∧ ∀ j, w 82 j = if 25 + i ≤ j ∧ j < 50 then 99999999 else τ 82 j := by
  intro c
  induction c with
  | zero =>
    intro f i τ hi hf
    obtain ⟨f, rfl⟩ : ∃ k, f = k + 1 := ⟨f - 1, by omega⟩
    have e : i = 25 := by omega
    subst e
    refine ⟨τ, ?_, fun _ _ => rfl, fun j => by rw [if_neg (by omega)]⟩
    rw [l_X10_land_64, if_pos (show (50 : Int32) ≤ nI (25 + 25) from nI_le (a := 50) (by omega) (by omega))]
  | succ c ih =>
    intro f i τ hi hf
    obtain ⟨f, rfl⟩ : ∃ k, f = k + 1 := ⟨f - 1, by omega⟩
    have hlt : ¬ (50 : Int32) ≤ nI (25 + i) := fun e => absurd ((nI_le_iff (a := 50) (b := 25 + i) (by omega) (by omega)).mp e) (by omega)
    obtain ⟨w, z1, z2, z3⟩ := ih f (i + 1) (st τ 82 (25 + i) 99999999) (by omega) (by omega)
    refine ⟨w, ?_, fun c hc => (z2 c hc).trans (st_cell hc), fun j => ?_⟩
    · rw [l_X10_land_64, if_neg hlt, b_cka (x := 25 + i) (n := 50) _ (by omega) (by decide), bt_eq, bt_eq, nI_clamp (n := 25 + i) (by omega), ← p1_sub]
      exact z1
    · rw [z3, st_get]
      by_cases c1 : 25 + (i + 1) ≤ j ∧ j < 50
      · have c3 : 25 + i ≤ j ∧ j < 50 := ⟨by omega, c1.2⟩
        rw [if_pos c1, if_pos c3]
      · rw [if_neg c1]
        by_cases c2 : j = 25 + i
        · have c3 : 25 + i ≤ j ∧ j < 50 := ⟨by omega, by omega⟩
          rw [if_pos c2, if_pos c3]
        · rw [if_neg c2, if_neg (by omega)]
/-- what telling leaves, on the reference's side -/
def TdB (x : PR LD) (τ : St) (v : Int32) (w : St) : Prop := w 79 23 = 0 ∧ match x with
  | .inl e => v = -10 - nI e.1 ∧ w 79 27 = nI e.2 ∧ (1 ≤ e.1 ∧ e.1 ≤ 4) ∧ ∃ m, FrP τ m ∧ w = st m 79 23 0
  | .inr D => v = nI (nT D) ∧ w 79 27 = -1 ∧ RawOk D ∧ LandB (fwD D) w ∧ RowB (fwD D) (begR (fwD D)) (w 80) 0 ∧ w 80 38 = τ 80 38 ∧ w 79 44 = 0 ∧ w 79 28 = 0 ∧ w 81 0 = 0 ∧ w 81 1 = 0
theorem b_land {τ : St} (hT : TextB n l τ) (hl : ∀ i, i < n → l i ≤ 255) (hN : 7000 ≤ N) : ∃ v w, o_X10_land N τ = some (v, w) ∧ TdB (prN n l 250 rawD 0) τ v w := by
  have e3 : (3 : Int32).toNatClampNeg = 3 := rfl
  have e4 : (4 : Int32).toNatClampNeg = 4 := rfl
  have e5 : (5 : Int32).toNatClampNeg = 5 := rfl
  generalize hW : st (st (st (st (st (st (st (st (st (st (st τ 79 24 0) 79 26 0) 79 27 (-1)) 79 6 0) 79 7 0) 79 8 0) 79 9 0) 79 21 0) 92 4 0) 92 5 2) 92 3 0 = W
  have fr : FrP τ W := by
    rw [← hW]
    exact ((((((((((FrP.sto (by omega)).tr (FrP.sto (by omega))).tr (FrP.sto (by omega))).tr (FrP.sto (by omega))).tr (FrP.sto (by omega))).tr (FrP.sto (by omega))).tr (FrP.sto (by omega))).tr (FrP.sto (by omega))).tr (FrP.sto (by omega))).tr (FrP.sto (by omega))).tr (FrP.sto (by omega))
  have g79 : ∀ i, W 79 i = if i = 21 then 0 else if i = 9 then 0 else if i = 8 then 0 else if i = 7 then 0 else if i = 6 then 0 else if i = 27 then -1 else if i = 26 then 0 else if i = 24 then 0 else τ 79 i := fun i => by
    rw [← hW, st_cell (by decide), st_cell (by decide), st_cell (by decide), st_get, st_get, st_get, st_get, st_get, st_get, st_get, st_get]
  have g92 : ∀ i, W 92 i = if i = 3 then 0 else if i = 5 then 2 else if i = 4 then 0 else τ 92 i := fun i => by
    rw [← hW, st_get, st_get, st_get, st_cell (by decide), st_cell (by decide), st_cell (by decide), st_cell (by decide), st_cell (by decide), st_cell (by decide), st_cell (by decide), st_cell (by decide)]
  obtain ⟨w1, a1, a2, a3⟩ := b_land64 (N := N) 25 N 0 W (by omega) (by omega)
  have fr1 : FrP τ w1 := fr.tr ⟨fun c hc => a2 c (by omega), fun i _ => by rw [a2 79 (by decide)], fun i _ => by rw [a2 84 (by decide), a2 85 (by decide), a2 92 (by decide)]; exact ⟨rfl, rfl, rfl⟩, fun c i h1 h2 _ => by rw [a2 c (by omega)]⟩
  have k79 : ∀ i, w1 79 i = _ := fun i => by rw [a2 79 (by decide), g79]
  have hT1 : TextB n l w1 := ⟨hT.1, by rw [k79]; exact hT.2.1, fun i hi => by rw [a2 93 (by decide), ← hW]; exact hT.2.2 i hi⟩
  have S1 : StS n l (-1) (.inr 0) w1 := ⟨hT1, by rw [k79]; rfl, Nat.zero_le _, by rw [k79]; rfl, by rw [k79]; rfl⟩
  have B1 : LdB rawD w1 := by
    refine ⟨⟨by rw [k79]; rfl, by rw [k79]; rfl, by rw [k79]; rfl, by rw [k79]; rfl⟩, ⟨by rw [a2 92 (by decide), g92]; rfl, by rw [a2 92 (by decide), g92]; rfl, Or.inl ⟨rfl, by rw [a2 92 (by decide), g92]; rfl, by rw [k79]; rfl⟩⟩, fun k hk => absurd hk (Nat.not_lt_zero _), fun p hp => absurd hp (Nat.not_lt_zero _), fun a b ha hb hab => ?_⟩
    have er : rawD 7 (5 * a + b) = if (5 * a + b) / 5 = (5 * a + b) % 5 then 0 else 1000 := if_pos rfl
    have c3 : 25 + 0 ≤ 25 + (5 * a + b) ∧ 25 + (5 * a + b) < 50 := ⟨by omega, by omega⟩
    rw [a3, if_pos c3, er, if_neg (by omega)]
    rfl
  obtain ⟨w2, b1, b2, b3⟩ := b_loop (N := N) hl hT.1 hN 250 N 0 rawD w1 S1 rawD_ok B1 (by omega) (by omega)
  have run : o_X10_land N τ = j_X10_land_148 N w2 := by
    unfold o_X10_land
    rw [bt_eq, bt_eq, bt_eq, bt_eq, bt_eq, bt_eq, bt_eq, bt_eq, bt_eq, bt_eq, bt_eq, e3, e4, e5, hW]
    exact a1.trans b1
  rw [run]
  unfold j_X10_land_148
  rw [bt_eq, st_place (by decide)]
  obtain ⟨t1, b3⟩ := b3
  cases hr : prN n l 250 rawD 0 with
  | inl e =>
    rw [hr] at b3
    obtain ⟨m1, m2, m3, m4⟩ := b3
    have q : ¬ nI e.1 ≤ 0 := fun z => by
      have := (nI_le_iff (a := e.1) (b := 0) (by omega) (by omega)).mp z
      omega
    rw [m1, if_neg q]
    refine ⟨_, _, rfl, st_same, ?_, ?_, ⟨m2, m3⟩, w2, fr1.tr b2, rfl⟩
    · rfl
    · rw [st_place (by decide)]
      exact m4
  | inr D =>
    rw [hr] at b3
    obtain ⟨m1, m2, m3, m4⟩ := b3
    have m4' : LdB D (st w2 79 23 0) := m4.of (w := st w2 79 23 0) (fun i hi => st_place (by omega)) (fun c hc => st_cell hc)
    obtain ⟨w3, c1, c2, c3, c4⟩ := b_takeL (N := N) m3 m4' hN
    obtain ⟨w4, d1, d2, d3, d4, d5, d6, d7, d8, d9⟩ := b_begin (N := N) (fwD_ok m3) c2 hN
    rw [m1, if_pos (by decide), c1, bd_some, d1, bd_some]
    refine ⟨_, _, rfl, ?_, ?_, ?_, m3, d2, d3, ?_, d5, d6, d8.1, d8.2⟩
    · rw [d7 23 (by decide) (by decide), c4 23 (by decide), st_same]
    · exact d2.1.1
    · rw [d7 27 (by decide) (by decide), c4 27 (by decide), st_place (by decide)]
      exact m2
    · rw [d4, c3 80 (by decide), st_cell (by decide), (fr1.tr b2).1 80 (by decide)]
end TAKE7
