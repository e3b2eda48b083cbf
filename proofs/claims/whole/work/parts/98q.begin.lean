section TAKE6
variable {N : Nat} {D : LD}
theorem cpd_lo {τ w : St} {c k j : Nat} (h : cpd τ w c k 0) (hj : j < k) : w c j = τ c (k + j) := by
  rw [h j, if_pos ⟨Nat.zero_le _, hj⟩]
theorem b_takeL {τ : St} (hO : RawOk D) (hB : LdB D τ) (hN : 7000 ≤ N) : ∃ w, o_X10_take N τ = some ((), w) ∧ LandB (fwD D) w ∧ (∀ c, ¬ (c = 79 ∨ 82 ≤ c ∧ c ≤ 92) → w c = τ c) ∧ ∀ i, ¬ (2 ≤ i ∧ i ≤ 5) → w 79 i = τ 79 i := by
  obtain ⟨h1, h2, h3, h4, h5⟩ := hB
  have hp7 := hO.1.2.2.2
  have hk3 := hO.1.2.2.1
  obtain ⟨w1, a1, a2, a3⟩ := b_take34 (N := N) 25 N 0 (st (st (st (st τ 79 2 (τ 79 6)) 79 3 (τ 79 7)) 79 4 (τ 79 8)) 79 5 (τ 79 9)) (by omega) (by omega)
  obtain ⟨w2, b1, b2, b3, b4, b5⟩ := b_take63 (N := N) 3 N 0 w1 (by omega) (by omega)
  obtain ⟨w3, c1, c2, c3, c4, c5, c6, c7, c8⟩ := b_take118 (N := N) 7 N 0 w2 (by omega) (by omega)
  have q79 : ∀ i, w3 79 i = st (st (st (st τ 79 2 (τ 79 6)) 79 3 (τ 79 7)) 79 4 (τ 79 8)) 79 5 (τ 79 9) 79 i := fun i => by rw [c2 79 (by decide), b2 79 (by decide), a2 79 (by decide)]
  have oc : ∀ c, ¬ (c = 79 ∨ 82 ≤ c ∧ c ≤ 92) → w3 c = τ c := fun c hc => by rw [c2 c (by omega), b2 c (by omega), a2 c (by omega), st_cell (by omega), st_cell (by omega), st_cell (by omega), st_cell (by omega)]
  have p82 : ∀ j, j < 25 → w3 82 j = τ 82 (25 + j) := fun j hj => by rw [c2 82 (by decide), b2 82 (by decide), cpd_lo a3 hj, st_cell (by decide), st_cell (by decide), st_cell (by decide), st_cell (by decide)]
  have w1c : ∀ c, ¬ c = 79 → ¬ c = 82 → w1 c = τ c := fun c hc hd => by rw [a2 c hd, st_cell hc, st_cell hc, st_cell hc, st_cell hc]
  have p84 : ∀ j, j < 3 → w3 84 j = τ 84 (3 + j) := fun j hj => by rw [c2 84 (by decide), cpd_lo b3 hj, w1c 84 (by decide) (by decide)]
  have p85 : ∀ j, j < 3 → w3 85 j = τ 85 (3 + j) := fun j hj => by rw [c2 85 (by decide), cpd_lo b4 hj, w1c 85 (by decide) (by decide)]
  have p92 : ∀ j, j < 3 → w3 92 j = τ 92 (3 + j) := fun j hj => by rw [c2 92 (by decide), cpd_lo b5 hj, w1c 92 (by decide) (by decide)]
  have w2c : ∀ c, 86 ≤ c → c ≤ 91 → w2 c = τ c := fun c h1 h2 => by rw [b2 c (by omega), w1c c (by omega) (by omega)]
  have p86 : ∀ j, j < 7 → w3 86 j = τ 86 (7 + j) := fun j hj => by rw [cpd_lo c3 hj, w2c 86 (by decide) (by decide)]
  have p87 : ∀ j, j < 7 → w3 87 j = τ 87 (7 + j) := fun j hj => by rw [cpd_lo c4 hj, w2c 87 (by decide) (by decide)]
  have p88 : ∀ j, j < 7 → w3 88 j = τ 88 (7 + j) := fun j hj => by rw [cpd_lo c5 hj, w2c 88 (by decide) (by decide)]
  have p89 : ∀ j, j < 7 → w3 89 j = τ 89 (7 + j) := fun j hj => by rw [cpd_lo c6 hj, w2c 89 (by decide) (by decide)]
  have p90 : ∀ j, j < 7 → w3 90 j = τ 90 (7 + j) := fun j hj => by rw [cpd_lo c7 hj, w2c 90 (by decide) (by decide)]
  have p91 : ∀ j, j < 7 → w3 91 j = τ 91 (7 + j) := fun j hj => by rw [cpd_lo c8 hj, w2c 91 (by decide) (by decide)]
  obtain ⟨w, d1, d2, d3⟩ := b_far (N := N) (τ := w3) hO (fun a b ha hb hab => by rw [p82 _ (by omega)]; exact h5 a b ha hb hab) hN
  have r79 : ∀ i, w 79 i = st (st (st (st τ 79 2 (τ 79 6)) 79 3 (τ 79 7)) 79 4 (τ 79 8)) 79 5 (τ 79 9) 79 i := fun i => by rw [d2 79 (by decide), q79]
  refine ⟨w, ?_, ⟨⟨?_, ?_, ?_, ?_⟩, ⟨?_, ?_, ?_⟩, fun k hk => ?_, fun p hp => ?_, d3⟩, fun c hc => (d2 c (by omega)).trans (oc c hc), fun i hi => ?_⟩
  · unfold o_X10_take
    have e1 : ∀ (s : St) i x j y, ¬ j = i → st (st s 79 i x) 79 j y 79 i = x := fun s i x j y h => by rw [st_place (fun z => h z.symm), st_same]
    rw [bt_eq, bt_eq, bt_eq, bt_eq]
    rw [show st τ 79 2 (τ 79 6) 79 7 = τ 79 7 from st_place (by decide)]
    rw [show st (st τ 79 2 (τ 79 6)) 79 3 (τ 79 7) 79 8 = τ 79 8 from (st_place (by decide)).trans (st_place (by decide))]
    rw [show st (st (st τ 79 2 (τ 79 6)) 79 3 (τ 79 7)) 79 4 (τ 79 8) 79 9 = τ 79 9 from ((st_place (by decide)).trans (st_place (by decide))).trans (st_place (by decide))]
    have a1' : l_X10_take_34 N N 0 _ = _ := a1
    have b1' : l_X10_take_63 N N 0 w1 = _ := b1
    have c1' : l_X10_take_118 N N 0 w2 = _ := c1
    rw [a1', b1', c1', d1, bd_some]
  · rw [r79, st_place (by decide), st_place (by decide), st_place (by decide), st_same]
    exact h1.1
  · rw [r79, st_place (by decide), st_place (by decide), st_same]
    exact h1.2.1
  · rw [r79, st_place (by decide), st_same]
    exact h1.2.2.1
  · rw [r79, st_same]
    exact h1.2.2.2
  · rw [d2 92 (by decide), p92 0 (by decide)]
    exact h2.1
  · rw [d2 92 (by decide), p92 1 (by decide)]
    exact h2.2.1
  · rw [d2 92 (by decide), p92 2 (by decide)]
    rcases h2.2.2 with ⟨x1, x2, x3⟩ | ⟨x1, x2, x3⟩
    · exact Or.inl ⟨x1, Or.inl x2⟩
    · exact Or.inr ⟨x1, x2⟩
  · have hk' : k < nK D := hk
    rw [d2 85 (by decide), d2 84 (by decide), p85 k (by omega), p84 k (by omega)]
    exact h3 k hk
  · have hp' : p < nP D := hp
    rw [d2 86 (by decide), d2 87 (by decide), d2 88 (by decide), d2 89 (by decide), d2 90 (by decide), d2 91 (by decide), p86 p (by omega), p87 p (by omega), p88 p (by omega), p89 p (by omega), p90 p (by omega), p91 p (by omega)]
    exact h4 p hp
  · rw [r79, st_place (by omega), st_place (by omega), st_place (by omega), st_place (by omega)]
/-- the days begin -/
def begR (D : LD) : RD := fun a i => if a = 3 then D 10 i else if a = 4 then D 9 i else 0
theorem beg_ok (ho : LandOk D) : RowOk D (begR D) := by
  have h7 := ho.p7
  have hO := ho
  obtain ⟨-, -, -, b3, b4, -⟩ := hO
  refine ⟨⟨Nat.zero_le _, fun p hp => ⟨Nat.zero_le _, Nat.zero_le _, (b4 p hp).2.2.2.2.2, fun e => by cases e⟩, fun k hk => ⟨(b3 k hk).2, Nat.zero_le _⟩, fun f _ => Nat.zero_le _⟩, fun p hp h1 h2 => Nat.zero_le _, fun p hp h9 => ⟨fun _ => Nat.zero_le _, fun e => ?_⟩, ?_⟩
  · rcases e with e | e <;> cases e
  · have key : ∀ n, n ≤ nP D → opn D (begR D) n ≤ 9 * n := by
      intro n
      induction n with
      | zero =>
        intro _
        exact Nat.le_refl _
      | succ n ih =>
        intro hn
        have h1 := ih (by omega)
        have h2 := (b4 n (by omega)).2.2.2.1.2
        have e : opn D (begR D) (n + 1) = opn D (begR D) n + D 5 n := rfl
        omega
    have := key (nP D) (Nat.le_refl _)
    show 0 + 0 + 0 + opn D (begR D) (nP D) ≤ 63
    omega
/-- what the days' beginning leaves -/
theorem b_beg10 {s : Int32} : ∀ (c f i : Nat) (τ : St), i + c = 40 → c < f → ∃ w, l_X10_begin_10 N f s (nI i) τ = (bt (st w 80 (38 : Int32).toNatClampNeg s) fun σ2 => l_X10_begin_39 N N 0 σ2) ∧ (∀ c, ¬ c = 80 → w c = τ c) ∧ ∀ j, w 80 j = if i ≤ j ∧ j < 40 then 0 else τ 80 j := by
  intro c
  induction c with
  | zero =>
    intro f i τ hi hf
    obtain ⟨f, rfl⟩ : ∃ k, f = k + 1 := ⟨f - 1, by omega⟩
    have e : i = 40 := by omega
    subst e
    refine ⟨τ, ?_, fun _ _ => rfl, fun j => by rw [if_neg (by omega)]⟩
    rw [l_X10_begin_10, if_pos (show (40 : Int32) ≤ nI 40 from nI_le (a := 40) (by omega) (by omega))]
  | succ c ih =>
    intro f i τ hi hf
    obtain ⟨f, rfl⟩ : ∃ k, f = k + 1 := ⟨f - 1, by omega⟩
    have hlt : ¬ (40 : Int32) ≤ nI i := fun e => absurd ((nI_le_iff (a := 40) (b := i) (by omega) (by omega)).mp e) (by omega)
    obtain ⟨w, z1, z2, z3⟩ := ih f (i + 1) (st τ 80 i 0) (by omega) (by omega)
    refine ⟨w, ?_, fun c hc => (z2 c hc).trans (st_cell hc), fun j => ?_⟩
    · rw [l_X10_begin_10, if_neg hlt, b_cka (x := i) (n := 1360) _ (by omega) (by decide), bt_eq, bt_eq, nI_clamp (n := i) (by omega), ← p1_sub]
      exact z1
    · rw [z3, st_get]
      by_cases c1 : i + 1 ≤ j ∧ j < 40
      · have c3 : i ≤ j ∧ j < 40 := ⟨by omega, c1.2⟩
        rw [if_pos c1, if_pos c3]
      · rw [if_neg c1]
        by_cases c2 : j = i
        · have c3 : i ≤ j ∧ j < 40 := ⟨by omega, by omega⟩
          rw [if_pos c2, if_pos c3]
        · rw [if_neg c2, if_neg (by omega)]
theorem b_beg39 : ∀ (c f i : Nat) (τ : St), i + c = 7 → c < f → ∃ w, l_X10_begin_39 N f (nI i) τ = l_X10_begin_103 N N 0 w ∧ (∀ c, ¬ c = 80 → w c = τ c) ∧ (∀ j, ¬ (7 ≤ j ∧ j < 28) → w 80 j = τ 80 j) ∧ (∀ p, i ≤ p → p < 7 → w 80 (7 + p) = -1 ∧ w 80 (14 + p) = τ 86 p ∧ w 80 (21 + p) = if τ 91 p = 9 then 0 else -1) ∧ ∀ p, p < i → w 80 (7 + p) = τ 80 (7 + p) ∧ w 80 (14 + p) = τ 80 (14 + p) ∧ w 80 (21 + p) = τ 80 (21 + p) := by
  intro c
  induction c with
  | zero =>
    intro f i τ hi hf
    obtain ⟨f, rfl⟩ : ∃ k, f = k + 1 := ⟨f - 1, by omega⟩
    have e : i = 7 := by omega
    subst e
    refine ⟨τ, ?_, fun _ _ => rfl, fun _ _ => rfl, fun p h1 h2 => absurd h1 (by omega), fun _ _ => ⟨rfl, rfl, rfl⟩⟩
    rw [l_X10_begin_39, if_pos (show (7 : Int32) ≤ nI 7 from nI_le (a := 7) (by omega) (by omega))]
  | succ c ih =>
    intro f i τ hi hf
    obtain ⟨f, rfl⟩ : ∃ k, f = k + 1 := ⟨f - 1, by omega⟩
    have hlt : ¬ (7 : Int32) ≤ nI i := fun e => absurd ((nI_le_iff (a := 7) (b := i) (by omega) (by omega)).mp e) (by omega)
    have i1 : (7 : Int32) + nI i = nI (7 + i) := nI_add 7 i
    have i2 : (14 : Int32) + nI i = nI (14 + i) := nI_add 14 i
    have i3 : (21 : Int32) + nI i = nI (21 + i) := nI_add 21 i
    rw [l_X10_begin_39, if_neg hlt, i1, i2, i3, b_cka (x := 7 + i) (n := 1360) _ (by omega) (by decide), bt_eq, b_cka (x := i) (n := 14) _ (by omega) (by decide), b_cka (x := 14 + i) (n := 1360) _ (by omega) (by decide), bt_eq, b_cka (x := i) (n := 14) _ (by omega) (by decide), nI_clamp (n := 7 + i) (by omega), nI_clamp (n := 14 + i) (by omega), nI_clamp (n := i) (by omega), st_cell (a := 91) (k := 80) (by decide), st_cell (a := 91) (k := 80) (by decide), st_cell (a := 86) (k := 80) (by decide)]
    have go : ∀ x, x = (if τ 91 i = 9 then (0 : Int32) else -1) → ∃ w, j_X10_begin_94 N (l_X10_begin_39 N f) (nI i) (nI (21 + i)) x (st (st τ 80 (7 + i) (-1)) 80 (14 + i) (τ 86 i)) = l_X10_begin_103 N N 0 w ∧ (∀ c, ¬ c = 80 → w c = τ c) ∧ (∀ j, ¬ (7 ≤ j ∧ j < 28) → w 80 j = τ 80 j) ∧ (∀ p, i ≤ p → p < 7 → w 80 (7 + p) = -1 ∧ w 80 (14 + p) = τ 86 p ∧ w 80 (21 + p) = if τ 91 p = 9 then 0 else -1) ∧ ∀ p, p < i → w 80 (7 + p) = τ 80 (7 + p) ∧ w 80 (14 + p) = τ 80 (14 + p) ∧ w 80 (21 + p) = τ 80 (21 + p) := by
      intro x hx
      obtain ⟨w, z1, z2, z3, z4, z5⟩ := ih f (i + 1) (st (st (st τ 80 (7 + i) (-1)) 80 (14 + i) (τ 86 i)) 80 (21 + i) x) (by omega) (by omega)
      have g : ∀ j, st (st (st τ 80 (7 + i) (-1)) 80 (14 + i) (τ 86 i)) 80 (21 + i) x 80 j = if j = 21 + i then x else if j = 14 + i then τ 86 i else if j = 7 + i then -1 else τ 80 j := fun j => by rw [st_get, st_get, st_get]
      have gc : ∀ c, ¬ c = 80 → st (st (st τ 80 (7 + i) (-1)) 80 (14 + i) (τ 86 i)) 80 (21 + i) x c = τ c := fun c hc => by rw [st_cell hc, st_cell hc, st_cell hc]
      refine ⟨w, ?_, fun c hc => (z2 c hc).trans (gc c hc), fun j hj => ?_, fun p h1 h2 => ?_, fun p h1 => ?_⟩
      · unfold j_X10_begin_94
        rw [b_cka (x := 21 + i) (n := 1360) _ (by omega) (by decide), bt_eq, bt_eq, nI_clamp (n := 21 + i) (by omega), ← p1_sub]
        exact z1
      · rw [z3 j hj, g, if_neg (by omega), if_neg (by omega), if_neg (by omega)]
      · by_cases e : p = i
        · obtain ⟨k1, k2, k3⟩ := z5 p (by omega)
          rw [k1, k2, k3, g, g, g, e, if_neg (by omega), if_neg (by omega), if_pos rfl, if_neg (by omega), if_pos rfl, if_pos rfl, hx]
          exact ⟨rfl, rfl, rfl⟩
        · obtain ⟨k1, k2, k3⟩ := z4 p (by omega) h2
          rw [gc 86 (by decide)] at k2
          rw [gc 91 (by decide)] at k3
          exact ⟨k1, k2, k3⟩
      · obtain ⟨k1, k2, k3⟩ := z5 p (by omega)
        rw [k1, k2, k3, g, g, g, if_neg (by omega), if_neg (by omega), if_neg (by omega), if_neg (by omega), if_neg (by omega), if_neg (by omega), if_neg (by omega), if_neg (by omega), if_neg (by omega)]
        exact ⟨rfl, rfl, rfl⟩
    by_cases c1 : τ 91 i = 9
    · rw [if_pos c1]
      exact go _ (by rw [if_pos c1])
    · rw [if_neg c1]
      exact go _ (by rw [if_neg c1])
def begE (w : St) : St := st (st (st (st w 79 44 0) 79 28 0) 81 (0 : Int32).toNatClampNeg (vp_nar .boolean 0)) 81 (1 : Int32).toNatClampNeg (vp_nar .boolean 0)
theorem b_beg103 : ∀ (c f i : Nat) (τ : St), i + c = 3 → c < f → ∃ w, l_X10_begin_103 N f (nI i) τ = some ((), begE w) ∧ (∀ c, ¬ c = 80 → w c = τ c) ∧ ∀ j, w 80 j = if 28 + i ≤ j ∧ j < 31 then τ 84 (j - 28) else τ 80 j := by
  intro c
  induction c with
  | zero =>
    intro f i τ hi hf
    obtain ⟨f, rfl⟩ : ∃ k, f = k + 1 := ⟨f - 1, by omega⟩
    have e : i = 3 := by omega
    subst e
    refine ⟨τ, ?_, fun _ _ => rfl, fun j => by rw [if_neg (by omega)]⟩
    rw [l_X10_begin_103, if_pos (show (3 : Int32) ≤ nI 3 from nI_le (a := 3) (by omega) (by omega)), bt_eq, bt_eq, bt_eq, bt_eq]
    rfl
  | succ c ih =>
    intro f i τ hi hf
    obtain ⟨f, rfl⟩ : ∃ k, f = k + 1 := ⟨f - 1, by omega⟩
    have hlt : ¬ (3 : Int32) ≤ nI i := fun e => absurd ((nI_le_iff (a := 3) (b := i) (by omega) (by omega)).mp e) (by omega)
    have i1 : (28 : Int32) + nI i = nI (28 + i) := nI_add 28 i
    obtain ⟨w, z1, z2, z3⟩ := ih f (i + 1) (st τ 80 (28 + i) (τ 84 i)) (by omega) (by omega)
    refine ⟨w, ?_, fun c hc => (z2 c hc).trans (st_cell hc), fun j => ?_⟩
    · rw [l_X10_begin_103, if_neg hlt, i1, b_cka (x := i) (n := 6) _ (by omega) (by decide), b_cka (x := 28 + i) (n := 1360) _ (by omega) (by decide), bt_eq, bt_eq, nI_clamp (n := i) (by omega), nI_clamp (n := 28 + i) (by omega), ← p1_sub]
      exact z1
    · rw [z3, st_get, st_cell (by decide)]
      by_cases c1 : 28 + (i + 1) ≤ j ∧ j < 31
      · have c3 : 28 + i ≤ j ∧ j < 31 := ⟨by omega, c1.2⟩
        rw [if_pos c1, if_pos c3]
      · rw [if_neg c1]
        by_cases c2 : j = 28 + i
        · have c3 : 28 + i ≤ j ∧ j < 31 := ⟨by omega, by omega⟩
          rw [if_pos c2, if_pos c3, c2, Nat.add_sub_cancel_left]
        · rw [if_neg c2, if_neg (by omega)]
end TAKE6
