/-! the class reads the whole text -/
section READDD
variable {n : Nat} {l : Nat → Nat} {N : Nat} {D : LD}
def RdPD (d : Nat → Nat) (m k : Nat) (σ : St) : Prop := ∀ i, i < 25 → σ 20 i = dI (if i < k then cmb d m i else d i)
theorem a_join16D (hN : 7000 ≤ N) {m a : Nat} (hm : m < 5) (ha : a < 5) (K2 : Int32 → St → Option (Unit × St)) (K9 : Int32 → Int32 → St → Option (Unit × St)) : ∀ (c f b : Nat) (σ : St), b + c = 5 → c < f →
    ∃ w, l_X5_joinRoads_11_16 N K2 K9 f (nI m) (nI a) (nI b) σ = K9 (nI m) (nI (a + 1)) w ∧ (∀ c, ¬ c = 20 → w c = σ c) ∧ ∀ X d, FwP X m d → X ≤ 200 → RdPD d m (5 * a + b) σ → RdPD d m (5 * a + 5) w := by
  intro c
  induction c with
  | zero =>
    intro f b σ hb hf
    obtain ⟨f, rfl⟩ : ∃ k, f = k + 1 := ⟨f - 1, by omega⟩
    have e : b = 5 := by omega
    subst e
    refine ⟨σ, ?_, fun _ _ => rfl, fun _ _ _ _ h => h⟩
    rw [l_X5_joinRoads_11_16, if_pos (show (5 : Int32) ≤ nI 5 from nI_le (a := 5) (by omega) (by omega)), bt_eq, ← p1_sub]
  | succ c ih =>
    intro f b σ hb hf
    obtain ⟨f, rfl⟩ : ∃ k, f = k + 1 := ⟨f - 1, by omega⟩
    have hlt : ¬ (5 : Int32) ≤ nI b := fun e => absurd ((nI_le_iff (a := 5) (b := b) (by omega) (by omega)).mp e) (by omega)
    have i1 : nI a * 5 + nI m = nI (5 * a + m) := by
      show nI a * nI 5 + nI m = _
      rw [nI_mul, nI_add, Nat.mul_comm]
    have i2 : nI m * 5 + nI b = nI (5 * m + b) := by
      show nI m * nI 5 + nI b = _
      rw [nI_mul, nI_add, Nat.mul_comm]
    rw [l_X5_joinRoads_11_16, if_neg hlt, bt_eq, bt_eq, i1, i2, at_nI (j := 5 * a + m) (n := 25) (by omega) (by decide), at_nI (j := 5 * m + b) (n := 25) (by omega) (by decide)]
    have step : ∀ σ', (∀ c, ¬ c = 20 → σ' c = σ c) → (∀ X d, FwP X m d → X ≤ 200 → RdPD d m (5 * a + b) σ → RdPD d m (5 * a + b + 1) σ') →
        ∃ w, j_X5_joinRoads_11_72 N K2 K9 (l_X5_joinRoads_11_16 N K2 K9 f) (nI m) (nI a) (nI b) σ' = K9 (nI m) (nI (a + 1)) w ∧ (∀ c, ¬ c = 20 → w c = σ c) ∧ ∀ X d, FwP X m d → X ≤ 200 → RdPD d m (5 * a + b) σ → RdPD d m (5 * a + 5) w := by
      intro σ' h1 h2
      obtain ⟨w, z1, z2, z3⟩ := ih f (b + 1) σ' (by omega) (by omega)
      refine ⟨w, ?_, fun c hc => (z2 c hc).trans (h1 c hc), fun X d hd hX hr => z3 X d hd hX (h2 X d hd hX hr)⟩
      unfold j_X5_joinRoads_11_72
      rw [bt_eq, ← p1_sub]
      exact z1
    have vals : ∀ X d, FwP X m d → X ≤ 200 → RdPD d m (5 * a + b) σ → σ 20 (5 * a + m) = dI (d (5 * a + m)) ∧ σ 20 (5 * m + b) = dI (d (5 * m + b)) ∧ σ 20 (5 * a + b) = dI (d (5 * a + b)) := by
      intro X d hd hX hr
      refine ⟨?_, ?_, ?_⟩
      · rw [hr _ (by omega), cmb_col hd hm]
        split <;> rfl
      · rw [hr _ (by omega), cmb_row hd hm (by omega)]
        split <;> rfl
      · rw [hr _ (by omega), if_neg (by omega)]
    have stay : ∀ X d, FwP X m d → X ≤ 200 → RdPD d m (5 * a + b) σ → cmb d m (5 * a + b) = d (5 * a + b) → RdPD d m (5 * a + b + 1) σ := by
      intro X d hd hX hr he i hi
      rw [hr i hi]
      by_cases c1 : i < 5 * a + b
      · rw [if_pos c1, if_pos (by omega)]
      · rw [if_neg c1]
        by_cases c2 : i = 5 * a + b
        · rw [if_pos (by omega), c2, he]
        · rw [if_neg (by omega)]
    by_cases c1 : σ 20 (5 * a + m) = -1
    · rw [if_pos c1]
      refine step σ (fun _ _ => rfl) fun X d hd hX hr => stay X d hd hX hr ?_
      obtain ⟨v1, v2, v3⟩ := vals X d hd hX hr
      have u := hd.1 (5 * a + m) (by omega)
      have : d (5 * a + m) = 1000 := by
        rw [v1] at c1
        unfold dI at c1
        by_cases e : d (5 * a + m) = 1000
        · exact e
        · rw [if_neg e] at c1
          exact absurd c1 (nI_neg1 (by omega))
      rw [cmb_at (by omega), if_neg (fun z => z.1.1 this)]
    · rw [if_neg c1]
      by_cases c2 : σ 20 (5 * m + b) = -1
      · rw [if_pos c2]
        refine step σ (fun _ _ => rfl) fun X d hd hX hr => stay X d hd hX hr ?_
        obtain ⟨v1, v2, v3⟩ := vals X d hd hX hr
        have u := hd.1 (5 * m + b) (by omega)
        have : d (5 * m + b) = 1000 := by
          rw [v2] at c2
          unfold dI at c2
          by_cases e : d (5 * m + b) = 1000
          · exact e
          · rw [if_neg e] at c2
            exact absurd c2 (nI_neg1 (by omega))
        rw [cmb_at (by omega), if_neg (fun z => z.1.2 this)]
      · rw [if_neg c2, bt_eq]
        refine step _ (fun c hc => ?_) fun X d hd hX hr => ?_
        · have := fr_X5_shorten_11 (nI a) (nI b) (σ 20 (5 * a + m) + σ 20 (5 * m + b)) σ _ rfl c
          exact this (by simpa using hc)
        · obtain ⟨v1, v2, v3⟩ := vals X d hd hX hr
          have u1 := hd.1 (5 * a + m) (by omega)
          have u2 := hd.1 (5 * m + b) (by omega)
          have u3 := hd.1 (5 * a + b) (by omega)
          have n1 : ¬ d (5 * a + m) = 1000 := fun e => c1 (by rw [v1]; exact if_pos e)
          have n2 : ¬ d (5 * m + b) = 1000 := fun e => c2 (by rw [v2]; exact if_pos e)
          have e1 : dI (d (5 * a + m)) = nI (d (5 * a + m)) := if_neg n1
          have e2 : dI (d (5 * m + b)) = nI (d (5 * m + b)) := if_neg n2
          rw [v1, v2, e1, e2, nI_add]
          obtain ⟨w, g1, g2, g3⟩ := a_shortenD (d := d (5 * a + m) + d (5 * m + b)) ha (show b < 5 by omega) (by omega) (by omega) v3
          rw [g1]
          intro i hi
          rw [g2]
          have hc := cmb_at (d := d) (m := m) (a := a) (show b < 5 by omega)
          by_cases ci : i = 5 * a + b
          · have hlt2 : 5 * a + b < 5 * a + b + 1 := Nat.lt_succ_self _
            rw [if_pos ci, ci, if_pos hlt2, hc]
            by_cases cc : d (5 * a + b) = 1000 ∨ d (5 * a + m) + d (5 * m + b) < d (5 * a + b)
            · rw [if_pos cc, if_pos ⟨⟨n1, n2⟩, cc⟩]
              exact (if_neg (by omega)).symm
            · rw [if_neg cc, if_neg (fun z => cc z.2)]
          · rw [if_neg ci, hr i hi]
            by_cases cl : i < 5 * a + b
            · rw [if_pos cl, if_pos (by omega)]
            · rw [if_neg cl, if_neg (by omega)]
theorem a_join9D (hN : 7000 ≤ N) {m : Nat} (hm : m < 5) (K2 : Int32 → St → Option (Unit × St)) : ∀ (c f a : Nat) (σ : St), a + c = 5 → c < f →
    ∃ w, l_X5_joinRoads_11_9 N K2 f (nI m) (nI a) σ = K2 (nI (m + 1)) w ∧ (∀ c, ¬ c = 20 → w c = σ c) ∧ ∀ X d, FwP X m d → X ≤ 200 → RdPD d m (5 * a) σ → RdPD d m 25 w := by
  intro c
  induction c with
  | zero =>
    intro f a σ ha hf
    obtain ⟨f, rfl⟩ : ∃ k, f = k + 1 := ⟨f - 1, by omega⟩
    have e : a = 5 := by omega
    subst e
    refine ⟨σ, ?_, fun _ _ => rfl, fun _ _ _ _ h => h⟩
    rw [l_X5_joinRoads_11_9, if_pos (show (5 : Int32) ≤ nI 5 from nI_le (a := 5) (by omega) (by omega)), bt_eq, ← p1_sub]
  | succ c ih =>
    intro f a σ ha hf
    obtain ⟨f, rfl⟩ : ∃ k, f = k + 1 := ⟨f - 1, by omega⟩
    have hlt : ¬ (5 : Int32) ≤ nI a := fun e => absurd ((nI_le_iff (a := 5) (b := a) (by omega) (by omega)).mp e) (by omega)
    obtain ⟨w1, z1, z2, z3⟩ := a_join16D hN hm (show a < 5 by omega) K2 (l_X5_joinRoads_11_9 N K2 f) 5 N 0 σ (by omega) (by omega)
    obtain ⟨w, y1, y2, y3⟩ := ih f (a + 1) w1 (by omega) (by omega)
    refine ⟨w, ?_, fun c hc => (y2 c hc).trans (z2 c hc), fun X d hd hX hr => y3 X d hd hX (by
      have := z3 X d hd hX hr
      rw [show 5 * (a + 1) = 5 * a + 5 by omega]
      exact this)⟩
    rw [l_X5_joinRoads_11_9, if_neg hlt]
    exact z1.trans y1
theorem a_join2D (hN : 7000 ≤ N) : ∀ (c f m : Nat) (σ : St), m + c = 5 → c < f →
    ∃ w, l_X5_joinRoads_11_2 N f (nI m) σ = some ((), w) ∧ (∀ c, ¬ c = 20 → w c = σ c) ∧ ∀ X d, FwP X m d → X * 2 ^ c ≤ 400 → RdPD d m 0 σ → RdPD (fwM c m d) 5 0 w := by
  intro c
  induction c with
  | zero =>
    intro f m σ hm hf
    obtain ⟨f, rfl⟩ : ∃ k, f = k + 1 := ⟨f - 1, by omega⟩
    have e : m = 5 := by omega
    subst e
    refine ⟨σ, ?_, fun _ _ => rfl, fun _ _ _ _ h => h⟩
    rw [l_X5_joinRoads_11_2, if_pos (show (5 : Int32) ≤ nI 5 from nI_le (a := 5) (by omega) (by omega))]
  | succ c ih =>
    intro f m σ hm hf
    obtain ⟨f, rfl⟩ : ∃ k, f = k + 1 := ⟨f - 1, by omega⟩
    have hlt : ¬ (5 : Int32) ≤ nI m := fun e => absurd ((nI_le_iff (a := 5) (b := m) (by omega) (by omega)).mp e) (by omega)
    obtain ⟨w1, z1, z2, z3⟩ := a_join9D hN (show m < 5 by omega) (l_X5_joinRoads_11_2 N f) 5 N 0 σ (by omega) (by omega)
    obtain ⟨w, y1, y2, y3⟩ := ih f (m + 1) w1 (by omega) (by omega)
    refine ⟨w, ?_, fun c hc => (y2 c hc).trans (z2 c hc), fun X d hd hX hr => ?_⟩
    · rw [l_X5_joinRoads_11_2, if_neg hlt]
      exact z1.trans y1
    · have hp : X * 2 ^ (c + 1) = 2 * X * 2 ^ c := by
        rw [Nat.pow_succ, Nat.mul_comm (2 ^ c) 2, ← Nat.mul_assoc, Nat.mul_comm X 2]
      have h1 : 1 ≤ 2 ^ c := Nat.one_le_two_pow
      have h2 : 2 * X * 1 ≤ 2 * X * 2 ^ c := Nat.mul_le_mul_left _ h1
      have hX2 : X ≤ 200 := by omega
      have hd2 := FwP_step hd (show m < 5 by omega) hX2
      refine y3 (2 * X) (cmb d m) hd2 (by omega) fun i hi => ?_
      have := z3 X d hd hX2 hr i hi
      rw [if_pos hi] at this
      rw [if_neg (Nat.not_lt_zero i)]
      exact this
theorem a_joinD (hN : 7000 ≤ N) (σ : St) : ∃ w, o_X5_joinRoads_11 N σ = some ((), w) ∧ (∀ c, ¬ c = 20 → w c = σ c) ∧ ∀ D, RawOk D → LdAD D σ → LdAD (fwD D) w := by
  obtain ⟨w, z1, z2, z3⟩ := a_join2D hN 5 N 0 σ (by omega) (by omega)
  refine ⟨w, z1, z2, fun D hO hL => ?_⟩
  have hr := z3 9 (D 7) (raw_fw hO) (by decide) (fun i hi => by rw [if_neg (Nat.not_lt_zero i)]; exact hL.2.2.2.2 i hi)
  have o : ∀ a, a < 10 → ∀ i, w (a + 10) i = σ (a + 10) i := fun a ha i => by rw [z2 _ (by omega)]
  refine ⟨⟨(o 1 (by omega) 0).trans hL.1.1, (o 1 (by omega) 1).trans hL.1.2.1, (o 1 (by omega) 2).trans hL.1.2.2.1, (o 1 (by omega) 3).trans hL.1.2.2.2⟩, ⟨(o 1 (by omega) 4).trans hL.2.1.1, (o 1 (by omega) 5).trans hL.2.1.2.1, (o 1 (by omega) 6).trans hL.2.1.2.2⟩, fun k hk => ?_, fun q hq => ?_, fun i hi => ?_⟩
  · have h3 := hL.2.2.1 k hk
    exact ⟨(o 3 (by omega) k).trans h3.1, (o 2 (by omega) k).trans h3.2⟩
  · have h4 := hL.2.2.2.1 q hq
    exact ⟨(o 4 (by omega) q).trans h4.1, (o 5 (by omega) q).trans h4.2.1, (o 6 (by omega) q).trans h4.2.2.1, (o 7 (by omega) q).trans h4.2.2.2.1, (o 8 (by omega) q).trans h4.2.2.2.2.1, (o 9 (by omega) q).trans h4.2.2.2.2.2⟩
  · have := hr i hi
    rw [if_neg (Nat.not_lt_zero i)] at this
    exact this
theorem a_clear_loopD : ∀ (c f i : Nat) (σ : St), i + c = 25 → c < f → ∃ w, l_X5_clear_11_37 N f (nI i) σ = some ((), w) ∧ (∀ j, w 20 j = if i ≤ j ∧ j < 25 then dI (rawD 7 j) else σ 20 j) ∧ ∀ c, ¬ c = 20 → w c = σ c := by
  intro c
  induction c with
  | zero =>
    intro f i σ hi hf
    obtain ⟨f, rfl⟩ : ∃ k, f = k + 1 := ⟨f - 1, by omega⟩
    have e : i = 25 := by omega
    subst e
    refine ⟨σ, ?_, fun j => by rw [if_neg (by omega)], fun _ _ => rfl⟩
    rw [l_X5_clear_11_37, if_pos (show (25 : Int32) ≤ nI 25 from nI_le (a := 25) (by omega) (by omega))]
  | succ c ih =>
    intro f i σ hi hf
    obtain ⟨f, rfl⟩ : ∃ k, f = k + 1 := ⟨f - 1, by omega⟩
    have hlt : ¬ (25 : Int32) ≤ nI i := fun e => absurd ((nI_le_iff (a := 25) (b := i) (by omega) (by omega)).mp e) (by omega)
    have ed : nI i / 5 = nI (i / 5) := nI_div (a := i) (b := 5) (by omega) (by omega)
    have em : nI i - nI i / 5 * 5 = nI (i % 5) := nI_mod (a := i) (b := 5) (by omega) (by omega)
    rw [l_X5_clear_11_37, if_neg hlt, em, ed]
    have go : ∀ x, x = dI (rawD 7 i) → ∃ w, j_X5_clear_11_65 N (l_X5_clear_11_37 N f) (nI i) (nI i) x σ = some ((), w) ∧ (∀ j, w 20 j = if i ≤ j ∧ j < 25 then dI (rawD 7 j) else σ 20 j) ∧ ∀ c, ¬ c = 20 → w c = σ c := by
      intro x hx
      obtain ⟨w, z1, z2, z3⟩ := ih f (i + 1) (st σ 20 i x) (by omega) (by omega)
      refine ⟨w, ?_, fun j => ?_, fun c hc => (z3 c hc).trans (st_cell hc)⟩
      · unfold j_X5_clear_11_65
        rw [b_cka (x := i) (n := 25) _ (by omega) (by decide), bt_eq, bt_eq, nI_clamp (by omega), ← p1_sub]
        exact z1
      · rw [z2, st_get]
        by_cases c1 : i + 1 ≤ j ∧ j < 25
        · rw [if_pos c1, if_pos ⟨by omega, c1.2⟩]
        · rw [if_neg c1]
          by_cases c2 : j = i
          · rw [if_pos c2, if_pos ⟨by omega, by omega⟩, c2, hx]
          · rw [if_neg c2, if_neg (by omega)]
    have er : rawD 7 i = if i / 5 = i % 5 then 0 else 1000 := if_pos rfl
    by_cases c1 : i / 5 = i % 5
    · rw [if_pos (by rw [c1])]
      refine go _ ?_
      rw [er, if_pos c1]
      rfl
    · rw [if_neg (fun e => c1 ((nI_eq (by omega) (by omega)).mp e))]
      refine go _ ?_
      rw [er, if_neg c1]
      rfl
theorem a_clearD (hN : 7000 ≤ N) (σ : St) : ∃ w, o_X5_clear_11 N σ = some ((), w) ∧ LdAD rawD w ∧ ∀ c, ¬ c = 11 → ¬ c = 20 → w c = σ c := by
  obtain ⟨w, z1, z2, z3⟩ := a_clear_loopD (N := N) 25 N 0 (st (st (st (st (st (st (st σ 11 0 0) 11 1 0) 11 2 0) 11 3 0) 11 4 0) 11 5 0) 11 6 0) (by omega) (by omega)
  refine ⟨w, z1, ?_, fun c h1 h2 => ?_⟩
  · have o : ∀ i, i < 7 → w 11 i = 0 := by
      intro i hi
      rw [z3 11 (by decide), st_get, st_get, st_get, st_get, st_get, st_get, st_get]
      by_cases c6 : i = 6
      · rw [if_pos c6]
      rw [if_neg c6]
      by_cases c5 : i = 5
      · rw [if_pos c5]
      rw [if_neg c5]
      by_cases c4 : i = 4
      · rw [if_pos c4]
      rw [if_neg c4]
      by_cases c3 : i = 3
      · rw [if_pos c3]
      rw [if_neg c3]
      by_cases c2 : i = 2
      · rw [if_pos c2]
      rw [if_neg c2]
      by_cases c1 : i = 1
      · rw [if_pos c1]
      rw [if_neg c1, if_pos (by omega)]
    refine ⟨⟨o 0 (by omega), o 1 (by omega), o 2 (by omega), o 3 (by omega)⟩, ⟨o 4 (by omega), o 5 (by omega), o 6 (by omega)⟩, fun k hk => absurd hk (Nat.not_lt_zero _), fun q hq => absurd hq (Nat.not_lt_zero _), fun i hi => ?_⟩
    show w 20 i = _
    rw [z2, if_pos ⟨Nat.zero_le _, hi⟩]
  · rw [z3 c h2, st_cell h1, st_cell h1, st_cell h1, st_cell h1, st_cell h1, st_cell h1, st_cell h1]
end READDD
