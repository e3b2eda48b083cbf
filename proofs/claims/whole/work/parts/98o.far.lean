/-! the reference joins ways -/
section FARB
variable {N : Nat}
def RdQ (d : Nat → Nat) (m k : Nat) (τ : St) : Prop := ∀ i, i < 25 → τ 83 i = dJ (if i < k then cmb d m i else d i)
def jN (x : Nat) : Nat := if x = 1000 then 99999999 else x
theorem dJ_jN (x : Nat) : dJ x = nI (jN x) := by
  unfold dJ jN
  by_cases c : x = 1000
  · rw [if_pos c, if_pos c]
    rfl
  · rw [if_neg c, if_neg c]
theorem cmbJ {X m a b : Nat} {d : Nat → Nat} (h : FwP X m d) (hX : X ≤ 200) (hm : m < 5) (ha : a < 5) (hb : b < 5) : (if dJ (d (5 * a + b)) ≤ dJ (d (5 * a + m)) + dJ (d (5 * m + b)) then dJ (d (5 * a + b)) else dJ (d (5 * a + m)) + dJ (d (5 * m + b))) = dJ (cmb d m (5 * a + b)) := by
  have u1 := h.1 (5 * a + b) (by omega)
  have u2 := h.1 (5 * a + m) (by omega)
  have u3 := h.1 (5 * m + b) (by omega)
  rw [cmb_at hb]
  generalize d (5 * a + b) = x at u1 ⊢
  generalize d (5 * a + m) = y at u2 ⊢
  generalize d (5 * m + b) = z at u3 ⊢
  have hy : jN y ≤ 99999999 := by
    unfold jN
    split <;> omega
  have hz : jN z ≤ 99999999 := by
    unfold jN
    split <;> omega
  have hx : jN x ≤ 99999999 := by
    unfold jN
    split <;> omega
  rw [dJ_jN x, dJ_jN y, dJ_jN z, nI_add]
  by_cases c : jN x ≤ jN y + jN z
  · rw [if_pos (nI_le c (by omega)), if_neg, dJ_jN]
    unfold jN at c
    split at c <;> split at c <;> split at c <;> omega
  · rw [if_neg (by rw [nI_le_iff (by omega) (by omega)]; exact c), if_pos]
    · unfold dJ jN
      unfold jN at c
      split at c <;> split at c <;> split at c <;> (try omega) <;> (rw [if_neg (by omega), if_neg (by omega), if_neg (by omega)])
    · unfold jN at c
      split at c <;> split at c <;> split at c <;> omega
theorem b_far48 {m : Nat} (hm : m < 5) (K41 : Int32 → St → Option (Unit × St)) : ∀ (c f i : Nat) (τ : St), i + c = 25 → c < f →
    ∃ w, l_X10_findFar_48 N K41 f (nI m) (nI i) τ = K41 (nI (m + 1)) w ∧ (∀ c, ¬ c = 83 → w c = τ c) ∧ ∀ X d, FwP X m d → X ≤ 200 → RdQ d m i τ → RdQ d m 25 w := by
  intro c
  induction c with
  | zero =>
    intro f i τ hi hf
    obtain ⟨f, rfl⟩ : ∃ k, f = k + 1 := ⟨f - 1, by omega⟩
    have e : i = 25 := by omega
    subst e
    refine ⟨τ, ?_, fun _ _ => rfl, fun _ _ _ _ h => h⟩
    rw [l_X10_findFar_48, if_pos (show (25 : Int32) ≤ nI 25 from nI_le (a := 25) (by omega) (by omega)), bt_eq, ← p1_sub]
  | succ c ih =>
    intro f i τ hi hf
    obtain ⟨f, rfl⟩ : ∃ k, f = k + 1 := ⟨f - 1, by omega⟩
    have hlt : ¬ (25 : Int32) ≤ nI i := fun e => absurd ((nI_le_iff (a := 25) (b := i) (by omega) (by omega)).mp e) (by omega)
    have ed : nI i / 5 = nI (i / 5) := nI_div (a := i) (b := 5) (by omega) (by omega)
    have em : nI i - nI i / 5 * 5 = nI (i % 5) := nI_mod (a := i) (b := 5) (by omega) (by omega)
    have i1 : (5 : Int32) * nI (i / 5) + nI m = nI (5 * (i / 5) + m) := by
      show nI 5 * nI (i / 5) + nI m = _
      rw [nI_mul, nI_add]
    have i2 : (5 : Int32) * nI m + nI (i % 5) = nI (5 * m + i % 5) := by
      show nI 5 * nI m + nI (i % 5) = _
      rw [nI_mul, nI_add]
    have step : ∀ x, (∀ X d, FwP X m d → X ≤ 200 → RdQ d m i τ → x = dJ (cmb d m i)) →
        ∃ w, j_X10_findFar_105 N K41 (l_X10_findFar_48 N K41 f) (nI m) (nI i) (nI i) x τ = K41 (nI (m + 1)) w ∧ (∀ c, ¬ c = 83 → w c = τ c) ∧ ∀ X d, FwP X m d → X ≤ 200 → RdQ d m i τ → RdQ d m 25 w := by
      intro x hx
      obtain ⟨w, z1, z2, z3⟩ := ih f (i + 1) (st τ 83 i x) (by omega) (by omega)
      refine ⟨w, ?_, fun c hc => (z2 c hc).trans (st_cell hc), fun X d hd hX hr => z3 X d hd hX fun j hj => ?_⟩
      · unfold j_X10_findFar_105
        rw [b_cka (x := i) (n := 25) _ (by omega) (by decide), bt_eq, bt_eq, nI_clamp (by omega), ← p1_sub]
        exact z1
      · rw [st_get]
        by_cases e : j = i
        · rw [if_pos e, if_pos (by omega), e]
          exact hx X d hd hX hr
        · rw [if_neg e, hr j hj]
          by_cases e2 : j < i
          · rw [if_pos e2, if_pos (by omega)]
          · rw [if_neg e2, if_neg (by omega)]
    have vals : ∀ X d, FwP X m d → X ≤ 200 → RdQ d m i τ → (if τ 83 i ≤ τ 83 (5 * (i / 5) + m) + τ 83 (5 * m + i % 5) then τ 83 i else τ 83 (5 * (i / 5) + m) + τ 83 (5 * m + i % 5)) = dJ (cmb d m i) := by
      intro X d hd hX hr
      have hi5 : i = 5 * (i / 5) + i % 5 := by omega
      have a5 : i / 5 < 5 := by omega
      have b5 : i % 5 < 5 := by omega
      have v1 : τ 83 (5 * (i / 5) + m) = dJ (d (5 * (i / 5) + m)) := by
        rw [hr _ (by omega), cmb_col hd hm]
        split <;> rfl
      have v2 : τ 83 (5 * m + i % 5) = dJ (d (5 * m + i % 5)) := by
        rw [hr _ (by omega), cmb_row hd hm b5]
        split <;> rfl
      have v3 : τ 83 i = dJ (d i) := by
        rw [hr _ (by omega), if_neg (Nat.lt_irrefl _)]
      have := cmbJ hd hX hm a5 b5
      rw [← hi5] at this
      rw [v1, v2, v3]
      exact this
    rw [l_X10_findFar_48, if_neg hlt, em, ed, i1, i2, b_cka (x := 5 * (i / 5) + m) (n := 25) _ (by omega) (by decide), b_cka (x := 5 * m + i % 5) (n := 25) _ (by omega) (by decide), bt_eq, nI_clamp (n := 5 * (i / 5) + m) (by omega), nI_clamp (n := 5 * m + i % 5) (by omega), b_cka (x := i) (n := 25) _ (by omega) (by decide), nI_clamp (n := i) (by omega)]
    by_cases c1 : τ 83 i ≤ τ 83 (5 * (i / 5) + m) + τ 83 (5 * m + i % 5)
    · rw [if_pos c1, b_cka (x := i) (n := 25) _ (by omega) (by decide)]
      refine step _ fun X d hd hX hr => ?_
      have := vals X d hd hX hr
      rw [if_pos c1] at this
      exact this
    · rw [if_neg c1]
      refine step _ fun X d hd hX hr => ?_
      have := vals X d hd hX hr
      rw [if_neg c1] at this
      exact this
theorem b_far41 (hN : 7000 ≤ N) : ∀ (c f m : Nat) (τ : St), m + c = 5 → c < f →
    ∃ w, l_X10_findFar_41 N f (nI m) τ = some ((), w) ∧ (∀ c, ¬ c = 83 → w c = τ c) ∧ ∀ X d, FwP X m d → X * 2 ^ c ≤ 400 → RdQ d m 0 τ → RdQ (fwM c m d) 5 0 w := by
  intro c
  induction c with
  | zero =>
    intro f m τ hm hf
    obtain ⟨f, rfl⟩ : ∃ k, f = k + 1 := ⟨f - 1, by omega⟩
    have e : m = 5 := by omega
    subst e
    refine ⟨τ, ?_, fun _ _ => rfl, fun _ _ _ _ h => h⟩
    rw [l_X10_findFar_41, if_pos (show (5 : Int32) ≤ nI 5 from nI_le (a := 5) (by omega) (by omega))]
  | succ c ih =>
    intro f m τ hm hf
    obtain ⟨f, rfl⟩ : ∃ k, f = k + 1 := ⟨f - 1, by omega⟩
    have hlt : ¬ (5 : Int32) ≤ nI m := fun e => absurd ((nI_le_iff (a := 5) (b := m) (by omega) (by omega)).mp e) (by omega)
    obtain ⟨w1, z1, z2, z3⟩ := b_far48 (N := N) (show m < 5 by omega) (l_X10_findFar_41 N f) 25 N 0 τ (by omega) (by omega)
    obtain ⟨w, y1, y2, y3⟩ := ih f (m + 1) w1 (by omega) (by omega)
    refine ⟨w, ?_, fun c hc => (y2 c hc).trans (z2 c hc), fun X d hd hX hr => ?_⟩
    · rw [l_X10_findFar_41, if_neg hlt]
      exact z1.trans y1
    · have hp : X * 2 ^ (c + 1) = 2 * X * 2 ^ c := by
        rw [Nat.pow_succ, Nat.mul_comm (2 ^ c) 2, ← Nat.mul_assoc, Nat.mul_comm X 2]
      have h1 : 1 ≤ 2 ^ c := Nat.one_le_two_pow
      have h2 : 2 * X * 1 ≤ 2 * X * 2 ^ c := Nat.mul_le_mul_left _ h1
      have hX2 : X ≤ 200 := by omega
      have hd2 := FwP_step hd (show m < 5 by omega) hX2
      refine y3 (2 * X) (cmb d m) hd2 (by omega) fun i hi => ?_
      have := z3 X d hd hX2 hr i hi
      rw [if_pos hi] at this
      rw [if_neg (Nat.not_lt_zero i)]
      exact this
theorem b_far2 : ∀ (c f i : Nat) (τ : St), i + c = 25 → c < f →
    ∃ w, l_X10_findFar_2 N f (nI i) τ = l_X10_findFar_41 N N 0 w ∧ (∀ c, ¬ c = 83 → w c = τ c) ∧ ∀ j, w 83 j = if i ≤ j ∧ j < 25 then (if j / 5 = j % 5 then 0 else τ 82 j) else τ 83 j := by
  intro c
  induction c with
  | zero =>
    intro f i τ hi hf
    obtain ⟨f, rfl⟩ : ∃ k, f = k + 1 := ⟨f - 1, by omega⟩
    have e : i = 25 := by omega
    subst e
    refine ⟨τ, ?_, fun _ _ => rfl, fun j => by rw [if_neg (by omega)]⟩
    rw [l_X10_findFar_2, if_pos (show (25 : Int32) ≤ nI 25 from nI_le (a := 25) (by omega) (by omega))]
  | succ c ih =>
    intro f i τ hi hf
    obtain ⟨f, rfl⟩ : ∃ k, f = k + 1 := ⟨f - 1, by omega⟩
    have hlt : ¬ (25 : Int32) ≤ nI i := fun e => absurd ((nI_le_iff (a := 25) (b := i) (by omega) (by omega)).mp e) (by omega)
    have ed : nI i / 5 = nI (i / 5) := nI_div (a := i) (b := 5) (by omega) (by omega)
    have em : nI i - nI i / 5 * 5 = nI (i % 5) := nI_mod (a := i) (b := 5) (by omega) (by omega)
    rw [l_X10_findFar_2, if_neg hlt, em, ed]
    have go : ∀ x, x = (if i / 5 = i % 5 then 0 else τ 82 i) → ∃ w, j_X10_findFar_32 N (l_X10_findFar_2 N f) (nI i) (nI i) x τ = l_X10_findFar_41 N N 0 w ∧ (∀ c, ¬ c = 83 → w c = τ c) ∧ ∀ j, w 83 j = if i ≤ j ∧ j < 25 then (if j / 5 = j % 5 then 0 else τ 82 j) else τ 83 j := by
      intro x hx
      obtain ⟨w, z1, z2, z3⟩ := ih f (i + 1) (st τ 83 i x) (by omega) (by omega)
      refine ⟨w, ?_, fun c hc => (z2 c hc).trans (st_cell hc), fun j => ?_⟩
      · unfold j_X10_findFar_32
        rw [b_cka (x := i) (n := 25) _ (by omega) (by decide), bt_eq, bt_eq, nI_clamp (by omega), ← p1_sub]
        exact z1
      · rw [z3, st_get, st_cell (by decide)]
        by_cases c1 : i + 1 ≤ j ∧ j < 25
        · have c3 : i ≤ j ∧ j < 25 := ⟨by omega, c1.2⟩
          rw [if_pos c1, if_pos c3]
        · rw [if_neg c1]
          by_cases c2 : j = i
          · have c3 : i ≤ j ∧ j < 25 := ⟨by omega, by omega⟩
            rw [if_pos c2, if_pos c3, c2, hx]
          · rw [if_neg c2, if_neg (by omega)]
    by_cases c1 : i / 5 = i % 5
    · rw [if_pos (by rw [c1])]
      exact go _ (by rw [if_pos c1])
    · rw [if_neg (fun e => c1 ((nI_eq (by omega) (by omega)).mp e)), b_cka (x := i) (n := 50) _ (by omega) (by decide), nI_clamp (n := i) (by omega)]
      exact go _ (by rw [if_neg c1])
theorem b_far {D : LD} {τ : St} (hO : RawOk D) (h82 : ∀ a b, a < 5 → b < 5 → ¬ a = b → τ 82 (5 * a + b) = dJ (D 7 (5 * a + b))) (hN : 7000 ≤ N) : ∃ w, o_X10_findFar N τ = some ((), w) ∧ (∀ c, ¬ c = 83 → w c = τ c) ∧ ∀ i, i < 25 → w 83 i = dJ (fwD D 7 i) := by
  obtain ⟨w1, z1, z2, z3⟩ := b_far2 (N := N) 25 N 0 τ (by omega) (by omega)
  obtain ⟨w, y1, y2, y3⟩ := b_far41 hN 5 N 0 w1 (by omega) (by omega)
  have hr := y3 9 (D 7) (raw_fw hO) (by decide) fun i hi => by
    rw [z3, if_pos ⟨Nat.zero_le _, hi⟩, if_neg (Nat.not_lt_zero i)]
    by_cases c : i / 5 = i % 5
    · rw [if_pos c]
      have := hO.2.2.2.2.2.2.1 (i / 5) (by omega)
      rw [show 5 * (i / 5) + i / 5 = i by omega] at this
      rw [this]
      rfl
    · rw [if_neg c]
      have := h82 (i / 5) (i % 5) (by omega) (by omega) c
      rw [show 5 * (i / 5) + i % 5 = i by omega] at this
      exact this
  refine ⟨w, z1.trans y1, fun c hc => (y2 c hc).trans (z2 c hc), fun i hi => ?_⟩
  have := hr i hi
  rw [if_neg (Nat.not_lt_zero i)] at this
  exact this
end FARB
