/-! all that one is grafted on, on both sides -/
def chN (D : LD) (O : Int32) : Nat → Nat → Nat → Bool
  | 0, _, _ => false
  | f + 1, p, x => bit O p && (decide (p = x) || (!decide (D 6 p = 9) && chN D O f (D 6 p) x))
section OLDER
variable {D : LD} {r : RD} {N : Nat} {O : Int32}
theorem chN_s (f p x : Nat) : chN D O (f + 1) p x = (bit O p && (decide (p = x) || (!decide (D 6 p = 9) && chN D O f (D 6 p) x))) := rfl
theorem chN_iff (ho : LandOk D) (hO : ∀ x, x < 32 → bit O x = true → x < nP D) : ∀ (f p x : Nat), p < nP D → p + 1 ≤ f → x < 32 →
    (chN D O f p x = true ↔ bit O p = true ∧ (p = x ∨ ∃ y, y < nP D ∧ chN D O f p y = true ∧ D 6 y = x ∧ bit O x = true)) := by
  intro f
  have h7 := ho.p7
  induction f with
  | zero =>
    intro p x hp hf
    omega
  | succ f ih =>
    intro p x hp hf hx
    have hg := (ho.pr hp).2.2.2.2.1
    have un : ∀ z, chN D O (f + 1) p z = true ↔ bit O p = true ∧ (p = z ∨ ¬ D 6 p = 9 ∧ chN D O f (D 6 p) z = true) := by
      intro z
      rw [chN_s]
      simp
    constructor
    · intro h
      obtain ⟨h1, h2⟩ := (un x).mp h
      refine ⟨h1, ?_⟩
      rcases h2 with h2 | ⟨h9, h2⟩
      · exact Or.inl h2
      · right
        have hgP : D 6 p < nP D := by omega
        obtain ⟨g1, g2⟩ := (ih (D 6 p) x hgP (by omega) hx).mp h2
        rcases g2 with g2 | ⟨y, y1, y2, y3, y4⟩
        · exact ⟨p, hp, (un p).mpr ⟨h1, Or.inl rfl⟩, g2, by rw [← g2]; exact g1⟩
        · exact ⟨y, y1, (un y).mpr ⟨h1, Or.inr ⟨h9, y2⟩⟩, y3, y4⟩
    · rintro ⟨h1, h2⟩
      refine (un x).mpr ⟨h1, ?_⟩
      rcases h2 with h2 | ⟨y, y1, y2, y3, y4⟩
      · exact Or.inl h2
      · right
        obtain ⟨-, z2⟩ := (un y).mp y2
        have hxP := hO x hx y4
        rcases z2 with z2 | ⟨h9, z2⟩
        · subst z2
          rw [y3]
          exact ⟨by omega, (ih x x hxP (by omega) hx).mpr ⟨y4, Or.inl rfl⟩⟩
        · have hgP : D 6 p < nP D := by omega
          have z3 := ((ih (D 6 p) y hgP (by omega) (by omega)).mp z2).1
          exact ⟨h9, (ih (D 6 p) x hgP (by omega) hx).mpr ⟨z3, Or.inr ⟨y, y1, z2, y3, y4⟩⟩⟩
theorem chN_O (ho : LandOk D) (hO : ∀ x, x < 32 → bit O x = true → x < nP D) {f p x : Nat} (hp : p < nP D) (hf : p + 1 ≤ f) (hx : x < 32) (h : chN D O f p x = true) : bit O x = true := by
  obtain ⟨h1, h2⟩ := (chN_iff ho hO f p x hp hf hx).mp h
  rcases h2 with h2 | ⟨y, -, -, -, y4⟩
  · rw [← h2]
    exact h1
  · exact y4
theorem a_older_loop (ho : LandOk D) {σ : St} (ha : LandA D σ) : ∀ (f n p i : Nat) (v3 : Int32), p < nP D → p + 1 ≤ f → i + p < 7 → f < n →
    ∃ S, l_X8_withOlder_8 N n O v3 (nI p) (nI i) σ = some (S, σ) ∧ ∀ x, x < 32 → bit S x = (bit v3 x || chN D O f p x) := by
  intro f
  have h7 := ho.p7
  induction f with
  | zero =>
    intro n p i v3 hp hf
    omega
  | succ f ih =>
    intro n p i v3 hp hf hi hn
    obtain ⟨n, rfl⟩ : ∃ k, n = k + 1 := ⟨n - 1, by omega⟩
    have hg := (ho.pr hp).2.2.2.2.1
    have es : nI (i + 1) = nI i + 1 := by rw [nI_succ]
    have hlt : ¬ (7 : Int32) ≤ nI i := fun e => absurd ((nI_le_iff (a := 7) (b := i) (by omega) (by omega)).mp e) (by omega)
    have e1 : ¬ b01 true = 0 := one_ne
    have e2 : b01 false = 0 := rfl
    rw [l_X8_withOlder_8, if_neg hlt, if_neg (nI_neg1 (by omega)), a_hasb O (g := p) (by omega)]
    cases hb : bit O p
    · rw [if_pos e2]
      refine ⟨v3, rfl, fun x _ => ?_⟩
      rw [chN_s, hb]
      simp
    · rw [if_neg e1, bt_eq, at_nI (j := p) (n := 7) (by omega) (by decide), (ha.2.2.2.1 p hp).2.2.2.2.2, bt_eq, bt_eq, ← es]
      have hbit : ∀ x, x < 32 → bit (v3 ||| 1 <<< (nI p &&& 31)) x = (bit v3 x || decide (p = x)) := fun x hx => by
        rw [bit_or, bit_one (by omega) hx]
      by_cases h9 : D 6 p = 9
      · have e9 : gI (D 6 p) = -1 := if_pos h9
        obtain ⟨n, rfl⟩ : ∃ k, n = k + 1 := ⟨n - 1, by omega⟩
        refine ⟨v3 ||| 1 <<< (nI p &&& 31), ?_, fun x hx => ?_⟩
        · rw [e9, l_X8_withOlder_8]
          by_cases c : (7 : Int32) ≤ nI (i + 1)
          · rw [if_pos c]
          · rw [if_neg c, if_pos rfl]
        · rw [hbit x hx, chN_s, hb, decide_eq_true h9]
          simp
      · have e9 : gI (D 6 p) = nI (D 6 p) := if_neg h9
        obtain ⟨S, s1, s2⟩ := ih n (D 6 p) (i + 1) (v3 ||| 1 <<< (nI p &&& 31)) (by omega) (by omega) (by omega) (by omega)
        refine ⟨S, by rw [e9]; exact s1, fun x hx => ?_⟩
        rw [s2 x hx, hbit x hx, chN_s, hb, decide_eq_false h9]
        simp [Bool.or_assoc]
/-- the set that holds p, q and all that they are grafted on -/
def clN (D : LD) (O : Int32) (p q x : Nat) : Bool := chN D O 7 p x || chN D O 7 q x
theorem clN_iff (ho : LandOk D) (hO : ∀ x, x < 32 → bit O x = true → x < nP D) {p q : Nat} (hp : p < nP D) (hq : q < nP D) (bp : bit O p = true) (bq : bit O q = true) {x : Nat} (hx : x < 32) :
    clN D O p q x = true ↔ (x = p ∨ x = q) ∨ ∃ y, y < nP D ∧ clN D O p q y = true ∧ D 6 y = x ∧ bit O x = true := by
  have h7 := ho.p7
  unfold clN
  simp only [Bool.or_eq_true]
  constructor
  · rintro (h | h)
    · obtain ⟨h1, h2⟩ := (chN_iff ho hO 7 p x hp (by omega) hx).mp h
      rcases h2 with h2 | ⟨y, y1, y2, y3⟩
      · exact Or.inl (Or.inl h2.symm)
      · exact Or.inr ⟨y, y1, Or.inl y2, y3⟩
    · obtain ⟨h1, h2⟩ := (chN_iff ho hO 7 q x hq (by omega) hx).mp h
      rcases h2 with h2 | ⟨y, y1, y2, y3⟩
      · exact Or.inl (Or.inr h2.symm)
      · exact Or.inr ⟨y, y1, Or.inr y2, y3⟩
  · rintro ((h | h) | ⟨y, y1, y2 | y2, y3⟩)
    · exact Or.inl ((chN_iff ho hO 7 p x hp (by omega) hx).mpr ⟨bp, Or.inl h.symm⟩)
    · exact Or.inr ((chN_iff ho hO 7 q x hq (by omega) hx).mpr ⟨bq, Or.inl h.symm⟩)
    · exact Or.inl ((chN_iff ho hO 7 p x hp (by omega) hx).mpr ⟨bp, Or.inr ⟨y, y1, y2, y3⟩⟩)
    · exact Or.inr ((chN_iff ho hO 7 q x hq (by omega) hx).mpr ⟨bq, Or.inr ⟨y, y1, y2, y3⟩⟩)
theorem b_with_loop2 (ho : LandOk D) (hO : ∀ x, x < 32 → bit O x = true → x < nP D) {p q : Nat} (hp : p < nP D) (hq : q < nP D) (bp : bit O p = true) (bq : bit O q = true) {σ : St} (hb : LandB D σ) : ∀ (j n : Nat) (S : Int32), j ≤ nP D → j < n →
    (∀ x, x < 32 → (bit S x = true ↔ (x = p ∨ x = q) ∨ ∃ y, j ≤ y ∧ y < nP D ∧ clN D O p q y = true ∧ D 6 y = x ∧ bit O x = true)) →
    ∃ S', l_X10_withGrafts_17 N n S O (nI j - 1) σ = some (S', σ) ∧ ∀ x, x < 32 → (bit S' x = true ↔ clN D O p q x = true) := by
  intro j
  have h7 := ho.p7
  induction j with
  | zero =>
    intro n S hj hn hS
    obtain ⟨n, rfl⟩ : ∃ k, n = k + 1 := ⟨n - 1, by omega⟩
    refine ⟨S, ?_, fun x hx => ?_⟩
    · rw [l_X10_withGrafts_17, if_pos (by decide)]
    · rw [hS x hx, clN_iff ho hO hp hq bp bq hx]
      constructor
      · rintro (h | ⟨y, -, h⟩)
        · exact Or.inl h
        · exact Or.inr ⟨y, h⟩
      · rintro (h | ⟨y, h⟩)
        · exact Or.inl h
        · exact Or.inr ⟨y, Nat.zero_le _, h⟩
  | succ j ih =>
    intro n S hj hn hS
    obtain ⟨n, rfl⟩ : ∃ k, n = k + 1 := ⟨n - 1, by omega⟩
    have ej : nI (j + 1) - 1 = nI j := by
      show nI (j + 1) - nI 1 = _
      rw [nI_sub (by omega)]
      rfl
    have em : nI j + (-1) = nI j - 1 := by rw [Int32.sub_eq_add_neg]
    have hg := (ho.pr (show j < nP D by omega)).2.2.2.2.1
    have e1 : ¬ b01 true = 0 := one_ne
    have e2 : b01 false = 0 := rfl
    -- whether j itself is in the set
    have hjS : bit S j = true ↔ clN D O p q j = true := by
      rw [hS j (by omega), clN_iff ho hO hp hq bp bq (show j < 32 by omega)]
      constructor
      · rintro (h | ⟨y, -, h⟩)
        · exact Or.inl h
        · exact Or.inr ⟨y, h⟩
      · rintro (h | ⟨y, y1, y2, y3, y4⟩)
        · exact Or.inl h
        · have := (ho.pr y1).2.2.2.2.1
          exact Or.inr ⟨y, by omega, y1, y2, y3, y4⟩
    have next : ∀ T, (∀ x, x < 32 → bit T x = (bit S x || (decide (clN D O p q j = true) && (decide (D 6 j = x) && bit O x)))) → ∃ S', l_X10_withGrafts_17 N n T O (nI j - 1) σ = some (S', σ) ∧ ∀ x, x < 32 → (bit S' x = true ↔ clN D O p q x = true) := by
      intro T hT
      refine ih n T (by omega) (by omega) fun x hx => ?_
      rw [hT x hx, Bool.or_eq_true, hS x hx, Bool.and_eq_true, Bool.and_eq_true, decide_eq_true_eq, decide_eq_true_eq]
      constructor
      · rintro ((h | ⟨y, y1, y2⟩) | ⟨h1, h2, h3⟩)
        · exact Or.inl h
        · exact Or.inr ⟨y, by omega, y2⟩
        · exact Or.inr ⟨j, Nat.le_refl _, by omega, h1, h2, h3⟩
      · rintro (h | ⟨y, y1, y2, y3, y4, y5⟩)
        · exact Or.inl (Or.inl h)
        · by_cases e : y = j
          · subst e
            exact Or.inr ⟨y3, y4, y5⟩
          · exact Or.inl (Or.inr ⟨y, by omega, y2, y3, y4, y5⟩)
    have keep : ¬ (clN D O p q j = true ∧ bit O (D 6 j) = true) → ∃ S', j_X10_withGrafts_71 N (l_X10_withGrafts_17 N n) O (nI j) S σ = some (S', σ) ∧ ∀ x, x < 32 → (bit S' x = true ↔ clN D O p q x = true) := by
      intro hno
      obtain ⟨S', s1, s2⟩ := next (S ||| 0) (fun x hx => by
        rw [bit_or, bit_0, Bool.or_false]
        have : (decide (clN D O p q j = true) && (decide (D 6 j = x) && bit O x)) = false := by
          by_cases c1 : clN D O p q j = true
          · by_cases c2 : D 6 j = x
            · rw [← c2]
              have : bit O (D 6 j) = false := by
                cases e : bit O (D 6 j)
                · rfl
                · exact absurd ⟨c1, e⟩ hno
              rw [this]
              simp
            · rw [decide_eq_false c2]
              simp
          · rw [decide_eq_false c1]
            rfl
        rw [this, Bool.or_false])
      refine ⟨S', ?_, s2⟩
      unfold j_X10_withGrafts_71 j_X10_withGrafts_72
      rw [bt_eq, bt_eq, em]
      exact s1
    rw [ej, l_X10_withGrafts_17, if_neg (nI_pos (by omega)), b_has S (g := j) (by omega)]
    cases hbj : bit S j
    · rw [if_pos e2]
      exact keep (fun x => by have := hjS.mpr x.1; rw [hbj] at this; cases this)
    · have hcl := hjS.mp hbj
      rw [if_neg e1, b_cka (x := j) (n := 14) _ (by omega) (by decide), b_cka (x := j) (n := 14) _ (by omega) (by decide), b_cka (x := j) (n := 14) _ (by omega) (by decide), nI_clamp (n := j) (by omega), (hb.2.2.2.1 j (by omega)).2.2.2.2.2]
      by_cases h9 : D 6 j = 9
      · have e9 : nI (D 6 j) = (9 : Int32) := by
          rw [h9]
          rfl
        rw [if_pos e9]
        refine keep (fun x => ?_)
        have := hO (D 6 j) (by omega) x.2
        omega
      · have e9 : ¬ nI (D 6 j) = (9 : Int32) := fun e => h9 ((nI_eq (a := D 6 j) (b := 9) (by omega) (by omega)).mp e)
        rw [if_neg e9, b_has O (g := D 6 j) (by omega)]
        cases hbo : bit O (D 6 j)
        · rw [if_pos e2]
          exact keep (fun x => by rw [hbo] at x; cases x.2)
        · rw [if_neg e1]
          obtain ⟨S', s1, s2⟩ := next (S ||| 1 <<< (nI (D 6 j) &&& 31)) (fun x hx => by
            rw [bit_or, bit_one (by omega) hx, decide_eq_true hcl, Bool.true_and]
            by_cases c2 : D 6 j = x
            · rw [decide_eq_true c2, ← c2, hbo]
              rfl
            · rw [decide_eq_false c2]
              rfl)
          refine ⟨S', ?_, s2⟩
          unfold j_X10_withGrafts_72
          rw [bt_eq, bt_eq, em]
          exact s1
end OLDER
