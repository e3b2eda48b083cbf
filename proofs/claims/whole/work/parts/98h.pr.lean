/-! the whole text, as one function -/
def prN (n : Nat) (l : Nat → Nat) : Nat → LD → Nat → PR LD
  | 0, D, _ => .inr D
  | c + 1, D, p => if n ≤ skP n l p then .inr D else pbind (clE n l (cl0 n l D (skP n l p))) fun y => prN n l c y.1 y.2
section PRN
variable {n : Nat} {l : Nat → Nat} {D : LD}
theorem pend_in {p q : Nat} (hp : p ≤ n) (e : pend n l p = .inr q) : p < q ∧ q ≤ n := by
  have h1 : p ≤ skP n l p := skN_ge (n := n) (l := l) 250 p
  unfold pend at e
  by_cases c : skP n l p < n ∧ l (skP n l p) = 59
  · rw [if_pos c] at e
    have := Sum.inr.inj e
    omega
  · rw [if_neg c] at e
    cases e
theorem clE_in {x : CR} {y : LD × Nat} (e : clE n l x = .inr y) : ∃ q, x = .inr (y.1, q) ∧ pend n l q = .inr y.2 := by
  cases x with
  | inl z => cases e
  | inr z =>
    unfold clE at e
    rw [pb_r] at e
    cases hq : pend n l z.2 with
    | inl w =>
      rw [hq] at e
      cases e
    | inr q =>
      rw [hq, pb_r] at e
      have := Sum.inr.inj e
      rw [← this]
      exact ⟨z.2, rfl, hq⟩
theorem pb_in {α β : Type} {x : PR α} {f : α → PR β} {y : β} (e : pbind x f = .inr y) : ∃ a, x = .inr a ∧ f a = .inr y := by
  cases x with
  | inl z => cases e
  | inr a => exact ⟨a, rfl, e⟩
theorem cl0_ok (h : RawOk D) {p : Nat} (hp : p < n) {y : LD × Nat} (e : cl0 n l D p = .inr y) : RawOk y.1 ∧ p < y.2 ∧ y.2 ≤ n := by
  unfold cl0 at e
  by_cases c0 : nT D = 0 ∧ l p ≠ 116
  · rw [if_pos c0] at e
    cases e
  rw [if_neg c0] at e
  by_cases c1 : l p = 107
  · rw [if_pos c1] at e
    by_cases c2 : 3 ≤ nK D
    · rw [if_pos c2] at e
      cases e
    · rw [if_neg c2] at e
      unfold clK at e
      obtain ⟨a, a1, e⟩ := pb_in e
      obtain ⟨b, b1, e⟩ := pb_in e
      have := Sum.inr.inj e
      subst this
      have i1 := pnum_in (by omega) a1
      have i2 := pnum_in i1.2.2 b1
      exact ⟨keepD_ok h (by omega) i1.1.2 i2.1.2, Nat.lt_trans (Nat.lt_of_succ_lt i1.2.1) i2.2.1, i2.2.2⟩
  rw [if_neg c1] at e
  by_cases c3 : l p = 112
  · rw [if_pos c3] at e
    by_cases c2 : 7 ≤ nP D
    · rw [if_pos c2] at e
      cases e
    · rw [if_neg c2] at e
      unfold clP at e
      obtain ⟨a, a1, e⟩ := pb_in e
      obtain ⟨b, b1, e⟩ := pb_in e
      obtain ⟨c, c1', e⟩ := pb_in e
      obtain ⟨d, d1, e⟩ := pb_in e
      obtain ⟨f, f1, e⟩ := pb_in e
      obtain ⟨g, g1, e⟩ := pb_in e
      have i1 := pnum_in (by omega) a1
      have i2 := pnum_in i1.2.2 b1
      have i3 := pnum_in i2.2.2 c1'
      have i4 := pnum_in i3.2.2 d1
      have i5 := pnum_in i4.2.2 f1
      have i6 := pnum_in i5.2.2 g1
      by_cases cg : g.1 ≠ 9 ∧ nP D ≤ g.1
      · rw [if_pos cg] at e
        cases e
      · rw [if_neg cg] at e
        have := Sum.inr.inj e
        subst this
        refine ⟨promD_ok h (by omega) i1.1.2 i2.1.2 ⟨i3.1.1, by omega⟩ (by omega) ⟨i5.1.1, by omega⟩ ?_, Nat.lt_trans (Nat.lt_trans (Nat.lt_trans (Nat.lt_trans (Nat.lt_trans (Nat.lt_of_succ_lt i1.2.1) i2.2.1) i3.2.1) i4.2.1) i5.2.1) i6.2.1, i6.2.2⟩
        by_cases c9 : g.1 = 9
        · exact Or.inl c9
        · exact Or.inr (by
            by_cases cc : nP D ≤ g.1
            · exact absurd ⟨c9, cc⟩ cg
            · omega)
  rw [if_neg c3] at e
  by_cases c4 : l p = 114
  · rw [if_pos c4] at e
    by_cases c2 : 8 ≤ D 0 1
    · rw [if_pos c2] at e
      cases e
    · rw [if_neg c2] at e
      unfold clR at e
      obtain ⟨a, a1, e⟩ := pb_in e
      obtain ⟨b, b1, e⟩ := pb_in e
      by_cases cab : a.1 = b.1
      · rw [if_pos cab] at e
        cases e
      · rw [if_neg cab] at e
        obtain ⟨d, d1, e⟩ := pb_in e
        have := Sum.inr.inj e
        subst this
        have i1 := pnum_in (by omega) a1
        have i2 := pnum_in i1.2.2 b1
        have i3 := pnum_in i2.2.2 d1
        exact ⟨roadD_ok h (by omega) i1.1.2 i2.1.2 cab ⟨i3.1.1, by omega⟩, Nat.lt_trans (Nat.lt_trans (Nat.lt_of_succ_lt i1.2.1) i2.2.1) i3.2.1, i3.2.2⟩
  rw [if_neg c4] at e
  by_cases c5 : l p = 116
  · rw [if_pos c5] at e
    by_cases c2 : 1 ≤ nT D
    · rw [if_pos c2] at e
      cases e
    · rw [if_neg c2] at e
      unfold clT at e
      obtain ⟨a, a1, e⟩ := pb_in e
      have := Sum.inr.inj e
      subst this
      have i1 := pnum_in (by omega) a1
      exact ⟨townD_ok h (by omega) (by omega), Nat.lt_of_succ_lt i1.2.1, i1.2.2⟩
  rw [if_neg c5] at e
  by_cases c6 : l p = 119
  · rw [if_pos c6] at e
    by_cases c2 : 1 ≤ D 8 2
    · rw [if_pos c2] at e
      cases e
    · rw [if_neg c2] at e
      unfold clW at e
      obtain ⟨a, a1, e⟩ := pb_in e
      obtain ⟨b, b1, e⟩ := pb_in e
      obtain ⟨c, c1', e⟩ := pb_in e
      by_cases cab : c.1 ≤ b.1
      · rw [if_pos cab] at e
        cases e
      · rw [if_neg cab] at e
        have := Sum.inr.inj e
        subst this
        have i1 := pnum_in (by omega) a1
        have i2 := pnum_in i1.2.2 b1
        have i3 := pnum_in i2.2.2 c1'
        exact ⟨wintD_ok h (by omega) ⟨i3.1.1, by omega⟩ (by omega), Nat.lt_trans (Nat.lt_trans (Nat.lt_of_succ_lt i1.2.1) i2.2.1) i3.2.1, i3.2.2⟩
  rw [if_neg c6] at e
  cases e
theorem cl_ok (h : RawOk D) {p : Nat} (hp : p < n) {y : LD × Nat} (e : clE n l (cl0 n l D p) = .inr y) : RawOk y.1 ∧ p < y.2 ∧ y.2 ≤ n := by
  obtain ⟨q, q1, q2⟩ := clE_in e
  obtain ⟨o1, o2, o3⟩ := cl0_ok h hp q1
  obtain ⟨r1, r2⟩ := pend_in o3 q2
  exact ⟨o1, by have : p < q := o2; omega, r2⟩
end PRN
