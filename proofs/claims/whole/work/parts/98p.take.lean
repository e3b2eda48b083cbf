/-! the reference takes the new land over -/
section TAKE5
variable {N : Nat} {D : LD}
/-- so much of a cell is laid from behind -/
def cpd (τ w : St) (c k i : Nat) : Prop := ∀ j, w c j = if i ≤ j ∧ j < k then τ c (k + j) else τ c j
theorem cpd_0 {τ : St} {c k i : Nat} (h : k ≤ i) : cpd τ τ c k i := fun j => by rw [if_neg (by omega)]
theorem cpd_s {τ w m : St} {c k i : Nat} (hi : i < k) (hm : ∀ j, m c j = if j = i then τ c (k + i) else τ c j) (h : cpd m w c k (i + 1)) : cpd τ w c k i := by
  intro j
  rw [h j, hm, hm]
  by_cases c1 : i + 1 ≤ j ∧ j < k
  · have c3 : i ≤ j ∧ j < k := ⟨by omega, c1.2⟩
    rw [if_pos c1, if_pos c3, if_neg (by omega)]
  · rw [if_neg c1]
    by_cases c2 : j = i
    · have c3 : i ≤ j ∧ j < k := ⟨by omega, by omega⟩
      rw [if_pos c2, if_pos c3, c2]
    · rw [if_neg c2, if_neg (by omega)]
theorem b_take34 : ∀ (c f i : Nat) (τ : St), i + c = 25 → c < f → ∃ w, l_X10_take_34 N f (nI i) τ = l_X10_take_63 N N 0 w ∧ (∀ c, ¬ c = 82 → w c = τ c) ∧ cpd τ w 82 25 i := by
  intro c
  induction c with
  | zero =>
    intro f i τ hi hf
    obtain ⟨f, rfl⟩ : ∃ k, f = k + 1 := ⟨f - 1, by omega⟩
    have e : i = 25 := by omega
    subst e
    refine ⟨τ, ?_, fun _ _ => rfl, cpd_0 (Nat.le_refl _)⟩
    rw [l_X10_take_34, if_pos (show (25 : Int32) ≤ nI 25 from nI_le (a := 25) (by omega) (by omega))]
  | succ c ih =>
    intro f i τ hi hf
    obtain ⟨f, rfl⟩ : ∃ k, f = k + 1 := ⟨f - 1, by omega⟩
    have hlt : ¬ (25 : Int32) ≤ nI i := fun e => absurd ((nI_le_iff (a := 25) (b := i) (by omega) (by omega)).mp e) (by omega)
    have i1 : (25 : Int32) + nI i = nI (25 + i) := nI_add 25 i
    obtain ⟨w, z1, z2, z3⟩ := ih f (i + 1) (st τ 82 i (τ 82 (25 + i))) (by omega) (by omega)
    refine ⟨w, ?_, fun c hc => (z2 c hc).trans (st_cell hc), cpd_s (by omega) (fun j => st_get) z3⟩
    rw [l_X10_take_34, if_neg hlt, i1, b_cka (x := 25 + i) (n := 50) _ (by omega) (by decide), b_cka (x := i) (n := 50) _ (by omega) (by decide), bt_eq, bt_eq, nI_clamp (n := i) (by omega), nI_clamp (n := 25 + i) (by omega), ← p1_sub]
    exact z1
theorem b_take63 : ∀ (c f i : Nat) (τ : St), i + c = 3 → c < f → ∃ w, l_X10_take_63 N f (nI i) τ = l_X10_take_118 N N 0 w ∧ (∀ c, ¬ (c = 84 ∨ c = 85 ∨ c = 92) → w c = τ c) ∧ cpd τ w 84 3 i ∧ cpd τ w 85 3 i ∧ cpd τ w 92 3 i := by
  intro c
  induction c with
  | zero =>
    intro f i τ hi hf
    obtain ⟨f, rfl⟩ : ∃ k, f = k + 1 := ⟨f - 1, by omega⟩
    have e : i = 3 := by omega
    subst e
    refine ⟨τ, ?_, fun _ _ => rfl, cpd_0 (Nat.le_refl _), cpd_0 (Nat.le_refl _), cpd_0 (Nat.le_refl _)⟩
    rw [l_X10_take_63, if_pos (show (3 : Int32) ≤ nI 3 from nI_le (a := 3) (by omega) (by omega))]
  | succ c ih =>
    intro f i τ hi hf
    obtain ⟨f, rfl⟩ : ∃ k, f = k + 1 := ⟨f - 1, by omega⟩
    have hlt : ¬ (3 : Int32) ≤ nI i := fun e => absurd ((nI_le_iff (a := 3) (b := i) (by omega) (by omega)).mp e) (by omega)
    have i1 : (3 : Int32) + nI i = nI (3 + i) := nI_add 3 i
    have ck : ∀ {r : Option (Unit × St)}, ckA (nI (3 + i)) 6 r = r := fun {r} => b_cka (x := 3 + i) (n := 6) r (by omega) (by decide)
    have ck2 : ∀ {r : Option (Unit × St)}, ckA (nI i) 6 r = r := fun {r} => b_cka (x := i) (n := 6) r (by omega) (by decide)
    have n1 : (nI i).toNatClampNeg = i := nI_clamp (n := i) (by omega)
    have n2 : (nI (3 + i)).toNatClampNeg = 3 + i := nI_clamp (n := 3 + i) (by omega)
    obtain ⟨w, z1, z2, z3, z4, z5⟩ := ih f (i + 1) (st (st (st τ 84 i (τ 84 (3 + i))) 85 i (τ 85 (3 + i))) 92 i (τ 92 (3 + i))) (by omega) (by omega)
    refine ⟨w, ?_, fun c hc => (z2 c hc).trans ?_, cpd_s (by omega) (fun j => ?_) z3, cpd_s (by omega) (fun j => ?_) z4, cpd_s (by omega) (fun j => ?_) z5⟩
    · rw [l_X10_take_63, if_neg hlt, i1, ck, ck2, bt_eq, ck, ck2, bt_eq, ck, ck2, bt_eq, bt_eq, n1, n2, ← p1_sub, st_cell (c := 84) (c' := 85) (by decide), st_cell (c := 85) (c' := 92) (by decide), st_cell (c := 84) (c' := 92) (by decide)]
      exact z1
    · rw [st_cell (by omega), st_cell (by omega), st_cell (by omega)]
    · rw [st_cell (by decide), st_cell (by decide), st_get]
    · rw [st_cell (by decide), st_get, st_cell (by decide)]
    · rw [st_get, st_cell (by decide), st_cell (by decide)]
end TAKE5
