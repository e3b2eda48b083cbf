/-! the reference takes the new land over -/
section TAKE5
variable {N : Nat} {D : LD}
/-- so much of a cell is laid from behind -/
def cpd (τ w : St) (c k i : Nat) : Prop := ∀ j, w c j = if i ≤ j ∧ j < k then τ c (k + j) else τ c j
theorem cpd_0 {τ : St} {c k i : Nat} (h : k ≤ i) : cpd τ τ c k i := fun j => by rw [if_neg (by omega)]
theorem cpd_s {τ w m : St} {c k i : Nat} (hi : i < k) (hm : ∀ j, m c j = if j = i then τ c (k + i) else τ c j) (h : cpd m w c k (i + 1)) : cpd τ w c k i := by
  intro j
  rw [h j, hm, hm]
  by_cases c1 : i + 1 ≤ j ∧ j < k
  · have c3 : i ≤ j ∧ j < k := ⟨by omega, c1.2⟩
    rw [if_pos c1, if_pos c3, if_neg (by omega)]
  · rw [if_neg c1]
    by_cases c2 : j = i
    · have c3 : i ≤ j ∧ j < k := ⟨by omega, by omega⟩
      rw [if_pos c2, if_pos c3, c2]
    · rw [if_neg c2, if_neg (by omega)]
theorem b_take34 : ∀ (c f i : Nat) (τ : St), i + c = 25 → c < f → ∃ w, l_X10_take_34 N f (nI i) τ = l_X10_take_63 N N 0 w ∧ (∀ c, ¬ c = 82 → w c = τ c) ∧ cpd τ w 82 25 i := by
  intro c
  induction c with
  | zero =>
    intro f i τ hi hf
    obtain ⟨f, rfl⟩ : ∃ k, f = k + 1 := ⟨f - 1, by omega⟩
    have e : i = 25 := by omega
    subst e
    refine ⟨τ, ?_, fun _ _ => rfl, cpd_0 (Nat.le_refl _)⟩
    rw [l_X10_take_34, if_pos (show (25 : Int32) ≤ nI 25 from nI_le (a := 25) (by omega) (by omega))]
  | succ c ih =>
    intro f i τ hi hf
    obtain ⟨f, rfl⟩ : ∃ k, f = k + 1 := ⟨f - 1, by omega⟩
    have hlt : ¬ (25 : Int32) ≤ nI i := fun e => absurd ((nI_le_iff (a := 25) (b := i) (by omega) (by omega)).mp e) (by omega)
    have i1 : (25 : Int32) + nI i = nI (25 + i) := nI_add 25 i
    obtain ⟨w, z1, z2, z3⟩ := ih f (i + 1) (st τ 82 i (τ 82 (25 + i))) (by omega) (by omega)
    refine ⟨w, ?_, fun c hc => (z2 c hc).trans (st_cell hc), cpd_s (by omega) (fun j => st_get _ _ _ _ _) z3⟩
    rw [l_X10_take_34, if_neg hlt, i1, b_cka (x := 25 + i) (n := 50) _ (by omega) (by decide), b_cka (x := i) (n := 50) _ (by omega) (by decide), bt_eq, bt_eq, nI_clamp (n := i) (by omega), nI_clamp (n := 25 + i) (by omega), ← p1_sub]
    exact z1
theorem b_take63 : ∀ (c f i : Nat) (τ : St), i + c = 3 → c < f → ∃ w, l_X10_take_63 N f (nI i) τ = l_X10_take_118 N N 0 w ∧ (∀ c, ¬ (c = 84 ∨ c = 85 ∨ c = 92) → w c = τ c) ∧ cpd τ w 84 3 i ∧ cpd τ w 85 3 i ∧ cpd τ w 92 3 i := by
  intro c
  induction c with
  | zero =>
    intro f i τ hi hf
    obtain ⟨f, rfl⟩ : ∃ k, f = k + 1 := ⟨f - 1, by omega⟩
    have e : i = 3 := by omega
    subst e
    refine ⟨τ, ?_, fun _ _ => rfl, cpd_0 (Nat.le_refl _), cpd_0 (Nat.le_refl _), cpd_0 (Nat.le_refl _)⟩
    rw [l_X10_take_63, if_pos (show (3 : Int32) ≤ nI 3 from nI_le (a := 3) (by omega) (by omega))]
  | succ c ih =>
    intro f i τ hi hf
    obtain ⟨f, rfl⟩ : ∃ k, f = k + 1 := ⟨f - 1, by omega⟩
    have hlt : ¬ (3 : Int32) ≤ nI i := fun e => absurd ((nI_le_iff (a := 3) (b := i) (by omega) (by omega)).mp e) (by omega)
    have i1 : (3 : Int32) + nI i = nI (3 + i) := nI_add 3 i
    have ck : ∀ {r : Option (Unit × St)}, ckA (nI (3 + i)) 6 r = r := fun {r} => b_cka (x := 3 + i) (n := 6) r (by omega) (by decide)
    have ck2 : ∀ {r : Option (Unit × St)}, ckA (nI i) 6 r = r := fun {r} => b_cka (x := i) (n := 6) r (by omega) (by decide)
    have n1 : (nI i).toNatClampNeg = i := nI_clamp (n := i) (by omega)
    have n2 : (nI (3 + i)).toNatClampNeg = 3 + i := nI_clamp (n := 3 + i) (by omega)
    obtain ⟨w, z1, z2, z3, z4, z5⟩ := ih f (i + 1) (st (st (st τ 84 i (τ 84 (3 + i))) 85 i (τ 85 (3 + i))) 92 i (τ 92 (3 + i))) (by omega) (by omega)
    refine ⟨w, ?_, fun c hc => (z2 c hc).trans ?_, cpd_s (by omega) (fun j => ?_) z3, cpd_s (by omega) (fun j => ?_) z4, cpd_s (by omega) (fun j => ?_) z5⟩
    · rw [l_X10_take_63, if_neg hlt, i1, ck, ck2, bt_eq, ck, ck2, bt_eq, ck, ck2, bt_eq, bt_eq, n1, n2, ← p1_sub, st_cell (a := 85) (k := 84) (by decide), st_cell (a := 92) (k := 85) (by decide), st_cell (a := 92) (k := 84) (by decide)]
      exact z1
    · rw [st_cell (by omega), st_cell (by omega), st_cell (by omega)]
    · rw [st_cell (by decide), st_cell (by decide), st_get]
    · rw [st_cell (by decide), st_get, st_cell (by decide)]
    · rw [st_get, st_cell (by decide), st_cell (by decide)]
theorem b_take118 : ∀ (c f i : Nat) (τ : St), i + c = 7 → c < f → ∃ w, l_X10_take_118 N f (nI i) τ = (bd (o_X10_findFar N w) fun u2 σ3 => some ((), σ3)) ∧ (∀ c, ¬ (86 ≤ c ∧ c ≤ 91) → w c = τ c) ∧ cpd τ w 86 7 i ∧ cpd τ w 87 7 i ∧ cpd τ w 88 7 i ∧ cpd τ w 89 7 i ∧ cpd τ w 90 7 i ∧ cpd τ w 91 7 i := by
  intro c
  induction c with
  | zero =>
    intro f i τ hi hf
    obtain ⟨f, rfl⟩ : ∃ k, f = k + 1 := ⟨f - 1, by omega⟩
    have e : i = 7 := by omega
    subst e
    refine ⟨τ, ?_, fun _ _ => rfl, cpd_0 (Nat.le_refl _), cpd_0 (Nat.le_refl _), cpd_0 (Nat.le_refl _), cpd_0 (Nat.le_refl _), cpd_0 (Nat.le_refl _), cpd_0 (Nat.le_refl _)⟩
    rw [l_X10_take_118, if_pos (show (7 : Int32) ≤ nI 7 from nI_le (a := 7) (by omega) (by omega))]
  | succ c ih =>
    intro f i τ hi hf
    obtain ⟨f, rfl⟩ : ∃ k, f = k + 1 := ⟨f - 1, by omega⟩
    have hlt : ¬ (7 : Int32) ≤ nI i := fun e => absurd ((nI_le_iff (a := 7) (b := i) (by omega) (by omega)).mp e) (by omega)
    have i1 : (7 : Int32) + nI i = nI (7 + i) := nI_add 7 i
    have ck : ∀ {r : Option (Unit × St)}, ckA (nI (7 + i)) 14 r = r := fun {r} => b_cka (x := 7 + i) (n := 14) r (by omega) (by decide)
    have ck2 : ∀ {r : Option (Unit × St)}, ckA (nI i) 14 r = r := fun {r} => b_cka (x := i) (n := 14) r (by omega) (by decide)
    have n1 : (nI i).toNatClampNeg = i := nI_clamp (n := i) (by omega)
    have n2 : (nI (7 + i)).toNatClampNeg = 7 + i := nI_clamp (n := 7 + i) (by omega)
    obtain ⟨w, z1, z2, z3, z4, z5, z6, z7, z8⟩ := ih f (i + 1) (st (st (st (st (st (st τ 86 i (τ 86 (7 + i))) 87 i (τ 87 (7 + i))) 88 i (τ 88 (7 + i))) 89 i (τ 89 (7 + i))) 90 i (τ 90 (7 + i))) 91 i (τ 91 (7 + i))) (by omega) (by omega)
    refine ⟨w, ?_, fun c hc => (z2 c hc).trans ?_, cpd_s (by omega) (fun j => ?_) z3, cpd_s (by omega) (fun j => ?_) z4, cpd_s (by omega) (fun j => ?_) z5, cpd_s (by omega) (fun j => ?_) z6, cpd_s (by omega) (fun j => ?_) z7, cpd_s (by omega) (fun j => ?_) z8⟩
    · rw [l_X10_take_118, if_neg hlt, i1, ck, ck2, bt_eq, ck, ck2, bt_eq, ck, ck2, bt_eq, ck, ck2, bt_eq, ck, ck2, bt_eq, ck, ck2, bt_eq, bt_eq, n1, n2, ← p1_sub, st_cell (a := 87) (k := 86) (by decide), st_cell (a := 88) (k := 87) (by decide), st_cell (a := 88) (k := 86) (by decide), st_cell (a := 89) (k := 88) (by decide), st_cell (a := 89) (k := 87) (by decide), st_cell (a := 89) (k := 86) (by decide), st_cell (a := 90) (k := 89) (by decide), st_cell (a := 90) (k := 88) (by decide), st_cell (a := 90) (k := 87) (by decide), st_cell (a := 90) (k := 86) (by decide), st_cell (a := 91) (k := 90) (by decide), st_cell (a := 91) (k := 89) (by decide), st_cell (a := 91) (k := 88) (by decide), st_cell (a := 91) (k := 87) (by decide), st_cell (a := 91) (k := 86) (by decide)]
      exact z1
    · rw [st_cell (by omega), st_cell (by omega), st_cell (by omega), st_cell (by omega), st_cell (by omega), st_cell (by omega)]
    · rw [st_cell (by decide), st_cell (by decide), st_cell (by decide), st_cell (by decide), st_cell (by decide), st_get]
    · rw [st_cell (by decide), st_cell (by decide), st_cell (by decide), st_cell (by decide), st_get, st_cell (by decide)]
    · rw [st_cell (by decide), st_cell (by decide), st_cell (by decide), st_get, st_cell (by decide), st_cell (by decide)]
    · rw [st_cell (by decide), st_cell (by decide), st_get, st_cell (by decide), st_cell (by decide), st_cell (by decide)]
    · rw [st_cell (by decide), st_get, st_cell (by decide), st_cell (by decide), st_cell (by decide), st_cell (by decide)]
    · rw [st_get, st_cell (by decide), st_cell (by decide), st_cell (by decide), st_cell (by decide), st_cell (by decide)]
end TAKE5
