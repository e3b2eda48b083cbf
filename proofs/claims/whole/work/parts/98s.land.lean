/-! the class tells a land -/
section LANDA
variable {N : Nat} {D : LD} {n : Nat} {l : Nat → Nat}
theorem a_beg2 : ∀ (c f i : Nat) (σ : St), i + c = 31 → c < f → ∃ w, l_X1_begin_2 N f (nI i) σ = l_X1_begin_26 N N 0 w ∧ (∀ c, ¬ c = 24 → w c = σ c) ∧ ∀ j, w 24 j = if i ≤ j ∧ j < 31 then 0 else σ 24 j := by
  intro c
  induction c with
  | zero =>
    intro f i σ hi hf
    obtain ⟨f, rfl⟩ : ∃ k, f = k + 1 := ⟨f - 1, by omega⟩
    have e : i = 31 := by omega
    subst e
    refine ⟨σ, ?_, fun _ _ => rfl, fun j => by rw [if_neg (by omega)]⟩
    rw [l_X1_begin_2, if_pos (show (31 : Int32) ≤ nI 31 from nI_le (a := 31) (by omega) (by omega))]
  | succ c ih =>
    intro f i σ hi hf
    obtain ⟨f, rfl⟩ : ∃ k, f = k + 1 := ⟨f - 1, by omega⟩
    have hlt : ¬ (31 : Int32) ≤ nI i := fun e => absurd ((nI_le_iff (a := 31) (b := i) (by omega) (by omega)).mp e) (by omega)
    obtain ⟨w, z1, z2, z3⟩ := ih f (i + 1) (st σ 24 i 0) (by omega) (by omega)
    refine ⟨w, ?_, fun c hc => (z2 c hc).trans (st_cell hc), fun j => ?_⟩
    · rw [l_X1_begin_2, if_neg hlt, b_cka (x := i) (n := 31) _ (by omega) (by decide), bt_eq, bt_eq, nI_clamp (n := i) (by omega), ← p1_sub]
      exact z1
    · rw [z3, st_get]
      by_cases c1 : i + 1 ≤ j ∧ j < 31
      · have c3 : i ≤ j ∧ j < 31 := ⟨by omega, c1.2⟩
        rw [if_pos c1, if_pos c3]
      · rw [if_neg c1]
        by_cases c2 : j = i
        · have c3 : i ≤ j ∧ j < 31 := ⟨by omega, by omega⟩
          rw [if_pos c2, if_pos c3]
        · rw [if_neg c2, if_neg (by omega)]
theorem a_beg26 : ∀ (c f i : Nat) (σ : St), i + c = 7 → c < f → ∃ w, l_X1_begin_26 N f (nI i) σ = l_X1_begin_74 N N 0 w ∧ (∀ c, ¬ c = 24 → w c = σ c) ∧ ∀ j, w 24 j = if 8 + i ≤ j ∧ j < 15 then -1 else if 15 + i ≤ j ∧ j < 22 then σ 4 (j - 15) else σ 24 j := by
  intro c
  induction c with
  | zero =>
    intro f i σ hi hf
    obtain ⟨f, rfl⟩ : ∃ k, f = k + 1 := ⟨f - 1, by omega⟩
    have e : i = 7 := by omega
    subst e
    refine ⟨σ, ?_, fun _ _ => rfl, fun j => by rw [if_neg (by omega), if_neg (by omega)]⟩
    rw [l_X1_begin_26, if_pos (show (7 : Int32) ≤ nI 7 from nI_le (a := 7) (by omega) (by omega))]
  | succ c ih =>
    intro f i σ hi hf
    obtain ⟨f, rfl⟩ : ∃ k, f = k + 1 := ⟨f - 1, by omega⟩
    have hlt : ¬ (7 : Int32) ≤ nI i := fun e => absurd ((nI_le_iff (a := 7) (b := i) (by omega) (by omega)).mp e) (by omega)
    have i1 : (8 : Int32) + nI i = nI (8 + i) := nI_add 8 i
    have i2 : (15 : Int32) + nI i = nI (15 + i) := nI_add 15 i
    obtain ⟨w, z1, z2, z3⟩ := ih f (i + 1) (st (st σ 24 (8 + i) (-1)) 24 (15 + i) (σ 4 i)) (by omega) (by omega)
    refine ⟨w, ?_, fun c hc => (z2 c hc).trans ((st_cell hc).trans (st_cell hc)), fun j => ?_⟩
    · rw [l_X1_begin_26, if_neg hlt, i1, i2, put_nI (j := 8 + i) (n := 31) (by omega) (by decide), bt_eq, at_nI (j := i) (n := 7) (by omega) (by decide), st_cell (a := 4) (k := 24) (by decide), put_nI (j := 15 + i) (n := 31) (by omega) (by decide), bt_eq, bt_eq, ← p1_sub]
      exact z1
    · rw [z3, st_get, st_get, st_cell (a := 4) (k := 24) (by decide), st_cell (a := 4) (k := 24) (by decide)]
      by_cases c1 : 8 + (i + 1) ≤ j ∧ j < 15
      · have c3 : 8 + i ≤ j ∧ j < 15 := ⟨by omega, c1.2⟩
        rw [if_pos c1, if_pos c3]
      · rw [if_neg c1]
        by_cases c2 : 15 + (i + 1) ≤ j ∧ j < 22
        · have c3 : 15 + i ≤ j ∧ j < 22 := ⟨by omega, c2.2⟩
          have c4 : ¬ (8 + i ≤ j ∧ j < 15) := by omega
          rw [if_pos c2, if_neg c4, if_pos c3]
        · rw [if_neg c2]
          by_cases c5 : j = 15 + i
          · have c3 : 15 + i ≤ j ∧ j < 22 := ⟨by omega, by omega⟩
            have c4 : ¬ (8 + i ≤ j ∧ j < 15) := by omega
            rw [if_pos c5, if_neg c4, if_pos c3, c5, Nat.add_sub_cancel_left]
          · rw [if_neg c5]
            by_cases c6 : j = 8 + i
            · have c3 : 8 + i ≤ j ∧ j < 15 := ⟨by omega, by omega⟩
              rw [if_pos c6, if_pos c3]
            · have c3 : ¬ (8 + i ≤ j ∧ j < 15) := by omega
              have c4 : ¬ (15 + i ≤ j ∧ j < 22) := by omega
              rw [if_neg c6, if_neg c3, if_neg c4]
theorem a_beg74 : ∀ (c f i : Nat) (σ : St), i + c = 3 → c < f → ∃ w, l_X1_begin_74 N f (nI i) σ = some ((), w) ∧ (∀ c, ¬ c = 24 → w c = σ c) ∧ ∀ j, w 24 j = if 22 + i ≤ j ∧ j < 25 then σ 2 (j - 22) else σ 24 j := by
  intro c
  induction c with
  | zero =>
    intro f i σ hi hf
    obtain ⟨f, rfl⟩ : ∃ k, f = k + 1 := ⟨f - 1, by omega⟩
    have e : i = 3 := by omega
    subst e
    refine ⟨σ, ?_, fun _ _ => rfl, fun j => by rw [if_neg (by omega)]⟩
    rw [l_X1_begin_74, if_pos (show (3 : Int32) ≤ nI 3 from nI_le (a := 3) (by omega) (by omega))]
  | succ c ih =>
    intro f i σ hi hf
    obtain ⟨f, rfl⟩ : ∃ k, f = k + 1 := ⟨f - 1, by omega⟩
    have hlt : ¬ (3 : Int32) ≤ nI i := fun e => absurd ((nI_le_iff (a := 3) (b := i) (by omega) (by omega)).mp e) (by omega)
    have i1 : (22 : Int32) + nI i = nI (22 + i) := nI_add 22 i
    obtain ⟨w, z1, z2, z3⟩ := ih f (i + 1) (st σ 24 (22 + i) (σ 2 i)) (by omega) (by omega)
    refine ⟨w, ?_, fun c hc => (z2 c hc).trans (st_cell hc), fun j => ?_⟩
    · rw [l_X1_begin_74, if_neg hlt, i1, at_nI (j := i) (n := 3) (by omega) (by decide), put_nI (j := 22 + i) (n := 31) (by omega) (by decide), bt_eq, bt_eq, ← p1_sub]
      exact z1
    · rw [z3, st_get, st_cell (a := 2) (k := 24) (by decide)]
      by_cases c1 : 22 + (i + 1) ≤ j ∧ j < 25
      · have c3 : 22 + i ≤ j ∧ j < 25 := ⟨by omega, c1.2⟩
        rw [if_pos c1, if_pos c3]
      · rw [if_neg c1]
        by_cases c2 : j = 22 + i
        · have c3 : 22 + i ≤ j ∧ j < 25 := ⟨by omega, by omega⟩
          rw [if_pos c2, if_pos c3, c2, Nat.add_sub_cancel_left]
        · rw [if_neg c2, if_neg (by omega)]
theorem a_begin {σ : St} (ho : LandOk D) (hA : LandA D σ) (hN : 7000 ≤ N) : ∃ w, o_X1_begin N σ = some ((), w) ∧ RowA D (begR D) (w 24) ∧ ∀ c, ¬ c = 24 → w c = σ c := by
  have h7 := ho.p7
  have h3 := ho.k3
  obtain ⟨w1, a1, a2, a3⟩ := a_beg2 (N := N) 31 N 0 σ (by omega) (by omega)
  obtain ⟨w2, b1, b2, b3⟩ := a_beg26 (N := N) 7 N 0 w1 (by omega) (by omega)
  obtain ⟨w3, c1, c2, c3⟩ := a_beg74 (N := N) 3 N 0 w2 (by omega) (by omega)
  have z : ∀ j, j < 31 → ¬ (8 ≤ j ∧ j < 25) → w3 24 j = 0 := fun j h1 h2 => by
    rw [c3, if_neg (by omega), b3, if_neg (by omega), if_neg (by omega), a3, if_pos ⟨Nat.zero_le _, h1⟩]
  refine ⟨w3, a1.trans (b1.trans c1), ⟨z 0 (by decide) (by decide), fun p hp => ⟨z _ (by omega) (by omega), ?_, ?_⟩, fun k hk => ⟨?_, z _ (by omega) (by omega)⟩, fun f hf => z _ (by omega) (by omega)⟩, fun c hc => by rw [c2 c hc, b2 c hc, a2 c hc]⟩
  · rw [c3, if_neg (by omega), b3, if_pos ⟨by omega, by omega⟩]
    rfl
  · rw [c3, if_neg (by omega), b3, if_neg (by omega), if_pos ⟨by omega, by omega⟩, Nat.add_sub_cancel_left, a2 4 (by decide)]
    exact (hA.2.2.2.1 p hp).1
  · rw [c3, if_pos ⟨by omega, by omega⟩, Nat.add_sub_cancel_left, b2 2 (by decide), a2 2 (by decide)]
    exact (hA.2.2.1 k hk).2
/-- what telling leaves, on the class's side -/
def TdA (x : PR LD) (σ : St) (v : Int32) (w : St) : Prop := w 21 1 = 0 ∧ match x with
  | .inl e => v = -10 - nI e.1 ∧ w 21 5 = nI e.2 ∧ ∀ c, ¬ (c = 21 ∨ 11 ≤ c ∧ c ≤ 20) → w c = σ c
  | .inr D => v = nI (nT D) ∧ w 21 5 = -1 ∧ LandA (fwD D) w ∧ RowA (fwD D) (begR (fwD D)) (w 24) ∧ w 25 1 = σ 25 1 ∧ w 25 2 = 0 ∧ w 57 2 = 0 ∧ w 74 4 = 0 ∧ w 62 = σ 62
theorem a_land {σ : St} (hT : TextA n l σ) (hN : 7000 ≤ N) : ∃ v w, o_X9_land N σ = some (v, w) ∧ TdA (prN n l 250 rawD 0) σ v w := by
  obtain ⟨x1, w1, a1, a2, a3⟩ := a_intoD (N := N) hN hT
  have hT1 : TextA n l w1 := ⟨hT.1, a2.2.trans hT.2.1, fun i hi => by rw [a2.1 22 (by decide)]; exact hT.2.2 i hi⟩
  unfold o_X9_land j_X9_land_56 t_X7_empty t_X6_forget t_X4_forget t_X0_empty
  rw [a1, bd_some]
  cases hr : prN n l 250 rawD 0 with
  | inl e =>
    rw [hr] at a3
    obtain ⟨m1, m2, m3, m4⟩ := a3
    have q : ¬ nI e.1 = 0 := fun z => absurd ((nI_eq (a := e.1) (b := 0) (by omega) (by omega)).mp z) (by omega)
    rw [m1, if_neg q, bt_eq, bt_eq, if_neg q]
    refine ⟨_, _, rfl, st_same, rfl, ?_, fun c hc => ?_⟩
    · rw [st_place (by decide)]
      exact m4
    · rw [st_cell (by omega)]
      exact a2.1 c hc
  | inr D =>
    obtain ⟨x2, w2, b1, b2, b3⟩ := a_intoL (N := N) hN hT1
    rw [hr] at a3 b3
    obtain ⟨m1, m2, m3, m4⟩ := a3
    obtain ⟨n1, n2, n3, n4⟩ := b3
    have hA : LandA (fwD D) w2 := n3
    obtain ⟨w3, c1, c2, c3⟩ := a_begin (N := N) (fwD_ok m4) hA hN
    rw [m1, if_pos rfl, b1, bd_some, c1, bd_some, bt_eq, bt_eq, bt_eq, bt_eq, bt_eq, bt_eq, bt_eq, bt_eq, if_pos rfl]
    refine ⟨_, _, rfl, st_same, ?_, ?_, ?_, ?_, ?_, ?_, ?_, ?_, ?_⟩
    · rw [st_cell (by decide), st_cell (by decide), st_cell (by decide), st_cell (by decide), c3 1 (by decide)]
      exact hA.1.1
    · rw [st_place (by decide), st_cell (by decide), st_cell (by decide), st_cell (by decide), c3 21 (by decide)]
      exact n2
    · exact LandA_of (fun a ha => by rw [st_cell (by omega), st_cell (by omega), st_cell (by omega), st_cell (by omega), c3 a (by omega)]) hA
    · rw [st_cell (by decide), st_cell (by decide), st_cell (by decide), st_cell (by decide)]
      exact c2
    · rw [st_cell (by decide), st_cell (by decide), st_cell (by decide), st_place (by decide), c3 25 (by decide), b2.1 25 (by decide), a2.1 25 (by decide)]
    · rw [st_cell (by decide), st_cell (by decide), st_cell (by decide), st_same]
    · rw [st_cell (by decide), st_cell (by decide), st_same]
    · rw [st_cell (by decide), st_same]
    · rw [st_cell (by decide), st_cell (by decide), st_cell (by decide), st_cell (by decide), c3 62 (by decide), b2.1 62 (by decide), a2.1 62 (by decide)]
end LANDA
