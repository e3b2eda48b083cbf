/-! the class reads its text into the cells 11 to 20 -/
section READD
variable {n : Nat} {l : Nat → Nat} {N : Nat} {D : LD}
def FrRD (σ w : St) : Prop := (∀ c, ¬ (c = 21 ∨ 11 ≤ c ∧ c ≤ 20) → w c = σ c) ∧ w 21 1 = σ 21 1
theorem FrRD.tr {a b c : St} (h : FrRD a b) (g : FrRD b c) : FrRD a c := ⟨fun x hx => (g.1 x hx).trans (h.1 x hx), g.2.trans h.2⟩
theorem FrT.rD {σ w : St} (h : FrT σ w) : FrRD σ w := ⟨fun c hc => h.1 c (by omega), h.2⟩
def LdAD (D : LD) (σ : St) : Prop := LandA D (fun a => σ (a + 10))
theorem FrT.lD {σ w : St} (h : FrT σ w) (g : LdAD D σ) : LdAD D w := LandA_of (fun a ha => h.1 (a + 10) (by omega)) g
/-- what a clause has come to, before its end -/
def ClAD (n : Nat) (l : Nat → Nat) (x : CR) (σ w : St) : Prop := FrRD σ w ∧ match x with
  | .inl e => w 21 4 = nI e.1 ∧ 1 ≤ e.1 ∧ e.1 ≤ 4 ∧ w 21 5 = nI e.2
  | .inr y => PosA n l y.2 w ∧ w 21 4 = 0 ∧ w 21 5 = σ 21 5 ∧ LdAD y.1 w
theorem a_endD {p : Nat} {σ : St} (hP : PosA n l p σ) (h0 : σ 21 4 = 0) (hN : 7000 ≤ N) :
    ∃ v w, o_X7_isEnd N σ = some (v, w) ∧ FrT σ w ∧ match pend n l p with
      | .inl e => v = 0 ∧ w 21 4 = nI e.1 ∧ e.1 = 1 ∧ w 21 5 = nI e.2
      | .inr q => v = 1 ∧ PosA n l q w ∧ w 21 4 = 0 ∧ w 21 5 = σ 21 5 := by
  obtain ⟨w1, k1, k2, k3, k4⟩ := a_skip (N := N) hP hN
  have hn := hP.1.1
  have hkn := k2.2.2
  have hw4 : w1 21 4 = 0 := (k4 4 (by decide)).trans h0
  have frb : FrT σ (st (st w1 21 4 1) 21 5 (nI (skP n l p))) := k3.tr ⟨fun c hc => by rw [st_cell hc, st_cell hc], by rw [st_place (by decide), st_place (by decide)]⟩
  have bad : j_X7_isEnd_40 N w1 = some (0, st (st w1 21 4 1) 21 5 (nI (skP n l p))) := by
    unfold j_X7_isEnd_40
    rw [bt_eq, a_blame hw4, k2.2.1]
  unfold o_X7_isEnd pend
  rw [if_pos h0, k1, bd_some, k2.1.2.1, k2.2.1]
  by_cases c1 : skP n l p < n
  · rw [if_neg (nI_ge c1 (by omega)), at_nI (by omega) (by decide), (k2.1.2.2 _ c1).1]
    have hl := (k2.1.2.2 _ c1).2
    by_cases c2 : l (skP n l p) = 59
    · have e59 : nI (l (skP n l p)) = (59 : Int32) := by
        rw [c2]
        rfl
      rw [if_pos e59, if_pos ⟨c1, c2⟩, bt_eq, ← p1_sub]
      refine ⟨_, _, rfl, k3.tr ⟨fun c hc => st_cell hc, st_place (by decide)⟩, rfl, ⟨⟨k2.1.1, by rw [st_place (by decide)]; exact k2.1.2.1, fun i hi => by rw [st_cell (by decide)]; exact k2.1.2.2 i hi⟩, st_same, by omega⟩, ?_, ?_⟩
      · rw [st_place (by decide)]
        exact hw4
      · rw [st_place (by decide)]
        exact k4 5 (by decide)
    · have e59 : ¬ nI (l (skP n l p)) = (59 : Int32) := fun e => c2 ((nI_eq (a := l (skP n l p)) (b := 59) (by omega) (by omega)).mp e)
      rw [if_neg e59, if_neg (fun z => c2 z.2), bad]
      exact ⟨_, _, rfl, frb, rfl, by rw [st_place (by decide), st_same]; rfl, rfl, st_same⟩
  · rw [if_pos (nI_le (by omega) (by omega)), if_neg (fun z => c1 z.1), bad]
    exact ⟨_, _, rfl, frb, rfl, by rw [st_place (by decide), st_same]; rfl, rfl, st_same⟩
theorem a_wordD {p : Nat} {σ : St} (hP : PosA n l p σ) (hp : p < n) (h0 : σ 21 4 = 0) (hL : LdAD D σ) : st σ 21 2 ((σ 21 2) + 1) = st σ 21 2 (nI (p + 1)) ∧ PosA n l (p + 1) (st σ 21 2 (nI (p + 1))) ∧ st σ 21 2 (nI (p + 1)) 21 4 = 0 ∧ st σ 21 2 (nI (p + 1)) 21 5 = σ 21 5 ∧ LdAD D (st σ 21 2 (nI (p + 1))) ∧ FrT σ (st σ 21 2 (nI (p + 1))) := by
  have fr : FrT σ (st σ 21 2 (nI (p + 1))) := ⟨fun c hc => st_cell hc, st_place (by decide)⟩
  refine ⟨by rw [hP.2.1, ← p1_sub], ⟨fr.t hP.1, st_same, by omega⟩, ?_, ?_, fr.lD hL, fr⟩
  · rw [st_place (by decide)]
    exact h0
  · rw [st_place (by decide)]
theorem a_townsD {p : Nat} {σ : St} (hP : PosA n l p σ) (hp : p < n) (h0 : σ 21 4 = 0) (hO : RawOk D) (hL : LdAD D σ) (hz : nT D = 0) (hN : 7000 ≤ N) : ∃ w, o_X7_readTowns_21_11 N σ = some ((), w) ∧ ClAD n l (clE n l (clT n l D p)) σ w := by
  obtain ⟨s1, s2, s3, s4, s5, s6⟩ := a_wordD hP hp h0 hL
  unfold o_X7_readTowns_21_11 clT
  rw [bt_eq, s1]
  obtain ⟨v1, w1, e1, f1, n1⟩ := a_num (N := N) (lo := 1) (h := 6) s2 s3 (by omega) (by omega) hN
  have e1' : o_X7_number N 1 5 (st σ 21 2 (nI (p + 1))) = some (v1, w1) := e1
  rw [e1', bd_some]
  cases hr : pnum n l (p + 1) 1 6 with
  | inl x =>
    rw [hr] at n1
    obtain ⟨m1, m2, m3, m4⟩ := n1
    rw [a_end_f ⟨m2, m3⟩ m1, bd_some, if_pos rfl]
    exact ⟨w1, rfl, (s6.tr f1).rD, m1, m2, m3, m4⟩
  | inr y =>
    rw [hr] at n1
    obtain ⟨m1, m2, m3, m4, m5⟩ := n1
    rw [pb_r]
    unfold clE
    rw [pb_r]
    obtain ⟨v2, w2, e2, f2, n2⟩ := a_endD (N := N) m2 m4 hN
    rw [e2, bd_some]
    cases hq : pend n l y.2.2 with
    | inl x =>
      rw [hq] at n2
      obtain ⟨z1, z2, z3, z4⟩ := n2
      rw [if_pos z1]
      exact ⟨w2, rfl, ((s6.tr f1).tr f2).rD, z2, by rw [z3]; exact Nat.le_refl 1, by rw [z3]; omega, z4⟩
    | inr q =>
      rw [hq] at n2
      obtain ⟨z1, z2, z3, z4⟩ := n2
      have hLw := f2.lD (f1.lD s5)
      rw [z1, if_neg one_ne, bt_eq, m1]
      have fr : FrRD w2 (st w2 11 0 (nI y.1)) := ⟨fun c hc => st_cell (by omega), by rw [st_cell (by decide)]⟩
      refine ⟨_, rfl, ((s6.tr f1).tr f2).rD.tr fr, ⟨⟨z2.1.1, by rw [st_cell (by decide)]; exact z2.1.2.1, fun i hi => by rw [st_cell (by decide)]; exact z2.1.2.2 i hi⟩, by rw [st_cell (by decide)]; exact z2.2.1, z2.2.2⟩, by rw [st_cell (by decide)]; exact z3, by rw [st_cell (by decide), z4, m5, s4], ?_⟩
      have hk := hO.2.1 hz
      have hpz := hO.2.2.1 hk
      have c1 : ∀ i, ¬ i = 0 → st w2 11 0 (nI y.1) 11 i = w2 11 i := fun i hi => st_place hi
      refine ⟨⟨?_, (c1 1 (by decide)).trans hLw.1.2.1, (c1 2 (by decide)).trans hLw.1.2.2.1, (c1 3 (by decide)).trans hLw.1.2.2.2⟩, ⟨(c1 4 (by decide)).trans hLw.2.1.1, (c1 5 (by decide)).trans hLw.2.1.2.1, (c1 6 (by decide)).trans hLw.2.1.2.2⟩, fun k hk2 => ?_, fun q hq2 => ?_, fun i hi => ?_⟩
      · show st w2 11 0 (nI y.1) 11 0 = nI (townD D y.1 0 0)
        rw [st_same]
        rfl
      · have : k < nK D := hk2
        omega
      · have : q < nP D := hq2
        omega
      · show st w2 11 0 (nI y.1) 20 i = _
        rw [st_cell (by decide)]
        exact hLw.2.2.2.2 i hi
theorem a_keeperD {p : Nat} {σ : St} (hP : PosA n l p σ) (hp : p < n) (h0 : σ 21 4 = 0) (hO : RawOk D) (hL : LdAD D σ) (hz : nK D < 3) (hN : 7000 ≤ N) : ∃ w, o_X7_readKeeper_21_11 N σ = some ((), w) ∧ ClAD n l (clE n l (clK n l D p)) σ w := by
  obtain ⟨s1, s2, s3, s4, s5, s6⟩ := a_wordD hP hp h0 hL
  have hT5 := hO.1.1
  unfold o_X7_readKeeper_21_11 clK
  rw [bt_eq, s1, show st σ 21 2 (nI (p + 1)) 11 0 = nI (nT D) from s5.1.1]
  obtain ⟨v1, w1, e1, f1, n1⟩ := a_num (N := N) (lo := 0) (h := nT D) s2 s3 (by omega) (by omega) hN
  have e1' : o_X7_number N 0 (nI (nT D) - 1) (st σ 21 2 (nI (p + 1))) = some (v1, w1) := e1
  rw [e1', bd_some]
  cases hr : pnum n l (p + 1) 0 (nT D) with
  | inl x =>
    rw [hr] at n1
    obtain ⟨m1, m2, m3, m4⟩ := n1
    rw [a_num_f ⟨m2, m3⟩ m1, bd_some, a_end_f ⟨m2, m3⟩ m1, bd_some, if_pos rfl]
    exact ⟨w1, rfl, (s6.tr f1).rD, m1, m2, m3, m4⟩
  | inr y =>
    rw [hr] at n1
    obtain ⟨m1, m2, m3, m4, m5⟩ := n1
    rw [pb_r]
    obtain ⟨v2, w2, e2, f2, n2⟩ := a_num (N := N) (lo := 0) (h := 3) m2 m4 (by omega) (by omega) hN
    have e2' : o_X7_number N 0 2 w1 = some (v2, w2) := e2
    rw [e2', bd_some]
    cases hr2 : pnum n l y.2.2 0 3 with
    | inl x =>
      rw [hr2] at n2
      obtain ⟨k1, k2, k3, k4⟩ := n2
      rw [a_end_f ⟨k2, k3⟩ k1, bd_some, if_pos rfl]
      exact ⟨w2, rfl, ((s6.tr f1).tr f2).rD, k1, k2, k3, k4⟩
    | inr y2 =>
      rw [hr2] at n2
      obtain ⟨k1, k2, k3, k4, k5⟩ := n2
      rw [pb_r]
      unfold clE
      rw [pb_r]
      obtain ⟨v3, w3, e3, f3, n3⟩ := a_endD (N := N) k2 k4 hN
      rw [e3, bd_some]
      have frA := ((s6.tr f1).tr f2).tr f3
      cases hq : pend n l y2.2.2 with
      | inl x =>
        rw [hq] at n3
        obtain ⟨z1, z2, z3, z4⟩ := n3
        rw [if_pos z1]
        exact ⟨w3, rfl, frA.rD, z2, by rw [z3]; exact Nat.le_refl 1, by rw [z3]; omega, z4⟩
      | inr q =>
        rw [hq] at n3
        obtain ⟨z1, z2, z3, z4⟩ := n3
        have hLw := f3.lD (f2.lD (f1.lD s5))
        have hK0 : w3 11 2 = nI (nK D) := hLw.1.2.2.1
        have hK1 : st w3 12 (nK D) (nI y.1) 11 2 = nI (nK D) := by
          rw [st_cell (by decide)]
          exact hK0
        have hK2 : st (st w3 12 (nK D) (nI y.1)) 13 (nK D) (nI y2.1) 11 2 = nI (nK D) := by
          rw [st_cell (by decide)]
          exact hK1
        rw [z1, if_neg one_ne, m1, k1, bt_eq, hK0, put_nI hz (by decide), bt_eq, hK1, put_nI hz (by decide), bt_eq, hK2, ← p1_sub]
        have fr : FrRD w3 (st (st (st w3 12 (nK D) (nI y.1)) 13 (nK D) (nI y2.1)) 11 2 (nI (nK D + 1))) := ⟨fun c hc => by rw [st_cell (by omega), st_cell (by omega), st_cell (by omega)], by rw [st_cell (by decide), st_cell (by decide), st_cell (by decide)]⟩
        have o21 : ∀ i, st (st (st w3 12 (nK D) (nI y.1)) 13 (nK D) (nI y2.1)) 11 2 (nI (nK D + 1)) 21 i = w3 21 i := fun i => by rw [st_cell (by decide), st_cell (by decide), st_cell (by decide)]
        have o22 : ∀ i, st (st (st w3 12 (nK D) (nI y.1)) 13 (nK D) (nI y2.1)) 11 2 (nI (nK D + 1)) 22 i = w3 22 i := fun i => by rw [st_cell (by decide), st_cell (by decide), st_cell (by decide)]
        refine ⟨_, rfl, frA.rD.tr fr, ⟨⟨z2.1.1, by rw [o21]; exact z2.1.2.1, fun i hi => by rw [o22]; exact z2.1.2.2 i hi⟩, by rw [o21]; exact z2.2.1, z2.2.2⟩, by rw [o21]; exact z3, by rw [o21, z4, k5, m5, s4], ?_⟩
        have c1 : ∀ i, ¬ i = 2 → st (st (st w3 12 (nK D) (nI y.1)) 13 (nK D) (nI y2.1)) 11 2 (nI (nK D + 1)) 11 i = w3 11 i := fun i hi => by rw [st_place hi, st_cell (by decide), st_cell (by decide)]
        have nk : nK (keepD D y.1 y2.1) = nK D + 1 := rset_eq (rset (rset D 9 (nK D) y.1) 1 (nK D) y2.1) 0 2 (nK D + 1)
        refine ⟨⟨(c1 0 (by decide)).trans hLw.1.1, (c1 1 (by decide)).trans hLw.1.2.1, ?_, (c1 3 (by decide)).trans hLw.1.2.2.2⟩, ⟨(c1 4 (by decide)).trans hLw.2.1.1, (c1 5 (by decide)).trans hLw.2.1.2.1, (c1 6 (by decide)).trans hLw.2.1.2.2⟩, fun k hk2 => ⟨?_, ?_⟩, fun q hq2 => ?_, fun i hi => ?_⟩
        · show st (st (st w3 12 (nK D) (nI y.1)) 13 (nK D) (nI y2.1)) 11 2 (nI (nK D + 1)) 11 2 = nI (nK (keepD D y.1 y2.1))
          rw [st_same, nk]
        · show st (st (st w3 12 (nK D) (nI y.1)) 13 (nK D) (nI y2.1)) 11 2 (nI (nK D + 1)) 13 k = nI (keepD D y.1 y2.1 1 k)
          have f1 : keepD D y.1 y2.1 1 k = if k = nK D then y2.1 else D 1 k := by
            unfold keepD
            rw [rset_ne (by decide)]
            by_cases e : k = nK D
            · rw [if_pos e, e, rset_eq]
            · rw [if_neg e, rset_np e, rset_ne (by decide)]
          rw [st_cell (by decide), st_get, st_cell (by decide), f1]
          rw [nk] at hk2
          by_cases e : k = nK D
          · rw [if_pos e, if_pos e]
          · rw [if_neg e, if_neg e]
            exact (hLw.2.2.1 k (by omega)).1
        · show st (st (st w3 12 (nK D) (nI y.1)) 13 (nK D) (nI y2.1)) 11 2 (nI (nK D + 1)) 12 k = nI (keepD D y.1 y2.1 9 k)
          have f9 : keepD D y.1 y2.1 9 k = if k = nK D then y.1 else D 9 k := by
            unfold keepD
            rw [rset_ne (by decide), rset_ne (by decide)]
            by_cases e : k = nK D
            · rw [if_pos e, e, rset_eq]
            · rw [if_neg e, rset_np e]
          rw [st_cell (by decide), st_cell (by decide), st_get, f9]
          rw [nk] at hk2
          by_cases e : k = nK D
          · rw [if_pos e, if_pos e]
          · rw [if_neg e, if_neg e]
            exact (hLw.2.2.1 k (by omega)).2
        · have h4 := hLw.2.2.2.1 q hq2
          have oc : ∀ a, 3 < a → ∀ i, st (st (st w3 12 (nK D) (nI y.1)) 13 (nK D) (nI y2.1)) 11 2 (nI (nK D + 1)) (a + 10) i = w3 (a + 10) i := fun a ha i => by rw [st_cell (by omega), st_cell (by omega), st_cell (by omega)]
          exact ⟨(oc 4 (by omega) q).trans h4.1, (oc 5 (by omega) q).trans h4.2.1, (oc 6 (by omega) q).trans h4.2.2.1, (oc 7 (by omega) q).trans h4.2.2.2.1, (oc 8 (by omega) q).trans h4.2.2.2.2.1, (oc 9 (by omega) q).trans h4.2.2.2.2.2⟩
        · show st (st (st w3 12 (nK D) (nI y.1)) 13 (nK D) (nI y2.1)) 11 2 (nI (nK D + 1)) 20 i = _
          rw [st_cell (by decide), st_cell (by decide), st_cell (by decide)]
          exact hLw.2.2.2.2 i hi
end READD
