/-! the class reads ways, promises, winter -/
section READBL
variable {n : Nat} {l : Nat → Nat} {N : Nat} {D : LD}
theorem a_winterL {p : Nat} {σ : St} (hP : PosA n l p σ) (hp : p < n) (h0 : σ 21 4 = 0) (hL : LdAL D σ) (hN : 7000 ≤ N) : ∃ w, o_X7_readWinter_21_1 N σ = some ((), w) ∧ ClAL n l (clE n l (clW n l D p)) σ w := by
  obtain ⟨s1, s2, s3, s4, s5, s6⟩ := a_wordL hP hp h0 hL
  have tail : ∀ (k : Nat) (x2 x5 x8 : Int32) (w : St), 1 ≤ k ∧ k ≤ 4 → w 21 4 = nI k → (if x5 < x8 then (j_X7_readWinter_21_1_50 N x2 x5 x8 w) else (bt (t_X7_blame 4 (w 21 3) w) fun σ12 => j_X7_readWinter_21_1_50 N x2 x5 x8 σ12)) = some ((), w) := by
    intro k x2 x5 x8 w hk hw
    have e0 : (0 : Int32) = 0 := rfl
    have e : j_X7_readWinter_21_1_50 N x2 x5 x8 w = some ((), w) := by
      unfold j_X7_readWinter_21_1_50
      rw [a_end_f hk hw, bd_some, if_pos e0]
    by_cases c : x5 < x8
    · rw [if_pos c, e]
    · rw [if_neg c, a_blame_f hk hw, bt_eq, e]
  unfold o_X7_readWinter_21_1 clW
  rw [bt_eq, s1]
  obtain ⟨v1, w1, e1, f1, n1⟩ := a_num (N := N) (lo := 0) (h := 99) s2 s3 (by omega) (by omega) hN
  have e1' : o_X7_number N 0 98 (st σ 21 2 (nI (p + 1))) = some (v1, w1) := e1
  rw [e1', bd_some]
  cases hr : pnum n l (p + 1) 0 99 with
  | inl x =>
    rw [hr] at n1
    obtain ⟨m1, m2, m3, m4⟩ := n1
    rw [a_num_f ⟨m2, m3⟩ m1, bd_some, a_num_f ⟨m2, m3⟩ m1, bd_some, tail x.1 _ _ _ w1 ⟨m2, m3⟩ m1]
    exact ⟨w1, rfl, (s6.tr f1).rL, m1, m2, m3, m4⟩
  | inr y1 =>
    rw [hr] at n1
    obtain ⟨m1, m2, m3, m4, m5⟩ := n1
    rw [pb_r]
    obtain ⟨v2, w2, e2, f2, n2⟩ := a_num (N := N) (lo := 0) (h := 99) m2 m4 (by omega) (by omega) hN
    have e2' : o_X7_number N 0 98 w1 = some (v2, w2) := e2
    rw [e2', bd_some]
    cases hr2 : pnum n l y1.2.2 0 99 with
    | inl x =>
      rw [hr2] at n2
      obtain ⟨k1, k2, k3, k4⟩ := n2
      rw [a_num_f ⟨k2, k3⟩ k1, bd_some, tail x.1 _ _ _ w2 ⟨k2, k3⟩ k1]
      exact ⟨w2, rfl, ((s6.tr f1).tr f2).rL, k1, k2, k3, k4⟩
    | inr y2 =>
      rw [hr2] at n2
      obtain ⟨k1, k2, k3, k4, k5⟩ := n2
      rw [pb_r]
      obtain ⟨v3, w3, e3, f3, n3⟩ := a_num (N := N) (lo := 2) (h := 100) k2 k4 (by omega) (by omega) hN
      have e3' : o_X7_number N 2 99 w2 = some (v3, w3) := e3
      rw [e3', bd_some]
      cases hr3 : pnum n l y2.2.2 2 100 with
      | inl x =>
        rw [hr3] at n3
        obtain ⟨j1, j2, j3, j4⟩ := n3
        rw [tail x.1 _ _ _ w3 ⟨j2, j3⟩ j1]
        exact ⟨w3, rfl, (((s6.tr f1).tr f2).tr f3).rL, j1, j2, j3, j4⟩
      | inr y3 =>
        have i1 := pnum_in m2.2.2 hr2
        have i2 := pnum_in k2.2.2 hr3
        rw [hr3] at n3
        obtain ⟨j1, j2, j3, j4, j5⟩ := n3
        have frN := ((s6.tr f1).tr f2).tr f3
        have e0 : (0 : Int32) = 0 := rfl
        rw [pb_r, k1, j1]
        by_cases c : y3.1 ≤ y2.1
        · rw [if_neg (by rw [nI_lt_iff (by omega) (by omega)]; omega), if_pos c, bt_eq, a_blame j4, j3]
          have z4 : st (st w3 21 4 4) 21 5 (nI y3.2.1) 21 4 = nI 4 := by
            rw [st_place (by decide), st_same]
            rfl
          unfold j_X7_readWinter_21_1_50
          rw [a_end_f (k := 4) ⟨by omega, by omega⟩ z4, bd_some, if_pos e0]
          have fr : FrT w3 (st (st w3 21 4 4) 21 5 (nI y3.2.1)) := ⟨fun c hc => by rw [st_cell hc, st_cell hc], by rw [st_place (by decide), st_place (by decide)]⟩
          exact ⟨_, rfl, (frN.tr fr).rL, z4, show (1 : Nat) ≤ 4 by omega, Nat.le_refl 4, st_same⟩
        · rw [if_pos ((nI_lt_iff (by omega) (by omega)).mpr (by omega)), if_neg c]
          unfold j_X7_readWinter_21_1_50 clE
          rw [pb_r]
          obtain ⟨v4, w4, e4, f4, n4⟩ := a_endL (N := N) j2 j4 hN
          rw [e4, bd_some]
          have frA := frN.tr f4
          cases hq : pend n l y3.2.2 with
          | inl x =>
            rw [hq] at n4
            obtain ⟨z1, z2, z3, z4⟩ := n4
            rw [if_pos z1]
            exact ⟨w4, rfl, frA.rL, z2, by rw [z3]; exact Nat.le_refl 1, by rw [z3]; omega, z4⟩
          | inr q =>
            rw [hq] at n4
            obtain ⟨z1, z2, z3, z4⟩ := n4
            have hLw := f4.lL (f3.lL (f2.lL (f1.lL s5)))
            rw [z1, if_neg one_ne, bt_eq, bt_eq, bt_eq, m1]
            have oc : ∀ a, ¬ a = 1 → st (st (st w4 1 4 (nI y1.1)) 1 5 (nI y2.1)) 1 6 (nI y3.1) a = w4 a := fun a ha => by rw [st_cell ha, st_cell ha, st_cell ha]
            have fr : FrRL w4 (st (st (st w4 1 4 (nI y1.1)) 1 5 (nI y2.1)) 1 6 (nI y3.1)) := ⟨fun c hc => oc c (by omega), by rw [oc 21 (by decide)]⟩
            refine ⟨_, rfl, frA.rL.tr fr, ⟨⟨z2.1.1, by rw [oc 21 (by decide)]; exact z2.1.2.1, fun i hi => by rw [oc 22 (by decide)]; exact z2.1.2.2 i hi⟩, by rw [oc 21 (by decide)]; exact z2.2.1, z2.2.2⟩, by rw [oc 21 (by decide)]; exact z3, by rw [oc 21 (by decide), z4, j5, k5, m5, s4], ?_⟩
            have c1 : ∀ i, i < 4 → st (st (st w4 1 4 (nI y1.1)) 1 5 (nI y2.1)) 1 6 (nI y3.1) 1 i = w4 1 i := fun i hi => by rw [st_place (by omega), st_place (by omega), st_place (by omega)]
            refine ⟨⟨(c1 0 (by decide)).trans hLw.1.1, (c1 1 (by decide)).trans hLw.1.2.1, (c1 2 (by decide)).trans hLw.1.2.2.1, (c1 3 (by decide)).trans hLw.1.2.2.2⟩, ⟨?_, ?_, ?_⟩, fun k hk => ?_, fun q hq => ?_, fun i hi => ?_⟩
            · show st (st (st w4 1 4 (nI y1.1)) 1 5 (nI y2.1)) 1 6 (nI y3.1) 1 4 = nI y1.1
              rw [st_place (by decide), st_place (by decide), st_same]
            · show st (st (st w4 1 4 (nI y1.1)) 1 5 (nI y2.1)) 1 6 (nI y3.1) 1 5 = nI y2.1
              rw [st_place (by decide), st_same]
            · show st (st (st w4 1 4 (nI y1.1)) 1 5 (nI y2.1)) 1 6 (nI y3.1) 1 6 = nI y3.1
              rw [st_same]
            · have h3 := hLw.2.2.1 k hk
              have o : ∀ a, 1 < a → ∀ i, st (st (st w4 1 4 (nI y1.1)) 1 5 (nI y2.1)) 1 6 (nI y3.1) (a + 0) i = w4 (a + 0) i := fun a ha i => by rw [oc _ (by omega)]
              exact ⟨(o 3 (by omega) k).trans h3.1, (o 2 (by omega) k).trans h3.2⟩
            · have h4 := hLw.2.2.2.1 q hq
              have o : ∀ a, 1 < a → ∀ i, st (st (st w4 1 4 (nI y1.1)) 1 5 (nI y2.1)) 1 6 (nI y3.1) (a + 0) i = w4 (a + 0) i := fun a ha i => by rw [oc _ (by omega)]
              exact ⟨(o 4 (by omega) q).trans h4.1, (o 5 (by omega) q).trans h4.2.1, (o 6 (by omega) q).trans h4.2.2.1, (o 7 (by omega) q).trans h4.2.2.2.1, (o 8 (by omega) q).trans h4.2.2.2.2.1, (o 9 (by omega) q).trans h4.2.2.2.2.2⟩
            · show st (st (st w4 1 4 (nI y1.1)) 1 5 (nI y2.1)) 1 6 (nI y3.1) 10 i = _
              rw [oc 10 (by decide)]
              exact hLw.2.2.2.2 i hi
theorem a_shortenL {a b d e : Nat} {σ : St} (ha : a < 5) (hb : b < 5) (hd : d ≤ 1000) (he : e ≤ 1000) (h10 : σ 10 (5 * a + b) = dI e) : ∃ w, t_X5_shorten_1 (nI a) (nI b) (nI d) σ = w ∧ (∀ i, w 10 i = if i = 5 * a + b then (if e = 1000 ∨ d < e then nI d else dI e) else σ 10 i) ∧ ∀ c, ¬ c = 10 → w c = σ c := by
  have ei : nI a * 5 + nI b = nI (5 * a + b) := by
    show nI a * nI 5 + nI b = _
    rw [nI_mul, nI_add, Nat.mul_comm]
  have same : ∀ i, σ 10 i = if i = 5 * a + b then dI e else σ 10 i := fun i => by
    by_cases c : i = 5 * a + b
    · rw [if_pos c, c, h10]
    · rw [if_neg c]
  unfold t_X5_shorten_1 j_X5_shorten_1_26
  rw [ei, at_nI (j := 5 * a + b) (n := 25) (by omega) (by decide), h10, bt_eq, put_nI (j := 5 * a + b) (n := 25) (by omega) (by decide), bt_eq]
  unfold dI at *
  by_cases c1 : e = 1000
  · rw [if_pos c1, if_pos rfl]
    refine ⟨_, rfl, fun i => ?_, fun c hc => st_cell hc⟩
    rw [st_get]
    simp [c1]
  · rw [if_neg c1, if_neg (nI_neg1 (by omega))]
    by_cases c2 : d < e
    · rw [if_neg (by rw [nI_le_iff (by omega) (by omega)]; omega)]
      refine ⟨_, rfl, fun i => ?_, fun c hc => st_cell hc⟩
      rw [st_get]
      simp [c1, c2]
    · rw [if_pos (nI_le (by omega) (by omega))]
      refine ⟨_, rfl, fun i => ?_, fun c hc => rfl⟩
      have := same i
      rw [if_neg c1] at this
      simp only [c1, c2, or_self, if_false]
      exact this
theorem a_roadL {p : Nat} {σ : St} (hP : PosA n l p σ) (hp : p < n) (h0 : σ 21 4 = 0) (hO : RawOk D) (hL : LdAL D σ) (hN : 7000 ≤ N) : ∃ w, o_X7_readRoad_21_1 N σ = some ((), w) ∧ ClAL n l (clE n l (clR n l D p)) σ w := by
  obtain ⟨s1, s2, s3, s4, s5, s6⟩ := a_wordL hP hp h0 hL
  have hT5 := hO.1.1
  have e0 : (0 : Int32) = 0 := rfl
  have tail : ∀ (k : Nat) (x2 x5 : Int32) (w : St), 1 ≤ k ∧ k ≤ 4 → w 21 4 = nI k → (if x2 = x5 then (bt (t_X7_blame 4 (w 21 3) w) fun σ9 => j_X7_readRoad_21_1_48 N x2 x5 σ9) else (j_X7_readRoad_21_1_48 N x2 x5 w)) = some ((), w) := by
    intro k x2 x5 w hk hw
    have e : j_X7_readRoad_21_1_48 N x2 x5 w = some ((), w) := by
      unfold j_X7_readRoad_21_1_48
      rw [a_num_f hk hw, bd_some, a_end_f hk hw, bd_some, if_pos e0]
    by_cases c : x2 = x5
    · rw [if_pos c, a_blame_f hk hw, bt_eq, e]
    · rw [if_neg c, e]
  unfold o_X7_readRoad_21_1 clR
  rw [bt_eq, s1, show st σ 21 2 (nI (p + 1)) 1 0 = nI (nT D) from s5.1.1]
  obtain ⟨v1, w1, e1, f1, n1⟩ := a_num (N := N) (lo := 0) (h := nT D) s2 s3 (by omega) (by omega) hN
  have e1' : o_X7_number N 0 (nI (nT D) - 1) (st σ 21 2 (nI (p + 1))) = some (v1, w1) := e1
  rw [e1', bd_some, show w1 1 0 = nI (nT D) from (f1.lL s5).1.1]
  cases hr : pnum n l (p + 1) 0 (nT D) with
  | inl x =>
    rw [hr] at n1
    obtain ⟨m1, m2, m3, m4⟩ := n1
    rw [a_num_f ⟨m2, m3⟩ m1, bd_some, tail x.1 _ _ w1 ⟨m2, m3⟩ m1]
    exact ⟨w1, rfl, (s6.tr f1).rL, m1, m2, m3, m4⟩
  | inr y1 =>
    have i0 := pnum_in s2.2.2 hr
    rw [hr] at n1
    obtain ⟨m1, m2, m3, m4, m5⟩ := n1
    rw [pb_r]
    obtain ⟨v2, w2, e2, f2, n2⟩ := a_num (N := N) (lo := 0) (h := nT D) m2 m4 (by omega) (by omega) hN
    have e2' : o_X7_number N 0 (nI (nT D) - 1) w1 = some (v2, w2) := e2
    rw [e2', bd_some]
    cases hr2 : pnum n l y1.2.2 0 (nT D) with
    | inl x =>
      rw [hr2] at n2
      obtain ⟨k1, k2, k3, k4⟩ := n2
      rw [tail x.1 _ _ w2 ⟨k2, k3⟩ k1]
      exact ⟨w2, rfl, ((s6.tr f1).tr f2).rL, k1, k2, k3, k4⟩
    | inr y2 =>
      have i1 := pnum_in m2.2.2 hr2
      rw [hr2] at n2
      obtain ⟨k1, k2, k3, k4, k5⟩ := n2
      have frN := (s6.tr f1).tr f2
      rw [pb_r, m1, k1]
      by_cases c : y1.1 = y2.1
      · rw [if_pos (by rw [c]), if_pos c, bt_eq, a_blame k4, k3]
        have z4 : st (st w2 21 4 4) 21 5 (nI y2.2.1) 21 4 = nI 4 := by
          rw [st_place (by decide), st_same]
          rfl
        unfold j_X7_readRoad_21_1_48
        rw [a_num_f (k := 4) ⟨by omega, by omega⟩ z4, bd_some, a_end_f (k := 4) ⟨by omega, by omega⟩ z4, bd_some, if_pos e0]
        have fr : FrT w2 (st (st w2 21 4 4) 21 5 (nI y2.2.1)) := ⟨fun c hc => by rw [st_cell hc, st_cell hc], by rw [st_place (by decide), st_place (by decide)]⟩
        exact ⟨_, rfl, (frN.tr fr).rL, z4, show (1 : Nat) ≤ 4 by omega, Nat.le_refl 4, st_same⟩
      · rw [if_neg (fun e => c ((nI_eq (by omega) (by omega)).mp e)), if_neg c]
        unfold j_X7_readRoad_21_1_48
        obtain ⟨v3, w3, e3, f3, n3⟩ := a_num (N := N) (lo := 1) (h := 10) k2 k4 (by omega) (by omega) hN
        have e3' : o_X7_number N 1 9 w2 = some (v3, w3) := e3
        rw [e3', bd_some]
        cases hr3 : pnum n l y2.2.2 1 10 with
        | inl x =>
          rw [hr3] at n3
          obtain ⟨j1, j2, j3, j4⟩ := n3
          rw [a_end_f ⟨j2, j3⟩ j1, bd_some, if_pos e0]
          exact ⟨w3, rfl, (frN.tr f3).rL, j1, j2, j3, j4⟩
        | inr y3 =>
          have i2 := pnum_in k2.2.2 hr3
          rw [hr3] at n3
          obtain ⟨j1, j2, j3, j4, j5⟩ := n3
          rw [pb_r]
          unfold clE
          rw [pb_r]
          obtain ⟨v4, w4, e4, f4, n4⟩ := a_endL (N := N) j2 j4 hN
          rw [e4, bd_some]
          have frA := (frN.tr f3).tr f4
          cases hq : pend n l y3.2.2 with
          | inl x =>
            rw [hq] at n4
            obtain ⟨z1, z2, z3, z4⟩ := n4
            rw [if_pos z1]
            exact ⟨w4, rfl, frA.rL, z2, by rw [z3]; exact Nat.le_refl 1, by rw [z3]; omega, z4⟩
          | inr q =>
            rw [hq] at n4
            obtain ⟨z1, z2, z3, z4⟩ := n4
            have hLw := f4.lL (f3.lL (f2.lL (f1.lL s5)))
            have hsym := hO.2.2.2.2.2.1
            have dab := (hsym y1.1 y2.1 (by omega) (by omega))
            have w4r : w4 1 1 = nI (D 0 1) := hLw.1.2.1
            have d1 : st w4 1 1 (nI (D 0 1 + 1)) 10 (5 * y1.1 + y2.1) = dI (D 7 (5 * y1.1 + y2.1)) := by
              rw [st_cell (by decide)]
              exact hLw.2.2.2.2 _ (by omega)
            obtain ⟨w5, g1, g2, g3⟩ := a_shortenL (d := y3.1) (by omega) (by omega) (by omega) (by omega) d1
            have d2 : w5 10 (5 * y2.1 + y1.1) = dI (D 7 (5 * y1.1 + y2.1)) := by
              rw [g2, if_neg (by omega), st_cell (by decide), dab.2]
              exact hLw.2.2.2.2 _ (by omega)
            obtain ⟨w6, g4, g5, g6⟩ := a_shortenL (a := y2.1) (b := y1.1) (d := y3.1) (by omega) (by omega) (by omega) (by omega) d2
            rw [z1, if_neg one_ne, j1]
            unfold t_X5_addRoad_1
            rw [bt_eq, bt_eq, bt_eq, bt_eq, w4r, ← p1_sub, g1, g4]
            have oc : ∀ a, ¬ a = 1 → ¬ a = 10 → w6 a = w4 a := fun a h1 h2 => by rw [g6 a h2, g3 a h2, st_cell h1]
            have o1 : ∀ i, w6 1 i = if i = 1 then nI (D 0 1 + 1) else w4 1 i := fun i => by rw [g6 1 (by decide), g3 1 (by decide), st_get]
            have fr : FrRL w4 w6 := ⟨fun c hc => oc c (by omega) (by omega), by rw [oc 21 (by decide) (by decide)]⟩
            refine ⟨_, rfl, frA.rL.tr fr, ⟨⟨z2.1.1, by rw [oc 21 (by decide) (by decide)]; exact z2.1.2.1, fun i hi => by rw [oc 22 (by decide) (by decide)]; exact z2.1.2.2 i hi⟩, by rw [oc 21 (by decide) (by decide)]; exact z2.2.1, z2.2.2⟩, by rw [oc 21 (by decide) (by decide)]; exact z3, by rw [oc 21 (by decide) (by decide), z4, j5, k5, m5, s4], ?_⟩
            have c1 : ∀ i, ¬ i = 1 → w6 1 i = w4 1 i := fun i hi => by rw [o1, if_neg hi]
            refine ⟨⟨(c1 0 (by decide)).trans hLw.1.1, ?_, (c1 2 (by decide)).trans hLw.1.2.2.1, (c1 3 (by decide)).trans hLw.1.2.2.2⟩, ⟨(c1 4 (by decide)).trans hLw.2.1.1, (c1 5 (by decide)).trans hLw.2.1.2.1, (c1 6 (by decide)).trans hLw.2.1.2.2⟩, fun k hk => ?_, fun q hq => ?_, fun i hi => ?_⟩
            · show w6 1 1 = nI (roadD D y1.1 y2.1 y3.1 0 1)
              rw [o1, if_pos rfl, roadD_at, if_pos ⟨rfl, rfl⟩]
            · have h3 := hLw.2.2.1 k hk
              have o : ∀ a, 1 < a → a < 10 → ∀ i, w6 (a + 0) i = w4 (a + 0) i := fun a h1 h2 i => by rw [oc _ (by omega) (by omega)]
              exact ⟨(o 3 (by omega) (by omega) k).trans h3.1, (o 2 (by omega) (by omega) k).trans h3.2⟩
            · have h4 := hLw.2.2.2.1 q hq
              have o : ∀ a, 1 < a → a < 10 → ∀ i, w6 (a + 0) i = w4 (a + 0) i := fun a h1 h2 i => by rw [oc _ (by omega) (by omega)]
              exact ⟨(o 4 (by omega) (by omega) q).trans h4.1, (o 5 (by omega) (by omega) q).trans h4.2.1, (o 6 (by omega) (by omega) q).trans h4.2.2.1, (o 7 (by omega) (by omega) q).trans h4.2.2.2.1, (o 8 (by omega) (by omega) q).trans h4.2.2.2.2.1, (o 9 (by omega) (by omega) q).trans h4.2.2.2.2.2⟩
            · show w6 10 i = dI (roadD D y1.1 y2.1 y3.1 7 i)
              have hv : (if D 7 (5 * y1.1 + y2.1) = 1000 ∨ y3.1 < D 7 (5 * y1.1 + y2.1) then nI y3.1 else dI (D 7 (5 * y1.1 + y2.1))) = dI (roadV D y1.1 y2.1 y3.1) := by
                unfold roadV
                by_cases cc : D 7 (5 * y1.1 + y2.1) = 1000 ∨ y3.1 < D 7 (5 * y1.1 + y2.1)
                · rw [if_pos cc, if_pos cc]
                  exact (if_neg (by omega)).symm
                · rw [if_neg cc, if_neg cc]
              have r7 : roadD D y1.1 y2.1 y3.1 7 i = if i = 5 * y2.1 + y1.1 then roadV D y1.1 y2.1 y3.1 else if i = 5 * y1.1 + y2.1 then roadV D y1.1 y2.1 y3.1 else D 7 i := by
                unfold roadD
                rw [rset_ne (by decide), rset_get, rset_get]
              rw [g5, g2, hv, r7, st_cell (by decide)]
              by_cases ca : i = 5 * y2.1 + y1.1
              · rw [if_pos ca, if_pos ca]
              · rw [if_neg ca, if_neg ca]
                by_cases cb : i = 5 * y1.1 + y2.1
                · rw [if_pos cb, if_pos cb]
                · rw [if_neg cb, if_neg cb]
                  exact hLw.2.2.2.2 i hi
end READBL
