/-! the class reads a promise -/
section READCL
variable {n : Nat} {l : Nat → Nat} {N : Nat} {D : LD}
theorem a_promiseL {p : Nat} {σ : St} (hP : PosA n l p σ) (hp : p < n) (h0 : σ 21 4 = 0) (hO : RawOk D) (hL : LdAL D σ) (h7 : nP D < 7) (hN : 7000 ≤ N) : ∃ w, o_X7_readPromise_21_1 N σ = some ((), w) ∧ ClAL n l (clE n l (clP n l D p)) σ w := by
  obtain ⟨s1, s2, s3, s4, s5, s6⟩ := a_wordL hP hp h0 hL
  have hT5 := hO.1.1
  have hK3 := hO.1.2.2.1
  have e0 : (0 : Int32) = 0 := rfl
  have tail : ∀ (k : Nat) (x2 x5 x8 x11 x14 x17 : Int32) (w : St), 1 ≤ k ∧ k ≤ 4 → w 21 4 = nI k → (if x17 = 9 then (j_X7_readPromise_21_1_95 N x2 x5 x8 x11 x14 x17 w) else (if x17 < (w 1 3) then (j_X7_readPromise_21_1_95 N x2 x5 x8 x11 x14 x17 w) else (bt (t_X7_blame 2 (w 21 3) w) fun σ22 => j_X7_readPromise_21_1_95 N x2 x5 x8 x11 x14 x17 σ22))) = some ((), w) := by
    intro k x2 x5 x8 x11 x14 x17 w hk hw
    have e : j_X7_readPromise_21_1_95 N x2 x5 x8 x11 x14 x17 w = some ((), w) := by
      unfold j_X7_readPromise_21_1_95
      rw [a_end_f hk hw, bd_some, if_pos e0]
    by_cases c : x17 = 9
    · rw [if_pos c, e]
    · rw [if_neg c]
      by_cases c2 : x17 < w 1 3
      · rw [if_pos c2, e]
      · rw [if_neg c2, a_blame_f hk hw, bt_eq, e]
  unfold o_X7_readPromise_21_1 clP
  rw [bt_eq, s1, show st σ 21 2 (nI (p + 1)) 1 2 = nI (nK D) from s5.1.2.2.1]
  obtain ⟨v1, w1, e1, f1, n1⟩ := a_num (N := N) (lo := 0) (h := nK D) s2 s3 (by omega) (by omega) hN
  have e1' : o_X7_number N 0 (nI (nK D) - 1) (st σ 21 2 (nI (p + 1))) = some (v1, w1) := e1
  rw [e1', bd_some, show w1 1 0 = nI (nT D) from (f1.lL s5).1.1]
  cases hr : pnum n l (p + 1) 0 (nK D) with
  | inl x =>
    rw [hr] at n1
    obtain ⟨m1, m2, m3, m4⟩ := n1
    rw [a_num_f ⟨m2, m3⟩ m1, bd_some, a_num_f ⟨m2, m3⟩ m1, bd_some, a_num_f ⟨m2, m3⟩ m1, bd_some, a_num_f ⟨m2, m3⟩ m1, bd_some, a_num_f ⟨m2, m3⟩ m1, bd_some, tail x.1 _ _ _ _ _ _ w1 ⟨m2, m3⟩ m1]
    exact ⟨w1, rfl, (s6.tr f1).rL, m1, m2, m3, m4⟩
  | inr y1 =>
    have i1 := pnum_in s2.2.2 hr
    rw [hr] at n1
    obtain ⟨a1, a2, a3, a4, a5⟩ := n1
    rw [pb_r]
    obtain ⟨v2, w2, e2, f2, n2⟩ := a_num (N := N) (lo := 0) (h := nT D) a2 a4 (by omega) (by omega) hN
    have e2' : o_X7_number N 0 (nI (nT D) - 1) w1 = some (v2, w2) := e2
    rw [e2', bd_some]
    have g2 := (s6.tr f1).tr f2
    cases hr2 : pnum n l y1.2.2 0 (nT D) with
    | inl x =>
      rw [hr2] at n2
      obtain ⟨m1, m2, m3, m4⟩ := n2
      rw [a_num_f ⟨m2, m3⟩ m1, bd_some, a_num_f ⟨m2, m3⟩ m1, bd_some, a_num_f ⟨m2, m3⟩ m1, bd_some, a_num_f ⟨m2, m3⟩ m1, bd_some, tail x.1 _ _ _ _ _ _ w2 ⟨m2, m3⟩ m1]
      exact ⟨w2, rfl, g2.rL, m1, m2, m3, m4⟩
    | inr y2 =>
      have i2 := pnum_in a2.2.2 hr2
      rw [hr2] at n2
      obtain ⟨b1, b2, b3, b4, b5⟩ := n2
      rw [pb_r]
      obtain ⟨v3, w3, e3, f3, n3⟩ := a_num (N := N) (lo := 1) (h := 61) b2 b4 (by omega) (by omega) hN
      have e3' : o_X7_number N 1 60 w2 = some (v3, w3) := e3
      rw [e3', bd_some]
      have g3 := g2.tr f3
      cases hr3 : pnum n l y2.2.2 1 61 with
      | inl x =>
        rw [hr3] at n3
        obtain ⟨m1, m2, m3, m4⟩ := n3
        rw [a_num_f ⟨m2, m3⟩ m1, bd_some, a_num_f ⟨m2, m3⟩ m1, bd_some, a_num_f ⟨m2, m3⟩ m1, bd_some, tail x.1 _ _ _ _ _ _ w3 ⟨m2, m3⟩ m1]
        exact ⟨w3, rfl, g3.rL, m1, m2, m3, m4⟩
      | inr y3 =>
        have i3 := pnum_in b2.2.2 hr3
        rw [hr3] at n3
        obtain ⟨c1, c2, c3, c4, c5⟩ := n3
        rw [pb_r]
        obtain ⟨v4, w4, e4, f4, n4⟩ := a_num (N := N) (lo := 0) (h := 10) c2 c4 (by omega) (by omega) hN
        have e4' : o_X7_number N 0 9 w3 = some (v4, w4) := e4
        rw [e4', bd_some]
        have g4 := g3.tr f4
        cases hr4 : pnum n l y3.2.2 0 10 with
        | inl x =>
          rw [hr4] at n4
          obtain ⟨m1, m2, m3, m4⟩ := n4
          rw [a_num_f ⟨m2, m3⟩ m1, bd_some, a_num_f ⟨m2, m3⟩ m1, bd_some, tail x.1 _ _ _ _ _ _ w4 ⟨m2, m3⟩ m1]
          exact ⟨w4, rfl, g4.rL, m1, m2, m3, m4⟩
        | inr y4 =>
          have i4 := pnum_in c2.2.2 hr4
          rw [hr4] at n4
          obtain ⟨d1, d2, d3, d4, d5⟩ := n4
          rw [pb_r]
          obtain ⟨v5, w5, e5, f5, n5⟩ := a_num (N := N) (lo := 1) (h := 10) d2 d4 (by omega) (by omega) hN
          have e5' : o_X7_number N 1 9 w4 = some (v5, w5) := e5
          rw [e5', bd_some]
          have g5 := g4.tr f5
          cases hr5 : pnum n l y4.2.2 1 10 with
          | inl x =>
            rw [hr5] at n5
            obtain ⟨m1, m2, m3, m4⟩ := n5
            rw [a_num_f ⟨m2, m3⟩ m1, bd_some, tail x.1 _ _ _ _ _ _ w5 ⟨m2, m3⟩ m1]
            exact ⟨w5, rfl, g5.rL, m1, m2, m3, m4⟩
          | inr y5 =>
            have i5 := pnum_in d2.2.2 hr5
            rw [hr5] at n5
            obtain ⟨h1, h2, h3, h4, h5⟩ := n5
            rw [pb_r]
            obtain ⟨v6, w6, e6, f6, n6⟩ := a_num (N := N) (lo := 0) (h := 10) h2 h4 (by omega) (by omega) hN
            have e6' : o_X7_number N 0 9 w5 = some (v6, w6) := e6
            rw [e6', bd_some]
            have g6 := g5.tr f6
            cases hr6 : pnum n l y5.2.2 0 10 with
            | inl x =>
              rw [hr6] at n6
              obtain ⟨m1, m2, m3, m4⟩ := n6
              rw [tail x.1 _ _ _ _ _ _ w6 ⟨m2, m3⟩ m1]
              exact ⟨w6, rfl, g6.rL, m1, m2, m3, m4⟩
            | inr y6 =>
              have i6 := pnum_in h2.2.2 hr6
              rw [hr6] at n6
              obtain ⟨k1, k2, k3, k4, k5⟩ := n6
              have hLn := f6.lL (f5.lL (f4.lL (f3.lL (f2.lL (f1.lL s5)))))
              have e13 : w6 1 3 = nI (nP D) := hLn.1.2.2.2
              rw [pb_r, a1, b1, c1, d1, h1, k1, e13, k3]
              have main : ¬ (y6.1 ≠ 9 ∧ nP D ≤ y6.1) → ∃ w, j_X7_readPromise_21_1_95 N (nI y1.1) (nI y2.1) (nI y3.1) (nI y4.1) (nI y5.1) (nI y6.1) w6 = some ((), w) ∧ ClAL n l (clE n l (.inr (promD D y1.1 y2.1 y3.1 y4.1 y5.1 y6.1, y6.2.2))) σ w := by
                intro hg
                unfold j_X7_readPromise_21_1_95 clE
                rw [pb_r]
                obtain ⟨v7, w7, e7, f7, n7⟩ := a_endL (N := N) k2 k4 hN
                rw [e7, bd_some]
                have g7 := g6.tr f7
                cases hq : pend n l y6.2.2 with
                | inl x =>
                  rw [hq] at n7
                  obtain ⟨z1, z2, z3, z4⟩ := n7
                  rw [if_pos z1]
                  exact ⟨w7, rfl, g7.rL, z2, by rw [z3]; exact Nat.le_refl 1, by rw [z3]; omega, z4⟩
                | inr q =>
                  rw [hq] at n7
                  obtain ⟨z1, z2, z3, z4⟩ := n7
                  have hLw := f7.lL hLn
                  have e13' : w7 1 3 = nI (nP D) := hLw.1.2.2.2
                  have hgI : (if nI y6.1 = 9 then (-1 : Int32) else nI y6.1) = gI y6.1 := by
                    unfold gI
                    by_cases c : y6.1 = 9
                    · rw [if_pos c, if_pos (by rw [c]; rfl)]
                    · rw [if_neg c, if_neg (show ¬ nI y6.1 = 9 from fun e => c ((nI_eq (a := y6.1) (b := 9) (by omega) (by omega)).mp e))]
                  have last : ∀ τ : St, τ = st (st (st (st (st w7 4 (nP D) (nI y1.1)) 5 (nP D) (nI y2.1)) 6 (nP D) (nI y3.1)) 7 (nP D) (nI y4.1)) 8 (nP D) (nI y5.1) → (if nI y6.1 = 9 then (j_X7_readPromise_21_1_180 N (nI (nP D)) (-1) τ) else (j_X7_readPromise_21_1_180 N (nI (nP D)) (nI y6.1) τ)) = some ((), st (st τ 9 (nP D) (gI y6.1)) 1 3 (nI (nP D + 1))) := by
                    intro τ hτ
                    have e3 : τ 1 3 = nI (nP D) := by
                      rw [hτ, st_cell (by decide), st_cell (by decide), st_cell (by decide), st_cell (by decide), st_cell (by decide)]
                      exact e13'
                    have u : ∀ v : Int32, j_X7_readPromise_21_1_180 N (nI (nP D)) v τ = some ((), st (st τ 9 (nP D) v) 1 3 (nI (nP D + 1))) := by
                      intro v
                      have e4 : st τ 9 (nP D) v 1 3 = nI (nP D) := by
                        rw [st_cell (by decide)]
                        exact e3
                      unfold j_X7_readPromise_21_1_180
                      rw [bt_eq, put_nI h7 (by decide), bt_eq, e4, ← p1_sub]
                    rw [u, u, ← hgI]
                    by_cases c : nI y6.1 = 9
                    · rw [if_pos c, if_pos c]
                    · rw [if_neg c, if_neg c]
                  rw [z1, if_neg one_ne, bt_eq, e13', put_nI h7 (by decide), bt_eq, put_nI h7 (by decide), bt_eq, put_nI h7 (by decide), bt_eq, put_nI h7 (by decide), bt_eq, put_nI h7 (by decide), bt_eq, last _ rfl]
                  generalize hW : st (st (st (st (st (st (st w7 4 (nP D) (nI y1.1)) 5 (nP D) (nI y2.1)) 6 (nP D) (nI y3.1)) 7 (nP D) (nI y4.1)) 8 (nP D) (nI y5.1)) 9 (nP D) (gI y6.1)) 1 3 (nI (nP D + 1)) = W
                  have oc : ∀ a, ¬ (4 ≤ a ∧ a ≤ 9 ∨ a = 1) → W a = w7 a := fun a ha => by
                    rw [← hW, st_cell (by omega), st_cell (by omega), st_cell (by omega), st_cell (by omega), st_cell (by omega), st_cell (by omega), st_cell (by omega)]
                  have o1 : ∀ i, W 1 i = if i = 3 then nI (nP D + 1) else w7 1 i := fun i => by
                    rw [← hW, st_get, st_cell (by decide), st_cell (by decide), st_cell (by decide), st_cell (by decide), st_cell (by decide), st_cell (by decide)]
                  have o4 : ∀ i, W 4 i = if i = nP D then nI y1.1 else w7 4 i := fun i => by
                    rw [← hW, st_cell (by decide), st_cell (by decide), st_cell (by decide), st_cell (by decide), st_cell (by decide), st_cell (by decide), st_get]
                  have o5 : ∀ i, W 5 i = if i = nP D then nI y2.1 else w7 5 i := fun i => by
                    rw [← hW, st_cell (by decide), st_cell (by decide), st_cell (by decide), st_cell (by decide), st_cell (by decide), st_get, st_cell (by decide)]
                  have o6 : ∀ i, W 6 i = if i = nP D then nI y3.1 else w7 6 i := fun i => by
                    rw [← hW, st_cell (by decide), st_cell (by decide), st_cell (by decide), st_cell (by decide), st_get, st_cell (by decide), st_cell (by decide)]
                  have o7 : ∀ i, W 7 i = if i = nP D then nI y4.1 else w7 7 i := fun i => by
                    rw [← hW, st_cell (by decide), st_cell (by decide), st_cell (by decide), st_get, st_cell (by decide), st_cell (by decide), st_cell (by decide)]
                  have o8 : ∀ i, W 8 i = if i = nP D then nI y5.1 else w7 8 i := fun i => by
                    rw [← hW, st_cell (by decide), st_cell (by decide), st_get, st_cell (by decide), st_cell (by decide), st_cell (by decide), st_cell (by decide)]
                  have o9 : ∀ i, W 9 i = if i = nP D then gI y6.1 else w7 9 i := fun i => by
                    rw [← hW, st_cell (by decide), st_get, st_cell (by decide), st_cell (by decide), st_cell (by decide), st_cell (by decide), st_cell (by decide)]
                  have fr : FrRL w7 W := ⟨fun c hc => oc c (by omega), by rw [oc 21 (by decide)]⟩
                  refine ⟨_, rfl, g7.rL.tr fr, ⟨⟨z2.1.1, by rw [oc 21 (by decide)]; exact z2.1.2.1, fun i hi => by rw [oc 22 (by decide)]; exact z2.1.2.2 i hi⟩, by rw [oc 21 (by decide)]; exact z2.2.1, z2.2.2⟩, by rw [oc 21 (by decide)]; exact z3, by rw [oc 21 (by decide), z4, k5, h5, d5, c5, b5, a5, s4], ?_⟩
                  have np : nP (promD D y1.1 y2.1 y3.1 y4.1 y5.1 y6.1) = nP D + 1 := by
                    unfold nP
                    rw [promD_at, if_pos ⟨rfl, rfl⟩]
                    rfl
                  have q1 : ∀ i, ¬ i = 3 → W 1 i = w7 1 i := fun i hi => by rw [o1, if_neg hi]
                  have pD : ∀ x i, ¬ (x = 0 ∧ i = 3) → ¬ (2 ≤ x ∧ x ≤ 6 ∨ x = 10) → promD D y1.1 y2.1 y3.1 y4.1 y5.1 y6.1 x i = D x i := fun x i u1 u2 => by
                    rw [promD_at, if_neg u1, if_neg (by omega), if_neg (by omega), if_neg (by omega), if_neg (by omega), if_neg (by omega), if_neg (by omega)]
                  have p10 : ∀ q, promD D y1.1 y2.1 y3.1 y4.1 y5.1 y6.1 10 q = if q = nP D then y1.1 else D 10 q := fun q => by
                    rw [promD_at]
                    simp
                  have p2 : ∀ q, promD D y1.1 y2.1 y3.1 y4.1 y5.1 y6.1 2 q = if q = nP D then y2.1 else D 2 q := fun q => by
                    rw [promD_at]
                    simp
                  have p3 : ∀ q, promD D y1.1 y2.1 y3.1 y4.1 y5.1 y6.1 3 q = if q = nP D then y3.1 else D 3 q := fun q => by
                    rw [promD_at]
                    simp
                  have p4 : ∀ q, promD D y1.1 y2.1 y3.1 y4.1 y5.1 y6.1 4 q = if q = nP D then y4.1 else D 4 q := fun q => by
                    rw [promD_at]
                    simp
                  have p5 : ∀ q, promD D y1.1 y2.1 y3.1 y4.1 y5.1 y6.1 5 q = if q = nP D then y5.1 else D 5 q := fun q => by
                    rw [promD_at]
                    simp
                  have p6 : ∀ q, promD D y1.1 y2.1 y3.1 y4.1 y5.1 y6.1 6 q = if q = nP D then y6.1 else D 6 q := fun q => by
                    rw [promD_at]
                    simp
                  show LandA (promD D y1.1 y2.1 y3.1 y4.1 y5.1 y6.1) (fun a => W (a + 0))
                  refine ⟨⟨(q1 0 (by decide)).trans hLw.1.1, ?_, (q1 2 (by decide)).trans hLw.1.2.2.1, ?_⟩, ⟨?_, ?_, ?_⟩, fun k hk => ⟨?_, ?_⟩, fun q hq => ⟨?_, ?_, ?_, ?_, ?_, ?_⟩, fun i hi => ?_⟩
                  · rw [pD 0 1 (by omega) (by omega)]
                    exact (q1 1 (by decide)).trans hLw.1.2.1
                  · show W 1 3 = nI (nP (promD D y1.1 y2.1 y3.1 y4.1 y5.1 y6.1))
                    rw [o1, if_pos rfl, np]
                  · rw [pD 8 0 (by omega) (by omega)]
                    exact (q1 4 (by decide)).trans hLw.2.1.1
                  · rw [pD 8 1 (by omega) (by omega)]
                    exact (q1 5 (by decide)).trans hLw.2.1.2.1
                  · rw [pD 8 2 (by omega) (by omega)]
                    exact (q1 6 (by decide)).trans hLw.2.1.2.2
                  · rw [pD 1 k (by omega) (by omega)]
                    show W 3 k = _
                    rw [oc 3 (by decide)]
                    exact (hLw.2.2.1 k hk).1
                  · rw [pD 9 k (by omega) (by omega)]
                    show W 2 k = _
                    rw [oc 2 (by decide)]
                    exact (hLw.2.2.1 k hk).2
                  · show W 4 q = _
                    rw [np] at hq
                    rw [o4, p10]
                    by_cases e : q = nP D
                    · rw [if_pos e, if_pos e]
                    · rw [if_neg e, if_neg e]
                      exact (hLw.2.2.2.1 q (by omega)).1
                  · show W 5 q = _
                    rw [np] at hq
                    rw [o5, p2]
                    by_cases e : q = nP D
                    · rw [if_pos e, if_pos e]
                    · rw [if_neg e, if_neg e]
                      exact (hLw.2.2.2.1 q (by omega)).2.1
                  · show W 6 q = _
                    rw [np] at hq
                    rw [o6, p3]
                    by_cases e : q = nP D
                    · rw [if_pos e, if_pos e]
                    · rw [if_neg e, if_neg e]
                      exact (hLw.2.2.2.1 q (by omega)).2.2.1
                  · show W 7 q = _
                    rw [np] at hq
                    rw [o7, p4]
                    by_cases e : q = nP D
                    · rw [if_pos e, if_pos e]
                    · rw [if_neg e, if_neg e]
                      exact (hLw.2.2.2.1 q (by omega)).2.2.2.1
                  · show W 8 q = _
                    rw [np] at hq
                    rw [o8, p5]
                    by_cases e : q = nP D
                    · rw [if_pos e, if_pos e]
                    · rw [if_neg e, if_neg e]
                      exact (hLw.2.2.2.1 q (by omega)).2.2.2.2.1
                  · show W 9 q = _
                    rw [np] at hq
                    rw [o9, p6]
                    by_cases e : q = nP D
                    · rw [if_pos e, if_pos e]
                    · rw [if_neg e, if_neg e]
                      exact (hLw.2.2.2.1 q (by omega)).2.2.2.2.2
                  · rw [pD 7 i (by omega) (by omega)]
                    show W 10 i = _
                    rw [oc 10 (by decide)]
                    exact hLw.2.2.2.2 i hi
              by_cases c9 : y6.1 = 9
              · have e9 : nI y6.1 = (9 : Int32) := by
                  rw [c9]
                  rfl
                rw [if_pos e9, if_neg (fun z => z.1 c9)]
                exact main (fun z => z.1 c9)
              · have e9 : ¬ nI y6.1 = (9 : Int32) := fun e => c9 ((nI_eq (a := y6.1) (b := 9) (by omega) (by omega)).mp e)
                rw [if_neg e9]
                by_cases cp : y6.1 < nP D
                · rw [if_pos ((nI_lt_iff (by omega) (by omega)).mpr cp), if_neg (fun z => by omega)]
                  exact main (fun z => by omega)
                · rw [if_neg (by rw [nI_lt_iff (by omega) (by omega)]; exact cp), if_pos ⟨c9, by omega⟩, bt_eq, a_blame k4]
                  have z4 : st (st w6 21 4 2) 21 5 (nI y6.2.1) 21 4 = nI 2 := by
                    rw [st_place (by decide), st_same]
                    rfl
                  unfold j_X7_readPromise_21_1_95
                  rw [a_end_f (k := 2) ⟨by omega, by omega⟩ z4, bd_some, if_pos e0]
                  have fr : FrT w6 (st (st w6 21 4 2) 21 5 (nI y6.2.1)) := ⟨fun c hc => by rw [st_cell hc, st_cell hc], by rw [st_place (by decide), st_place (by decide)]⟩
                  exact ⟨_, rfl, (g6.tr fr).rL, z4, show (1 : Nat) ≤ 2 by omega, show (2 : Nat) ≤ 4 by omega, st_same⟩
end READCL
