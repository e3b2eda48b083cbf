/-! the class reads a clause, and all clauses -/
section READED
variable {n : Nat} {l : Nat → Nat} {N : Nat} {D : LD}
theorem a_badD {p : Nat} {σ : St} (h0 : σ 21 4 = 0) {k : Nat} (hk : 1 ≤ k ∧ k ≤ 4) : ClAD n l (clE n l (.inl (k, p))) σ (st (st σ 21 4 (nI k)) 21 5 (nI p)) := by
  refine ⟨⟨fun c hc => by rw [st_cell (by omega), st_cell (by omega)], by rw [st_place (by decide), st_place (by decide)]⟩, ?_, hk.1, hk.2, st_same⟩
  show st (st σ 21 4 (nI k)) 21 5 (nI p) 21 4 = nI k
  rw [st_place (by decide), st_same]
theorem a_clauseD {p : Nat} {σ : St} (hP : PosA n l p σ) (hp : p < n) (h0 : σ 21 4 = 0) (hO : RawOk D) (hL : LdAD D σ) (hN : 7000 ≤ N) : ∃ w, o_X7_readClause_21_11 N σ = some ((), w) ∧ ClAD n l (clE n l (cl0 n l D p)) σ w := by
  have hlp := (hP.1.2.2 p hp).2
  have hn := hP.1.1
  have e0 : (0 : Int32) = 0 := rfl
  have hT : σ 11 0 = nI (nT D) := hL.1.1
  have hR : σ 11 1 = nI (D 0 1) := hL.1.2.1
  have hK : σ 11 2 = nI (nK D) := hL.1.2.2.1
  have hPr : σ 11 3 = nI (nP D) := hL.1.2.2.2
  have hW : σ 11 6 = nI (D 8 2) := hL.2.1.2.2
  obtain ⟨⟨o1, o2, o3, o4⟩, -, -, -, -, -, -, o8⟩ := id hO
  have le : ∀ k : Nat, k < 2 ^ 31 → (nI (l p) = nI k ↔ l p = k) := fun k hk => nI_eq (by omega) hk
  have bl : ∀ k : Nat, t_X7_blame (nI k) (nI p) σ = st (st σ 21 4 (nI k)) 21 5 (nI p) := fun k => a_blame h0 _ _
  have bad : ∀ k : Nat, 1 ≤ k ∧ k ≤ 4 → ∃ w, (bt (t_X7_blame (nI k) (nI p) σ) fun σ4 => some ((), σ4)) = some ((), w) ∧ ClAD n l (clE n l (.inl (k, p))) σ w := fun k hk => ⟨_, by rw [bl, bt_eq], a_badD h0 hk⟩
  have main : ¬ (nT D = 0 ∧ l p ≠ 116) → ∃ w, j_X7_readClause_21_11_35 N (nI (l p)) σ = some ((), w) ∧ ClAD n l (clE n l (cl0 n l D p)) σ w := by
    intro hc
    unfold j_X7_readClause_21_11_35 p_X7_isOneTooMany_21_11 cl0
    rw [if_neg hc, hK, hPr, hR, hT, hW, hP.2.1]
    by_cases c1 : l p = 107
    · have q1 : nI (l p) = (107 : Int32) := (le 107 (by omega)).mpr c1
      rw [if_pos q1, if_pos c1]
      by_cases c2 : nK D < 3
      · have q2 : nI (nK D) < (3 : Int32) := (nI_lt_iff (a := nK D) (b := 3) (by omega) (by omega)).mpr c2
        obtain ⟨w, z1, z2⟩ := a_keeperD (N := N) hP hp h0 hO hL c2 hN
        rw [if_pos q2, if_pos e0, if_pos q1, if_neg (by omega), z1, bd_some]
        exact ⟨w, rfl, z2⟩
      · have q2 : ¬ nI (nK D) < (3 : Int32) := fun e => c2 ((nI_lt_iff (a := nK D) (b := 3) (by omega) (by omega)).mp e)
        rw [if_neg q2, if_neg one_ne, if_pos (by omega)]
        exact bad 3 (by omega)
    have q1 : ¬ nI (l p) = (107 : Int32) := fun e => c1 ((le 107 (by omega)).mp e)
    rw [if_neg q1, if_neg c1]
    by_cases c3 : l p = 112
    · have q3 : nI (l p) = (112 : Int32) := (le 112 (by omega)).mpr c3
      rw [if_pos q3, if_pos c3]
      by_cases c2 : nP D < 7
      · have q2 : nI (nP D) < (7 : Int32) := (nI_lt_iff (a := nP D) (b := 7) (by omega) (by omega)).mpr c2
        obtain ⟨w, z1, z2⟩ := a_promiseD (N := N) hP hp h0 hO hL c2 hN
        rw [if_pos q2, if_pos e0, if_neg q1, if_pos q3, if_neg (by omega), z1, bd_some]
        exact ⟨w, rfl, z2⟩
      · have q2 : ¬ nI (nP D) < (7 : Int32) := fun e => c2 ((nI_lt_iff (a := nP D) (b := 7) (by omega) (by omega)).mp e)
        rw [if_neg q2, if_neg one_ne, if_pos (by omega)]
        exact bad 3 (by omega)
    have q3 : ¬ nI (l p) = (112 : Int32) := fun e => c3 ((le 112 (by omega)).mp e)
    rw [if_neg q3, if_neg c3]
    by_cases c4 : l p = 114
    · have q4 : nI (l p) = (114 : Int32) := (le 114 (by omega)).mpr c4
      rw [if_pos q4, if_pos c4]
      by_cases c2 : D 0 1 < 8
      · have q2 : nI (D 0 1) < (8 : Int32) := (nI_lt_iff (a := D 0 1) (b := 8) (by omega) (by omega)).mpr c2
        obtain ⟨w, z1, z2⟩ := a_roadD (N := N) hP hp h0 hO hL hN
        rw [if_pos q2, if_pos e0, if_neg q1, if_neg q3, if_pos q4, if_neg (by omega), z1, bd_some]
        exact ⟨w, rfl, z2⟩
      · have q2 : ¬ nI (D 0 1) < (8 : Int32) := fun e => c2 ((nI_lt_iff (a := D 0 1) (b := 8) (by omega) (by omega)).mp e)
        rw [if_neg q2, if_neg one_ne, if_pos (by omega)]
        exact bad 3 (by omega)
    have q4 : ¬ nI (l p) = (114 : Int32) := fun e => c4 ((le 114 (by omega)).mp e)
    rw [if_neg q4, if_neg c4]
    by_cases c5 : l p = 116
    · have q5 : nI (l p) = (116 : Int32) := (le 116 (by omega)).mpr c5
      rw [if_pos q5, if_pos c5]
      by_cases c2 : nT D = 0
      · have q2 : nI (nT D) ≤ (0 : Int32) := (nI_le_iff (a := nT D) (b := 0) (by omega) (by omega)).mpr (by omega)
        obtain ⟨w, z1, z2⟩ := a_townsD (N := N) hP hp h0 hO hL c2 hN
        rw [if_pos q2, if_pos e0, if_neg q1, if_neg q3, if_neg q4, if_pos q5, if_neg (by omega), z1, bd_some]
        exact ⟨w, rfl, z2⟩
      · have q2 : ¬ nI (nT D) ≤ (0 : Int32) := fun e => c2 (by have := (nI_le_iff (a := nT D) (b := 0) (by omega) (by omega)).mp e; omega)
        rw [if_neg q2, if_neg one_ne, if_pos (by omega)]
        exact bad 3 (by omega)
    have q5 : ¬ nI (l p) = (116 : Int32) := fun e => c5 ((le 116 (by omega)).mp e)
    rw [if_neg q5, if_neg c5]
    by_cases c6 : l p = 119
    · have q6 : nI (l p) = (119 : Int32) := (le 119 (by omega)).mpr c6
      rw [if_pos q6, if_pos c6]
      by_cases c2 : D 8 2 = 0
      · have q2 : nI (D 8 2) ≤ (0 : Int32) := (nI_le_iff (a := D 8 2) (b := 0) (by omega) (by omega)).mpr (by omega)
        obtain ⟨w, z1, z2⟩ := a_winterD (N := N) hP hp h0 hL hN
        rw [if_pos q2, if_pos e0, if_neg q1, if_neg q3, if_neg q4, if_neg q5, if_pos q6, if_neg (by omega), z1, bd_some]
        exact ⟨w, rfl, z2⟩
      · have q2 : ¬ nI (D 8 2) ≤ (0 : Int32) := fun e => c2 (by have := (nI_le_iff (a := D 8 2) (b := 0) (by omega) (by omega)).mp e; omega)
        rw [if_neg q2, if_neg one_ne, if_pos (by omega)]
        exact bad 3 (by omega)
    have q6 : ¬ nI (l p) = (119 : Int32) := fun e => c6 ((le 119 (by omega)).mp e)
    rw [if_neg q6, if_neg c6, if_pos e0, if_neg q1, if_neg q3, if_neg q4, if_neg q5, if_neg q6]
    exact bad 1 (by omega)
  unfold o_X7_readClause_21_11
  rw [bt_eq, hP.2.1, at_nI (by omega) (by decide), (hP.1.2.2 p hp).1, hT]
  by_cases cz : nT D = 0
  · have q0 : nI (nT D) = 0 := by
      rw [cz]
      rfl
    rw [if_pos q0]
    by_cases c5 : l p = 116
    · have q5 : nI (l p) = (116 : Int32) := (le 116 (by omega)).mpr c5
      rw [if_pos q5]
      exact main (fun z => z.2 c5)
    · have q5 : ¬ nI (l p) = (116 : Int32) := fun e => c5 ((le 116 (by omega)).mp e)
      rw [if_neg q5]
      have ec : cl0 n l D p = .inl (1, p) := by
        unfold cl0
        rw [if_pos ⟨cz, c5⟩]
      rw [ec]
      exact bad 1 (by omega)
  · have q0 : ¬ nI (nT D) = 0 := fun e => cz ((nI_eq (a := nT D) (b := 0) (by omega) (by omega)).mp e)
    rw [if_neg q0]
    exact main (fun z => cz z.1)
theorem a_skip_anyD {σ : St} (h : TextA n l σ) (hN : 7000 ≤ N) : ∃ w, o_X7_skipBlanks N σ = some ((), w) ∧ FrT σ w ∧ ∀ i, ¬ i = 2 → w 21 i = σ 21 i := by
  have hn := h.1
  rcases int_cases (σ 21 2) with c | ⟨q, hq, c⟩
  · have h1 : ¬ nI n ≤ σ 21 2 := fun e => nI_pos (n := n) (by omega) (Int32.lt_of_le_of_lt e c)
    obtain ⟨N', rfl⟩ : ∃ k, N = k + 1 := ⟨N - 1, by omega⟩
    refine ⟨σ, ?_, FrT.rf, fun _ _ => rfl⟩
    unfold o_X7_skipBlanks
    rw [l_X7_skipBlanks_0, h.2.1, if_neg h1]
    unfold at_
    rw [if_pos c, if_neg (by decide)]
  · by_cases c2 : q ≤ n
    · obtain ⟨w, z1, z2, z3, z4⟩ := a_skip (N := N) (⟨h, c, c2⟩ : PosA n l q σ) hN
      exact ⟨w, z1, z3, z4⟩
    · obtain ⟨N', rfl⟩ : ∃ k, N = k + 1 := ⟨N - 1, by omega⟩
      refine ⟨σ, ?_, FrT.rf, fun _ _ => rfl⟩
      unfold o_X7_skipBlanks
      rw [l_X7_skipBlanks_0, h.2.1, c, if_pos (nI_le (by omega) hq)]
/-- what reading comes to -/
def InAD (x : PR LD) (v : Int32) (w : St) : Prop := match x with
  | .inl e => v = nI e.1 ∧ 1 ≤ e.1 ∧ e.1 ≤ 4 ∧ w 21 5 = nI e.2
  | .inr D => v = 0 ∧ w 21 5 = -1 ∧ LdAD (fwD D) w ∧ RawOk D
theorem a_into_loopD (hN : 7000 ≤ N) : ∀ (c f v p : Nat) (D : LD) (σ : St), v + c = 250 → c < f → p ≤ n → PosA n l (skP n l p) σ → σ 21 4 = 0 → σ 21 5 = -1 → RawOk D → LdAD D σ →
    ∃ x w, l_X7_readInto_21_11_25 N f (nI v) σ = some (x, w) ∧ FrRD σ w ∧ InAD (prN n l c D p) x w := by
  intro c
  have fin : ∀ (D : LD) (σ : St), σ 21 4 = 0 → σ 21 5 = -1 → RawOk D → LdAD D σ → ∃ x w, j_X7_readInto_21_11_65 N σ = some (x, w) ∧ FrRD σ w ∧ InAD (.inr D) x w := by
    intro D σ h4 h5 hO hL
    obtain ⟨w, z1, z2, z3⟩ := a_joinD hN σ
    refine ⟨_, w, ?_, ⟨fun c hc => z2 c (by omega), by rw [z2 21 (by decide)]⟩, rfl, by rw [z2 21 (by decide)]; exact h5, z3 D hO hL, hO⟩
    unfold j_X7_readInto_21_11_65
    rw [z1, bd_some, z2 21 (by decide), h4]
  induction c with
  | zero =>
    intro f v p D σ hv hf hp hP h4 h5 hO hL
    obtain ⟨f, rfl⟩ : ∃ k, f = k + 1 := ⟨f - 1, by omega⟩
    have e : v = 250 := by omega
    subst e
    rw [l_X7_readInto_21_11_25, if_pos (show (250 : Int32) ≤ nI 250 from nI_le (a := 250) (by omega) (by omega)), prN]
    exact fin D σ h4 h5 hO hL
  | succ c ih =>
    intro f v p D σ hv hf hp hP h4 h5 hO hL
    obtain ⟨f, rfl⟩ : ∃ k, f = k + 1 := ⟨f - 1, by omega⟩
    have hn := hP.1.1
    have hsk := hP.2.2
    have hlt : ¬ (250 : Int32) ≤ nI v := fun e => absurd ((nI_le_iff (a := 250) (b := v) (by omega) (by omega)).mp e) (by omega)
    rw [l_X7_readInto_21_11_25, if_neg hlt, if_pos h4, hP.1.2.1, hP.2.1, prN]
    by_cases c1 : n ≤ skP n l p
    · rw [if_pos (nI_le c1 (by omega)), if_pos c1]
      exact fin D σ h4 h5 hO hL
    · obtain ⟨w1, k1, k2, k3⟩ := a_clauseD (N := N) hP (by omega) h4 hO hL hN
      rw [if_neg (by rw [nI_le_iff (by omega) (by omega)]; exact c1), if_neg c1, k1, bd_some]
      cases hx : clE n l (cl0 n l D (skP n l p)) with
      | inl e =>
        rw [hx] at k3
        obtain ⟨m1, m2, m3, m4⟩ := k3
        have hT1 : TextA n l w1 := ⟨hn, k2.2.trans hP.1.2.1, fun i hi => by rw [k2.1 22 (by decide)]; exact hP.1.2.2 i hi⟩
        rw [pb_l]
        obtain ⟨w2, s1, s2, s3⟩ := a_skip_anyD (N := N) hT1 hN
        have h4 : w2 21 4 = nI e.1 := (s3 4 (by decide)).trans m1
        have h5 : w2 21 5 = nI e.2 := (s3 5 (by decide)).trans m4
        have hne : ¬ nI e.1 = 0 := fun z => absurd ((nI_eq (a := e.1) (b := 0) (by omega) (by omega)).mp z) (by omega)
        obtain ⟨w, z1, z2, z3⟩ := a_joinD hN w2
        obtain ⟨f, rfl⟩ : ∃ k, f = k + 1 := ⟨f - 1, by omega⟩
        have out : j_X7_readInto_21_11_65 N w2 = some (nI e.1, w) := by
          unfold j_X7_readInto_21_11_65
          rw [z1, bd_some, z2 21 (by decide), h4]
        rw [s1, bd_some, bt_eq, ← p1_sub, l_X7_readInto_21_11_25, h4, if_neg hne]
        refine ⟨nI e.1, w, ?_, (k2.tr s2.rD).tr ⟨fun c hc => z2 c (by omega), by rw [z2 21 (by decide)]⟩, rfl, m2, m3, by rw [z2 21 (by decide)]; exact h5⟩
        by_cases c5 : (250 : Int32) ≤ nI (v + 1)
        · rw [if_pos c5]
          exact out
        · rw [if_neg c5]
          exact out
      | inr y =>
        rw [hx] at k3
        obtain ⟨m1, m2, m3, m4⟩ := k3
        obtain ⟨u1, u2, u3⟩ := cl_ok hO (by omega) hx
        obtain ⟨w2, s1, s2, s3, s4⟩ := a_skip (N := N) m1 hN
        rw [pb_r, s1, bd_some, bt_eq, ← p1_sub]
        obtain ⟨x, w, z1, z2, z3⟩ := ih f (v + 1) y.2 y.1 w2 (by omega) (by omega) u3 s2 (by rw [s4 4 (by decide)]; exact m2) (by rw [s4 5 (by decide), m3]; exact h5) u1 (s3.lD m4)
        exact ⟨x, w, z1, (k2.tr s3.rD).tr z2, z3⟩
theorem a_intoD (hN : 7000 ≤ N) {σ : St} (hT : TextA n l σ) : ∃ x w, o_X7_readInto_21_11 N σ = some (x, w) ∧ FrRD σ w ∧ InAD (prN n l 250 rawD 0) x w := by
  have fr0 : FrT σ (st (st (st σ 21 2 0) 21 4 0) 21 5 (-1)) := ⟨fun c hc => by rw [st_cell hc, st_cell hc, st_cell hc], by rw [st_place (by decide), st_place (by decide), st_place (by decide)]⟩
  obtain ⟨w1, c1, c2, c3⟩ := a_clearD hN (st (st (st σ 21 2 0) 21 4 0) 21 5 (-1))
  have o21 : ∀ i, w1 21 i = st (st (st σ 21 2 0) 21 4 0) 21 5 (-1) 21 i := fun i => by rw [c3 21 (by decide) (by decide)]
  have hT1 : TextA n l w1 := ⟨hT.1, by rw [o21]; exact (fr0.t hT).2.1, fun i hi => by rw [c3 22 (by decide) (by decide)]; exact (fr0.t hT).2.2 i hi⟩
  have hP1 : PosA n l 0 w1 := ⟨hT1, by rw [o21, st_place (by decide), st_place (by decide), st_same]; rfl, Nat.zero_le _⟩
  obtain ⟨w2, s1, s2, s3, s4⟩ := a_skip (N := N) hP1 hN
  have h4 : w2 21 4 = 0 := by
    rw [s4 4 (by decide), o21, st_place (by decide), st_same]
  have h5 : w2 21 5 = -1 := by
    rw [s4 5 (by decide), o21, st_same]
  obtain ⟨x, w, z1, z2, z3⟩ := a_into_loopD (N := N) hN 250 N 0 0 rawD w2 (by omega) (by omega) (by omega) s2 h4 h5 rawD_ok (s3.lD c2)
  refine ⟨x, w, ?_, ((fr0.rD.tr ⟨fun c hc => c3 c (by omega) (by omega), o21 1⟩).tr s3.rD).tr z2, z3⟩
  unfold o_X7_readInto_21_11
  rw [bt_eq, bt_eq, bt_eq, c1, bd_some, s1, bd_some]
  exact z1
end READED
