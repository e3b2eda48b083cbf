/-! the reference takes winter, ways, promises -/
section TAKE2
variable {n : Nat} {l : Nat → Nat} {N : Nat} {D : LD} {base : Int32} {s : PR Nat} {τ : St}
theorem pnx_inl {lo h : Nat} (e : Nat × Nat) : pnx n l lo h (.inl e) = .inl e := rfl
theorem pnx_inr {lo h p : Nat} : pnx n l lo h (.inr p) = pbind (pnum n l p lo h) fun y => .inr y.2.2 := rfl
theorem StS_f {e : Nat × Nat} (h : StS n l base (.inl e) τ) : (0 : Int32) < τ 79 26 ∧ ¬ τ 79 26 = 0 := by
  obtain ⟨-, m1, m2, m3, -⟩ := h
  rw [m1]
  exact ⟨(nI_lt_iff (a := 0) (b := e.1) (by omega) (by omega)).mpr (by omega), fun z => absurd ((nI_eq (a := e.1) (b := 0) (by omega) (by omega)).mp z) (by omega)⟩
theorem StS_g {p : Nat} (h : StS n l base (.inr p) τ) : ¬ (0 : Int32) < τ 79 26 ∧ τ 79 26 = 0 := by
  obtain ⟨-, -, -, m3, -⟩ := h
  rw [m3]
  exact ⟨by decide, rfl⟩
/-- a good want changes nothing -/
theorem b_want_any (h : StS n l base s τ) (k pl : Int32) : (t_X10_want 1 k pl τ).2 = τ := by
  obtain ⟨-, hs⟩ := h
  cases s with
  | inl e =>
    obtain ⟨m1, m2, m3, m4⟩ := hs
    have : ¬ τ 79 26 = 0 := by
      rw [m1]
      exact fun z => absurd ((nI_eq (a := e.1) (b := 0) (by omega) (by omega)).mp z) (by omega)
    rw [b_want_f this]
  | inr p =>
    obtain ⟨m1, m2, m3, m4⟩ := hs
    rw [b_want_1 m3]
theorem b_winter {p q : Nat} (hS : StS n l base (.inr (p + 1)) τ) (hl : ∀ i, i < n → l i ≤ 255) (hO : RawOk D) (hB : LdB D τ) (hN : 7000 ≤ N) : ∃ w, o_X10_takeWinter N (nI q) τ = some ((), w) ∧ ClB n l base (if 1 ≤ D 8 2 then .inl (3, q) else clW n l D p) τ w := by
  have e0 : (0 : Int32) = 0 := rfl
  have c3 : (3 : Int32).toNatClampNeg = 3 := rfl
  have c4 : (4 : Int32).toNatClampNeg = 4 := rfl
  have c5 : (5 : Int32).toNatClampNeg = 5 := rfl
  unfold o_X10_takeWinter j_X10_takeWinter_13
  rcases hB.2.1.2.2 with ⟨d1, d2, d3⟩ | ⟨d1, d2, d3⟩
  · have c : ¬ 1 ≤ D 8 2 := by omega
    have h26 : τ 79 26 = 0 := hS.2.2.2.1
    have s0 := StS_st (x := 1) (c := 79) (j := 21) (by decide) (fun _ => by omega) hS
    obtain ⟨v1, w1, z1, z2, z3, z4⟩ := b_numS (N := N) (lo := 0) (h := 99) s0 hl (by omega) (by omega) hN
    have s1 := StS_st (x := v1) (c := 92) (j := 3) (by decide) (fun e => absurd e (by decide)) z3
    obtain ⟨v2, w2, y1, y2, y3, y4⟩ := b_numS (N := N) (lo := 0) (h := 99) s1 hl (by omega) (by omega) hN
    have s2 := StS_st (x := v2) (c := 92) (j := 4) (by decide) (fun e => absurd e (by decide)) y3
    obtain ⟨v3, w3, x1, x2, x3, x4⟩ := b_numS (N := N) (lo := 2) (h := 100) s2 hl (by omega) (by omega) hN
    have s3 := StS_st (x := v3) (c := 92) (j := 5) (by decide) (fun e => absurd e (by decide)) x3
    have z1' : o_X10_takeNumber N 0 98 (st τ 79 21 1) = some (v1, w1) := z1
    have y1' : o_X10_takeNumber N 0 98 (st w1 92 3 v1) = some (v2, w2) := y1
    have x1' : o_X10_takeNumber N 2 99 (st w2 92 4 v2) = some (v3, w3) := x1
    have fr : FrP τ (st w3 92 5 v3) := ((((((FrP.sto (by omega)).tr z2.p).tr (FrP.sto (by omega))).tr y2.p).tr (FrP.sto (by omega))).tr x2.p).tr (FrP.sto (by omega))
    rw [if_pos d3, bt_eq, b_want_1 h26, if_neg c]
    dsimp only
    rw [if_neg one_ne, bt_eq, z1', bd_some, c3, bt_eq, y1', bd_some, c4, bt_eq, x1', bd_some, c5, bt_eq]
    have W5 : st w3 92 5 v3 92 5 = v3 := st_same
    have W4 : st w3 92 5 v3 92 4 = v2 := by rw [st_place (by decide), x2.1 92 (by decide), st_same]
    have W3 : st w3 92 5 v3 92 3 = v1 := by rw [st_place (by decide), x2.1 92 (by decide), st_place (by decide), y2.1 92 (by decide), st_same]
    have W25 : st w3 92 5 v3 79 25 = w3 79 25 := by rw [st_cell (by decide)]
    have W21 : st w3 92 5 v3 79 21 = 1 := by rw [st_cell (by decide), x2.2 21 (by omega), st_cell (by decide), y2.2 21 (by omega), st_cell (by decide), z2.2 21 (by omega), st_same]
    have o79 : ∀ i, i < 10 → st w3 92 5 v3 79 i = τ 79 i := fun i hi => by rw [st_cell (by decide), x2.2 i (by omega), st_cell (by decide), y2.2 i (by omega), st_cell (by decide), z2.2 i (by omega), st_place (by omega)]
    have oc : ∀ c, ¬ c = 79 → ¬ c = 92 → st w3 92 5 v3 c = τ c := fun c h1 h2 => by rw [st_cell h2, x2.1 c h1, st_cell h2, y2.1 c h1, st_cell h2, z2.1 c h1, st_cell h1]
    generalize hWW : st w3 92 5 v3 = W at s3 fr W5 W4 W3 W25 W21 o79 oc ⊢
    unfold j_X10_takeWinter_88 j_X10_takeWinter_93
    have fault : ∀ e, StS n l base (.inl e) W → clW n l D p = .inl e → ∃ w, (if (0 : Int32) < W 79 26 then (bt (t_X10_want 1 4 (W 79 25) W) fun q1 => bt q1.1 fun x2 => some ((), q1.2)) else (if W 92 5 ≤ W 92 4 then (bt (t_X10_want 0 4 (W 79 25) W) fun q1 => bt q1.1 fun x2 => some ((), q1.2)) else (bt (t_X10_want 1 4 (W 79 25) W) fun q1 => bt q1.1 fun x2 => some ((), q1.2)))) = some ((), w) ∧ ClB n l base (clW n l D p) τ w := by
      intro e hs he
      rw [if_pos (StS_f hs).1, bt_eq, bt_eq, b_want_any hs]
      refine ⟨W, rfl, fr, ?_, fun y e1 => ?_⟩
      · rw [he]
        exact hs
      · rw [he] at e1
        cases e1
    unfold clW at fault ⊢
    rw [pnx_inr] at s3
    cases hr : pnum n l (p + 1) 0 99 with
    | inl e =>
      rw [hr] at s3 fault
      exact fault e s3 rfl
    | inr a =>
      rw [hr, pb_r] at s3 fault
      rw [pnx_inr] at s3
      rw [pb_r]
      cases hr2 : pnum n l a.2.2 0 99 with
      | inl e =>
        rw [hr2] at s3 fault
        exact fault e s3 rfl
      | inr b =>
        have i2 := pnum_in (by
          have := pnum_in (n := n) (l := l) (by have := hS.2.2.1; exact this) hr
          exact this.2.2) hr2
        rw [hr2, pb_r] at s3 fault
        rw [pnx_inr] at s3
        rw [pb_r]
        cases hr3 : pnum n l b.2.2 2 100 with
        | inl e =>
          rw [hr3] at s3 fault
          exact fault e s3 rfl
        | inr c' =>
          have i3 := pnum_in i2.2.2 hr3
          rw [hr3, pb_r] at s3
          obtain ⟨u1, u2⟩ := z4 (p + 1) a rfl hr
          obtain ⟨u3, u4⟩ := y4 a.2.2 b (by rw [pnx_inr, hr]; rfl) hr2
          obtain ⟨u5, u6⟩ := x4 b.2.2 c' (by rw [pnx_inr, hr, pb_r, pnx_inr, hr2]; rfl) hr3
          rw [if_neg (StS_g s3).1, W5, W4, W25, u6, u3, u5, pb_r]
          by_cases cc : c'.1 ≤ b.1
          · rw [if_pos (nI_le cc (by omega)), if_pos cc]
            obtain ⟨k1, k2⟩ := b_limit (x := .inl (4, c'.2.1)) s3 (k := 4) (by omega) (fun _ e => by cases e) c'.2.1 rfl
            have k1' : t_X10_want 0 4 (nI c'.2.1) W = _ := k1
            rw [bt_eq, bt_eq, k1']
            exact ⟨_, rfl, fr.tr k2.1, k2.2.1, fun y e => by cases e⟩
          · rw [if_neg (by rw [nI_le_iff (by omega) (by omega)]; exact cc), if_neg cc, bt_eq, bt_eq, b_want_any s3]
            refine ⟨W, rfl, fr, s3, fun y e => ?_⟩
            have := Sum.inr.inj e
            subst this
            have e8 : ∀ i, wintD D a.1 b.1 c'.1 8 i = if i = 2 then c'.1 else if i = 1 then b.1 else if i = 0 then a.1 else D 8 i := fun i => by
              unfold wintD
              rw [rset_get, rset_get, rset_get]
            refine ⟨⟨(o79 6 (by omega)).trans hB.1.1, (o79 7 (by omega)).trans hB.1.2.1, (o79 8 (by omega)).trans hB.1.2.2.1, (o79 9 (by omega)).trans hB.1.2.2.2⟩, ⟨?_, ?_, Or.inr ⟨?_, ?_, W21⟩⟩, fun k hk => ?_, fun q hq => ?_, fun x y hx hy hxy => by rw [oc 82 (by decide) (by decide)]; exact hB.2.2.2.2 x y hx hy hxy⟩
            · rw [W3, u1]
              exact congrArg nI (e8 0).symm
            · rw [W4, u3]
              exact congrArg nI (e8 1).symm
            · show ¬ wintD D a.1 b.1 c'.1 8 2 = 0
              rw [e8, if_pos rfl]
              omega
            · rw [W5, u5]
              exact congrArg nI (e8 2).symm
            · rw [oc 84 (by decide) (by decide), oc 85 (by decide) (by decide)]
              exact hB.2.2.1 k hk
            · rw [oc 86 (by decide) (by decide), oc 87 (by decide) (by decide), oc 88 (by decide) (by decide), oc 89 (by decide) (by decide), oc 90 (by decide) (by decide), oc 91 (by decide) (by decide)]
              exact hB.2.2.2.1 q hq
  · have c : 1 ≤ D 8 2 := by omega
    have q0 : ¬ τ 79 21 = 0 := by
      rw [d3]
      exact one_ne
    obtain ⟨z1, z2⟩ := b_limit (x := .inl (3, q)) hS (k := 3) (by omega) (fun _ e => by cases e) q rfl
    have z1' : t_X10_want 0 3 (nI q) τ = _ := z1
    rw [if_neg q0, bt_eq, z1', if_pos c]
    dsimp only
    rw [if_pos e0]
    exact ⟨_, rfl, z2⟩
theorem b_road {p q : Nat} (hS : StS n l base (.inr (p + 1)) τ) (hl : ∀ i, i < n → l i ≤ 255) (hO : RawOk D) (hB : LdB D τ) (hN : 7000 ≤ N) : ∃ w, o_X10_takeRoad N (nI q) τ = some ((), w) ∧ ClB n l base (if 8 ≤ D 0 1 then .inl (3, q) else clR n l D p) τ w := by
  have h5 := hO.1.1
  have e0 : (0 : Int32) = 0 := rfl
  unfold o_X10_takeRoad j_X10_takeRoad_15
  rw [hB.1.2.1]
  by_cases c : 8 ≤ D 0 1
  · have h8 := hO.1.2.1
    have q0 : (8 : Int32) ≤ nI (D 0 1) := nI_le (a := 8) c (by omega)
    obtain ⟨z1, z2⟩ := b_limit (x := .inl (3, q)) hS (k := 3) (by omega) (fun _ e => by cases e) q rfl
    have z1' : t_X10_want 0 3 (nI q) τ = _ := z1
    rw [if_pos q0, bt_eq, z1', if_pos c]
    dsimp only
    rw [if_pos e0]
    exact ⟨_, rfl, z2⟩
  · have q0 : ¬ (8 : Int32) ≤ nI (D 0 1) := fun e => c ((nI_le_iff (a := 8) (b := D 0 1) (by omega) (by omega)).mp e)
    have h26 : τ 79 26 = 0 := hS.2.2.2.1
    obtain ⟨v1, w1, z1, z2, z3, z4⟩ := b_numS (N := N) (lo := 0) (h := nT D) hS hl (by omega) (by omega) hN
    have z1' : o_X10_takeNumber N 0 (nI (nT D) - 1) τ = some (v1, w1) := z1
    have hw1 : w1 79 6 = nI (nT D) := (z2.2 6 (by omega)).trans hB.1.1
    obtain ⟨v2, w2, y1, y2, y3, y4⟩ := b_numS (N := N) (lo := 0) (h := nT D) z3 hl (by omega) (by omega) hN
    have y1' : o_X10_takeNumber N 0 (nI (nT D) - 1) w1 = some (v2, w2) := y1
    have fr2 : FrP τ w2 := z2.p.tr y2.p
    rw [if_neg q0, bt_eq, b_want_1 h26, if_neg c]
    dsimp only
    rw [if_neg one_ne, hB.1.1, z1', bd_some, hw1, y1', bd_some]
    have r01 : ∀ w, FrU w2 w → w 79 7 = nI (D 0 1) := fun w hw => by rw [hw.2 7 (by omega), y2.2 7 (by omega), z2.2 7 (by omega)]; exact hB.1.2.1
    -- the way's end where a fault stands
    have fault : ∀ e, StS n l base (.inl e) w2 → clR n l D p = .inl e → ∃ w, (if (0 : Int32) < w2 79 26 then (j_X10_takeRoad_60 N v1 v2 w2) else (if v1 = v2 then (j_X10_takeRoad_65 N v1 v2 0 w2) else (j_X10_takeRoad_60 N v1 v2 w2))) = some ((), w) ∧ ClB n l base (clR n l D p) τ w := by
      intro e hs he
      have hf := hs.2
      obtain ⟨m1, m2, m3, m4⟩ := hf
      rw [if_pos (StS_f hs).1]
      unfold j_X10_takeRoad_60 j_X10_takeRoad_65 j_X10_takeRoad_166
      rw [bt_eq, bt_eq, b_want_any hs, b_num_f ⟨m2, m3⟩ m1, bd_some, if_neg (StS_f hs).2, bt_eq]
      refine ⟨_, rfl, fr2.tr (FrP.sto (by omega)), ?_, fun y e1 => ?_⟩
      · rw [he]
        exact StS_st (by decide) (fun _ => by omega) hs
      · rw [he] at e1
        cases e1
    unfold clR at fault ⊢
    rw [pnx_inr] at y3
    cases hr : pnum n l (p + 1) 0 (nT D) with
    | inl e =>
      rw [hr] at y3 fault
      exact fault e y3 rfl
    | inr a =>
      have i1 := pnum_in (by exact hS.2.2.1) hr
      rw [hr, pb_r] at y3 fault
      rw [pnx_inr] at y3
      rw [pb_r]
      cases hr2 : pnum n l a.2.2 0 (nT D) with
      | inl e =>
        rw [hr2] at y3 fault
        exact fault e y3 rfl
      | inr b =>
        have i2 := pnum_in i1.2.2 hr2
        rw [hr2, pb_r] at y3
        obtain ⟨u1, u2⟩ := z4 (p + 1) a rfl hr
        obtain ⟨u3, u4⟩ := y4 a.2.2 b (by rw [pnx_inr, hr]; rfl) hr2
        rw [if_neg (StS_g y3).1, u1, u3, pb_r]
        by_cases cab : a.1 = b.1
        · rw [if_pos (by rw [cab]), if_pos cab]
          unfold j_X10_takeRoad_65 j_X10_takeRoad_166
          obtain ⟨k1, k2⟩ := b_limit (x := .inl (4, b.2.1)) y3 (k := 4) (by omega) (fun _ e => by cases e) b.2.1 rfl
          have k1' : t_X10_want 0 4 (nI b.2.1) w2 = _ := k1
          have hs4 : StS n l base (.inl (4, b.2.1)) (st (st w2 79 26 (nI 4)) 79 27 (nI b.2.1)) := k2.2.1
          obtain ⟨m1, m2, m3, m4⟩ := hs4.2
          rw [u4, bt_eq, bt_eq, k1']
          dsimp only
          rw [b_num_f ⟨m2, m3⟩ m1, bd_some, if_neg (StS_f hs4).2, bt_eq]
          exact ⟨_, rfl, (fr2.tr k2.1).tr (FrP.sto (by omega)), StS_st (by decide) (fun _ => by omega) hs4, fun y e => by cases e⟩
        · rw [if_neg (fun e => cab ((nI_eq (by omega) (by omega)).mp e)), if_neg cab]
          unfold j_X10_takeRoad_60 j_X10_takeRoad_65
          rw [bt_eq, bt_eq, b_want_any y3]
          obtain ⟨v3, w3, x1, x2, x3, x4⟩ := b_numS (N := N) (lo := 1) (h := 10) y3 hl (by omega) (by omega) hN
          have x1' : o_X10_takeNumber N 1 9 w2 = some (v3, w3) := x1
          have h7 := r01 w3 x2
          rw [x1', bd_some]
          rw [pnx_inr] at x3
          cases hr3 : pnum n l b.2.2 1 10 with
          | inl e =>
            rw [hr3] at x3
            rw [pb_l]
            rw [pb_l] at x3
            unfold j_X10_takeRoad_166
            rw [if_neg (StS_f x3).2, bt_eq]
            exact ⟨_, rfl, (fr2.tr x2.p).tr (FrP.sto (by omega)), StS_st (by decide) (fun _ => by omega) x3, fun y e => by cases e⟩
          | inr d =>
            have i3 := pnum_in i2.2.2 hr3
            rw [hr3, pb_r] at x3
            obtain ⟨u5, u6⟩ := x4 b.2.2 d rfl hr3
            have ea : (25 : Int32) + 5 * nI a.1 + nI b.1 = nI (25 + (5 * a.1 + b.1)) := by
              show nI 25 + nI 5 * nI a.1 + nI b.1 = _
              rw [nI_mul, nI_add, nI_add]
              congr 1
              omega
            have eb : (25 : Int32) + 5 * nI b.1 + nI a.1 = nI (25 + (5 * b.1 + a.1)) := by
              show nI 25 + nI 5 * nI b.1 + nI a.1 = _
              rw [nI_mul, nI_add, nI_add]
              congr 1
              omega
            have w82 : w3 82 = τ 82 := by rw [x2.1 82 (by decide), y2.1 82 (by decide), z2.1 82 (by decide)]
            have dab := hO.2.2.2.2.2.1 a.1 b.1 (by omega) (by omega)
            have v82 : w3 82 (25 + (5 * a.1 + b.1)) = dJ (D 7 (5 * a.1 + b.1)) := by
              rw [w82]
              exact hB.2.2.2.2 a.1 b.1 (by omega) (by omega) cab
            have last : ∀ x, x = dJ (roadV D a.1 b.1 d.1) → ∃ w, j_X10_takeRoad_139 N (nI a.1) (nI b.1) (nI (25 + (5 * a.1 + b.1))) x w3 = some ((), w) ∧ ClB n l base (.inr (roadD D a.1 b.1 d.1, d.2.2)) τ w := by
              intro x hx
              have s82 : st w3 82 (25 + (5 * a.1 + b.1)) x 82 (25 + (5 * a.1 + b.1)) = x := st_same
              have s7 : st (st w3 82 (25 + (5 * a.1 + b.1)) x) 82 (25 + (5 * b.1 + a.1)) x 79 7 = nI (D 0 1) := by
                rw [st_cell (by decide), st_cell (by decide)]
                exact h7
              unfold j_X10_takeRoad_139 j_X10_takeRoad_166
              rw [ea, eb, b_cka (x := 25 + (5 * a.1 + b.1)) (n := 50) _ (by omega) (by decide), bt_eq, b_cka (x := 25 + (5 * a.1 + b.1)) (n := 50) _ (by omega) (by decide), b_cka (x := 25 + (5 * b.1 + a.1)) (n := 50) _ (by omega) (by decide), nI_clamp (n := 25 + (5 * a.1 + b.1)) (by omega), nI_clamp (n := 25 + (5 * b.1 + a.1)) (by omega), s82, bt_eq, s7, bt_eq, ← p1_sub]
              refine ⟨_, rfl, (((fr2.tr x2.p).tr (FrP.sto (by omega))).tr (FrP.sto (by omega))).tr (FrP.sto (by omega)), StS_st (by decide) (fun _ => by omega) (StS_st (by decide) (fun e => absurd e (by decide)) (StS_st (by decide) (fun e => absurd e (by decide)) x3)), fun y e => ?_⟩
              have := Sum.inr.inj e
              subst this
              generalize hW : st (st (st w3 82 (25 + (5 * a.1 + b.1)) x) 82 (25 + (5 * b.1 + a.1)) x) 79 7 (nI (D 0 1 + 1)) = W
              have o79 : ∀ i, ¬ i = 7 → i < 23 → W 79 i = τ 79 i := fun i h1 h2 => by rw [← hW, st_place h1, st_cell (by decide), st_cell (by decide), x2.2 i (by omega), y2.2 i (by omega), z2.2 i (by omega)]
              have oc : ∀ c, ¬ c = 79 → ¬ c = 82 → W c = τ c := fun c h1 h2 => by rw [← hW, st_cell h1, st_cell h2, st_cell h2, x2.1 c h1, y2.1 c h1, z2.1 c h1]
              have o82 : ∀ i, W 82 i = if i = 25 + (5 * b.1 + a.1) then x else if i = 25 + (5 * a.1 + b.1) then x else τ 82 i := fun i => by rw [← hW, st_cell (by decide), st_get, st_get, w82]
              show LdB (roadD D a.1 b.1 d.1) W
              refine ⟨⟨(o79 6 (by omega) (by omega)).trans hB.1.1, ?_, (o79 8 (by omega) (by omega)).trans hB.1.2.2.1, (o79 9 (by omega) (by omega)).trans hB.1.2.2.2⟩, ?_, fun k hk => ?_, fun q hq => ?_, fun i j hi hj hij => ?_⟩
              · rw [← hW, st_same, roadD_at, if_pos ⟨rfl, rfl⟩]
              · rw [oc 92 (by decide) (by decide), o79 21 (by omega) (by omega)]
                exact hB.2.1
              · rw [oc 84 (by decide) (by decide), oc 85 (by decide) (by decide)]
                exact hB.2.2.1 k hk
              · rw [oc 86 (by decide) (by decide), oc 87 (by decide) (by decide), oc 88 (by decide) (by decide), oc 89 (by decide) (by decide), oc 90 (by decide) (by decide), oc 91 (by decide) (by decide)]
                exact hB.2.2.2.1 q hq
              · have r7 : roadD D a.1 b.1 d.1 7 (5 * i + j) = if 5 * i + j = 5 * b.1 + a.1 then roadV D a.1 b.1 d.1 else if 5 * i + j = 5 * a.1 + b.1 then roadV D a.1 b.1 d.1 else D 7 (5 * i + j) := by
                  unfold roadD
                  rw [rset_ne (by decide), rset_get, rset_get]
                rw [o82, r7]
                by_cases ca : 5 * i + j = 5 * b.1 + a.1
                · rw [if_pos (by omega), if_pos ca, hx]
                · rw [if_neg (by omega), if_neg ca]
                  by_cases cb : 5 * i + j = 5 * a.1 + b.1
                  · rw [if_pos (by omega), if_pos cb, hx]
                  · rw [if_neg (by omega), if_neg cb]
                    exact hB.2.2.2.2 i j hi hj hij
            rw [if_pos (StS_g x3).2, ea, b_cka (x := 25 + (5 * a.1 + b.1)) (n := 50) _ (by omega) (by decide), b_cka (x := 25 + (5 * a.1 + b.1)) (n := 50) _ (by omega) (by decide), nI_clamp (n := 25 + (5 * a.1 + b.1)) (by omega), v82, u5, pb_r]
            have hv : dJ (roadV D a.1 b.1 d.1) = if D 7 (5 * a.1 + b.1) = 1000 ∨ d.1 < D 7 (5 * a.1 + b.1) then nI d.1 else dJ (D 7 (5 * a.1 + b.1)) := by
              unfold roadV
              by_cases cc : D 7 (5 * a.1 + b.1) = 1000 ∨ d.1 < D 7 (5 * a.1 + b.1)
              · rw [if_pos cc, if_pos cc]
                exact if_neg (by omega)
              · rw [if_neg cc, if_neg cc]
            by_cases c1 : D 7 (5 * a.1 + b.1) = 1000
            · have ej : dJ (D 7 (5 * a.1 + b.1)) = 99999999 := if_pos c1
              have hn : ¬ (99999999 : Int32) ≤ nI d.1 := fun e => absurd ((nI_le_iff (a := 99999999) (b := d.1) (by omega) (by omega)).mp e) (by omega)
              rw [ej, if_neg hn]
              exact last _ (by rw [hv, if_pos (Or.inl c1)])
            · have ej : dJ (D 7 (5 * a.1 + b.1)) = nI (D 7 (5 * a.1 + b.1)) := if_neg c1
              by_cases c2 : d.1 < D 7 (5 * a.1 + b.1)
              · rw [ej, if_neg (by rw [nI_le_iff (by omega) (by omega)]; omega)]
                exact last _ (by rw [hv, if_pos (Or.inr c2)])
              · rw [ej, if_pos (nI_le (by omega) (by omega))]
                exact last _ (by rw [hv, if_neg (fun z => z.elim c1 c2), ej])
end TAKE2
