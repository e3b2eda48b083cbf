/-! the reference takes promises, and clauses of every kind -/
section TAKE3
variable {n : Nat} {l : Nat → Nat} {N : Nat} {D : LD} {base : Int32} {s : PR Nat} {τ : St}
theorem b_promise {p q : Nat} (hS : StS n l base (.inr (p + 1)) τ) (hl : ∀ i, i < n → l i ≤ 255) (hO : RawOk D) (hB : LdB D τ) (hN : 7000 ≤ N) : ∃ w, o_X10_takePromise N (nI q) τ = some ((), w) ∧ ClB n l base (if 7 ≤ nP D then .inl (3, q) else clP n l D p) τ w := by
  have h5 := hO.1.1
  have h3 := hO.1.2.2.1
  have h7 := hO.1.2.2.2
  have e0 : (0 : Int32) = 0 := rfl
  unfold o_X10_takePromise j_X10_takePromise_15
  rw [hB.1.2.2.2]
  by_cases c : 7 ≤ nP D
  · have q0 : (7 : Int32) ≤ nI (nP D) := nI_le (a := 7) c (by omega)
    obtain ⟨z1, z2⟩ := b_limit (x := .inl (3, q)) hS (k := 3) (by omega) (fun _ e => by cases e) q rfl
    have z1' : t_X10_want 0 3 (nI q) τ = _ := z1
    rw [if_pos q0, bt_eq, z1', if_pos c]
    dsimp only
    rw [if_pos e0]
    exact ⟨_, rfl, z2⟩
  · have q0 : ¬ (7 : Int32) ≤ nI (nP D) := fun e => c ((nI_le_iff (a := 7) (b := nP D) (by omega) (by omega)).mp e)
    have h26 : τ 79 26 = 0 := hS.2.2.2.1
    have i3 : (7 : Int32) + nI (nP D) = nI (7 + nP D) := nI_add 7 (nP D)
    have ic : (nI (7 + nP D)).toNatClampNeg = 7 + nP D := nI_clamp (n := 7 + nP D) (by omega)
    have ck : ∀ (r : Option (Unit × St)), ckA (nI (7 + nP D)) 14 r = r := fun r => b_cka (x := 7 + nP D) (n := 14) r (by omega) (by decide)
    obtain ⟨v1, w1, a1, a2, a3, a4⟩ := b_numS (N := N) (lo := 0) (h := nK D) hS hl (by omega) (by omega) hN
    have s1 := StS_st (x := v1) (c := 86) (j := 7 + nP D) (by decide) (fun e => absurd e (by decide)) a3
    obtain ⟨v2, w2, b1, b2, b3, b4⟩ := b_numS (N := N) (lo := 0) (h := nT D) s1 hl (by omega) (by omega) hN
    have s2 := StS_st (x := v2) (c := 87) (j := 7 + nP D) (by decide) (fun e => absurd e (by decide)) b3
    obtain ⟨v3, w3, c1, c2, c3, c4⟩ := b_numS (N := N) (lo := 1) (h := 61) s2 hl (by omega) (by omega) hN
    have s3 := StS_st (x := v3) (c := 88) (j := 7 + nP D) (by decide) (fun e => absurd e (by decide)) c3
    obtain ⟨v4, w4, d1, d2, d3, d4⟩ := b_numS (N := N) (lo := 0) (h := 10) s3 hl (by omega) (by omega) hN
    have s4 := StS_st (x := v4) (c := 89) (j := 7 + nP D) (by decide) (fun e => absurd e (by decide)) d3
    obtain ⟨v5, w5, f1, f2, f3, f4⟩ := b_numS (N := N) (lo := 1) (h := 10) s4 hl (by omega) (by omega) hN
    have s5 := StS_st (x := v5) (c := 90) (j := 7 + nP D) (by decide) (fun e => absurd e (by decide)) f3
    obtain ⟨v6, w6, g1, g2, g3, g4⟩ := b_numS (N := N) (lo := 0) (h := 10) s5 hl (by omega) (by omega) hN
    have s6 := StS_st (x := v6) (c := 91) (j := 7 + nP D) (by decide) (fun e => absurd e (by decide)) g3
    have a1' : o_X10_takeNumber N 0 (nI (nK D) - 1) τ = some (v1, w1) := a1
    have b1' : o_X10_takeNumber N 0 (nI (nT D) - 1) (st w1 86 (7 + nP D) v1) = some (v2, w2) := b1
    have c1' : o_X10_takeNumber N 1 60 (st w2 87 (7 + nP D) v2) = some (v3, w3) := c1
    have d1' : o_X10_takeNumber N 0 9 (st w3 88 (7 + nP D) v3) = some (v4, w4) := d1
    have f1' : o_X10_takeNumber N 1 9 (st w4 89 (7 + nP D) v4) = some (v5, w5) := f1
    have g1' : o_X10_takeNumber N 0 9 (st w5 90 (7 + nP D) v5) = some (v6, w6) := g1
    have k6 : st w1 86 (7 + nP D) v1 79 6 = nI (nT D) := by
      rw [st_cell (by decide), a2.2 6 (by omega)]
      exact hB.1.1
    rw [if_neg q0, bt_eq, b_want_1 h26, if_neg c]
    dsimp only
    rw [if_neg one_ne, hB.1.2.2.2, hB.1.2.2.1, i3, bt_eq, a1', bd_some, ck, ic, bt_eq, k6, b1', bd_some, ck, bt_eq, c1', bd_some, ck, bt_eq, d1', bd_some, ck, bt_eq, f1', bd_some, ck, bt_eq, g1', bd_some, ck, bt_eq, ck, ck]
    have fr : FrP τ (st w6 91 (7 + nP D) v6) := ((((((((((((a2.p).tr (FrP.sto (by omega))).tr b2.p).tr (FrP.sto (by omega))).tr c2.p).tr (FrP.sto (by omega))).tr d2.p).tr (FrP.sto (by omega))).tr f2.p).tr (FrP.sto (by omega))).tr g2.p)).tr (FrP.sto (by omega))
    have o79 : ∀ i, i < 23 → st w6 91 (7 + nP D) v6 79 i = τ 79 i := fun i hi => by rw [st_cell (by decide), g2.2 i (by omega), st_cell (by decide), f2.2 i (by omega), st_cell (by decide), d2.2 i (by omega), st_cell (by decide), c2.2 i (by omega), st_cell (by decide), b2.2 i (by omega), st_cell (by decide), a2.2 i (by omega)]
    have oc : ∀ c, ¬ c = 79 → ¬ (86 ≤ c ∧ c ≤ 91) → st w6 91 (7 + nP D) v6 c = τ c := fun c h1 h2 => by rw [st_cell (by omega), g2.1 c h1, st_cell (by omega), f2.1 c h1, st_cell (by omega), d2.1 c h1, st_cell (by omega), c2.1 c h1, st_cell (by omega), b2.1 c h1, st_cell (by omega), a2.1 c h1]
    have W86 : ∀ i, st w6 91 (7 + nP D) v6 86 i = if i = 7 + nP D then v1 else τ 86 i := fun i => by rw [st_cell (by decide), g2.1 86 (by decide), st_cell (by decide), f2.1 86 (by decide), st_cell (by decide), d2.1 86 (by decide), st_cell (by decide), c2.1 86 (by decide), st_cell (by decide), b2.1 86 (by decide), st_get, a2.1 86 (by decide)]
    have W87 : ∀ i, st w6 91 (7 + nP D) v6 87 i = if i = 7 + nP D then v2 else τ 87 i := fun i => by rw [st_cell (by decide), g2.1 87 (by decide), st_cell (by decide), f2.1 87 (by decide), st_cell (by decide), d2.1 87 (by decide), st_cell (by decide), c2.1 87 (by decide), st_get, b2.1 87 (by decide), st_cell (by decide), a2.1 87 (by decide)]
    have W88 : ∀ i, st w6 91 (7 + nP D) v6 88 i = if i = 7 + nP D then v3 else τ 88 i := fun i => by rw [st_cell (by decide), g2.1 88 (by decide), st_cell (by decide), f2.1 88 (by decide), st_cell (by decide), d2.1 88 (by decide), st_get, c2.1 88 (by decide), st_cell (by decide), b2.1 88 (by decide), st_cell (by decide), a2.1 88 (by decide)]
    have W89 : ∀ i, st w6 91 (7 + nP D) v6 89 i = if i = 7 + nP D then v4 else τ 89 i := fun i => by rw [st_cell (by decide), g2.1 89 (by decide), st_cell (by decide), f2.1 89 (by decide), st_get, d2.1 89 (by decide), st_cell (by decide), c2.1 89 (by decide), st_cell (by decide), b2.1 89 (by decide), st_cell (by decide), a2.1 89 (by decide)]
    have W90 : ∀ i, st w6 91 (7 + nP D) v6 90 i = if i = 7 + nP D then v5 else τ 90 i := fun i => by rw [st_cell (by decide), g2.1 90 (by decide), st_get, f2.1 90 (by decide), st_cell (by decide), d2.1 90 (by decide), st_cell (by decide), c2.1 90 (by decide), st_cell (by decide), b2.1 90 (by decide), st_cell (by decide), a2.1 90 (by decide)]
    have W91 : ∀ i, st w6 91 (7 + nP D) v6 91 i = if i = 7 + nP D then v6 else τ 91 i := fun i => by rw [st_get, g2.1 91 (by decide), st_cell (by decide), f2.1 91 (by decide), st_cell (by decide), d2.1 91 (by decide), st_cell (by decide), c2.1 91 (by decide), st_cell (by decide), b2.1 91 (by decide), st_cell (by decide), a2.1 91 (by decide)]
    have W25 : st w6 91 (7 + nP D) v6 79 25 = w6 79 25 := by rw [st_cell (by decide)]
    generalize hWW : st w6 91 (7 + nP D) v6 = W at s6 fr o79 oc W86 W87 W88 W89 W90 W91 W25 ⊢
    have W6 : W 91 (7 + nP D) = v6 := by rw [W91, if_pos rfl]
    unfold j_X10_takePromise_149 j_X10_takePromise_154
    have last : ∀ x, (∃ e, x = .inl e) → StS n l base (pbind x fun y : LD × Nat => .inr y.2) W → ClB n l base x τ (st W 79 9 (W 79 9 + 1)) := by
      intro x hx hs
      obtain ⟨e, he⟩ := hx
      refine ⟨fr.tr (FrP.sto (by omega)), StS_st (by decide) (fun _ => by omega) hs, fun y e1 => ?_⟩
      rw [he] at e1
      cases e1
    have fault : ∀ e, StS n l base (.inl e) W → clP n l D p = .inl e → ∃ w, (if (0 : Int32) < W 79 26 then (bt (t_X10_want 1 2 (W 79 25) W) fun q1 => bt q1.1 fun x2 => bt (st q1.2 79 9 ((q1.2 79 9) + 1)) fun σ3 => some ((), σ3)) else (if W 91 (7 + nP D) = 9 then (bt (t_X10_want 1 2 (W 79 25) W) fun q1 => bt q1.1 fun x2 => bt (st q1.2 79 9 ((q1.2 79 9) + 1)) fun σ3 => some ((), σ3)) else (if W 79 9 ≤ W 91 (7 + nP D) then (bt (t_X10_want 0 2 (W 79 25) W) fun q1 => bt q1.1 fun x2 => bt (st q1.2 79 9 ((q1.2 79 9) + 1)) fun σ3 => some ((), σ3)) else (bt (t_X10_want 1 2 (W 79 25) W) fun q1 => bt q1.1 fun x2 => bt (st q1.2 79 9 ((q1.2 79 9) + 1)) fun σ3 => some ((), σ3))))) = some ((), w) ∧ ClB n l base (clP n l D p) τ w := by
      intro e hs he
      rw [if_pos (StS_f hs).1, bt_eq, bt_eq, b_want_any hs]
      refine ⟨_, rfl, ?_⟩
      exact last _ ⟨e, he⟩ (by rw [he]; exact hs)
    unfold clP at fault ⊢
    rw [pnx_inr] at s6
    cases hr1 : pnum n l (p + 1) 0 (nK D) with
    | inl e =>
      rw [hr1] at s6 fault
      exact fault e s6 rfl
    | inr a =>
      have i1 := pnum_in (by exact hS.2.2.1) hr1
      rw [hr1, pb_r] at s6 fault
      rw [pnx_inr] at s6
      rw [pb_r]
      cases hr2 : pnum n l a.2.2 0 (nT D) with
      | inl e =>
        rw [hr2] at s6 fault
        exact fault e s6 rfl
      | inr b =>
        have i2 := pnum_in (by exact i1.2.2) hr2
        rw [hr2, pb_r] at s6 fault
        rw [pnx_inr] at s6
        rw [pb_r]
        cases hr3 : pnum n l b.2.2 1 61 with
        | inl e =>
          rw [hr3] at s6 fault
          exact fault e s6 rfl
        | inr c' =>
          have i3 := pnum_in (by exact i2.2.2) hr3
          rw [hr3, pb_r] at s6 fault
          rw [pnx_inr] at s6
          rw [pb_r]
          cases hr4 : pnum n l c'.2.2 0 10 with
          | inl e =>
            rw [hr4] at s6 fault
            exact fault e s6 rfl
          | inr d =>
            have i4 := pnum_in (by exact i3.2.2) hr4
            rw [hr4, pb_r] at s6 fault
            rw [pnx_inr] at s6
            rw [pb_r]
            cases hr5 : pnum n l d.2.2 1 10 with
            | inl e =>
              rw [hr5] at s6 fault
              exact fault e s6 rfl
            | inr f =>
              have i5 := pnum_in (by exact i4.2.2) hr5
              rw [hr5, pb_r] at s6 fault
              rw [pnx_inr] at s6
              rw [pb_r]
              cases hr6 : pnum n l f.2.2 0 10 with
              | inl e =>
                rw [hr6] at s6 fault
                exact fault e s6 rfl
              | inr g =>
                have i6 := pnum_in (by exact i5.2.2) hr6
                rw [hr6, pb_r] at s6 fault
                rw [pb_r]
                obtain ⟨u1, -⟩ := a4 (p + 1) a rfl hr1
                obtain ⟨u2, -⟩ := b4 a.2.2 b (by rw [pnx_inr, hr1]; rfl) hr2
                obtain ⟨u3, -⟩ := c4 b.2.2 c' (by rw [pnx_inr, hr1, pb_r, pnx_inr, hr2]; rfl) hr3
                obtain ⟨u4, -⟩ := d4 c'.2.2 d (by rw [pnx_inr, hr1, pb_r, pnx_inr, hr2, pb_r, pnx_inr, hr3]; rfl) hr4
                obtain ⟨u5, -⟩ := f4 d.2.2 f (by rw [pnx_inr, hr1, pb_r, pnx_inr, hr2, pb_r, pnx_inr, hr3, pb_r, pnx_inr, hr4]; rfl) hr5
                obtain ⟨u6, u7⟩ := g4 f.2.2 g (by rw [pnx_inr, hr1, pb_r, pnx_inr, hr2, pb_r, pnx_inr, hr3, pb_r, pnx_inr, hr4, pb_r, pnx_inr, hr5]; rfl) hr6
                have W9 : W 79 9 = nI (nP D) := (o79 9 (by omega)).trans hB.1.2.2.2
                have good : ¬ (g.1 ≠ 9 ∧ nP D ≤ g.1) → ClB n l base (.inr (promD D a.1 b.1 c'.1 d.1 f.1 g.1, g.2.2)) τ (st W 79 9 (nI (nP D) + 1)) := by
                  intro hg
                  refine ⟨fr.tr (FrP.sto (by omega)), StS_st (by decide) (fun _ => by omega) s6, fun y e => ?_⟩
                  have := Sum.inr.inj e
                  subst this
                  have np : nP (promD D a.1 b.1 c'.1 d.1 f.1 g.1) = nP D + 1 := by
                    unfold nP
                    rw [promD_at, if_pos ⟨rfl, rfl⟩]
                    rfl
                  have oo : ∀ i, ¬ i = 9 → i < 23 → st W 79 9 (nI (nP D) + 1) 79 i = τ 79 i := fun i h1 h2 => by rw [st_place h1, o79 i h2]
                  show LdB (promD D a.1 b.1 c'.1 d.1 f.1 g.1) _
                  refine ⟨⟨(oo 6 (by omega) (by omega)).trans hB.1.1, (oo 7 (by omega) (by omega)).trans hB.1.2.1, (oo 8 (by omega) (by omega)).trans hB.1.2.2.1, ?_⟩, ?_, fun k hk => ?_, fun q hq => ?_, fun i j hi hj hij => ?_⟩
                  · rw [np, st_same]
                    exact nI_add (nP D) 1
                  · rw [st_cell (by decide), oc 92 (by decide) (by omega), oo 21 (by omega) (by omega)]
                    have e8 : ∀ i, promD D a.1 b.1 c'.1 d.1 f.1 g.1 8 i = D 8 i := fun i => by
                      rw [promD_at]
                      simp
                    rw [e8, e8, e8]
                    exact hB.2.1
                  · rw [st_cell (by decide), st_cell (by decide), oc 84 (by decide) (by omega), oc 85 (by decide) (by omega)]
                    have ea : promD D a.1 b.1 c'.1 d.1 f.1 g.1 1 k = D 1 k := by
                      rw [promD_at]
                      simp
                    have eb : promD D a.1 b.1 c'.1 d.1 f.1 g.1 9 k = D 9 k := by
                      rw [promD_at]
                      simp
                    rw [ea, eb]
                    exact hB.2.2.1 k hk
                  · rw [np] at hq
                    rw [st_cell (by decide), st_cell (by decide), st_cell (by decide), st_cell (by decide), st_cell (by decide), st_cell (by decide), W86, W87, W88, W89, W90, W91, promD_at, promD_at, promD_at, promD_at, promD_at, promD_at]
                    by_cases e : q = nP D
                    · subst e
                      simp
                      exact ⟨u1, u2, u3, u4, u5, u6⟩
                    · have hn : ¬ 7 + q = 7 + nP D := by omega
                      rw [if_neg hn, if_neg hn, if_neg hn, if_neg hn, if_neg hn, if_neg hn]
                      simp [e]
                      exact hB.2.2.2.1 q (by omega)
                  · rw [st_cell (by decide), oc 82 (by decide) (by omega)]
                    have ea : promD D a.1 b.1 c'.1 d.1 f.1 g.1 7 (5 * i + j) = D 7 (5 * i + j) := by
                      rw [promD_at]
                      simp
                    rw [ea]
                    exact hB.2.2.2.2 i j hi hj hij
                rw [if_neg (StS_g s6).1, W6, W9, u6]
                have e9 : (9 : Int32) = nI 9 := rfl
                by_cases c9 : g.1 = 9
                · rw [if_pos (by rw [c9]; rfl), if_neg (fun z => z.1 c9), bt_eq, bt_eq, b_want_any s6, bt_eq, W9]
                  exact ⟨_, rfl, good (fun z => z.1 c9)⟩
                · have h9 : ¬ nI g.1 = 9 := fun e => c9 ((nI_eq (a := g.1) (b := 9) (by omega) (by omega)).mp e)
                  rw [if_neg h9]
                  by_cases cg : nP D ≤ g.1
                  · obtain ⟨k1, k2⟩ := b_limit (x := .inl (2, g.2.1)) s6 (k := 2) (by omega) (fun _ e => by cases e) g.2.1 rfl
                    have k1' : t_X10_want 0 2 (nI g.2.1) W = _ := k1
                    rw [if_pos (nI_le cg (by omega)), if_pos ⟨c9, cg⟩, W25, u7, bt_eq, k1', bt_eq, bt_eq]
                    exact ⟨_, rfl, (fr.tr k2.1).tr (FrP.sto (by omega)), StS_st (by decide) (fun _ => by omega) k2.2.1, fun y e => by cases e⟩
                  · rw [if_neg (by rw [nI_le_iff (by omega) (by omega)]; exact cg), if_neg (fun z => cg z.2), bt_eq, bt_eq, b_want_any s6, bt_eq, W9]
                    exact ⟨_, rfl, good (fun z => cg z.2)⟩
end TAKE3
