/-! the reference takes clauses -/
def LdB (D : LD) (τ : St) : Prop :=
  (τ 79 6 = nI (nT D) ∧ τ 79 7 = nI (D 0 1) ∧ τ 79 8 = nI (nK D) ∧ τ 79 9 = nI (nP D)) ∧
  (τ 92 3 = nI (D 8 0) ∧ τ 92 4 = nI (D 8 1) ∧ (D 8 2 = 0 ∧ τ 92 5 = 2 ∧ τ 79 21 = 0 ∨ D 8 2 ≠ 0 ∧ τ 92 5 = nI (D 8 2) ∧ τ 79 21 = 1)) ∧
  (∀ k, k < nK D → τ 85 (3 + k) = nI (D 1 k) ∧ τ 84 (3 + k) = nI (D 9 k)) ∧
  (∀ p, p < nP D → τ 86 (7 + p) = nI (D 10 p) ∧ τ 87 (7 + p) = nI (D 2 p) ∧ τ 88 (7 + p) = nI (D 3 p) ∧ τ 89 (7 + p) = nI (D 4 p) ∧ τ 90 (7 + p) = nI (D 5 p) ∧ τ 91 (7 + p) = nI (D 6 p)) ∧
  ∀ a b, a < 5 → b < 5 → ¬ a = b → τ 82 (25 + (5 * a + b)) = dJ (D 7 (5 * a + b))
def FrP (τ w : St) : Prop := (∀ c, ¬ (c = 79 ∨ c = 82 ∨ 84 ≤ c ∧ c ≤ 92) → w c = τ c) ∧ (∀ i, ¬ (6 ≤ i ∧ i ≤ 9 ∨ i = 21 ∨ 24 ≤ i ∧ i ≤ 27) → w 79 i = τ 79 i) ∧
  (∀ i, i < 3 → w 84 i = τ 84 i ∧ w 85 i = τ 85 i ∧ w 92 i = τ 92 i) ∧ ∀ c i, 86 ≤ c → c ≤ 91 → i < 7 → w c i = τ c i
theorem FrP.tr {a b c : St} (h : FrP a b) (g : FrP b c) : FrP a c := ⟨fun x hx => (g.1 x hx).trans (h.1 x hx), fun x hx => (g.2.1 x hx).trans (h.2.1 x hx), fun i hi => ⟨(g.2.2.1 i hi).1.trans (h.2.2.1 i hi).1, (g.2.2.1 i hi).2.1.trans (h.2.2.1 i hi).2.1, (g.2.2.1 i hi).2.2.trans (h.2.2.1 i hi).2.2⟩, fun x i h1 h2 h3 => (g.2.2.2 x i h1 h2 h3).trans (h.2.2.2 x i h1 h2 h3)⟩
theorem FrP.rf {a : St} : FrP a a := ⟨fun _ _ => rfl, fun _ _ => rfl, fun _ _ => ⟨rfl, rfl, rfl⟩, fun _ _ _ _ _ => rfl⟩
theorem FrU.p {τ w : St} (h : FrU τ w) : FrP τ w := ⟨fun c hc => h.1 c (by omega), fun i hi => h.2 i (by omega), fun i _ => by rw [h.1 84 (by decide), h.1 85 (by decide), h.1 92 (by decide)]; exact ⟨rfl, rfl, rfl⟩, fun c i h1 h2 _ => by rw [h.1 c (by omega)]⟩
/-- one store where clauses may store -/
theorem FrP.sto {τ : St} {c j : Nat} {x : Int32} (h : c = 79 ∧ (6 ≤ j ∧ j ≤ 9 ∨ j = 21 ∨ 24 ≤ j ∧ j ≤ 27) ∨ c = 82 ∨ (c = 84 ∨ c = 85 ∨ c = 92) ∧ 3 ≤ j ∨ 86 ≤ c ∧ c ≤ 91 ∧ 7 ≤ j) : FrP τ (st τ c j x) := by
  have o : ∀ a i, ¬ (a = c ∧ i = j) → st τ c j x a i = τ a i := by
    intro a i hn
    by_cases e : a = c
    · rw [e, st_place (fun z => hn ⟨e, z⟩)]
    · rw [st_cell e]
  refine ⟨fun a ha => st_cell (by omega), fun i hi => o 79 i (by omega), fun i hi => ⟨o 84 i (by omega), o 85 i (by omega), o 92 i (by omega)⟩, fun a i h1 h2 h3 => o a i (by omega)⟩
def StS (n : Nat) (l : Nat → Nat) (base : Int32) (s : PR Nat) (τ : St) : Prop := TextB n l τ ∧ match s with
  | .inl e => τ 79 26 = nI e.1 ∧ 1 ≤ e.1 ∧ e.1 ≤ 4 ∧ τ 79 27 = nI e.2
  | .inr p => τ 79 24 = nI p ∧ p ≤ n ∧ τ 79 26 = 0 ∧ τ 79 27 = base
def pnx (n : Nat) (l : Nat → Nat) (lo h : Nat) (s : PR Nat) : PR Nat := pbind s fun p => pbind (pnum n l p lo h) fun y => .inr y.2.2
section TAKE
variable {n : Nat} {l : Nat → Nat} {N : Nat} {D : LD} {base : Int32} {s : PR Nat} {τ : St}
theorem StS_of {w : St} (h93 : w 93 = τ 93) (h79 : ∀ i, 23 ≤ i → i ≤ 27 → w 79 i = τ 79 i) (h : StS n l base s τ) : StS n l base s w := by
  unfold StS TextB at h ⊢
  rw [h93, h79 23 (by omega) (by omega), h79 24 (by omega) (by omega), h79 26 (by omega) (by omega), h79 27 (by omega) (by omega)]
  exact h
theorem StS_st {c j : Nat} {x : Int32} (hc : ¬ c = 93) (hj : c = 79 → j < 23) (h : StS n l base s τ) : StS n l base s (st τ c j x) := by
  refine StS_of (st_cell (fun e => hc e.symm)) (fun i h1 h2 => ?_) h
  by_cases e : c = 79
  · have := hj e
    rw [e, st_place (by omega)]
  · rw [st_cell (fun z => e z.symm)]
theorem b_numS {lo h : Nat} (hS : StS n l base s τ) (hl : ∀ i, i < n → l i ≤ 255) (hlo : lo ≤ 2) (hh : h ≤ 200) (hN : 7000 ≤ N) : ∃ v w, o_X10_takeNumber N (nI lo) (nI h - 1) τ = some (v, w) ∧ FrU τ w ∧ StS n l base (pnx n l lo h s) w ∧ ∀ p y, s = .inr p → pnum n l p lo h = .inr y → v = nI y.1 ∧ w 79 25 = nI y.2.1 := by
  obtain ⟨hT, hs⟩ := hS
  cases s with
  | inl e =>
    obtain ⟨m1, m2, m3, m4⟩ := hs
    refine ⟨_, τ, b_num_f ⟨m2, m3⟩ m1 _ _, FrU.rf, ⟨hT, m1, m2, m3, m4⟩, fun p y e1 => ?_⟩
    cases e1
  | inr p =>
    obtain ⟨m1, m2, m3, m4⟩ := hs
    obtain ⟨v, w, z1, z2, z3⟩ := b_num (N := N) (lo := lo) (h := h) (⟨hT, m1, m2⟩ : PosB n l p τ) hl m3 hlo hh hN
    refine ⟨v, w, z1, z2, ⟨z2.t hT, ?_⟩, fun p' y e1 e2 => ?_⟩
    · unfold pnx
      rw [pb_r]
      cases hr : pnum n l p lo h with
      | inl e =>
        rw [hr] at z3
        exact z3
      | inr y =>
        rw [hr] at z3
        obtain ⟨k1, k2, k3, k4, k5⟩ := z3
        exact ⟨k2.2.1, k2.2.2, k4, k5.trans m4⟩
    · have := Sum.inr.inj e1
      subst this
      rw [e2] at z3
      exact ⟨z3.1, z3.2.2.1⟩
/-- what a clause has come to -/
def ClB (n : Nat) (l : Nat → Nat) (base : Int32) (x : CR) (τ w : St) : Prop := FrP τ w ∧ StS n l base (pbind x fun y => .inr y.2) w ∧ ∀ y, x = .inr y → LdB y.1 w
theorem b_limit {p k : Nat} (hS : StS n l base (.inr p) τ) (hk : 1 ≤ k ∧ k ≤ 4) {x : CR} (hx : ∀ q, x ≠ .inr q) (q : Nat) (hxe : x = .inl (k, q)) : t_X10_want 0 (nI k) (nI q) τ = (0, st (st τ 79 26 (nI k)) 79 27 (nI q)) ∧ ClB n l base x τ (st (st τ 79 26 (nI k)) 79 27 (nI q)) := by
  have hk0 : ¬ nI k = 0 := fun e => absurd ((nI_eq (a := k) (b := 0) (by omega) (by omega)).mp e) (by omega)
  refine ⟨b_want_0 hS.2.2.2.1 hk0 _, (FrP.sto (by omega)).tr (FrP.sto (by omega)), ?_, fun y e => absurd e (hx y)⟩
  rw [hxe, pb_l]
  refine ⟨⟨hS.1.1, by rw [st_place (by decide), st_place (by decide)]; exact hS.1.2.1, fun i hi => by rw [st_cell (by decide), st_cell (by decide)]; exact hS.1.2.2 i hi⟩, ?_, hk.1, hk.2, st_same⟩
  rw [st_place (by decide), st_same]
theorem b_towns {p q : Nat} (hS : StS n l base (.inr (p + 1)) τ) (hl : ∀ i, i < n → l i ≤ 255) (hO : RawOk D) (hB : LdB D τ) (hN : 7000 ≤ N) : ∃ w, o_X10_takeTowns N (nI q) τ = some ((), w) ∧ ClB n l base (if 1 ≤ nT D then .inl (3, q) else clT n l D p) τ w := by
  have h5 := hO.1.1
  have e0 : (0 : Int32) = 0 := rfl
  unfold o_X10_takeTowns j_X10_takeTowns_13
  rw [hB.1.1]
  by_cases c : 1 ≤ nT D
  · have q0 : ¬ nI (nT D) = 0 := fun e => absurd ((nI_eq (a := nT D) (b := 0) (by omega) (by omega)).mp e) (by omega)
    obtain ⟨z1, z2⟩ := b_limit (x := .inl (3, q)) hS (k := 3) (by omega) (fun _ e => by cases e) q rfl
    have z1' : t_X10_want 0 3 (nI q) τ = _ := z1
    rw [if_neg q0, bt_eq, z1', if_pos c]
    dsimp only
    rw [if_pos e0]
    exact ⟨_, rfl, z2⟩
  · have hz : nT D = 0 := by omega
    have q0 : nI (nT D) = 0 := by
      rw [hz]
      rfl
    have h26 : τ 79 26 = 0 := hS.2.2.2.1
    obtain ⟨v, w, z1, z2, z3, z4⟩ := b_numS (N := N) (lo := 1) (h := 6) hS hl (by omega) (by omega) hN
    have z1' : o_X10_takeNumber N 1 5 τ = some (v, w) := z1
    rw [if_pos q0, bt_eq, b_want_1 h26, if_neg c]
    dsimp only
    rw [if_neg one_ne, z1', bd_some, bt_eq]
    refine ⟨_, rfl, z2.p.tr (FrP.sto (by omega)), ?_, fun y e => ?_⟩
    · have := StS_st (x := v) (c := 79) (j := 6) (by decide) (fun _ => by omega) z3
      unfold pnx at this
      unfold clT
      rw [pb_r] at this
      cases hr : pnum n l (p + 1) 1 6 with
      | inl e =>
        rw [hr] at this
        exact this
      | inr y =>
        rw [hr] at this
        exact this
    · unfold clT at e
      obtain ⟨a, a1, e⟩ := pb_in e
      have := Sum.inr.inj e
      subst this
      obtain ⟨u1, u2⟩ := z4 (p + 1) a rfl a1
      have hk := hO.2.1 hz
      have hp := hO.2.2.1 hk
      have o : ∀ i, ¬ i = 6 → i < 23 → st w 79 6 v 79 i = τ 79 i := fun i h1 h2 => by rw [st_place h1, z2.2 i (by omega)]
      have oc : ∀ c, ¬ c = 79 → st w 79 6 v c = τ c := fun c hc => by rw [st_cell hc, z2.1 c hc]
      refine ⟨⟨?_, (o 7 (by omega) (by omega)).trans hB.1.2.1, (o 8 (by omega) (by omega)).trans hB.1.2.2.1, (o 9 (by omega) (by omega)).trans hB.1.2.2.2⟩, ?_, fun k hk2 => ?_, fun q hq2 => ?_, fun x y hx hy hxy => by rw [oc 82 (by decide)]; exact hB.2.2.2.2 x y hx hy hxy⟩
      · rw [st_same, u1]
        rfl
      · rw [oc 92 (by decide), o 21 (by omega) (by omega)]
        exact hB.2.1
      · have : k < nK D := hk2
        omega
      · have : q < nP D := hq2
        omega
theorem b_keeper {p q : Nat} (hS : StS n l base (.inr (p + 1)) τ) (hl : ∀ i, i < n → l i ≤ 255) (hO : RawOk D) (hB : LdB D τ) (hN : 7000 ≤ N) : ∃ w, o_X10_takeKeeper N (nI q) τ = some ((), w) ∧ ClB n l base (if 3 ≤ nK D then .inl (3, q) else clK n l D p) τ w := by
  have h5 := hO.1.1
  have h3 := hO.1.2.2.1
  have e0 : (0 : Int32) = 0 := rfl
  unfold o_X10_takeKeeper j_X10_takeKeeper_14
  rw [hB.1.2.2.1]
  by_cases c : 3 ≤ nK D
  · have q0 : (3 : Int32) ≤ nI (nK D) := nI_le (a := 3) c (by omega)
    obtain ⟨z1, z2⟩ := b_limit (x := .inl (3, q)) hS (k := 3) (by omega) (fun _ e => by cases e) q rfl
    have z1' : t_X10_want 0 3 (nI q) τ = _ := z1
    rw [if_pos q0, bt_eq, z1', if_pos c]
    dsimp only
    rw [if_pos e0]
    exact ⟨_, rfl, z2⟩
  · have q0 : ¬ (3 : Int32) ≤ nI (nK D) := fun e => c ((nI_le_iff (a := 3) (b := nK D) (by omega) (by omega)).mp e)
    have h26 : τ 79 26 = 0 := hS.2.2.2.1
    obtain ⟨v1, w1, z1, z2, z3, z4⟩ := b_numS (N := N) (lo := 0) (h := nT D) hS hl (by omega) (by omega) hN
    have z1' : o_X10_takeNumber N 0 (nI (nT D) - 1) τ = some (v1, w1) := z1
    have i3 : (3 : Int32) + nI (nK D) = nI (3 + nK D) := nI_add 3 (nK D)
    have s1 := StS_st (x := v1) (c := 84) (j := 3 + nK D) (by decide) (fun e => absurd e (by decide)) z3
    obtain ⟨v2, w2, y1, y2, y3, y4⟩ := b_numS (N := N) (lo := 0) (h := 3) s1 hl (by omega) (by omega) hN
    have y1' : o_X10_takeNumber N 0 2 (st w1 84 (3 + nK D) v1) = some (v2, w2) := y1
    have k1 : st w1 84 (3 + nK D) v1 79 8 = nI (nK D) := by
      rw [st_cell (by decide), z2.2 8 (by omega)]
      exact hB.1.2.2.1
    have k2 : st w2 85 (3 + nK D) v2 79 8 = nI (nK D) := by
      rw [st_cell (by decide), y2.2 8 (by omega)]
      exact k1
    rw [if_neg q0, bt_eq, b_want_1 h26, if_neg c]
    dsimp only
    rw [if_neg one_ne, hB.1.1, z1', bd_some, hB.1.2.2.1, i3, b_cka (x := 3 + nK D) (n := 6) _ (by omega) (by decide), nI_clamp (n := 3 + nK D) (by omega), bt_eq, y1', bd_some, k1, i3, b_cka (x := 3 + nK D) (n := 6) _ (by omega) (by decide), nI_clamp (n := 3 + nK D) (by omega), bt_eq, k2, bt_eq, ← p1_sub]
    have hfr : FrP τ (st (st w2 85 (3 + nK D) v2) 79 8 (nI (nK D + 1))) := ((((z2.p).tr (FrP.sto (by omega))).tr y2.p).tr (FrP.sto (by omega))).tr (FrP.sto (by omega))
    have hst := StS_st (x := nI (nK D + 1)) (c := 79) (j := 8) (by decide) (fun _ => by omega) (StS_st (x := v2) (c := 85) (j := 3 + nK D) (by decide) (fun e => absurd e (by decide)) y3)
    refine ⟨_, rfl, hfr, ?_, fun y e => ?_⟩
    · unfold pnx at hst
      unfold clK
      rw [pb_r] at hst
      cases hr : pnum n l (p + 1) 0 (nT D) with
      | inl e =>
        rw [hr] at hst
        exact hst
      | inr a =>
        rw [hr, pb_r, pb_r] at hst
        rw [pb_r]
        cases hr2 : pnum n l a.2.2 0 3 with
        | inl e =>
          rw [hr2] at hst
          exact hst
        | inr b =>
          rw [hr2] at hst
          exact hst
    · unfold clK at e
      obtain ⟨a, a1, e⟩ := pb_in e
      obtain ⟨b, b1, e⟩ := pb_in e
      have := Sum.inr.inj e
      subst this
      obtain ⟨u1, u2⟩ := z4 (p + 1) a rfl a1
      obtain ⟨u3, u4⟩ := y4 a.2.2 b (by unfold pnx; rw [pb_r, a1]; rfl) b1
      generalize hW : st (st w2 85 (3 + nK D) v2) 79 8 (nI (nK D + 1)) = W
      have o79 : ∀ i, ¬ i = 8 → i < 23 → W 79 i = τ 79 i := fun i h1 h2 => by rw [← hW, st_place h1, st_cell (by decide), y2.2 i (by omega), st_cell (by decide), z2.2 i (by omega)]
      have oc : ∀ c, ¬ c = 79 → ¬ c = 84 → ¬ c = 85 → W c = τ c := fun c h1 h2 h3 => by rw [← hW, st_cell h1, st_cell h3, y2.1 c h1, st_cell h2, z2.1 c h1]
      have o84 : ∀ i, W 84 i = if i = 3 + nK D then v1 else τ 84 i := fun i => by rw [← hW, st_cell (by decide), st_cell (by decide), y2.1 84 (by decide), st_get, z2.1 84 (by decide)]
      have o85 : ∀ i, W 85 i = if i = 3 + nK D then v2 else τ 85 i := fun i => by rw [← hW, st_cell (by decide), st_get, y2.1 85 (by decide), st_cell (by decide), z2.1 85 (by decide)]
      have nk : nK (keepD D a.1 b.1) = nK D + 1 := rset_eq (rset (rset D 9 (nK D) a.1) 1 (nK D) b.1) 0 2 (nK D + 1)
      show LdB (keepD D a.1 b.1) W
      refine ⟨⟨(o79 6 (by omega) (by omega)).trans hB.1.1, (o79 7 (by omega) (by omega)).trans hB.1.2.1, ?_, (o79 9 (by omega) (by omega)).trans hB.1.2.2.2⟩, ?_, fun k hk2 => ⟨?_, ?_⟩, fun q hq2 => ?_, fun x y hx hy hxy => by rw [oc 82 (by decide) (by decide) (by decide)]; exact hB.2.2.2.2 x y hx hy hxy⟩
      · rw [nk, ← hW, st_same]
      · rw [oc 92 (by decide) (by decide) (by decide), o79 21 (by omega) (by omega)]
        exact hB.2.1
      · have f1 : keepD D a.1 b.1 1 k = if k = nK D then b.1 else D 1 k := by
          unfold keepD
          rw [rset_ne (by decide), rset_get, rset_ne (by decide)]
        rw [o85, f1]
        rw [nk] at hk2
        by_cases e : k = nK D
        · rw [if_pos (by omega), if_pos e, u3]
        · rw [if_neg (by omega), if_neg e]
          exact (hB.2.2.1 k (by omega)).1
      · have f9 : keepD D a.1 b.1 9 k = if k = nK D then a.1 else D 9 k := by
          unfold keepD
          rw [rset_ne (by decide), rset_ne (by decide), rset_get]
        rw [o84, f9]
        rw [nk] at hk2
        by_cases e : k = nK D
        · rw [if_pos (by omega), if_pos e, u1]
        · rw [if_neg (by omega), if_neg e]
          exact (hB.2.2.1 k (by omega)).2
      · rw [oc 86 (by decide) (by decide) (by decide), oc 87 (by decide) (by decide) (by decide), oc 88 (by decide) (by decide) (by decide), oc 89 (by decide) (by decide) (by decide), oc 90 (by decide) (by decide) (by decide), oc 91 (by decide) (by decide) (by decide)]
        exact hB.2.2.2.1 q hq2
end TAKE
