section TAKE4
variable {n : Nat} {l : Nat → Nat} {N : Nat} {D : LD} {base : Int32} {s : PR Nat} {τ : St}
theorem ClB.pre {x : CR} {a b w : St} (h : FrP a b) (g : ClB n l base x b w) : ClB n l base x a w := ⟨h.tr g.1, g.2⟩
theorem sk_end : ∀ (c p : Nat), n ≤ p + c → n ≤ skN n l c p ∨ ¬ l (skN n l c p) = 32
  | 0, p, h => Or.inl h
  | c + 1, p, h => by
    rw [skN]
    by_cases e : p < n ∧ l p = 32
    · rw [if_pos e]
      exact sk_end c (p + 1) (by omega)
    · rw [if_neg e]
      by_cases e2 : p < n
      · exact Or.inr (fun z => e ⟨e2, z⟩)
      · exact Or.inl (by omega)
theorem sk_twice {p : Nat} (hn : n ≤ 250) : skP n l (skP n l p) = skP n l p := by
  have h : n ≤ skP n l p ∨ ¬ l (skP n l p) = 32 := sk_end (n := n) (l := l) 250 p (by omega)
  generalize skP n l p = q at h ⊢
  show skN n l 250 q = q
  rw [skN, if_neg (by omega)]
theorem b_57 {q c : Nat} {v2 : Int32} (h : τ 79 26 = 0) : j_X10_takeClause_57 N (nI c) v2 τ = (if nI c = 116 then (bd (o_X10_takeTowns N v2 τ) fun u19 σ20 => some ((), σ20)) else (if nI c = 114 then (bd (o_X10_takeRoad N v2 τ) fun u16 σ17 => some ((), σ17)) else (if nI c = 107 then (bd (o_X10_takeKeeper N v2 τ) fun u13 σ14 => some ((), σ14)) else (if nI c = 112 then (bd (o_X10_takePromise N v2 τ) fun u10 σ11 => some ((), σ11)) else (bd (o_X10_takeWinter N v2 τ) fun u7 σ8 => some ((), σ8)))))) := by
  unfold j_X10_takeClause_57 j_X10_takeClause_62
  rw [bt_eq, b_want_1 h]
  dsimp only
  rw [if_neg one_ne]
theorem b_clause {p : Nat} (hS : StS n l base (.inr p) τ) (hq : skP n l p < n) (hl : ∀ i, i < n → l i ≤ 255) (hO : RawOk D) (hB : LdB D τ) (hN : 7000 ≤ N) : ∃ w, o_X10_takeClause N τ = some ((), w) ∧ ClB n l base (cl0 n l D (skP n l p)) τ w := by
  obtain ⟨w1, z1, z2, z3, z4⟩ := b_here (N := N) (⟨hS.1, hS.2.1, hS.2.2.1⟩ : PosB n l p τ) hl hN
  have hl2 := hl _ hq
  have h5 := hO.1.1
  generalize hqq : skP n l p = q at hq z1 z2 hl2 ⊢
  have S1 : StS n l base (.inr (q + 1)) (st w1 79 24 (nI q + 1)) := by
    refine ⟨⟨z2.1.1, by rw [st_place (by decide)]; exact z2.1.2.1, fun i hi => by rw [st_cell (by decide)]; exact z2.1.2.2 i hi⟩, ?_, hq, ?_, ?_⟩
    · rw [st_same]
      exact nI_add q 1
    · rw [st_place (by decide), z4 26 (by decide)]
      exact hS.2.2.2.1
    · rw [st_place (by decide), z4 27 (by decide)]
      exact hS.2.2.2.2
  have fr : FrP τ (st w1 79 24 (nI q + 1)) := z3.p.tr (FrP.sto (by omega))
  have B1 : LdB D (st w1 79 24 (nI q + 1)) := by
    have o79 : ∀ i, ¬ i = 24 → st w1 79 24 (nI q + 1) 79 i = τ 79 i := fun i hi => by rw [st_place hi, z4 i hi]
    have oc : ∀ c, ¬ c = 79 → st w1 79 24 (nI q + 1) c = τ c := fun c hc => by rw [st_cell hc, z3.1 c hc]
    unfold LdB
    rw [o79 6 (by decide), o79 7 (by decide), o79 8 (by decide), o79 9 (by decide), o79 21 (by decide), oc 92 (by decide), oc 85 (by decide), oc 84 (by decide), oc 86 (by decide), oc 87 (by decide), oc 88 (by decide), oc 89 (by decide), oc 90 (by decide), oc 91 (by decide), oc 82 (by decide)]
    exact hB
  unfold o_X10_takeClause
  have hx : ltI n l q = nI (l q) := if_pos hq
  rw [z1, bd_some, bt_eq, bt_eq, hx, z2.2.1]
  generalize st w1 79 24 (nI q + 1) = W at S1 fr B1 ⊢
  rw [B1.1.1]
  have h26 : W 79 26 = 0 := S1.2.2.2.1
  have ev : ∀ c, c < 256 → (nI (l q) = nI c ↔ l q = c) := fun c hc => nI_eq (by omega) (by omega)
  have c116 : (116 : Int32) = nI 116 := rfl
  have c114 : (114 : Int32) = nI 114 := rfl
  have c107 : (107 : Int32) = nI 107 := rfl
  have c112 : (112 : Int32) = nI 112 := rfl
  have c119 : (119 : Int32) = nI 119 := rfl
  have bad : ∃ w, j_X10_takeClause_61 N (nI (l q)) (nI q) W = some ((), w) ∧ ClB n l base (.inl (1, q)) τ w := by
    obtain ⟨k1, k2⟩ := b_limit (x := .inl (1, q)) S1 (k := 1) (by omega) (fun _ e => by cases e) q rfl
    have k1' : t_X10_want 0 1 (nI q) W = _ := k1
    unfold j_X10_takeClause_61 j_X10_takeClause_62
    rw [bt_eq, k1']
    dsimp only
    rw [if_pos rfl]
    exact ⟨_, rfl, k2.pre fr⟩
  rw [b_57 (q := q) h26, c116, c114, c107, c112, c119]
  unfold cl0
  by_cases e1 : l q = 116
  · have m0 : ¬ (nT D = 0 ∧ l q ≠ 116) := fun z => z.2 e1
    have m1 : ¬ l q = 107 := by omega
    have m2 : ¬ l q = 112 := by omega
    have m3 : ¬ l q = 114 := by omega
    rw [if_pos ((ev 116 (by omega)).mpr e1), if_pos ((ev 116 (by omega)).mpr e1), if_neg m0, if_neg m1, if_neg m2, if_neg m3, if_pos e1]
    obtain ⟨w, k1, k2⟩ := b_towns (q := q) S1 hl hO B1 hN
    rw [k1, bd_some]
    exact ⟨w, rfl, k2.pre fr⟩
  have n1 : ¬ nI (l q) = nI 116 := fun z => e1 ((ev 116 (by omega)).mp z)
  rw [if_neg n1, if_neg n1]
  by_cases e0 : nT D = 0
  · have q0 : nI (nT D) ≤ 0 := by
      rw [e0]
      decide
    have m0 : nT D = 0 ∧ l q ≠ 116 := ⟨e0, e1⟩
    rw [if_pos q0, if_pos m0]
    exact bad
  have q0 : ¬ nI (nT D) ≤ 0 := fun z => by
    have := (nI_le_iff (a := nT D) (b := 0) (by omega) (by omega)).mp z
    omega
  have m0 : ¬ (nT D = 0 ∧ l q ≠ 116) := fun z => e0 z.1
  rw [if_neg q0, if_neg m0]
  by_cases e2 : l q = 114
  · have p2 := (ev 114 (by omega)).mpr e2
    have m1 : ¬ l q = 107 := by omega
    have m2 : ¬ l q = 112 := by omega
    rw [if_pos p2, if_pos p2, if_neg m1, if_neg m2, if_pos e2]
    obtain ⟨w, k1, k2⟩ := b_road (q := q) S1 hl hO B1 hN
    rw [k1, bd_some]
    exact ⟨w, rfl, k2.pre fr⟩
  have n2 : ¬ nI (l q) = nI 114 := fun z => e2 ((ev 114 (by omega)).mp z)
  rw [if_neg n2, if_neg n2]
  by_cases e3 : l q = 107
  · have p2 := (ev 107 (by omega)).mpr e3
    rw [if_pos p2, if_pos p2, if_pos e3]
    obtain ⟨w, k1, k2⟩ := b_keeper (q := q) S1 hl hO B1 hN
    rw [k1, bd_some]
    exact ⟨w, rfl, k2.pre fr⟩
  have n3 : ¬ nI (l q) = nI 107 := fun z => e3 ((ev 107 (by omega)).mp z)
  rw [if_neg n3, if_neg n3, if_neg e3]
  by_cases e4 : l q = 112
  · have p2 := (ev 112 (by omega)).mpr e4
    rw [if_pos p2, if_pos p2, if_pos e4]
    obtain ⟨w, k1, k2⟩ := b_promise (q := q) S1 hl hO B1 hN
    rw [k1, bd_some]
    exact ⟨w, rfl, k2.pre fr⟩
  have n4 : ¬ nI (l q) = nI 112 := fun z => e4 ((ev 112 (by omega)).mp z)
  rw [if_neg n4, if_neg n4, if_neg e4, if_neg e2, if_neg e1]
  by_cases e5 : l q = 119
  · have p2 := (ev 119 (by omega)).mpr e5
    rw [if_pos p2, if_pos e5]
    obtain ⟨w, k1, k2⟩ := b_winter (q := q) S1 hl hO B1 hN
    rw [k1, bd_some]
    exact ⟨w, rfl, k2.pre fr⟩
  have n5 : ¬ nI (l q) = nI 119 := fun z => e5 ((ev 119 (by omega)).mp z)
  rw [if_neg n5, if_neg e5]
  exact bad
/-- where the reading has ended -/
def EndB (n : Nat) (l : Nat → Nat) (base : Int32) (x : PR LD) (w : St) : Prop := TextB n l w ∧ match x with
  | .inl e => w 79 26 = nI e.1 ∧ 1 ≤ e.1 ∧ e.1 ≤ 4 ∧ w 79 27 = nI e.2
  | .inr D => w 79 26 = 0 ∧ w 79 27 = base ∧ RawOk D ∧ LdB D w
theorem LdB.of {w : St} (h : LdB D τ) (o79 : ∀ i, i < 23 → w 79 i = τ 79 i) (oc : ∀ c, ¬ c = 79 → w c = τ c) : LdB D w := by
  unfold LdB
  rw [o79 6 (by decide), o79 7 (by decide), o79 8 (by decide), o79 9 (by decide), o79 21 (by decide), oc 92 (by decide), oc 85 (by decide), oc 84 (by decide), oc 86 (by decide), oc 87 (by decide), oc 88 (by decide), oc 89 (by decide), oc 90 (by decide), oc 91 (by decide), oc 82 (by decide)]
  exact h
theorem b_stop {e : Nat × Nat} {m : Nat} (hm : 1 ≤ m) (hS : StS n l base (.inl e) τ) : l_X10_land_84 N m τ = j_X10_land_148 N τ := by
  obtain ⟨m, rfl⟩ : ∃ k, m = k + 1 := ⟨m - 1, by omega⟩
  rw [l_X10_land_84, if_neg (StS_f hS).2]
theorem b_loop (hl : ∀ i, i < n → l i ≤ 255) (hn : n ≤ 250) (hN : 7000 ≤ N) : ∀ (c m p : Nat) (D : LD) (τ : St), StS n l base (.inr p) τ → RawOk D → LdB D τ → 250 ≤ p + c → c + 2 ≤ m →
    ∃ w, l_X10_land_84 N m τ = j_X10_land_148 N w ∧ FrP τ w ∧ EndB n l base (prN n l c D p) w := by
  intro c
  induction c with
  | zero =>
    intro m p D τ hS hO hB hc hm
    obtain ⟨m, rfl⟩ : ∃ k, m = k + 1 := ⟨m - 1, by omega⟩
    obtain ⟨w1, z1, z2, z3, z4⟩ := b_here (N := N) (⟨hS.1, hS.2.1, hS.2.2.1⟩ : PosB n l p τ) hl hN
    have hge : p ≤ skP n l p := skN_ge (n := n) (l := l) 250 p
    have hx : ltI n l (skP n l p) = -1 := if_neg (by omega)
    rw [l_X10_land_84, if_pos hS.2.2.2.1, z1, bd_some, hx, if_pos (by decide)]
    refine ⟨w1, rfl, z3.p, z2.1, ?_⟩
    show w1 79 26 = 0 ∧ w1 79 27 = base ∧ RawOk D ∧ LdB D w1
    exact ⟨(z4 26 (by decide)).trans hS.2.2.2.1, (z4 27 (by decide)).trans hS.2.2.2.2, hO, hB.of (fun i hi => z4 i (by omega)) z3.1⟩
  | succ c ih =>
    intro m p D τ hS hO hB hc hm
    obtain ⟨m, rfl⟩ : ∃ k, m = k + 1 := ⟨m - 1, by omega⟩
    obtain ⟨w1, z1, z2, z3, z4⟩ := b_here (N := N) (⟨hS.1, hS.2.1, hS.2.2.1⟩ : PosB n l p τ) hl hN
    have hge : p ≤ skP n l p := skN_ge (n := n) (l := l) 250 p
    have B1 := hB.of (w := w1) (fun i hi => z4 i (by omega)) z3.1
    have h26 : w1 79 26 = 0 := (z4 26 (by decide)).trans hS.2.2.2.1
    have h27 : w1 79 27 = base := (z4 27 (by decide)).trans hS.2.2.2.2
    rw [l_X10_land_84, if_pos hS.2.2.2.1, z1, bd_some, prN]
    by_cases cn : n ≤ skP n l p
    · have hx : ltI n l (skP n l p) = -1 := if_neg (by omega)
      rw [hx, if_pos (by decide), if_pos cn]
      refine ⟨w1, rfl, z3.p, z2.1, ?_⟩
      exact ⟨h26, h27, hO, B1⟩
    · have hq : skP n l p < n := by omega
      have hl2 := hl _ hq
      have hx : ltI n l (skP n l p) = nI (l (skP n l p)) := if_pos hq
      have hneg : ¬ nI (l (skP n l p)) < 0 := nI_pos (by omega)
      have S1 : StS n l base (.inr (skP n l p)) w1 := ⟨z2.1, z2.2.1, z2.2.2, h26, h27⟩
      obtain ⟨w2, k1, k2⟩ := b_clause (N := N) S1 (by rw [sk_twice hn]; exact hq) hl hO B1 hN
      rw [sk_twice hn] at k2
      rw [hx, if_neg hneg, k1, bd_some, if_neg cn]
      have fr2 : FrP τ w2 := z3.p.tr k2.1
      cases hr : cl0 n l D (skP n l p) with
      | inl e =>
        rw [hr] at k2
        have f := k2.2.1
        rw [pb_l] at f
        rw [if_neg (StS_f f).2, b_stop (by omega) f]
        exact ⟨w2, rfl, fr2, f.1, f.2⟩
      | inr y =>
        rw [hr] at k2
        have f := k2.2.1
        rw [pb_r] at f
        have B2 := k2.2.2 y rfl
        obtain ⟨o1, o2, o3⟩ := cl0_ok hO hq hr
        have hy : skP n l p < y.2 := o2
        obtain ⟨w3, u1, u2, u3, u4⟩ := b_here (N := N) (⟨f.1, f.2.1, f.2.2.1⟩ : PosB n l y.2 w2) hl hN
        have hge2 : y.2 ≤ skP n l y.2 := skN_ge (n := n) (l := l) 250 y.2
        have B3 := B2.of (w := w3) (fun i hi => u4 i (by omega)) u3.1
        have g26 : w3 79 26 = 0 := (u4 26 (by decide)).trans f.2.2.2.1
        have g27 : w3 79 27 = base := (u4 27 (by decide)).trans f.2.2.2.2
        have S3 : StS n l base (.inr (skP n l y.2)) w3 := ⟨u2.1, u2.2.1, u2.2.2, g26, g27⟩
        have fr3 : FrP τ w3 := fr2.tr u3.p
        rw [if_pos f.2.2.2.1, u1, bd_some]
        unfold clE
        rw [pb_r]
        unfold pend j_X10_land_124
        by_cases ce : skP n l y.2 < n ∧ l (skP n l y.2) = 59
        · have hx2 : ltI n l (skP n l y.2) = 59 := by
            unfold ltI
            rw [if_pos ce.1, ce.2]
            rfl
          rw [hx2, if_pos rfl, bt_eq, b_want_1 g26, if_pos ce]
          dsimp only
          rw [if_neg one_ne, bt_eq, u2.2.1, pb_r, pb_r]
          have S4 : StS n l base (.inr (skP n l y.2 + 1)) (st w3 79 24 (nI (skP n l y.2) + 1)) := by
            refine ⟨⟨u2.1.1, by rw [st_place (by decide)]; exact u2.1.2.1, fun i hi => by rw [st_cell (by decide)]; exact u2.1.2.2 i hi⟩, ?_, ce.1, ?_, ?_⟩
            · rw [st_same]
              exact nI_add _ 1
            · rw [st_place (by decide)]
              exact g26
            · rw [st_place (by decide)]
              exact g27
          obtain ⟨w, x1, x2, x3⟩ := ih m (skP n l y.2 + 1) y.1 (st w3 79 24 (nI (skP n l y.2) + 1)) S4 o1 (B3.of (fun i hi => st_place (by omega)) (fun c hc => st_cell hc)) (by omega) (by omega)
          exact ⟨w, x1, (fr3.tr (FrP.sto (by omega))).tr x2, x3⟩
        · have hx2 : ¬ ltI n l (skP n l y.2) = 59 := by
            unfold ltI
            by_cases c1 : skP n l y.2 < n
            · rw [if_pos c1]
              have := hl _ c1
              exact fun z => ce ⟨c1, (nI_eq (a := l (skP n l y.2)) (b := 59) (by omega) (by omega)).mp z⟩
            · rw [if_neg c1]
              decide
          obtain ⟨x1, x2⟩ := b_limit (x := .inl (1, skP n l y.2)) S3 (k := 1) (by omega) (fun _ e => by cases e) (skP n l y.2) rfl
          have x1' : t_X10_want 0 1 (nI (skP n l y.2)) w3 = _ := x1
          have hs4 : StS n l base (.inl (1, skP n l y.2)) (st (st w3 79 26 (nI 1)) 79 27 (nI (skP n l y.2))) := x2.2.1
          rw [if_neg hx2, bt_eq, u2.2.1, x1', if_neg ce]
          dsimp only
          rw [if_pos rfl, b_stop (by omega) hs4, pb_l, pb_l]
          exact ⟨_, rfl, fr3.tr x2.1, hs4.1, hs4.2⟩
end TAKE4
