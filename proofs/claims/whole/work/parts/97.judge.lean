/-! judge: the reference's side, and both together -/
section JUDGE2
variable {D : LD} {r : RD} {N : Nat} {σ τ : St}
theorem bt_ripe (ho : LandOk D) (hb : LandB D τ) (ri : RowIn D r) {x : Nat} (hx : x ≤ 1300) (hr : RowT D r (τ 80) x) {p : Nat} (hp : p < nP D) (hN : 7000 ≤ N) :
    o_X10_ripe N (nI x) (nI p) τ = some (oI (ripV D r p), τ) := by
  have h7 := ho.p7
  have hq := ho.pr hp
  have hg := gvn_le ho ri hp
  unfold o_X10_ripe ripV
  have e : nI x + 21 + nI p = nI (x + 21 + p) := by
    show nI x + nI 21 + nI p = _
    rw [nI_add, nI_add]
  rw [e, b_cka _ (by omega) (by decide), w_nI (c := τ 80) (by omega), (hr.2.1 p hp).2.2]
  by_cases h0 : gvn D r p = 0
  · rw [if_pos h0, h0]
    rfl
  · rw [if_neg h0, oI_pos h0]
    have hnn : (0 : Int32) ≤ nI (gvn D r p - 1) := nI_le (a := 0) (by omega) (by omega)
    rw [if_pos hnn, b_cka _ (by omega) (by decide), b_cka _ (by omega) (by decide), w_nI (c := τ 88) (by omega), (hb.2.2.2.1 p hp).2.2.1, b_ripeBy ho hb (by omega) (by omega) (by omega) hN, bd_some]
    rfl
theorem gvn_jd {p q d : Nat} (ho : LandOk D) (hp : p < nP D) : gvn D (jdR D r p d) q = if D 6 q = p then d + 1 else gvn D r q := by
  unfold jdR
  rw [gvn_set (by decide) (by decide), gvn_set (by decide) (by decide)]
  exact gvn_keep ho hp
theorem bt_loop (ho : LandOk D) {p d : Nat} (hp : p < nP D) (v7 : Int32) (hv : v7 = 0 ∨ v7 = 1) : ∀ (c n j : Nat) (τ : St), LandB D τ → j + c = nP D → c < n →
    ∃ w, l_X10_keepsSo_216 N n (nI p) (nI d) 40 v7 (nI j) τ = some (v7, w) ∧ (∀ i, w 80 i = if 61 + j ≤ i ∧ i < 61 + nP D ∧ D 6 (i - 61) = p then nI d else τ 80 i) ∧ ∀ a, ¬ a = 80 → w a = τ a := by
  intro c
  have h7 := ho.p7
  induction c with
  | zero =>
    intro n j τ hb hj hn
    obtain ⟨n, rfl⟩ : ∃ k, n = k + 1 := ⟨n - 1, by omega⟩
    refine ⟨τ, ?_, fun i => by rw [if_neg (by omega)], fun _ _ => rfl⟩
    rw [l_X10_keepsSo_216, hb.1.2.2.2, if_pos (nI_le (by omega) (by omega))]
    exact if_pos hv
  | succ c ih =>
    intro n j τ hb hj hn
    obtain ⟨n, rfl⟩ : ∃ k, n = k + 1 := ⟨n - 1, by omega⟩
    have hlt : j < nP D := by omega
    have hq := ho.pr hlt
    have ei : (40 : Int32) + 21 + nI j = nI (61 + j) := by
      show nI 40 + nI 21 + nI j = _
      rw [nI_add, nI_add]
    have key : ∀ x, x = (if D 6 j = p then nI d else τ 80 (61 + j)) → ∃ w, j_X10_keepsSo_263 N (l_X10_keepsSo_216 N n) (nI p) (nI d) 40 v7 (nI j) (nI (61 + j)) x τ = some (v7, w) ∧ (∀ i, w 80 i = if 61 + j ≤ i ∧ i < 61 + nP D ∧ D 6 (i - 61) = p then nI d else τ 80 i) ∧ ∀ a, ¬ a = 80 → w a = τ a := by
      intro x hx
      have hw : ∀ a, ¬ a = 80 → st τ 80 (61 + j) x a = τ a := fun a ha => st_cell ha
      obtain ⟨w, e1, e2, e3⟩ := ih n (j + 1) (st τ 80 (61 + j) x) (LandB_80 hw hb) (by omega) (by omega)
      refine ⟨w, ?_, fun i => ?_, fun a ha => (e3 a ha).trans (hw a ha)⟩
      · unfold j_X10_keepsSo_263
        rw [b_cka (x := 61 + j) _ (by omega) (by decide), bt_eq, bt_eq, nI_clamp (by omega), ← p1_sub]
        exact e1
      · rw [e2, st_get]
        by_cases hi : i = 61 + j
        · subst hi
          have e21 : 61 + j - 61 = j := by omega
          rw [if_neg (by omega), if_pos rfl, hx, e21]
          by_cases hg : D 6 j = p
          · rw [if_pos hg, if_pos ⟨by omega, by omega, hg⟩]
          · rw [if_neg hg, if_neg (fun z => hg z.2.2)]
        · rw [if_neg hi]
          by_cases hz : 61 + j ≤ i ∧ i < 61 + nP D ∧ D 6 (i - 61) = p
          · rw [if_pos ⟨by omega, hz.2⟩, if_pos hz]
          · rw [if_neg hz, if_neg (fun z => hz ⟨by omega, z.2⟩)]
    rw [l_X10_keepsSo_216, hb.1.2.2.2, if_neg (nI_ge hlt (by omega)), b_cka (x := j) (n := 14) _ (by omega) (by decide), w_nI (c := τ 91) (x := j) (by omega), (hb.2.2.2.1 j hlt).2.2.2.2.2, ei, b_cka (x := 61 + j) _ (by omega) (by decide), w_nI (c := τ 80) (x := 61 + j) (by omega)]
    by_cases hg : D 6 j = p
    · have e : nI (D 6 j) = nI p := by rw [hg]
      rw [if_pos e]
      exact key _ (if_pos hg).symm
    · have e : ¬ nI (D 6 j) = nI p := fun e => hg ((nI_eq (by omega) (by omega)).mp e)
      rw [if_neg e]
      exact key _ (if_neg hg).symm
theorem bt_171 (ho : LandOk D) (hb : LandB D τ) (hi : RowIn D r) (hr : RowT D r (τ 80) 40) {p d : Nat} (hp : p < nP D) (hN : 7000 ≤ N) (s0 : Int32) (hs : s0 = 0 ∨ s0 = 1) :
    ∃ w, j_X10_keepsSo_171 N (nI p) (nI d) 40 (nI (r 3 p)) s0 τ = some (s0, w) ∧ RowT D (jdR D r p d) (w 80) 40 ∧ (∀ i, i < 40 ∨ 80 ≤ i → w 80 i = τ 80 i) ∧ ∀ a, ¬ a = 80 → w a = τ a := by
  have h7 := ho.p7
  have h3 := ho.k3
  have hk := (hi.2.1 p hp).2.2.1
  have i1 : (40 : Int32) + nI p = nI (40 + p) := nI_add 40 p
  have i2 : (40 : Int32) + 28 + nI (r 3 p) = nI (68 + r 3 p) := by
    show nI 40 + nI 28 + nI (r 3 p) = _
    rw [nI_add, nI_add]
  have i3 : (40 : Int32) + 31 + nI (r 3 p) = nI (71 + r 3 p) := by
    show nI 40 + nI 31 + nI (r 3 p) = _
    rw [nI_add, nI_add]
  have e87 : st τ 80 (40 + p) 1 87 p = nI (D 2 p) := by
    rw [st_cell (by decide)]
    exact (hb.2.2.2.1 p hp).2.1
  have hw : ∀ a, ¬ a = 80 → st (st (st τ 80 (40 + p) 1) 80 (68 + r 3 p) (nI (D 2 p))) 80 (71 + r 3 p) (nI d) a = τ a := fun a ha => by
    rw [st_cell ha, st_cell ha, st_cell ha]
  obtain ⟨w, e1, e2, e3⟩ := bt_loop (N := N) (d := d) ho hp s0 hs (nP D) N 0 (st (st (st τ 80 (40 + p) 1) 80 (68 + r 3 p) (nI (D 2 p))) 80 (71 + r 3 p) (nI d)) (LandB_80 hw hb) (by omega) (by omega)
  have hv : ∀ i, w 80 i = if 61 ≤ i ∧ i < 61 + nP D ∧ D 6 (i - 61) = p then nI d else if i = 71 + r 3 p then nI d else if i = 68 + r 3 p then nI (D 2 p) else if i = 40 + p then 1 else τ 80 i := by
    intro i
    rw [e2, st_get, st_get, st_get]
  refine ⟨w, ?_, ⟨?_, fun q hq => ⟨?_, ?_, ?_⟩, fun k hk2 => ⟨?_, ?_⟩⟩, fun i hi2 => ?_, fun a ha => (e3 a ha).trans (hw a ha)⟩
  · unfold j_X10_keepsSo_171
    rw [i1, i2, i3, b_cka (x := 40 + p) _ (by omega) (by decide), bt_eq, nI_clamp (n := 40 + p) (by omega), b_cka (x := p) (n := 14) _ (by omega) (by decide), b_cka (x := 68 + r 3 p) _ (by omega) (by decide), bt_eq, nI_clamp (n := p) (by omega), nI_clamp (n := 68 + r 3 p) (by omega), e87, b_cka (x := 71 + r 3 p) _ (by omega) (by decide), bt_eq, nI_clamp (n := 71 + r 3 p) (by omega)]
    exact e1
  · rw [hv, if_neg (by omega), if_neg (by omega), if_neg (by omega), if_neg (by omega)]
    exact hr.1
  · have a1 : jdR D r p d 1 q = if q = p then 1 else r 1 q := by
      unfold jdR
      rw [rset_ne (by decide), rset_ne (by decide), rset_ne (by decide)]
      by_cases e : q = p
      · rw [e, rset_eq, if_pos rfl]
      · rw [rset_np e, if_neg e]
    rw [hv, if_neg (by omega), if_neg (by omega), if_neg (by omega), a1]
    by_cases e : q = p
    · rw [if_pos (by omega), if_pos e]
      rfl
    · rw [if_neg (by omega), if_neg e]
      exact (hr.2.1 q hq).1
  · have a3 : jdR D r p d 3 q = r 3 q := by
      unfold jdR
      rw [rset_ne (by decide), rset_ne (by decide), rset_ne (by decide), rset_ne (by decide)]
    rw [hv, if_neg (by omega), if_neg (by omega), if_neg (by omega), if_neg (by omega), a3]
    exact (hr.2.1 q hq).2.1
  · rw [hv, gvn_jd ho hp, show 40 + 21 + q - 61 = q by omega]
    by_cases e : D 6 q = p
    · rw [if_pos ⟨by omega, by omega, e⟩, if_pos e]
      rfl
    · rw [if_neg (fun z => e z.2.2), if_neg (by omega), if_neg (by omega), if_neg (by omega), if_neg e]
      exact (hr.2.1 q hq).2.2
  · have a4 : jdR D r p d 4 k = if k = r 3 p then D 2 p else r 4 k := by
      unfold jdR
      rw [rset_ne (by decide)]
      by_cases e : k = r 3 p
      · rw [e, rset_eq, if_pos rfl]
      · rw [rset_np e, if_neg e, rset_ne (by decide), rset_ne (by decide)]
    rw [hv, if_neg (by omega), if_neg (by omega), a4]
    by_cases e : k = r 3 p
    · rw [if_pos (by omega), if_pos e]
    · rw [if_neg (by omega), if_neg (by omega), if_neg e]
      exact (hr.2.2 k hk2).1
  · have a5 : jdR D r p d 5 k = if k = r 3 p then d else r 5 k := by
      unfold jdR
      by_cases e : k = r 3 p
      · rw [e, rset_eq, if_pos rfl]
      · rw [rset_np e, if_neg e, rset_ne (by decide), rset_ne (by decide), rset_ne (by decide)]
    rw [hv, if_neg (by omega), a5]
    by_cases e : k = r 3 p
    · rw [if_pos (by omega), if_pos e]
    · rw [if_neg (by omega), if_neg (by omega), if_neg (by omega), if_neg e]
      exact (hr.2.2 k hk2).2
  · rw [hv, if_neg (by omega), if_neg (by omega), if_neg (by omega), if_neg (by omega)]
theorem bt_keeps (ho : LandOk D) (hb : LandB D τ) (hi : RowIn D r) (hr : RowT D r (τ 80) 40) (h37 : τ 80 37 = nI (r 0 0)) {p d : Nat} (hp : p < nP D) (hd : d < 2 ^ 20) (hN : 7000 ≤ N) :
    ∃ w, o_X10_keepsSo N (nI p) (nI d) τ = some (b01 (cbV D r p d), w) ∧ RowT D (jdR D r p d) (w 80) 40 ∧ (∀ i, i < 40 ∨ 80 ≤ i → w 80 i = τ 80 i) ∧ ∀ a, ¬ a = 80 → w a = τ a := by
  have h7 := ho.p7
  have h5 := ho.t5
  have h3 := ho.k3
  have hq := ho.pr hp
  have hk := (hi.2.1 p hp).2.2.1
  have hkk := hi.2.2.1 _ hk
  have h00 := hi.1
  have hrv := ripV_le ⟨ho, hi⟩ hp
  have hg := gvn_le ho hi hp
  have c37 : (37 : Int32).toNatClampNeg = 37 := rfl
  have dd := ho.di (i := 5 * r 4 (r 3 p) + D 2 p) (by omega)
  have i1 : (40 : Int32) + nI p = nI (40 + p) := nI_add 40 p
  have i14 : (40 : Int32) + 14 + nI p = nI (54 + p) := by
    show nI 40 + nI 14 + nI p = _
    rw [nI_add, nI_add]
  have i21 : (40 : Int32) + 21 + nI p = nI (61 + p) := by
    show nI 40 + nI 21 + nI p = _
    rw [nI_add, nI_add]
  have i28 : (40 : Int32) + 28 + nI (r 3 p) = nI (68 + r 3 p) := by
    show nI 40 + nI 28 + nI (r 3 p) = _
    rw [nI_add, nI_add]
  have i31 : (40 : Int32) + 31 + nI (r 3 p) = nI (71 + r 3 p) := by
    show nI 40 + nI 31 + nI (r 3 p) = _
    rw [nI_add, nI_add]
  have w54 : τ 80 (54 + p) = nI (r 3 p) := (hr.2.1 p hp).2.1
  have w61 : τ 80 (61 + p) = oI (gvn D r p) := (hr.2.1 p hp).2.2
  have w40 : τ 80 (40 + p) = nI (r 1 p) := (hr.2.1 p hp).1
  have w68 : τ 80 (68 + r 3 p) = nI (r 4 (r 3 p)) := (hr.2.2 _ hk).1
  have w71 : τ 80 (71 + r 3 p) = nI (r 5 (r 3 p)) := (hr.2.2 _ hk).2
  have i5 : (5 : Int32) * nI (r 4 (r 3 p)) + nI (D 2 p) = nI (5 * r 4 (r 3 p) + D 2 p) := by
    show nI 5 * nI (r 4 (r 3 p)) + nI (D 2 p) = _
    rw [nI_mul, nI_add]
  have t1 : ¬ b01 true = 0 := one_ne
  have t2 : b01 false = 0 := rfl
  have e0 : (0 : Int32) = 0 := rfl
  have no : cbV D r p d = false → ∃ w, j_X10_keepsSo_135 N (nI p) (nI d) 40 (nI (r 3 p)) τ = some (b01 (cbV D r p d), w) ∧ RowT D (jdR D r p d) (w 80) 40 ∧ (∀ i, i < 40 ∨ 80 ≤ i → w 80 i = τ 80 i) ∧ ∀ a, ¬ a = 80 → w a = τ a := by
    intro hc
    unfold j_X10_keepsSo_135 j_X10_keepsSo_136 j_X10_keepsSo_170
    rw [if_pos e0, hc]
    exact bt_171 ho hb hi hr hp hN 0 (Or.inl rfl)
  -- from where the keeper is free
  have main : ∀ f, f = max (r 0 0) (r 5 (r 3 p)) → ∃ w, j_X10_keepsSo_60 N (nI p) (nI d) 40 (nI (r 3 p)) (nI f) τ = some (b01 (cbV D r p d), w) ∧ RowT D (jdR D r p d) (w 80) 40 ∧ (∀ i, i < 40 ∨ 80 ≤ i → w 80 i = τ 80 i) ∧ ∀ a, ¬ a = 80 → w a = τ a := by
    intro f hf
    unfold j_X10_keepsSo_60
    rw [i28, b_cka (x := 68 + r 3 p) _ (by omega) (by decide), b_cka (x := p) (n := 14) _ (by omega) (by decide), nI_clamp (n := 68 + r 3 p) (by omega), nI_clamp (n := p) (by omega), w68, (hb.2.2.2.1 p hp).2.1, i5, b_cka (x := 5 * r 4 (r 3 p) + D 2 p) (n := 25) _ (by omega) (by decide), bt_eq, nI_clamp (n := 5 * r 4 (r 3 p) + D 2 p) (by omega), hb.2.2.2.2 _ (by omega),
      i1, b_cka (x := 40 + p) _ (by omega) (by decide), nI_clamp (n := 40 + p) (by omega), w40, i21, b_cka (x := 61 + p) _ (by omega) (by decide), nI_clamp (n := 61 + p) (by omega), w61]
    by_cases o1 : r 1 p = 0
    · rw [if_pos ((open_nI ⟨ho, hi⟩ hp).mpr o1)]
      by_cases hz : ripV D r p = 0
      · have hg0 : gvn D r p = 0 := (gvn_rip D r).mpr hz
        have hneg : oI (gvn D r p) < 0 := by
          rw [hg0]
          decide
        rw [if_pos hneg]
        refine no ?_
        unfold cbV mayV
        have : decide (ripV D r p ≠ 0) = false := by simpa using hz
        rw [this]
        simp
      · have hg0 : gvn D r p ≠ 0 := fun e => hz ((gvn_rip D r).mp e)
        have hnn : ¬ oI (gvn D r p) < 0 := by
          rw [oI_pos hg0]
          exact nI_pos (by omega)
        rw [if_neg hnn]
        by_cases h1 : D 7 (5 * r 4 (r 3 p) + D 2 p) = 1000
        · have ej : dJ (D 7 (5 * r 4 (r 3 p) + D 2 p)) = 99999999 := if_pos h1
          rw [ej, if_pos (by decide)]
          refine no ?_
          unfold cbV
          rw [decide_eq_true h1]
          simp
        · have ej : dJ (D 7 (5 * r 4 (r 3 p) + D 2 p)) = nI (D 7 (5 * r 4 (r 3 p) + D 2 p)) := if_neg h1
          have hlt : ¬ (99999999 : Int32) ≤ nI (D 7 (5 * r 4 (r 3 p) + D 2 p)) := fun e => absurd ((nI_le_iff (a := 99999999) (b := D 7 (5 * r 4 (r 3 p) + D 2 p)) (by omega) (by omega)).mp e) (by omega)
          rw [ej, if_neg hlt, nI_add]
          by_cases h2 : f + D 7 (5 * r 4 (r 3 p) + D 2 p) ≤ d
          · rw [if_neg (by rw [nI_lt_iff (by omega) (by omega)]; omega)]
            unfold j_X10_keepsSo_136
            rw [if_neg one_ne, show o_X10_ripe N 40 (nI p) τ = _ from bt_ripe ho hb hi (x := 40) (by omega) hr hp hN, bd_some, b_cka (x := p) (n := 14) _ (by omega) (by decide), nI_clamp (n := p) (by omega), (hb.2.2.2.1 p hp).2.2.2.1, oI_pos hz, b_in_sub (by omega) (by omega) (by omega)]
            have hcb : cbV D r p d = (decide (ripV D r p - 1 ≤ d) && decide (d ≤ ripV D r p - 1 + D 4 p)) := by
              unfold cbV mayV
              have : decide (ripV D r p ≠ 0) = true := by simpa using hz
              have h2' : max (r 0 0) (r 5 (r 3 p)) + D 7 (5 * r 4 (r 3 p) + D 2 p) ≤ d := by
                rw [← hf]
                exact h2
              rw [decide_eq_true o1, this, decide_eq_false h1, decide_eq_true h2']
              simp
            rw [← hcb]
            cases hcc : cbV D r p d
            · rw [if_pos t2]
              unfold j_X10_keepsSo_170
              exact bt_171 ho hb hi hr hp hN 0 (Or.inl rfl)
            · rw [if_neg t1]
              exact bt_171 ho hb hi hr hp hN 1 (Or.inr rfl)
          · rw [if_pos (by rw [nI_lt_iff (by omega) (by omega)]; omega)]
            refine no ?_
            unfold cbV
            rw [← hf, decide_eq_false h2]
            simp
    · rw [if_neg (fun e => o1 ((open_nI ⟨ho, hi⟩ hp).mp e))]
      refine no ?_
      unfold cbV
      rw [decide_eq_false o1]
      rfl
  unfold o_X10_keepsSo
  rw [i14, b_cka (x := 54 + p) _ (by omega) (by decide), bt_eq, nI_clamp (n := 54 + p) (by omega), w54, i31, b_cka (x := 71 + r 3 p) _ (by omega) (by decide), b_cka (x := 71 + r 3 p) _ (by omega) (by decide), nI_clamp (n := 71 + r 3 p) (by omega), w71, c37, h37]
  by_cases hc : r 5 (r 3 p) ≤ r 0 0
  · rw [if_pos (nI_le hc (by omega))]
    exact main _ (by omega)
  · rw [if_neg (by rw [nI_le_iff (by omega) (by omega)]; exact hc)]
    exact main _ (by omega)
theorem e_judge_loop (ho : LandOk D) (hN : 7000 ≤ N) {nB : Nat} {b d : Nat → Nat} : ∀ (c n i bf : Nat) (r : RD) (σ τ : St), i + c = nB → c < n → bf ≤ 10000 → RowIn D r → LandA D σ → RowA D r (σ 78) → BookA D nB b d σ → LandB D τ → RowT D r (τ 80) 40 → τ 80 37 = nI (r 0 0) → BookB nB b d τ →
    ∃ v wA w, l_X0_firstWrong_21 N n (nI bf) (nI i) σ = some (v, wA) ∧ l_X10_judge_17 N n (nI bf) (nI i) τ = some (v, w) ∧ (∀ c, ¬ c = 78 → wA c = σ c) ∧ (∀ a, ¬ a = 80 → w a = τ a) ∧ ∀ i, i < 40 ∨ 80 ≤ i → w 80 i = τ 80 i := by
  intro c
  induction c with
  | zero =>
    intro n i bf r σ τ hi hn hbf hI hA hr hbA hB ht h37 hbB
    obtain ⟨n, rfl⟩ : ∃ k, n = k + 1 := ⟨n - 1, by omega⟩
    have hn20 := hbA.1
    rw [l_X0_firstWrong_21, hbA.2.1, if_pos (nI_le (by omega) (by omega)), l_X10_judge_17, hbB.2.1, if_pos (nI_le (by omega) (by omega))]
    exact ⟨_, σ, τ, rfl, rfl, fun _ _ => rfl, fun _ _ => rfl, fun _ _ => rfl⟩
  | succ c ih =>
    intro n i bf r σ τ hi hn hbf hI hA hr hbA hB ht h37 hbB
    obtain ⟨n, rfl⟩ : ∃ k, n = k + 1 := ⟨n - 1, by omega⟩
    have hn20 := hbA.1
    obtain ⟨a1, a2, a3, a4⟩ := hbA.2.2 i (by omega)
    obtain ⟨b1, b2⟩ := hbB.2.2 i (by omega)
    have t1 : ¬ b01 true = 0 := one_ne
    have t2 : b01 false = 0 := rfl
    rw [l_X0_firstWrong_21, hbA.2.1, if_neg (nI_ge (by omega) (by omega)), bt_eq, bt_eq, at_nI (j := i) (n := 20) (by omega) (by decide), at_nI (j := i) (n := 20) (by omega) (by decide), a1, a2,
      l_X10_judge_17, hbB.2.1, if_neg (nI_ge (by omega) (by omega)), b_cka (x := i) (n := 20) _ (by omega) (by decide), nI_clamp (n := i) (by omega), b1, b2]
    by_cases c1 : d i < bf
    · rw [if_pos ((nI_lt_iff (by omega) (by omega)).mpr c1), if_pos ((nI_lt_iff (by omega) (by omega)).mpr c1)]
      exact ⟨_, σ, τ, rfl, rfl, fun _ _ => rfl, fun _ _ => rfl, fun _ _ => rfl⟩
    · have hnl : ¬ nI (d i) < nI bf := by
        rw [nI_lt_iff (by omega) (by omega)]
        exact c1
      obtain ⟨w, k1, k2, k3, k4⟩ := bt_keeps (N := N) ho hB hI ht h37 a3 (d := d i) (by omega) hN
      rw [if_neg hnl, if_neg hnl, t_can ho hA hr hI a3 (by omega), bd_some, b_cka (x := i) (n := 20) _ (by omega) (by decide), b_cka (x := i) (n := 20) _ (by omega) (by decide), k1, bd_some]
      cases hcb : cbV D r (b i) (d i)
      · rw [if_pos t2, if_pos t2]
        exact ⟨_, σ, w, rfl, rfl, fun _ _ => rfl, k4, k3⟩
      · obtain ⟨wA, s1, s2, s3⟩ := t_step (d := d i) ho hA hr hI a3
        have hbB2 : BookB nB b d w := ⟨hbB.1, by rw [k4 79 (by decide)]; exact hbB.2.1, fun j hj => by rw [k4 102 (by decide), k4 103 (by decide)]; exact hbB.2.2 j hj⟩
        have hbA2 : BookA D nB b d wA := ⟨hbA.1, by rw [s3 74 (by decide)]; exact hbA.2.1, fun j hj => by rw [s3 75 (by decide), s3 76 (by decide)]; exact hbA.2.2 j hj⟩
        obtain ⟨v, wA2, w2, z1, z2, z3, z4, z5⟩ := ih n (i + 1) (d i) (jdR D r (b i) (d i)) wA w (by omega) (by omega) (by omega) (jdR_in ho hI a3 a4) (LandA_of (fun a ha => s3 a (by omega)) hA) s2 hbA2 (LandB_80 k4 hB) k2 (by rw [k3 37 (by omega)]; exact h37) hbB2
        refine ⟨v, wA2, w2, ?_, ?_, fun c hc => (z3 c hc).trans (s3 c hc), fun a ha => (z4 a ha).trans (k4 a ha), fun i hi2 => (z5 i hi2).trans (k3 i hi2)⟩
        · rw [if_neg t1]
          refine Eq.trans ?_ z1
          rw [← s1, bt_eq, bt_eq, bt_eq, bt_eq, p1_sub]
        · rw [if_neg t1, b_cka (x := i) (n := 20) _ (by omega) (by decide), bt_eq, bt_eq, (hbB2.2.2 i (by omega)).2, ← p1_sub]
          exact z2
theorem e_judge (h : RlA D r σ) (g : RlB D r τ) {nB : Nat} {b d : Nat → Nat} (hA : BookA D nB b d σ) (hB : BookB nB b d τ) (hN : 7000 ≤ N) :
    ∃ v wA w, o_X9_judge N σ = some (v, wA) ∧ o_X10_judge N τ = some (v, w) ∧ (∀ c, ¬ c = 78 → wA c = σ c) ∧ (∀ a, ¬ a = 80 → w a = τ a) ∧ ∀ i, i < 40 ∨ 80 ≤ i → w 80 i = τ 80 i := by
  have hd := h.ri.1
  have h37 : τ 80 37 = nI (r 0 0) := b_today g
  obtain ⟨w1, k1, k2, k3⟩ := b_copy (N := N) (x := 0) (y := 40) (by omega) (by omega) (by omega) hN τ
  have hT1 : RowT D r (w1 80) 40 := (rowB_mv h.ho (fun i hi => by rw [k2, if_pos (by omega)]; exact congrArg (τ 80) (by omega)) g.rb).t
  have hw37 : w1 80 37 = nI (r 0 0) := by
    rw [k2, if_neg (by omega)]
    exact h37
  have hcp : cpO_ σ (some 24) (some 78) 31 31 = cp_ σ 24 78 31 := rfl
  have hA1 : LandA D (cp_ σ 24 78 31) := LandA_of (fun a ha => cp_ne (by omega)) h.ha
  have hr1 : RowA D r (cp_ σ 24 78 31 78) := by
    rw [cp_to]
    exact rowA_mv h.ho (fun j hj => if_pos hj) h.ra
  have hbA : BookA D nB b d (cp_ σ 24 78 31) := ⟨hA.1, by rw [cp_ne (by decide)]; exact hA.2.1, fun j hj => by rw [cp_ne (by decide), cp_ne (by decide)]; exact hA.2.2 j hj⟩
  have hbB : BookB nB b d w1 := ⟨hB.1, by rw [k3 79 (by decide)]; exact hB.2.1, fun j hj => by rw [k3 102 (by decide), k3 103 (by decide)]; exact hB.2.2 j hj⟩
  have ht : p_X1_today_23 (cp_ σ 24 78 31) = nI (r 0 0) := by
    refine a_today (r := r) (D := D) ?_
    rw [cp_ne (by decide)]
    exact h.ra
  have hn20 := hA.1
  obtain ⟨v, wA, w, z1, z2, z3, z4, z5⟩ := e_judge_loop (N := N) h.ho hN (nB := nB) (b := b) (d := d) nB N 0 (r 0 0) r (cp_ σ 24 78 31) w1 (by omega) (by omega) (by omega) h.ri hA1 hr1 hbA (LandB_80 k3 g.hb) hT1 hw37 hbB
  have c37 : (37 : Int32).toNatClampNeg = 37 := rfl
  refine ⟨v, wA, w, ?_, ?_, fun c hc => (z3 c hc).trans (cp_ne hc), fun a ha => (z4 a ha).trans (k3 a ha), fun i hi => (z5 i hi).trans (by rw [k2, if_neg (by omega)])⟩
  · unfold o_X9_judge o_X0_firstWrong
    rw [bt_eq, bt_eq, hcp, ht, show l_X0_firstWrong_21 N N (nI (r 0 0)) 0 (cp_ σ 24 78 31) = _ from z1, bd_some]
  · unfold o_X10_judge
    rw [show o_X10_copy N 0 40 τ = _ from k1, bd_some, bt_eq, c37, hw37]
    exact z2
end JUDGE2
