/-! the reference's number -/
section NUMU
variable {n : Nat} {l : Nat → Nat} {N : Nat}
theorem b_dg_loop (lo hi : Int32) (hl : ∀ i, i < n → l i ≤ 255) {f : Nat} : ∀ (c m p v x : Nat) (τ : St), PosB n l p τ → n ≤ p + c → c < m → NmV f p v x →
    ∃ x' w, l_X10_takeNumber_50 N m lo hi (nI x) τ = j_X10_takeNumber_128 N lo hi (nI x') w ∧ PosB n l (dgN n l c p v).1 w ∧ NmV f (dgN n l c p v).1 (dgN n l c p v).2 x' ∧ FrU τ w ∧ ∀ i, ¬ i = 24 → w 79 i = τ 79 i := by
  intro c
  induction c with
  | zero =>
    intro m p v x τ h hc hm hv
    obtain ⟨m, rfl⟩ : ∃ k, m = k + 1 := ⟨m - 1, by omega⟩
    obtain ⟨⟨t1, t2, t3⟩, h2, h3⟩ := h
    refine ⟨x, τ, ?_, ⟨⟨t1, t2, t3⟩, h2, h3⟩, hv, FrU.rf, fun _ _ => rfl⟩
    rw [l_X10_takeNumber_50, t2, h2, if_pos (nI_le (by omega) (by omega))]
  | succ c ih =>
    intro m p v x τ h hc hm hv
    obtain ⟨m, rfl⟩ : ∃ k, m = k + 1 := ⟨m - 1, by omega⟩
    obtain ⟨⟨t1, t2, t3⟩, h2, h3⟩ := h
    have e0 : (0 : Int32) = 0 := rfl
    rw [l_X10_takeNumber_50, t2, h2, dgN]
    by_cases c1 : p < n
    · have u1 := t3 p c1
      have u2 := hl p c1
      rw [if_neg (nI_ge c1 (by omega)), b_cka (x := p) (n := 250) _ (by omega) (by decide), b_cka (x := p) (n := 250) _ (by omega) (by decide), nI_clamp (by omega), u1]
      have ein : p_X10_in (nI (l p)).toInt64 48 57 τ = if nI (l p) < 48 ∨ 57 < nI (l p) then 0 else 1 := b_in (nI (l p)) 48 57 τ
      have e48 : nI (l p) < (48 : Int32) ↔ l p < 48 := nI_lt_iff (a := l p) (b := 48) (by omega) (by omega)
      have e57 : (57 : Int32) < nI (l p) ↔ 57 < l p := nI_lt_iff (a := 57) (b := l p) (by omega) (by omega)
      rw [ein]
      by_cases c2 : 48 ≤ l p ∧ l p ≤ 57
      · have e9 : ¬ (nI (l p) < (48 : Int32) ∨ (57 : Int32) < nI (l p)) := by
          rw [e48, e57]
          omega
        have cd : p < n ∧ 48 ≤ l p ∧ l p ≤ 57 := ⟨c1, c2⟩
        rw [if_neg e9, if_neg one_ne, if_pos cd]
        have hT : TextB n l (st τ 79 24 (nI (p + 1))) := ⟨t1, by rw [st_place (by decide)]; exact t2, fun i hi => by rw [st_cell (by decide)]; exact t3 i hi⟩
        have go : ∀ y, NmV f (p + 1) (v * 10 + (l p - 48)) y → ∃ x' w, j_X10_takeNumber_113 N (l_X10_takeNumber_50 N m) lo hi (nI y) τ = j_X10_takeNumber_128 N lo hi (nI x') w ∧ PosB n l (dgN n l c (p + 1) (v * 10 + (l p - 48))).1 w ∧ NmV f (dgN n l c (p + 1) (v * 10 + (l p - 48))).1 (dgN n l c (p + 1) (v * 10 + (l p - 48))).2 x' ∧ FrU τ w ∧ ∀ i, ¬ i = 24 → w 79 i = τ 79 i := by
          intro y hy
          obtain ⟨x', w, z1, z2, z3, z4, z5⟩ := ih m (p + 1) (v * 10 + (l p - 48)) y (st τ 79 24 (nI (p + 1))) ⟨hT, st_same, by omega⟩ (by omega) (by omega) hy
          refine ⟨x', w, ?_, z2, z3, ⟨fun c hc => (z4.1 c hc).trans (st_cell hc), fun i hi => (z4.2 i hi).trans (st_place (by omega))⟩, fun i hi => (z5 i hi).trans (st_place hi)⟩
          unfold j_X10_takeNumber_113
          rw [bt_eq, h2, ← p1_sub]
          exact z1
        by_cases c3 : x ≤ 99999
        · have e3 : nI x ≤ (99999 : Int32) := (nI_le_iff (a := x) (b := 99999) (by unfold NmV at hv; omega) (by omega)).mpr c3
          have ex : (10 : Int32) * nI x + nI (l p) - 48 = nI (10 * x + (l p - 48)) := by
            show nI 10 * nI x + nI (l p) - nI 48 = _
            rw [nI_mul, nI_add, nI_sub (by omega)]
            congr 1
            omega
          rw [if_pos e3, ex]
          exact go _ (by unfold NmV at hv ⊢; omega)
        · have e3 : ¬ nI x ≤ (99999 : Int32) := fun e => c3 ((nI_le_iff (a := x) (b := 99999) (by unfold NmV at hv; omega) (by omega)).mp e)
          rw [if_neg e3]
          exact go _ (by unfold NmV at hv ⊢; omega)
      · have e9 : nI (l p) < (48 : Int32) ∨ (57 : Int32) < nI (l p) := by
          rw [e48, e57]
          omega
        rw [if_pos e9, if_pos e0, if_neg (fun z => c2 z.2)]
        exact ⟨x, τ, rfl, ⟨⟨t1, t2, t3⟩, h2, h3⟩, hv, FrU.rf, fun _ _ => rfl⟩
    · rw [if_pos (nI_le (by omega) (by omega)), if_neg (fun x => c1 x.1)]
      exact ⟨x, τ, rfl, ⟨⟨t1, t2, t3⟩, h2, h3⟩, hv, FrU.rf, fun _ _ => rfl⟩
def NumB (n : Nat) (l : Nat → Nat) (r : (Nat × Nat) ⊕ (Nat × Nat × Nat)) (τ : St) (v : Int32) (w : St) : Prop := match r with
  | .inl x => w 79 26 = nI x.1 ∧ 1 ≤ x.1 ∧ x.1 ≤ 4 ∧ w 79 27 = nI x.2
  | .inr y => v = nI y.1 ∧ PosB n l y.2.2 w ∧ w 79 25 = nI y.2.1 ∧ w 79 26 = 0 ∧ w 79 27 = τ 79 27
theorem b_want_1 {τ : St} (h : τ 79 26 = 0) (k pl : Int32) : t_X10_want 1 k pl τ = (1, τ) := by
  unfold t_X10_want j_X10_want_21
  rw [if_neg one_ne, if_pos h]
theorem b_want_0 {τ : St} (h : τ 79 26 = 0) {k : Int32} (hk : ¬ k = 0) (pl : Int32) : t_X10_want 0 k pl τ = (0, st (st τ 79 26 k) 79 27 pl) := by
  have e0 : (0 : Int32) = 0 := rfl
  have e1 : ¬ st (st τ 79 26 k) 79 27 pl 79 26 = 0 := by
    rw [st_place (by decide), st_same]
    exact hk
  unfold t_X10_want j_X10_want_21
  rw [if_pos e0, if_pos h, bt_eq, bt_eq, if_neg e1]
theorem b_want_f {τ : St} (h : ¬ τ 79 26 = 0) (a k pl : Int32) : t_X10_want a k pl τ = (0, τ) := by
  unfold t_X10_want j_X10_want_21
  by_cases c : a = 0
  · rw [if_pos c, if_neg h, if_neg h]
  · rw [if_neg c, if_neg h]
theorem b_num {p lo h : Nat} {τ : St} (hP : PosB n l p τ) (hl : ∀ i, i < n → l i ≤ 255) (h0 : τ 79 26 = 0) (hlo : lo ≤ 2) (hh : h ≤ 200) (hN : 7000 ≤ N) :
    ∃ v w, o_X10_takeNumber N (nI lo) (nI h - 1) τ = some (v, w) ∧ FrU τ w ∧ NumB n l (pnum n l p lo h) τ v w := by
  obtain ⟨w1, k1, k2, k3, k4⟩ := b_here (N := N) hP hl hN
  have hn := hP.1.1
  have hle := skN_le (n := n) (l := l) 250 p hP.2.2
  have e0 : (0 : Int32) = 0 := rfl
  have e00 : τ 79 26 ≤ 0 := by
    rw [h0]
    decide
  have hw4 : w1 79 26 = 0 := (k4 26 (by decide)).trans h0
  have fr3 : FrU w1 (st w1 79 25 (nI (skP n l p))) := ⟨fun c hc => st_cell hc, fun i hi => st_place (by omega)⟩
  have h26 : st w1 79 25 (nI (skP n l p)) 79 26 = 0 := by
    rw [st_place (by decide)]
    exact hw4
  have h24 : st w1 79 25 (nI (skP n l p)) 79 24 = nI (skP n l p) := by
    rw [st_place (by decide)]
    exact k2.2.1
  have hP3 : PosB n l (skP n l p) (st w1 79 25 (nI (skP n l p))) := ⟨fr3.t k2.1, h24, k2.2.2⟩
  have ein : ∀ w : St, p_X10_in (ltI n l (skP n l p)).toInt64 48 57 w = if skP n l p < n ∧ 48 ≤ l (skP n l p) ∧ l (skP n l p) ≤ 57 then 1 else 0 := by
    intro w
    refine (b_in (ltI n l (skP n l p)) 48 57 w).trans ?_
    unfold ltI
    by_cases c1 : skP n l p < n
    · have u2 := hl _ c1
      have e48 : nI (l (skP n l p)) < (48 : Int32) ↔ l (skP n l p) < 48 := nI_lt_iff (a := l (skP n l p)) (b := 48) (by omega) (by omega)
      have e57 : (57 : Int32) < nI (l (skP n l p)) ↔ 57 < l (skP n l p) := nI_lt_iff (a := 57) (b := l (skP n l p)) (by omega) (by omega)
      rw [if_pos c1]
      by_cases c2 : 48 ≤ l (skP n l p) ∧ l (skP n l p) ≤ 57
      · rw [if_neg (by rw [e48, e57]; omega), if_pos ⟨c1, c2⟩]
      · rw [if_pos (by rw [e48, e57]; omega), if_neg (fun z => c2 z.2)]
    · rw [if_neg c1, if_pos (Or.inl (by decide)), if_neg (fun z => c1 z.1)]
  unfold o_X10_takeNumber
  rw [if_pos e00, k1, bd_some, bt_eq, k2.2.1, ein, h24, bt_eq]
  have hge := dgN_ge (n := n) (l := l) 250 (skP n l p) 0
  have hdl := dgN_le (n := n) (l := l) 250 (skP n l p) 0 hle
  have hdg : (dgN n l 250 (skP n l p) 0).1 = skP n l p ↔ ¬ (skP n l p < n ∧ 48 ≤ l (skP n l p) ∧ l (skP n l p) ≤ 57) := by
    have h2 := dgN_ge (n := n) (l := l) 249 (skP n l p + 1) (0 * 10 + (l (skP n l p) - 48))
    have e : dgN n l 250 (skP n l p) 0 = if skP n l p < n ∧ 48 ≤ l (skP n l p) ∧ l (skP n l p) ≤ 57 then dgN n l 249 (skP n l p + 1) (0 * 10 + (l (skP n l p) - 48)) else (skP n l p, 0) := rfl
    rw [e]
    by_cases c : skP n l p < n ∧ 48 ≤ l (skP n l p) ∧ l (skP n l p) ≤ 57
    · rw [if_pos c]
      exact ⟨fun x => by omega, fun x => absurd c x⟩
    · rw [if_neg c]
      exact ⟨fun _ => c, fun _ => rfl⟩
  unfold pnum
  by_cases c0 : skP n l p < n ∧ 48 ≤ l (skP n l p) ∧ l (skP n l p) ≤ 57
  · have c1 : ¬ (dgN n l 250 (skP n l p) 0).1 = skP n l p := fun x => (hdg.mp x) c0
    obtain ⟨x, w2, d1, d2, d3, d4, d5⟩ := b_dg_loop (N := N) (nI lo) (nI h - 1) hl (f := skP n l p) 250 N (skP n l p) 0 0 _ hP3 (by omega) (by omega) (by unfold NmV; omega)
    have fr : FrU τ w2 := (k3.tr fr3).tr d4
    have e25 : w2 79 25 = nI (skP n l p) := (d5 25 (by decide)).trans st_same
    have e26 : w2 79 26 = 0 := (d5 26 (by decide)).trans h26
    have e27 : w2 79 27 = τ 79 27 := by rw [d5 27 (by decide), st_place (by decide)]; exact k4 27 (by decide)
    rw [if_pos c0, b_want_1 h26]
    dsimp only
    rw [if_neg one_ne, if_neg c1, show l_X10_takeNumber_50 N N (nI lo) (nI h - 1) 0 (st w1 79 25 (nI (skP n l p))) = _ from d1]
    have two : ¬ (2 : Int32) = 0 := by decide
    have bad : ∃ v w, j_X10_takeNumber_159 N (nI x) w2 = some (v, w) ∧ FrU τ w ∧ NumB n l (.inl (2, skP n l p)) τ v w := by
      unfold j_X10_takeNumber_159 j_X10_takeNumber_160
      rw [e25, b_want_0 e26 two, bt_eq, bt_eq]
      dsimp only
      exact ⟨_, _, rfl, fr.tr ⟨fun c hc => by rw [st_cell hc, st_cell hc], fun i hi => by rw [st_place (by omega), st_place (by omega)]⟩, by rw [st_place (by decide), st_same]; rfl, show (1 : Nat) ≤ 2 by omega, show (2 : Nat) ≤ 4 by omega, st_same⟩
    unfold j_X10_takeNumber_128
    rw [d2.2.1, e25, nI_sub hge]
    unfold NmV at d3
    by_cases c2 : 3 < (dgN n l 250 (skP n l p) 0).1 - skP n l p
    · have e2 : (4 : Int32) ≤ nI ((dgN n l 250 (skP n l p) 0).1 - skP n l p) := (nI_le_iff (a := 4) (b := _) (by omega) (by omega)).mpr (by omega)
      rw [if_pos e2, if_pos (Or.inl c2)]
      exact bad
    · have e2 : ¬ (4 : Int32) ≤ nI ((dgN n l 250 (skP n l p) 0).1 - skP n l p) := fun e => c2 (by have := (nI_le_iff (a := 4) (b := _) (by omega) (by omega)).mp e; omega)
      have ex : x = (dgN n l 250 (skP n l p) 0).2 := by omega
      have e3 : p_X10_in (nI x).toInt64 (nI lo).toInt64 (nI h - 1).toInt64 w2 = if x < lo ∨ h ≤ x then 0 else 1 := by
        rw [b_in]
        have q1 : nI x < nI lo ↔ x < lo := nI_lt_iff (by omega) (by omega)
        have q2 : nI h - 1 < nI x ↔ h ≤ x := by
          by_cases hz : h = 0
          · rw [hz]
            constructor
            · intro _
              omega
            · intro _
              exact Int32.lt_of_lt_of_le (by decide) (nI_le (a := 0) (b := x) (by omega) (by omega))
          · rw [show nI h - 1 = nI (h - 1) from nI_sub (b := 1) (by omega), nI_lt_iff (by omega) (by omega)]
            omega
        by_cases cc : x < lo ∨ h ≤ x
        · rw [if_pos cc, if_pos (by rw [q1, q2]; exact cc)]
        · rw [if_neg cc, if_neg (by rw [q1, q2]; exact cc)]
      rw [if_neg e2, e3]
      rw [ex] at bad ⊢
      by_cases c3 : (dgN n l 250 (skP n l p) 0).2 < lo ∨ h ≤ (dgN n l 250 (skP n l p) 0).2
      · rw [if_pos c3, if_pos e0, if_pos (Or.inr c3)]
        exact bad
      · rw [if_neg c3, if_neg one_ne, if_neg (fun z => z.elim c2 c3)]
        unfold j_X10_takeNumber_160
        rw [b_want_1 e26, bt_eq, bt_eq]
        exact ⟨_, w2, rfl, fr, rfl, d2, e25, e26, e27⟩
  · have one : ¬ (1 : Int32) = 0 := one_ne
    rw [if_neg c0, b_want_0 h26 one, if_pos (hdg.mpr c0)]
    dsimp only
    rw [if_pos e0]
    exact ⟨_, _, rfl, (k3.tr fr3).tr ⟨fun c hc => by rw [st_cell hc, st_cell hc], fun i hi => by rw [st_place (by omega), st_place (by omega)]⟩, by rw [st_place (by decide), st_same]; rfl, Nat.le_refl 1, show (1 : Nat) ≤ 4 by omega, st_same⟩
/-- where a fault stands, nothing more is taken -/
theorem b_num_f {τ : St} {k : Nat} (hk : 1 ≤ k ∧ k ≤ 4) (h : τ 79 26 = nI k) (a b : Int32) : o_X10_takeNumber N a b τ = some (0, τ) := by
  unfold o_X10_takeNumber
  have e : ¬ nI k ≤ 0 := fun e => absurd ((nI_le_iff (a := k) (b := 0) (by omega) (by omega)).mp e) (by omega)
  rw [h, if_neg e]
theorem a_num_f {σ : St} {k : Nat} (hk : 1 ≤ k ∧ k ≤ 4) (h : σ 21 4 = nI k) (a b : Int32) : o_X7_number N a b σ = some (-1, σ) := by
  unfold o_X7_number
  have e : ¬ nI k = 0 := fun e => absurd ((nI_eq (a := k) (b := 0) (by omega) (by omega)).mp e) (by omega)
  rw [h, if_neg e]
theorem a_end_f {σ : St} {k : Nat} (hk : 1 ≤ k ∧ k ≤ 4) (h : σ 21 4 = nI k) : o_X7_isEnd N σ = some (0, σ) := by
  unfold o_X7_isEnd
  have e : ¬ nI k = 0 := fun e => absurd ((nI_eq (a := k) (b := 0) (by omega) (by omega)).mp e) (by omega)
  rw [h, if_neg e]
theorem a_blame_f {σ : St} {k : Nat} (hk : 1 ≤ k ∧ k ≤ 4) (h : σ 21 4 = nI k) (a b : Int32) : t_X7_blame a b σ = σ := by
  unfold t_X7_blame
  have e : ¬ nI k = 0 := fun e => absurd ((nI_eq (a := k) (b := 0) (by omega) (by omega)).mp e) (by omega)
  rw [h, if_neg e]
end NUMU
