/-! the text: blanks, numbers -/
def skN (n : Nat) (l : Nat → Nat) : Nat → Nat → Nat
  | 0, p => p
  | c + 1, p => if p < n ∧ l p = 32 then skN n l c (p + 1) else p
def dgN (n : Nat) (l : Nat → Nat) : Nat → Nat → Nat → Nat × Nat
  | 0, p, v => (p, v)
  | c + 1, p, v => if p < n ∧ 48 ≤ l p ∧ l p ≤ 57 then dgN n l c (p + 1) (v * 10 + (l p - 48)) else (p, v)
abbrev skP (n : Nat) (l : Nat → Nat) (p : Nat) : Nat := skN n l 250 p
/-- a fault (which, where), or a number, where it stands, what is behind it -/
def pnum (n : Nat) (l : Nat → Nat) (p lo h : Nat) : (Nat × Nat) ⊕ (Nat × Nat × Nat) :=
  if (dgN n l 250 (skP n l p) 0).1 = skP n l p then .inl (1, skP n l p)
  else if 3 < (dgN n l 250 (skP n l p) 0).1 - skP n l p ∨ (dgN n l 250 (skP n l p) 0).2 < lo ∨ h ≤ (dgN n l 250 (skP n l p) 0).2 then .inl (2, skP n l p)
  else .inr ((dgN n l 250 (skP n l p) 0).2, skP n l p, (dgN n l 250 (skP n l p) 0).1)
def PosA (n : Nat) (l : Nat → Nat) (p : Nat) (σ : St) : Prop := TextA n l σ ∧ σ 21 2 = nI p ∧ p ≤ n
def PosB (n : Nat) (l : Nat → Nat) (p : Nat) (τ : St) : Prop := TextB n l τ ∧ τ 79 24 = nI p ∧ p ≤ n
def FrT (σ w : St) : Prop := (∀ c, ¬ c = 21 → w c = σ c) ∧ w 21 1 = σ 21 1
def FrU (σ w : St) : Prop := (∀ c, ¬ c = 79 → w c = σ c) ∧ ∀ i, ¬ (24 ≤ i ∧ i ≤ 27) → w 79 i = σ 79 i
theorem FrT.rf {σ : St} : FrT σ σ := ⟨fun _ _ => rfl, rfl⟩
theorem FrT.tr {a b c : St} (h : FrT a b) (g : FrT b c) : FrT a c := ⟨fun x hx => (g.1 x hx).trans (h.1 x hx), g.2.trans h.2⟩
theorem FrU.rf {σ : St} : FrU σ σ := ⟨fun _ _ => rfl, fun _ _ => rfl⟩
theorem FrU.tr {a b c : St} (h : FrU a b) (g : FrU b c) : FrU a c := ⟨fun x hx => (g.1 x hx).trans (h.1 x hx), fun x hx => (g.2 x hx).trans (h.2 x hx)⟩
section NUMT
variable {n : Nat} {l : Nat → Nat} {N : Nat}
theorem FrT.t {σ w : St} (h : FrT σ w) (g : TextA n l σ) : TextA n l w := ⟨g.1, h.2.trans g.2.1, fun i hi => by rw [h.1 22 (by decide)]; exact g.2.2 i hi⟩
theorem FrU.t {σ w : St} (h : FrU σ w) (g : TextB n l σ) : TextB n l w := ⟨g.1, (h.2 23 (by omega)).trans g.2.1, fun i hi => by rw [h.1 93 (by decide)]; exact g.2.2 i hi⟩
theorem skN_ge : ∀ (c p : Nat), p ≤ skN n l c p
  | 0, p => Nat.le_refl p
  | c + 1, p => by
    have := skN_ge c (p + 1)
    rw [skN]
    split
    · omega
    · exact Nat.le_refl p
theorem skN_le : ∀ (c p : Nat), p ≤ n → skN n l c p ≤ n
  | 0, p, h => h
  | c + 1, p, h => by
    rw [skN]
    split
    · exact skN_le c (p + 1) (by omega)
    · exact h
theorem dgN_ge : ∀ (c p v : Nat), p ≤ (dgN n l c p v).1
  | 0, p, v => Nat.le_refl p
  | c + 1, p, v => by
    have := dgN_ge c (p + 1) (v * 10 + (l p - 48))
    rw [dgN]
    split
    · omega
    · exact Nat.le_refl p
theorem dgN_le : ∀ (c p v : Nat), p ≤ n → (dgN n l c p v).1 ≤ n
  | 0, p, v, h => h
  | c + 1, p, v, h => by
    rw [dgN]
    split
    · exact dgN_le c (p + 1) _ (by omega)
    · exact h
theorem pnum_in {p lo h x f q : Nat} (hp : p ≤ n) (e : pnum n l p lo h = .inr (x, f, q)) : (lo ≤ x ∧ x < h) ∧ p < q ∧ q ≤ n := by
  have h1 : p ≤ skP n l p := skN_ge (n := n) (l := l) 250 p
  have h2 : skP n l p ≤ (dgN n l 250 (skP n l p) 0).1 := dgN_ge (n := n) (l := l) 250 (skP n l p) 0
  have h3 : (dgN n l 250 (skP n l p) 0).1 ≤ n := dgN_le (n := n) (l := l) 250 (skP n l p) 0 (skN_le 250 p hp)
  unfold pnum at e
  by_cases c1 : (dgN n l 250 (skP n l p) 0).1 = skP n l p
  · rw [if_pos c1] at e
    cases e
  · rw [if_neg c1] at e
    by_cases c2 : 3 < (dgN n l 250 (skP n l p) 0).1 - skP n l p ∨ (dgN n l 250 (skP n l p) 0).2 < lo ∨ h ≤ (dgN n l 250 (skP n l p) 0).2
    · rw [if_pos c2] at e
      cases e
    · rw [if_neg c2] at e
      simp only [Sum.inr.injEq, Prod.mk.injEq] at e
      obtain ⟨e1, e2, e3⟩ := e
      generalize dgN n l 250 (skP n l p) 0 = g at c1 c2 e1 e3 h2 h3
      generalize skP n l p = sp at c1 c2 e2 h1 h2
      omega
theorem a_skip_loop : ∀ (c m p : Nat) (σ : St), PosA n l p σ → n ≤ p + c → c < m → ∃ w, l_X7_skipBlanks_0 N m σ = some ((), w) ∧ PosA n l (skN n l c p) w ∧ FrT σ w ∧ ∀ i, ¬ i = 2 → w 21 i = σ 21 i := by
  intro c
  induction c with
  | zero =>
    intro m p σ h hc hm
    obtain ⟨m, rfl⟩ : ∃ k, m = k + 1 := ⟨m - 1, by omega⟩
    obtain ⟨⟨t1, t2, t3⟩, h2, h3⟩ := h
    refine ⟨σ, ?_, ⟨⟨t1, t2, t3⟩, h2, h3⟩, FrT.rf, fun _ _ => rfl⟩
    rw [l_X7_skipBlanks_0, t2, h2, if_pos (nI_le (by omega) (by omega))]
  | succ c ih =>
    intro m p σ h hc hm
    obtain ⟨m, rfl⟩ : ∃ k, m = k + 1 := ⟨m - 1, by omega⟩
    obtain ⟨⟨t1, t2, t3⟩, h2, h3⟩ := h
    rw [l_X7_skipBlanks_0, t2, h2, skN]
    by_cases c1 : p < n
    · rw [if_neg (nI_ge c1 (by omega)), at_nI (by omega) (by decide), (t3 p c1).1]
      have hl := (t3 p c1).2
      by_cases c2 : l p = 32
      · have e32 : nI (l p) = (32 : Int32) := by
          rw [c2]
          rfl
        rw [if_pos e32, if_pos ⟨c1, c2⟩, bt_eq, ← p1_sub]
        have hT : TextA n l (st σ 21 2 (nI (p + 1))) := ⟨t1, by rw [st_place (by decide)]; exact t2, fun i hi => by rw [st_cell (by decide)]; exact t3 i hi⟩
        obtain ⟨w, z1, z2, z3, z4⟩ := ih m (p + 1) (st σ 21 2 (nI (p + 1))) ⟨hT, st_same, by omega⟩ (by omega) (by omega)
        refine ⟨w, z1, z2, ⟨fun c hc => (z3.1 c hc).trans (st_cell hc), z3.2.trans (st_place (by decide))⟩, fun i hi => (z4 i hi).trans (st_place hi)⟩
      · have e32 : ¬ nI (l p) = (32 : Int32) := fun e => c2 ((nI_eq (a := l p) (b := 32) (by omega) (by omega)).mp e)
        rw [if_neg e32, if_neg (fun x => c2 x.2)]
        exact ⟨σ, rfl, ⟨⟨t1, t2, t3⟩, h2, h3⟩, FrT.rf, fun _ _ => rfl⟩
    · rw [if_pos (nI_le (by omega) (by omega)), if_neg (fun x => c1 x.1)]
      exact ⟨σ, rfl, ⟨⟨t1, t2, t3⟩, h2, h3⟩, FrT.rf, fun _ _ => rfl⟩
theorem a_skip {p : Nat} {σ : St} (h : PosA n l p σ) (hN : 7000 ≤ N) : ∃ w, o_X7_skipBlanks N σ = some ((), w) ∧ PosA n l (skP n l p) w ∧ FrT σ w ∧ ∀ i, ¬ i = 2 → w 21 i = σ 21 i := by
  have := h.1.1
  exact a_skip_loop 250 N p σ h (by omega) (by omega)
/-- what stands at a place: a letter, or none at the end -/
def ltI (n : Nat) (l : Nat → Nat) (p : Nat) : Int32 := if p < n then nI (l p) else -1
theorem b_here_loop : ∀ (c m p : Nat) (τ : St), PosB n l p τ → n ≤ p + c → (∀ i, i < n → l i ≤ 255) → c < m → ∃ w, l_X10_here_0 N m τ = some (ltI n l (skN n l c p), w) ∧ PosB n l (skN n l c p) w ∧ FrU τ w ∧ ∀ i, ¬ i = 24 → w 79 i = τ 79 i := by
  intro c
  induction c with
  | zero =>
    intro m p τ h hc hl hm
    obtain ⟨m, rfl⟩ : ∃ k, m = k + 1 := ⟨m - 1, by omega⟩
    obtain ⟨⟨t1, t2, t3⟩, h2, h3⟩ := h
    refine ⟨τ, ?_, ⟨⟨t1, t2, t3⟩, h2, h3⟩, FrU.rf, fun _ _ => rfl⟩
    unfold ltI
    rw [l_X10_here_0, t2, h2, if_pos (nI_le (by omega) (by omega)), skN, if_neg (by omega)]
    unfold j_X10_here_38
    rw [t2, h2, if_pos (nI_le (by omega) (by omega))]
  | succ c ih =>
    intro m p τ h hc hl hm
    obtain ⟨m, rfl⟩ : ∃ k, m = k + 1 := ⟨m - 1, by omega⟩
    obtain ⟨⟨t1, t2, t3⟩, h2, h3⟩ := h
    have hhere : j_X10_here_38 N τ = some (ltI n l p, τ) := by
      unfold j_X10_here_38 ltI
      rw [t2, h2]
      by_cases c1 : p < n
      · rw [if_neg (nI_ge c1 (by omega)), if_pos c1, b_cka (x := p) (n := 250) _ (by omega) (by decide), nI_clamp (by omega), t3 p c1]
      · rw [if_pos (nI_le (by omega) (by omega)), if_neg c1]
    rw [l_X10_here_0, t2, h2, skN]
    by_cases c1 : p < n
    · have hlp := hl p c1
      rw [if_neg (nI_ge c1 (by omega)), b_cka (x := p) (n := 250) _ (by omega) (by decide), nI_clamp (by omega), t3 p c1]
      by_cases c2 : l p = 32
      · have e32 : nI (l p) = (32 : Int32) := by
          rw [c2]
          rfl
        rw [if_pos e32, if_pos ⟨c1, c2⟩, bt_eq, ← p1_sub]
        have hT : TextB n l (st τ 79 24 (nI (p + 1))) := ⟨t1, by rw [st_place (by decide)]; exact t2, fun i hi => by rw [st_cell (by decide)]; exact t3 i hi⟩
        obtain ⟨w, z1, z2, z3, z4⟩ := ih m (p + 1) (st τ 79 24 (nI (p + 1))) ⟨hT, st_same, by omega⟩ (by omega) hl (by omega)
        exact ⟨w, z1, z2, ⟨fun c hc => (z3.1 c hc).trans (st_cell hc), fun i hi => (z3.2 i hi).trans (st_place (by omega))⟩, fun i hi => (z4 i hi).trans (st_place hi)⟩
      · have e32 : ¬ nI (l p) = (32 : Int32) := fun e => c2 ((nI_eq (a := l p) (b := 32) (by omega) (by omega)).mp e)
        rw [if_neg e32, if_neg (fun x => c2 x.2), hhere]
        exact ⟨τ, rfl, ⟨⟨t1, t2, t3⟩, h2, h3⟩, FrU.rf, fun _ _ => rfl⟩
    · rw [if_pos (nI_le (by omega) (by omega)), if_neg (fun x => c1 x.1), hhere]
      exact ⟨τ, rfl, ⟨⟨t1, t2, t3⟩, h2, h3⟩, FrU.rf, fun _ _ => rfl⟩
theorem b_here {p : Nat} {τ : St} (h : PosB n l p τ) (hl : ∀ i, i < n → l i ≤ 255) (hN : 7000 ≤ N) : ∃ w, o_X10_here N τ = some (ltI n l (skP n l p), w) ∧ PosB n l (skP n l p) w ∧ FrU τ w ∧ ∀ i, ¬ i = 24 → w 79 i = τ 79 i := by
  have := h.1.1
  exact b_here_loop 250 N p τ h (by omega) hl (by omega)
/-- how far a number has come -/
def NmV (f p v : Nat) (x : Nat) : Prop := x ≤ 1000000 ∧ f ≤ p ∧ (p = f → v = 0) ∧ (p = f + 1 → v ≤ 9) ∧ (p = f + 2 → v ≤ 99) ∧ (p = f + 3 → v ≤ 999) ∧ (p ≤ f + 3 → x = v)
theorem a_dg_loop (lo hi : Int32) {f : Nat} : ∀ (c m p v x : Nat) (σ : St), PosA n l p σ → n ≤ p + c → c < m → NmV f p v x → x ≤ 10009 →
    ∃ x' w, l_X7_number_23 N m lo hi (nI x) σ = j_X7_number_90 N lo hi (nI x') w ∧ PosA n l (dgN n l c p v).1 w ∧ NmV f (dgN n l c p v).1 (dgN n l c p v).2 x' ∧ FrT σ w ∧ ∀ i, ¬ i = 2 → w 21 i = σ 21 i := by
  intro c
  induction c with
  | zero =>
    intro m p v x σ h hc hm hv hx
    obtain ⟨m, rfl⟩ : ∃ k, m = k + 1 := ⟨m - 1, by omega⟩
    obtain ⟨⟨t1, t2, t3⟩, h2, h3⟩ := h
    refine ⟨x, σ, ?_, ⟨⟨t1, t2, t3⟩, h2, h3⟩, hv, FrT.rf, fun _ _ => rfl⟩
    rw [l_X7_number_23, t2, h2, if_pos (nI_le (by omega) (by omega))]
  | succ c ih =>
    intro m p v x σ h hc hm hv hx
    obtain ⟨m, rfl⟩ : ∃ k, m = k + 1 := ⟨m - 1, by omega⟩
    obtain ⟨⟨t1, t2, t3⟩, h2, h3⟩ := h
    have e0 : (0 : Int32) = 0 := rfl
    rw [l_X7_number_23, t2, h2, dgN]
    by_cases c1 : p < n
    · obtain ⟨u1, u2⟩ := t3 p c1
      rw [if_neg (nI_ge c1 (by omega)), at_nI (by omega) (by decide), u1]
      unfold p_X7_isFigure j_X7_isFigure_16
      by_cases c2 : l p < 48
      · have e2 : nI (l p) < (48 : Int32) := (nI_lt_iff (a := l p) (b := 48) (by omega) (by omega)).mpr c2
        rw [if_pos e2, if_pos e0, if_neg (by omega)]
        exact ⟨x, σ, rfl, ⟨⟨t1, t2, t3⟩, h2, h3⟩, hv, FrT.rf, fun _ _ => rfl⟩
      · have e2 : ¬ nI (l p) < (48 : Int32) := fun e => c2 ((nI_lt_iff (a := l p) (b := 48) (by omega) (by omega)).mp e)
        rw [if_neg e2]
        by_cases c3 : 57 < l p
        · have e3 : (57 : Int32) < nI (l p) := (nI_lt_iff (a := 57) (b := l p) (by omega) (by omega)).mpr c3
          rw [if_pos e3, if_pos e0, if_neg (by omega)]
          exact ⟨x, σ, rfl, ⟨⟨t1, t2, t3⟩, h2, h3⟩, hv, FrT.rf, fun _ _ => rfl⟩
        · have e3 : ¬ (57 : Int32) < nI (l p) := fun e => c3 ((nI_lt_iff (a := 57) (b := l p) (by omega) (by omega)).mp e)
          have ex : p_J9_min_7cf53 (nI x) 1000 σ * 10 + nI (l p) - 48 = nI (min x 1000 * 10 + (l p - 48)) := by
            rw [show p_J9_min_7cf53 (nI x) 1000 σ = nI (min x 1000) from min_nI (a := x) (b := 1000) (by omega) (by omega) σ]
            show nI (min x 1000) * nI 10 + nI (l p) - nI 48 = _
            rw [nI_mul, nI_add, nI_sub (by omega)]
            congr 1
            omega
          rw [if_neg e3, if_neg one_ne, if_pos ⟨c1, by omega, by omega⟩, bt_eq, bt_eq, ex, ← p1_sub]
          have hT : TextA n l (st σ 21 2 (nI (p + 1))) := ⟨t1, by rw [st_place (by decide)]; exact t2, fun i hi => by rw [st_cell (by decide)]; exact t3 i hi⟩
          have hv2 : NmV f (p + 1) (v * 10 + (l p - 48)) (min x 1000 * 10 + (l p - 48)) := by
            unfold NmV at hv ⊢
            omega
          obtain ⟨x', w, z1, z2, z3, z4, z5⟩ := ih m (p + 1) (v * 10 + (l p - 48)) (min x 1000 * 10 + (l p - 48)) (st σ 21 2 (nI (p + 1))) ⟨hT, st_same, by omega⟩ (by omega) (by omega) hv2 (by omega)
          exact ⟨x', w, z1, z2, z3, ⟨fun c hc => (z4.1 c hc).trans (st_cell hc), z4.2.trans (st_place (by decide))⟩, fun i hi => (z5 i hi).trans (st_place hi)⟩
    · rw [if_pos (nI_le (by omega) (by omega)), if_neg (fun x => c1 x.1)]
      exact ⟨x, σ, rfl, ⟨⟨t1, t2, t3⟩, h2, h3⟩, hv, FrT.rf, fun _ _ => rfl⟩
/-- the class's number -/
def NumA (n : Nat) (l : Nat → Nat) (r : (Nat × Nat) ⊕ (Nat × Nat × Nat)) (σ : St) (v : Int32) (w : St) : Prop := match r with
  | .inl x => w 21 4 = nI x.1 ∧ 1 ≤ x.1 ∧ x.1 ≤ 4 ∧ w 21 5 = nI x.2
  | .inr y => v = nI y.1 ∧ PosA n l y.2.2 w ∧ w 21 3 = nI y.2.1 ∧ w 21 4 = 0 ∧ w 21 5 = σ 21 5
theorem a_blame {σ : St} (h : σ 21 4 = 0) (k pl : Int32) : t_X7_blame k pl σ = st (st σ 21 4 k) 21 5 pl := by
  unfold t_X7_blame
  rw [if_pos h]
  rfl
theorem a_num {p lo h : Nat} {σ : St} (hP : PosA n l p σ) (h0 : σ 21 4 = 0) (hlo : lo ≤ 2) (hh : h ≤ 200) (hN : 7000 ≤ N) :
    ∃ v w, o_X7_number N (nI lo) (nI h - 1) σ = some (v, w) ∧ FrT σ w ∧ NumA n l (pnum n l p lo h) σ v w := by
  obtain ⟨w1, k1, k2, k3, k4⟩ := a_skip (N := N) hP hN
  have hn := hP.1.1
  have hle := skN_le (n := n) (l := l) 250 p hP.2.2
  have hw4 : w1 21 4 = 0 := (k4 4 (by decide)).trans h0
  have hf3 : PosA n l (skP n l p) (st w1 21 3 (nI (skP n l p))) := ⟨⟨k2.1.1, by rw [st_place (by decide)]; exact k2.1.2.1, fun i hi => by rw [st_cell (by decide)]; exact k2.1.2.2 i hi⟩, by rw [st_place (by decide)]; exact k2.2.1, k2.2.2⟩
  obtain ⟨x, w2, d1, d2, d3, d4, d5⟩ := a_dg_loop (N := N) (nI lo) (nI h - 1) (f := skP n l p) 250 N (skP n l p) 0 0 (st w1 21 3 (nI (skP n l p))) hf3 (by omega) (by omega) (by unfold NmV; omega) (by omega)
  have e3 : w2 21 3 = nI (skP n l p) := (d5 3 (by decide)).trans st_same
  have e4 : w2 21 4 = 0 := by rw [d5 4 (by decide), st_place (by decide)]; exact hw4
  have e5 : w2 21 5 = σ 21 5 := by rw [d5 5 (by decide), st_place (by decide)]; exact k4 5 (by decide)
  have fr : FrT σ w2 := k3.tr (FrT.tr ⟨fun c hc => st_cell hc, st_place (by decide)⟩ d4)
  have hge := dgN_ge (n := n) (l := l) 250 (skP n l p) 0
  have hdl := dgN_le (n := n) (l := l) 250 (skP n l p) 0 hle
  have run : o_X7_number N (nI lo) (nI h - 1) σ = j_X7_number_90 N (nI lo) (nI h - 1) (nI x) w2 := by
    unfold o_X7_number
    rw [if_pos h0, k1, bd_some, bt_eq, k2.2.1]
    exact d1
  have frb : ∀ k pl : Int32, FrT σ (st (st w2 21 4 k) 21 5 pl) := fun k pl => fr.tr ⟨fun c hc => by rw [st_cell hc, st_cell hc], by rw [st_place (by decide), st_place (by decide)]⟩
  rw [run]
  unfold j_X7_number_90 pnum
  rw [d2.2.1, e3]
  by_cases c1 : (dgN n l 250 (skP n l p) 0).1 = skP n l p
  · rw [if_pos (by rw [c1]), if_pos c1, bt_eq, a_blame e4]
    exact ⟨_, _, rfl, frb _ _, by rw [st_place (by decide), st_same]; rfl, Nat.le_refl 1, show (1 : Nat) ≤ 4 by omega, st_same⟩
  · have n1 : ¬ nI (dgN n l 250 (skP n l p) 0).1 = nI (skP n l p) := fun e => c1 ((nI_eq (by omega) (by omega)).mp e)
    have bad : ∃ v w, j_X7_number_136 N (nI x) w2 = some (v, w) ∧ FrT σ w ∧ NumA n l (.inl (2, skP n l p)) σ v w := by
      unfold j_X7_number_136
      rw [bt_eq, e3, a_blame e4]
      exact ⟨_, _, rfl, frb _ _, by rw [st_place (by decide), st_same]; rfl, show (1 : Nat) ≤ 2 by omega, show (2 : Nat) ≤ 4 by omega, st_same⟩
    rw [if_neg n1, if_neg c1, nI_sub hge]
    unfold NmV at d3
    by_cases c2 : 3 < (dgN n l 250 (skP n l p) 0).1 - skP n l p
    · have e2 : (3 : Int32) < nI ((dgN n l 250 (skP n l p) 0).1 - skP n l p) := (nI_lt_iff (a := 3) (b := _) (by omega) (by omega)).mpr c2
      rw [if_pos e2, if_pos (Or.inl c2)]
      exact bad
    · have e2 : ¬ (3 : Int32) < nI ((dgN n l 250 (skP n l p) 0).1 - skP n l p) := fun e => c2 ((nI_lt_iff (a := 3) (b := _) (by omega) (by omega)).mp e)
      have ex : x = (dgN n l 250 (skP n l p) 0).2 := by omega
      rw [if_neg e2, ex]
      rw [ex] at bad
      by_cases c3 : (dgN n l 250 (skP n l p) 0).2 < lo
      · rw [if_pos ((nI_lt_iff (by omega) (by omega)).mpr c3), if_pos (Or.inr (Or.inl c3))]
        exact bad
      · rw [if_neg (by rw [nI_lt_iff (by omega) (by omega)]; exact c3)]
        by_cases c4 : h ≤ (dgN n l 250 (skP n l p) 0).2
        · have e6 : ¬ nI (dgN n l 250 (skP n l p) 0).2 ≤ nI h - 1 := by
            by_cases hz : h = 0
            · rw [hz]
              intro e
              exact nI_pos (n := (dgN n l 250 (skP n l p) 0).2) (by omega) (Int32.lt_of_le_of_lt e (by decide))
            · rw [show nI h - 1 = nI (h - 1) from nI_sub (b := 1) (by omega), nI_le_iff (by omega) (by omega)]
              omega
          rw [if_neg e6, if_pos (Or.inr (Or.inr c4))]
          exact bad
        · have e6 : nI (dgN n l 250 (skP n l p) 0).2 ≤ nI h - 1 := by
            rw [show nI h - 1 = nI (h - 1) from nI_sub (b := 1) (by omega), nI_le_iff (by omega) (by omega)]
            omega
          rw [if_pos e6, if_neg (by omega)]
          exact ⟨_, w2, rfl, fr, rfl, d2, e3, e4, e5⟩
end NUMT
