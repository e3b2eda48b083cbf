/-! days, on both sides -/
theorem LandA_of {D : LD} {σ w : St} (hw : ∀ a, a < 11 → w a = σ a) (h : LandA D σ) : LandA D w := by
  unfold LandA at h ⊢
  rw [hw 1 (by decide), hw 2 (by decide), hw 3 (by decide), hw 4 (by decide), hw 5 (by decide), hw 6 (by decide), hw 7 (by decide), hw 8 (by decide), hw 9 (by decide), hw 10 (by decide)]
  exact h
theorem LandB_of {D : LD} {σ w : St} (h2 : ∀ i, i < 6 → w 79 i = σ 79 i) (hw : ∀ a, 82 < a → a < 93 → w a = σ a) (h : LandB D σ) : LandB D w := by
  unfold LandB at h ⊢
  rw [h2 2 (by decide), h2 3 (by decide), h2 4 (by decide), h2 5 (by decide), hw 92 (by decide) (by decide), hw 85 (by decide) (by decide), hw 84 (by decide) (by decide), hw 86 (by decide) (by decide), hw 87 (by decide) (by decide), hw 88 (by decide) (by decide), hw 89 (by decide) (by decide), hw 90 (by decide) (by decide), hw 91 (by decide) (by decide), hw 83 (by decide) (by decide)]
  exact h
/-- what days change: today's state, the days that can be undone -/
abbrev DS : Type := RD × Nat × (Nat → RD)
def dyS (D : LD) (s : DS) : DS := (pdR D s.1, psN s.2.1, psR s.2.1 s.2.2 s.1)
def dyN (D : LD) : Nat → DS → DS
  | 0, s => s
  | k + 1, s => dyN D k (dyS D s)
def DsOk (D : LD) (s : DS) : Prop := RowOk D s.1 ∧ PastOk D s.2.1 s.2.2
def DsA (D : LD) (s : DS) (σ : St) : Prop := LandA D σ ∧ RowA D s.1 (σ 24) ∧ ∃ x, PastA D s.2.1 x s.2.2 σ
def DsB (D : LD) (s : DS) (τ : St) : Prop := LandB D τ ∧ RowB D s.1 (τ 80) 0 ∧ PastB D s.2.1 s.2.2 τ
section DAY
variable {D : LD} {r : RD} {N : Nat}
theorem pdR_0 : pdR D r 0 0 = r 0 0 + 1 := by
  unfold pdR
  rw [rset_eq]
theorem dyS_ok (ho : LandOk D) {s : DS} (h : DsOk D s) (hd : s.1 0 0 < 9200) : DsOk D (dyS D s) := ⟨pdR_ok ho h.1 hd, psOk h.2 h.1⟩
theorem dyN_0 : ∀ (k : Nat) (s : DS), (dyN D k s).1 0 0 = s.1 0 0 + k
  | 0, s => rfl
  | k + 1, s => by
    have := dyN_0 k (dyS D s)
    unfold dyN
    rw [this]
    show pdR D s.1 0 0 + k = _
    rw [pdR_0]
    omega
theorem dyN_ok (ho : LandOk D) : ∀ (k : Nat) (s : DS), DsOk D s → s.1 0 0 + k ≤ 9200 → DsOk D (dyN D k s)
  | 0, s, h, _ => h
  | k + 1, s, h, hd => by
    refine dyN_ok ho k (dyS D s) (dyS_ok ho h (by omega)) ?_
    show pdR D s.1 0 0 + k ≤ 9200
    rw [pdR_0]
    omega
theorem a_endDay (ho : LandOk D) {s : DS} {σ : St} (h : DsOk D s) (hA : DsA D s σ) (hN : 7000 ≤ N) :
    ∃ w, o_X9_endDay N σ = some ((), w) ∧ DsA D (dyS D s) w ∧ ∀ a, ¬ (a = 24 ∨ a = 25 ∨ 27 ≤ a ∧ a < 57) → w a = σ a := by
  obtain ⟨h1, h2, x, h3⟩ := hA
  obtain ⟨p1, p2⟩ := a_add ho h2 h.2.1 h3
  have l1 : LandA D (t_X6_add σ) := LandA_of (fun a ha => p2 a (by omega)) h1
  have r1 : RowA D s.1 (t_X6_add σ 24) := by
    rw [p2 24 (by omega)]
    exact h2
  obtain ⟨w, q1, q2, q3⟩ := a_pass (N := N) (⟨ho, l1, r1, h.1.1⟩ : RlA D s.1 (t_X6_add σ)) h.1 hN
  refine ⟨w, ?_, ⟨LandA_24 q3 l1, q2, (x + 1) % 30, p1.1, ?_, ?_, fun i hi => ?_⟩, fun a ha => (q3 a (by omega)).trans (p2 a (by omega))⟩
  · unfold o_X9_endDay bt
    dsimp only
    rw [q1, bd_some]
  · rw [q3 25 (by decide)]
    exact p1.2.1
  · rw [q3 25 (by decide)]
    exact p1.2.2.1
  · rw [q3 _ (by omega)]
    exact p1.2.2.2 i hi
theorem b_endDay (ho : LandOk D) {s : DS} {τ : St} (h : DsOk D s) (hB : DsB D s τ) (hN : 7000 ≤ N) :
    ∃ w, o_X10_passDay N τ = some ((), w) ∧ DsB D (dyS D s) w ∧ (∀ a, ¬ a = 79 → ¬ a = 80 → w a = τ a) ∧ (∀ i, ¬ i = 28 → w 79 i = τ 79 i) ∧ ∀ i, 38 ≤ i → i < 160 → w 80 i = τ 80 i := by
  obtain ⟨h1, h2, h3⟩ := hB
  obtain ⟨w1, p1, p2, p3, p4, p5⟩ := b_rem ho h2 h.2.1 h3 hN
  have l1 : LandB D w1 := LandB_of (fun i hi => p4 i (by omega)) (fun a h1 h2 => p3 a (by omega) (by omega)) h1
  have r1 : RowB D s.1 (w1 80) 0 := rowB_mv ho (fun i hi => by rw [p5 _ (by omega)]) h2
  have h7 := ho.p7
  obtain ⟨w, q1, q2, q3, q4⟩ := b_pass_loop (N := N) ho h.1 hN (nP D) N 0 w1 l1 r1 (by omega) (by omega)
  refine ⟨w, ?_, ⟨LandB_80 q3 l1, q2, ?_, fun i hi => rowB_mv ho (fun j hj => q4 _ (by omega)) (p2.2 i hi)⟩, fun a h1 h2 => (q3 a h2).trans (p3 a h1 h2), fun i hi => ?_, fun i h1 h2 => (q4 i h1).trans (p5 i h2)⟩
  · unfold o_X10_passDay
    rw [p1, bd_some]
    exact q1
  · rw [q3 79 (by decide)]
    exact p2.1
  · rw [q3 79 (by decide)]
    exact p4 i hi
theorem a_day_loop (ho : LandOk D) (hN : 7000 ≤ N) {m : Nat} (hm : m ≤ 99) : ∀ (c n j : Nat) (s : DS) (σ : St), DsOk D s → DsA D s σ → s.1 0 0 + c ≤ 9200 → j + c = m → c < n →
    ∃ w, l_X9_day_14 N n (nI m) (nI j) σ = some (nI ((dyN D c s).1 0 0), w) ∧ DsA D (dyN D c s) w
  | c, 0, _, _, _, _, _, _, _, hn => absurd hn (Nat.not_lt_zero _)
  | 0, n + 1, j, s, σ, h, hA, hd, hj, _ => by
    have ht : p_X1_today_23 σ = nI (s.1 0 0) := a_today hA.2.1
    refine ⟨σ, ?_, hA⟩
    rw [l_X9_day_14, if_pos (nI_le (by omega) (by omega)), ht]
    rfl
  | c + 1, n + 1, j, s, σ, h, hA, hd, hj, hn => by
    have es : nI (j + 1) = nI j + 1 := by rw [nI_succ]
    obtain ⟨w1, p1, p2, -⟩ := a_endDay ho h hA hN
    obtain ⟨w, q1, q2⟩ := a_day_loop ho hN hm c n (j + 1) (dyS D s) w1 (dyS_ok ho h (by omega)) p2 (by
      show pdR D s.1 0 0 + c ≤ 9200
      rw [pdR_0]
      omega) (by omega) (by omega)
    refine ⟨w, ?_, q2⟩
    rw [l_X9_day_14, if_neg (nI_ge (by omega) (by omega)), p1, bd_some]
    unfold bt
    rw [← es]
    exact q1
theorem b_day_loop (ho : LandOk D) (hN : 7000 ≤ N) {m : Nat} (hm : m ≤ 99) : ∀ (c n j : Nat) (s : DS) (τ : St), DsOk D s → DsB D s τ → s.1 0 0 + c ≤ 9200 → j + c = m → c < n →
    ∃ w, l_X10_day_16 N n (nI m) (nI j) τ = some (nI ((dyN D c s).1 0 0), w) ∧ DsB D (dyN D c s) w ∧ (∀ i, ¬ i = 28 → w 79 i = τ 79 i) ∧ ∀ i, 38 ≤ i → i < 160 → w 80 i = τ 80 i
  | c, 0, _, _, _, _, _, _, _, hn => absurd hn (Nat.not_lt_zero _)
  | 0, n + 1, j, s, τ, h, hB, hd, hj, _ => by
    have ht : τ 80 (37 : Int32).toNatClampNeg = nI (s.1 0 0) := b_today (⟨ho, hB.1, hB.2.1, h.1.1⟩ : RlB D s.1 τ)
    refine ⟨τ, ?_, hB, fun _ _ => rfl, fun _ _ _ => rfl⟩
    rw [l_X10_day_16, if_pos (nI_le (by omega) (by omega)), ht]
    rfl
  | c + 1, n + 1, j, s, τ, h, hB, hd, hj, hn => by
    have es : nI (j + 1) = nI j + 1 := by rw [nI_succ]
    obtain ⟨w1, p1, p2, -, p4, p5⟩ := b_endDay ho h hB hN
    obtain ⟨w, q1, q2, q3, q4⟩ := b_day_loop ho hN hm c n (j + 1) (dyS D s) w1 (dyS_ok ho h (by omega)) p2 (by
      show pdR D s.1 0 0 + c ≤ 9200
      rw [pdR_0]
      omega) (by omega) (by omega)
    refine ⟨w, ?_, q2, fun i hi => (q3 i hi).trans (p4 i hi), fun i h1 h2 => (q4 i h1 h2).trans (p5 i h1 h2)⟩
    rw [l_X10_day_16, if_neg (nI_ge (by omega) (by omega)), p1, bd_some]
    unfold bt
    rw [← es]
    exact q1
/-- a number of days is refused, alike on both sides, or is one of 1 to 99 -/
theorem e_refused {σ τ : St} (h : RlA D r σ) (g : RlB D r τ) (a1 : Int32) :
    (∃ v, v < 0 ∧ p_X9_refusalOfDays a1 σ = v ∧ p_X10_refusedDays a1 τ = v) ∨ ((∃ m, a1 = nI m ∧ 1 ≤ m ∧ m ≤ 99) ∧ ¬ nT D = 0 ∧ r 0 0 ≤ 9000 ∧ p_X9_refusalOfDays a1 σ = 0 ∧ p_X10_refusedDays a1 τ = 0) := by
  have h5 := h.ho.t5
  have hd := h.ri.1
  have e0 : (0 : Int32) = 0 := rfl
  unfold p_X9_refusalOfDays p_X10_refusedDays
  rw [a_today h.ra, b_today g, h.ha.1.1, g.hb.1.1]
  have hin : p_X10_in a1.toInt64 1 99 τ = if a1 < 1 ∨ 99 < a1 then 0 else 1 := b_in a1 1 99 τ
  rw [hin]
  by_cases c1 : a1 < 1
  · left
    rw [if_pos c1, if_pos (Or.inl c1), if_pos e0]
    exact ⟨_, by decide, rfl, rfl⟩
  · rw [if_neg c1]
    by_cases c2 : a1 ≤ 99
    · have hno : ¬ (a1 < 1 ∨ 99 < a1) := by
        rintro (x | x)
        · exact c1 x
        · exact absurd c2 (Int32.not_le.mpr x)
      rw [if_pos c2, if_neg hno, if_neg one_ne]
      by_cases c3 : nT D = 0
      · left
        have hz : nI (nT D) = 0 := by
          rw [c3]
          rfl
        rw [if_pos hz]
        exact ⟨_, by decide, rfl, rfl⟩
      · have hz : ¬ nI (nT D) = 0 := fun e => c3 ((nI_eq (a := nT D) (b := 0) (by omega) (by omega)).mp e)
        rw [if_neg hz]
        by_cases c4 : r 0 0 ≤ 9000
        · have hle : nI (r 0 0) ≤ (9000 : Int32) := (nI_le_iff (a := r 0 0) (b := 9000) (by omega) (by omega)).mpr c4
          right
          rw [if_pos hle]
          refine ⟨?_, c3, c4, rfl, rfl⟩
          rcases int_cases a1 with x | ⟨m, hm, rfl⟩
          · exact absurd (Int32.lt_trans x (by decide)) c1
          · refine ⟨m, rfl, ?_, (nI_le_iff (a := m) (b := 99) hm (by omega)).mp c2⟩
            by_cases hc : 1 ≤ m
            · exact hc
            · exact absurd ((nI_lt_iff (a := m) (b := 1) hm (by omega)).mpr (by omega)) c1
        · have hle : ¬ nI (r 0 0) ≤ (9000 : Int32) := fun e => c4 ((nI_le_iff (a := r 0 0) (b := 9000) (by omega) (by omega)).mp e)
          left
          rw [if_neg hle]
          exact ⟨_, by decide, rfl, rfl⟩
    · left
      have hyes : a1 < 1 ∨ 99 < a1 := Or.inr (Int32.not_le.mp c2)
      rw [if_neg c2, if_pos hyes, if_pos e0]
      exact ⟨_, by decide, rfl, rfl⟩
theorem e_day {s : DS} {σ τ : St} (ho : LandOk D) (h : DsOk D s) (hA : DsA D s σ) (hB : DsB D s τ) (hN : 7000 ≤ N) (a1 : Int32) :
    ∃ v s' wA w, o_X9_day N a1 σ = some (v, wA) ∧ DsA D s' wA ∧ o_X10_day N a1 τ = some (v, w) ∧ DsB D s' w ∧ DsOk D s' ∧ (∀ i, ¬ i = 28 → w 79 i = τ 79 i) ∧ ∀ i, 38 ≤ i → i < 160 → w 80 i = τ 80 i := by
  have a0 : RlA D s.1 σ := ⟨ho, hA.1, hA.2.1, h.1.1⟩
  have b0 : RlB D s.1 τ := ⟨ho, hB.1, hB.2.1, h.1.1⟩
  unfold o_X9_day o_X10_day bt
  dsimp only
  rcases e_refused a0 b0 a1 with ⟨v, hv, e1, e2⟩ | ⟨⟨m, rfl, m1, m2⟩, hT, hd, e1, e2⟩
  · have hn : ¬ v = 0 := fun e => by
      rw [e] at hv
      exact absurd hv (by decide)
    rw [e1, e2, if_neg hn, if_neg (Int32.not_le.mpr hv)]
    exact ⟨v, s, σ, τ, rfl, hA, rfl, hB, h, fun _ _ => rfl, fun _ _ _ => rfl⟩
  · have e0 : (0 : Int32) = 0 := rfl
    have e00 : (0 : Int32) ≤ 0 := by decide
    obtain ⟨wA, p1, p2⟩ := a_day_loop (N := N) ho hN m2 m N 0 s σ h hA (by omega) (by omega) (by omega)
    obtain ⟨w, q1, q2, q3, q4⟩ := b_day_loop (N := N) ho hN m2 m N 0 s τ h hB (by omega) (by omega) (by omega)
    rw [e1, e2, if_pos e0, if_pos e00]
    exact ⟨_, dyN D m s, wA, w, p1, p2, q1, q2, dyN_ok ho m s h (by omega), q3, q4⟩
end DAY
