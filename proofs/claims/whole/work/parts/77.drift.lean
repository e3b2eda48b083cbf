/-! days by draws, on both sides -/
abbrev DT : Type := DS × Nat
def DrOk (D : LD) (S : DT) : Prop := DsOk D S.1 ∧ S.2 < 2 ^ 31
def DrA (D : LD) (S : DT) (σ : St) : Prop := DsA D S.1 σ ∧ σ 62 0 = nI S.2
def DrB (D : LD) (S : DT) (τ : St) : Prop := DsB D S.1 τ ∧ τ 80 38 = nI S.2
noncomputable def kS (D : LD) (k : Nat) (S : DT) : DT := if S.1.1 0 0 < S.1.1 5 k then S else ((kbR D S.1.1 k (drV D S.2), S.1.2), nxS S.2)
noncomputable def ksS (D : LD) : Nat → Nat → DT → DT
  | 0, _, S => S
  | c + 1, k, S => ksS D c (k + 1) (kS D k S)
noncomputable def dfS (D : LD) (S : DT) : DT := (dyS D (ksS D (nK D) 0 S).1, (ksS D (nK D) 0 S).2)
noncomputable def dfN (D : LD) : Nat → DT → DT
  | 0, S => S
  | c + 1, S => dfN D c (dfS D S)
theorem PastA_of {D : LD} {n x : Nat} {R : Nat → RD} {σ w : St} (hw : ∀ a, (a = 25 ∨ 27 ≤ a ∧ a < 57) → w a = σ a) (h : PastA D n x R σ) : PastA D n x R w := by
  obtain ⟨h1, h2, h3, h4⟩ := h
  refine ⟨h1, ?_, ?_, fun i hi => ?_⟩
  · rw [hw 25 (Or.inl rfl)]
    exact h2
  · rw [hw 25 (Or.inl rfl)]
    exact h3
  · rw [hw _ (by omega)]
    exact h4 i hi
theorem PastB_of {D : LD} (ho : LandOk D) {n : Nat} {R : Nat → RD} {τ w : St} (h28 : w 79 28 = τ 79 28) (hw : ∀ i, 160 ≤ i → w 80 i = τ 80 i) (h : PastB D n R τ) : PastB D n R w := by
  obtain ⟨h1, h2⟩ := h
  refine ⟨h28.trans h1, fun i hi => rowB_mv ho (fun j hj => hw _ (by omega)) (h2 i hi)⟩
section DRIFT
variable {D : LD} {N : Nat}
theorem kS_ok (ho : LandOk D) {S : DT} (h : DrOk D S) {k : Nat} (hk : k < nK D) : DrOk D (kS D k S) ∧ (kS D k S).1.1 0 0 = S.1.1 0 0 := by
  unfold kS
  by_cases c : S.1.1 0 0 < S.1.1 5 k
  · rw [if_pos c]
    exact ⟨h, rfl⟩
  · rw [if_neg c]
    obtain ⟨i1, i2⟩ := kbR_ok (t := drV D S.2) ho h.1.1 hk
    exact ⟨⟨⟨i1, h.1.2⟩, nxS_lt _⟩, i2⟩
theorem ksS_ok (ho : LandOk D) : ∀ (c k : Nat) (S : DT), DrOk D S → k + c ≤ nK D → DrOk D (ksS D c k S) ∧ (ksS D c k S).1.1 0 0 = S.1.1 0 0
  | 0, _, S, h, _ => ⟨h, rfl⟩
  | c + 1, k, S, h, hk => by
    obtain ⟨i1, i2⟩ := kS_ok ho h (k := k) (by omega)
    obtain ⟨j1, j2⟩ := ksS_ok ho c (k + 1) (kS D k S) i1 (by omega)
    exact ⟨j1, j2.trans i2⟩
theorem dfS_ok (ho : LandOk D) {S : DT} (h : DrOk D S) (hd : S.1.1 0 0 < 9200) : DrOk D (dfS D S) ∧ (dfS D S).1.1 0 0 = S.1.1 0 0 + 1 := by
  obtain ⟨i1, i2⟩ := ksS_ok ho (nK D) 0 S h (by omega)
  refine ⟨⟨dyS_ok ho i1.1 (by omega), i1.2⟩, ?_⟩
  show pdR D (ksS D (nK D) 0 S).1.1 0 0 = _
  rw [pdR_0, i2]
theorem dfN_ok (ho : LandOk D) : ∀ (c : Nat) (S : DT), DrOk D S → S.1.1 0 0 + c ≤ 9200 → DrOk D (dfN D c S)
  | 0, S, h, _ => h
  | c + 1, S, h, hd => by
    obtain ⟨i1, i2⟩ := dfS_ok ho h (by omega)
    exact dfN_ok ho c (dfS D S) i1 (by omega)
theorem a_kS (ho : LandOk D) {S : DT} {σ : St} (h : DrOk D S) (hA : DrA D S σ) {k : Nat} (hk : k < nK D) (hN : 7000 ≤ N) :
    ∃ w, o_X9_drawFor N (nI k) σ = some ((), w) ∧ DrA D (kS D k S) w := by
  obtain ⟨⟨l1, r1, x, p1⟩, s1⟩ := hA
  have h7 := ho.p7
  have g : RlA D S.1.1 σ := ⟨ho, l1, r1, h.1.1.1⟩
  unfold o_X9_drawFor kS
  rw [a_onWay g hk]
  have e1 : ¬ b01 true = 0 := one_ne
  have e2 : b01 false = 0 := rfl
  by_cases c : S.1.1 0 0 < S.1.1 5 k
  · rw [decide_eq_true c, if_neg e1, if_pos c]
    exact ⟨σ, rfl, ⟨l1, r1, x, p1⟩, s1⟩
  · rw [decide_eq_false c, if_pos e2, if_neg c]
    obtain ⟨w, q1, q2, q3, q4⟩ := a_drawFor_loop (N := N) ho h.1.1 hk h.2 (nP D) N 0 σ l1 r1 s1 (by omega) (by omega)
    exact ⟨w, q1, ⟨LandA_of (fun a ha => q4 a (by omega)) l1, q2, x, PastA_of (fun a ha => q4 a (by omega)) p1⟩, q3⟩
theorem b_kS (ho : LandOk D) {S : DT} {τ : St} (h : DrOk D S) (hB : DrB D S τ) {k : Nat} (hk : k < nK D) (hN : 7000 ≤ N) {β : Type} (K : St → Option β) :
    ∃ w, (bd (o_X10_isOnWay N (nI k) τ) fun x6 σ7 => if x6 = 0 then (bd (o_X10_keeperByDraws N (nI k) σ7) fun _ σ11 => K σ11) else K σ7) = K w ∧ DrB D (kS D k S) w ∧ (∀ a, ¬ a = 80 → w a = τ a) ∧ ∀ i, 38 < i → w 80 i = τ 80 i := by
  obtain ⟨⟨l1, r1, p1⟩, s1⟩ := hB
  have h7 := ho.p7
  have g : RlB D S.1.1 τ := ⟨ho, l1, r1, h.1.1.1⟩
  unfold kS
  rw [b_onWay g hk, bd_some]
  have e1 : ¬ b01 true = 0 := one_ne
  have e2 : b01 false = 0 := rfl
  by_cases c : S.1.1 0 0 < S.1.1 5 k
  · rw [decide_eq_true c, if_neg e1, if_pos c]
    exact ⟨τ, rfl, ⟨⟨l1, r1, p1⟩, s1⟩, fun _ _ => rfl, fun _ _ => rfl⟩
  · rw [decide_eq_false c, if_pos e2, if_neg c]
    obtain ⟨w, q1, q2, q3, q4, q5⟩ := b_drawFor_loop (N := N) ho h.1.1 hk h.2 hN (nP D) N 0 τ l1 r1 s1 (by omega) (by omega)
    refine ⟨w, ?_, ⟨⟨LandB_80 q4 l1, q2, PastB_of ho (by rw [q4 79 (by decide)]) (fun i hi => q5 i (by omega)) p1⟩, q3⟩, q4, q5⟩
    rw [show o_X10_keeperByDraws N (nI k) τ = _ from q1, bd_some]
theorem a_dk_loop (ho : LandOk D) (hN : 7000 ≤ N) (K : Int32 → Int32 → St → Option (Int32 × St)) (v1 v3 : Int32) : ∀ (c n k : Nat) (S : DT) (σ : St), DrOk D S → DrA D S σ → S.1.1 0 0 < 9200 → k + c = nK D → c < n →
    ∃ w, l_X9_drift_22 N K n v1 v3 (nI k) σ = K v1 (v3 + 1) w ∧ DrA D (dyS D (ksS D c k S).1, (ksS D c k S).2) w
  | c, 0, _, _, _, _, _, _, _, hn => absurd hn (Nat.not_lt_zero _)
  | 0, n + 1, k, S, σ, h, hA, hd, hk, _ => by
    have h3 := ho.k3
    obtain ⟨w, q1, q2, q3⟩ := a_endDay (N := N) ho h.1 hA.1 hN
    refine ⟨w, ?_, q2, ?_⟩
    · rw [l_X9_drift_22, hA.1.1.1.2.2.1, if_pos (nI_le (by omega) (by omega)), q1, bd_some]
      rfl
    · rw [q3 62 (by omega)]
      exact hA.2
  | c + 1, n + 1, k, S, σ, h, hA, hd, hk, hn => by
    have h3 := ho.k3
    have es : nI (k + 1) = nI k + 1 := by rw [nI_succ]
    obtain ⟨w1, q1, q2⟩ := a_kS (N := N) ho h hA (k := k) (by omega) hN
    obtain ⟨i1, i2⟩ := kS_ok ho h (k := k) (by omega)
    obtain ⟨w, z1, z2⟩ := a_dk_loop ho hN K v1 v3 c n (k + 1) (kS D k S) w1 i1 q2 (by omega) (by omega) (by omega)
    refine ⟨w, ?_, z2⟩
    rw [l_X9_drift_22, hA.1.1.1.2.2.1, if_neg (nI_ge (by omega) (by omega)), q1, bd_some]
    unfold bt
    rw [← es]
    exact z1
theorem b_dk_loop (ho : LandOk D) (hN : 7000 ≤ N) (K : Int32 → Int32 → St → Option (Int32 × St)) (v1 v2 : Int32) : ∀ (c n k : Nat) (S : DT) (τ : St), DrOk D S → DrB D S τ → S.1.1 0 0 < 9200 → k + c = nK D → c < n →
    ∃ w, l_X10_drift_23 N K n v1 v2 (nI k) τ = K v1 (v2 + 1) w ∧ DrB D (dyS D (ksS D c k S).1, (ksS D c k S).2) w ∧ (∀ i, ¬ i = 28 → w 79 i = τ 79 i) ∧ ∀ i, 38 < i → i < 160 → w 80 i = τ 80 i
  | c, 0, _, _, _, _, _, _, _, hn => absurd hn (Nat.not_lt_zero _)
  | 0, n + 1, k, S, τ, h, hB, hd, hk, _ => by
    have h3 := ho.k3
    obtain ⟨w, q1, q2, q3, q4, q5⟩ := b_endDay (N := N) ho h.1 hB.1 hN
    refine ⟨w, ?_, ⟨q2, ?_⟩, q4, fun i h1 h2 => q5 i (by omega) h2⟩
    · rw [l_X10_drift_23, hB.1.1.1.2.2.1, if_pos (nI_le (by omega) (by omega)), q1, bd_some]
      rfl
    · rw [q5 38 (by omega) (by omega)]
      exact hB.2
  | c + 1, n + 1, k, S, τ, h, hB, hd, hk, hn => by
    have h3 := ho.k3
    have es : nI (k + 1) = nI k + 1 := by rw [nI_succ]
    obtain ⟨w1, q1, q2, q3, q4⟩ := b_kS (N := N) ho h hB (k := k) (by omega) hN (fun σ11 => j_X10_drift_44 N K (l_X10_drift_23 N K n) v1 v2 (nI k) σ11)
    obtain ⟨i1, i2⟩ := kS_ok ho h (k := k) (by omega)
    obtain ⟨w, z1, z2, z3, z4⟩ := b_dk_loop ho hN K v1 v2 c n (k + 1) (kS D k S) w1 i1 q2 (by omega) (by omega) (by omega)
    refine ⟨w, ?_, z2, fun i hi => (z3 i hi).trans (by rw [q3 79 (by decide)]), fun i h1 h2 => (z4 i h1 h2).trans (q4 i h1)⟩
    rw [l_X10_drift_23, hB.1.1.1.2.2.1, if_neg (nI_ge (by omega) (by omega))]
    refine q1.trans ?_
    unfold j_X10_drift_44 bt
    rw [← es]
    exact z1
theorem a_drift_loop (ho : LandOk D) (hN : 7000 ≤ N) {m : Nat} (hm : m ≤ 99) : ∀ (c n j : Nat) (S : DT) (σ : St), DrOk D S → DrA D S σ → S.1.1 0 0 + c ≤ 9200 → j + c = m → c < n →
    ∃ w, l_X9_drift_14 N n (nI m) (nI j) σ = some (nI ((dfN D c S).1.1 0 0), w) ∧ DrA D (dfN D c S) w
  | c, 0, _, _, _, _, _, _, _, hn => absurd hn (Nat.not_lt_zero _)
  | 0, n + 1, j, S, σ, h, hA, hd, hj, _ => by
    have ht : p_X1_today_23 σ = nI (S.1.1 0 0) := a_today hA.1.2.1
    refine ⟨σ, ?_, hA⟩
    rw [l_X9_drift_14, if_pos (nI_le (by omega) (by omega)), ht]
    rfl
  | c + 1, n + 1, j, S, σ, h, hA, hd, hj, hn => by
    have h3 := ho.k3
    have es : nI (j + 1) = nI j + 1 := by rw [nI_succ]
    obtain ⟨i1, i2⟩ := dfS_ok ho h (by omega)
    obtain ⟨w1, p1, p2⟩ := a_dk_loop (N := N) ho hN (l_X9_drift_14 N n) (nI m) (nI j) (nK D) N 0 S σ h hA (by omega) (by omega) (by omega)
    obtain ⟨w, q1, q2⟩ := a_drift_loop ho hN hm c n (j + 1) (dfS D S) w1 i1 p2 (by omega) (by omega) (by omega)
    refine ⟨w, ?_, q2⟩
    rw [l_X9_drift_14, if_neg (nI_ge (by omega) (by omega))]
    refine p1.trans ?_
    rw [← es]
    exact q1
theorem b_drift_loop (ho : LandOk D) (hN : 7000 ≤ N) {m : Nat} (hm : m ≤ 99) : ∀ (c n j : Nat) (S : DT) (τ : St), DrOk D S → DrB D S τ → S.1.1 0 0 + c ≤ 9200 → j + c = m → c < n →
    ∃ w, l_X10_drift_16 N n (nI m) (nI j) τ = some (nI ((dfN D c S).1.1 0 0), w) ∧ DrB D (dfN D c S) w ∧ (∀ i, ¬ i = 28 → w 79 i = τ 79 i) ∧ ∀ i, 38 < i → i < 160 → w 80 i = τ 80 i
  | c, 0, _, _, _, _, _, _, _, hn => absurd hn (Nat.not_lt_zero _)
  | 0, n + 1, j, S, τ, h, hB, hd, hj, _ => by
    have ht : τ 80 (37 : Int32).toNatClampNeg = nI (S.1.1 0 0) := b_today (⟨ho, hB.1.1, hB.1.2.1, h.1.1.1⟩ : RlB D S.1.1 τ)
    refine ⟨τ, ?_, hB, fun _ _ => rfl, fun _ _ _ => rfl⟩
    rw [l_X10_drift_16, if_pos (nI_le (by omega) (by omega)), ht]
    rfl
  | c + 1, n + 1, j, S, τ, h, hB, hd, hj, hn => by
    have h3 := ho.k3
    have es : nI (j + 1) = nI j + 1 := by rw [nI_succ]
    obtain ⟨i1, i2⟩ := dfS_ok ho h (by omega)
    obtain ⟨w1, p1, p2, p3, p4⟩ := b_dk_loop (N := N) ho hN (l_X10_drift_16 N n) (nI m) (nI j) (nK D) N 0 S τ h hB (by omega) (by omega) (by omega)
    obtain ⟨w, q1, q2, q3, q4⟩ := b_drift_loop ho hN hm c n (j + 1) (dfS D S) w1 i1 p2 (by omega) (by omega) (by omega)
    refine ⟨w, ?_, q2, fun i hi => (q3 i hi).trans (p3 i hi), fun i h1 h2 => (q4 i h1 h2).trans (p4 i h1 h2)⟩
    rw [l_X10_drift_16, if_neg (nI_ge (by omega) (by omega))]
    refine p1.trans ?_
    rw [← es]
    exact q1
theorem e_drift {S : DT} {σ τ : St} (ho : LandOk D) (h : DrOk D S) (hA : DrA D S σ) (hB : DrB D S τ) (hN : 7000 ≤ N) (a1 : Int32) :
    ∃ v S' wA w, o_X9_drift N a1 σ = some (v, wA) ∧ DrA D S' wA ∧ o_X10_drift N a1 τ = some (v, w) ∧ DrB D S' w ∧ DrOk D S' ∧ (∀ i, ¬ i = 28 → w 79 i = τ 79 i) ∧ ∀ i, 38 < i → i < 160 → w 80 i = τ 80 i := by
  have a0 : RlA D S.1.1 σ := ⟨ho, hA.1.1, hA.1.2.1, h.1.1.1⟩
  have b0 : RlB D S.1.1 τ := ⟨ho, hB.1.1, hB.1.2.1, h.1.1.1⟩
  unfold o_X9_drift o_X10_drift bt
  dsimp only
  rcases e_refused a0 b0 a1 with ⟨v, hv, e1, e2⟩ | ⟨⟨m, rfl, m1, m2⟩, hT, hd, e1, e2⟩
  · have hn : ¬ v = 0 := fun e => by
      rw [e] at hv
      exact absurd hv (by decide)
    rw [e1, e2, if_neg hn, if_neg (Int32.not_le.mpr hv)]
    exact ⟨v, S, σ, τ, rfl, hA, rfl, hB, h, fun _ _ => rfl, fun _ _ _ => rfl⟩
  · have e0 : (0 : Int32) = 0 := rfl
    have e00 : (0 : Int32) ≤ 0 := by decide
    obtain ⟨wA, p1, p2⟩ := a_drift_loop (N := N) ho hN m2 m N 0 S σ h hA (by omega) (by omega) (by omega)
    obtain ⟨w, q1, q2, q3, q4⟩ := b_drift_loop (N := N) ho hN m2 m N 0 S τ h hB (by omega) (by omega) (by omega)
    rw [e1, e2, if_pos e0, if_pos e00]
    exact ⟨_, dfN D m S, wA, w, p1, p2, q1, q2, dfN_ok ho m S h (by omega), q3, q4⟩
end DRIFT
