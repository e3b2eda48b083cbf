section STEPS2
variable {Q : WD} {σ τ w wA : St} {N : Nat}
theorem s_feed (hW : WR σ) (a1 : Int32) : StepR (some ((t_X9_feed a1 σ).1, (t_X9_feed a1 σ).2)) (o_X10_feed N a1) := by
  obtain ⟨Q, hO, hA, hB⟩ := hW
  refine mkStep hO hB (fun τ hτ => ?_) (fun v w e => ?_) (fun τ v w e => (fr_X10_feed e).lo rfl)
  · obtain ⟨v, n', l', w, z1, z2, z3, z4, z5, z6⟩ := e_feed (N := N) hA.2.2.1.1 hτ.2.2.1.1 a1
    have gA : ∀ c, ¬ c = 21 → ¬ c = 22 → (t_X9_feed a1 σ).2 c = σ c := fun c h1 h2 => fr_X9_feed a1 σ _ rfl c (by simp; omega)
    have gB : ∀ c, ¬ c = 79 → ¬ c = 93 → w c = τ c := fun c h1 h2 => fr_X10_feed z3 c (by simp; omega)
    refine ⟨v, _, w, (Q.1, Q.2.1, (n', l'), Q.2.2.2), by rw [z1], z3, hO, ⟨DrA_of (fun c hc => gA c (by omega) (by omega)) hA.1, ImA_of (fun c _ _ => gA c (by omega) (by omega)) hA.2.1, ⟨z2, z5.trans hA.2.2.1.2⟩, BookA_of (fun c _ _ => gA c (by omega) (by omega)) hA.2.2.2⟩,
      DrB_of hO.1 (fun i hi => z6 i (by omega)) (fun i => by rw [gB 80 (by omega) (by omega)]) (fun c _ _ => gB c (by omega) (by omega)) hτ.1, ImB_of hO.1 (gB 81 (by omega) (by omega)) (fun i _ _ => by rw [gB 80 (by omega) (by omega)]) hτ.2.1, ⟨z4, (z6 27 (by omega)).trans hτ.2.2.1.2⟩, BookB_of (z6 44 (by omega)) (gB 102 (by omega) (by omega)) (gB 103 (by omega) (by omega)) hτ.2.2.2⟩
  · rw [some_snd e]
    exact (fr_X9_feed a1 σ _ rfl).hi rfl
theorem s_write (hW : WR σ) (a1 a2 : Int32) : StepR (some ((t_X9_write a1 a2 σ).1, (t_X9_write a1 a2 σ).2)) (o_X10_write N a1 a2) := by
  obtain ⟨Q, hO, hA, hB⟩ := hW
  refine mkStep hO hB (fun τ hτ => ?_) (fun v w e => ?_) (fun τ v w e => (fr_X10_write e).lo rfl)
  · obtain ⟨v, n', b', d', w, z1, z2, z3, z4, z6⟩ := e_write (N := N) (WD.rlA hO hA) (WD.rlB hO hτ) hA.2.2.2 hτ.2.2.2 a1 a2
    have gA : ∀ c, ¬ (74 ≤ c ∧ c ≤ 76) → (t_X9_write a1 a2 σ).2 c = σ c := fun c h1 => fr_X9_write a1 a2 σ _ rfl c (by simp; omega)
    have gB : ∀ c, ¬ c = 79 → ¬ c = 102 → ¬ c = 103 → w c = τ c := fun c h1 h2 h3 => fr_X10_write z3 c (by simp; omega)
    refine ⟨v, _, w, (Q.1, Q.2.1, Q.2.2.1, (n', b', d'), Q.2.2.2.2), by rw [z1], z3, hO, ⟨DrA_of (fun c hc => gA c (by omega)) hA.1, ImA_of (fun c _ _ => gA c (by omega)) hA.2.1, ⟨TextA_of (by rw [gA 21 (by omega)]) (gA 22 (by omega)) hA.2.2.1.1, by rw [gA 21 (by omega)]; exact hA.2.2.1.2⟩, z2⟩,
      DrB_of hO.1 (fun i hi => z6 i (by omega)) (fun i => by rw [gB 80 (by omega) (by omega) (by omega)]) (fun c _ _ => gB c (by omega) (by omega) (by omega)) hτ.1, ImB_of hO.1 (gB 81 (by omega) (by omega) (by omega)) (fun i _ _ => by rw [gB 80 (by omega) (by omega) (by omega)]) hτ.2.1, ⟨TextB_of (z6 23 (by omega)) (gB 93 (by omega) (by omega) (by omega)) hτ.2.2.1.1, (z6 27 (by omega)).trans hτ.2.2.1.2⟩, z4⟩
  · rw [some_snd e]
    exact (fr_X9_write a1 a2 σ _ rfl).hi rfl
theorem s_tear (hW : WR σ) : StepR (some ((t_X9_tear σ).1, (t_X9_tear σ).2)) (fun τ => some ((t_X10_tear τ).1, (t_X10_tear τ).2)) := by
  obtain ⟨Q, hO, hA, hB⟩ := hW
  refine mkStep hO hB (fun τ hτ => ?_) (fun v w e => ?_) (fun τ v w e => ?_)
  · obtain ⟨z1, z2, z3⟩ := e_tear hA.2.2.2 hτ.2.2.2
    have gA : ∀ c, ¬ c = 74 → (t_X9_tear σ).2 c = σ c := fun c h1 => fr_X9_tear σ _ rfl c (by simp; omega)
    have gB : ∀ c, ¬ c = 79 → (t_X10_tear τ).2 c = τ c := fun c h1 => fr_X10_tear τ _ rfl c (by simp; omega)
    have z6 : ∀ i, ¬ i = 44 → (t_X10_tear τ).2 79 i = τ 79 i := fun i hi => (show st τ 79 44 0 79 i = τ 79 i from st_place hi)
    refine ⟨_, _, _, (Q.1, Q.2.1, Q.2.2.1, (0, Q.2.2.2.1.2), Q.2.2.2.2), rfl, by rw [z1], hO, ⟨DrA_of (fun c hc => gA c (by omega)) hA.1, ImA_of (fun c _ _ => gA c (by omega)) hA.2.1, ⟨TextA_of (by rw [gA 21 (by omega)]) (gA 22 (by omega)) hA.2.2.1.1, by rw [gA 21 (by omega)]; exact hA.2.2.1.2⟩, z2⟩,
      DrB_of hO.1 (fun i hi => z6 i (by omega)) (fun i => by rw [gB 80 (by omega)]) (fun c _ _ => gB c (by omega)) hτ.1, ImB_of hO.1 (gB 81 (by omega)) (fun i _ _ => by rw [gB 80 (by omega)]) hτ.2.1, ⟨TextB_of (z6 23 (by omega)) (gB 93 (by omega)) hτ.2.2.1.1, (z6 27 (by omega)).trans hτ.2.2.1.2⟩, z3⟩
  · rw [some_snd e]
    exact (fr_X9_tear σ _ rfl).hi rfl
  · rw [some_snd e]
    exact (fr_X10_tear τ _ rfl).lo rfl
theorem s_seed (hW : WR σ) (a1 : Int32) : StepR (some ((t_X9_seed a1 σ).1, (t_X9_seed a1 σ).2)) (fun τ => some ((t_X10_seed a1 τ).1, (t_X10_seed a1 τ).2)) := by
  obtain ⟨Q, hO, hA, hB⟩ := hW
  refine mkStep hO hB (fun τ hτ => ?_) (fun v w e => ?_) (fun τ v w e => ?_)
  · obtain ⟨v, s', z0, z1, z2, z3, z4, z5⟩ := e_seed hO.2.1.2 hA.1.2 hτ.1.2 a1
    have gA : ∀ c, ¬ c = 62 → (t_X9_seed a1 σ).2 c = σ c := fun c h1 => fr_X9_seed a1 σ _ rfl c (by simp; omega)
    have gB : ∀ c, ¬ c = 80 → (t_X10_seed a1 τ).2 c = τ c := fun c h1 => fr_X10_seed a1 τ _ rfl c (by simp; omega)
    obtain ⟨⟨b1, b2, b3⟩, b4⟩ := hτ.1
    obtain ⟨⟨a1', a2', x, a3'⟩, a4'⟩ := hA.1
    obtain ⟨Q', q⟩ := WD.mk' (Q := Q) (S' := (Q.S.1, s')) hO.1 hA hτ rfl ⟨hO.2.1.1, z0⟩ ⟨⟨LandA_of (fun c _ => gA c (by omega)) a1', by rw [gA 24 (by omega)]; exact a2', x, PastA_of (fun c hc => gA c (by omega)) a3'⟩, z2⟩
      ⟨⟨LandB_of (fun i _ => by rw [gB 79 (by omega)]) (fun c _ _ => gB c (by omega)) b1, rowB_mv (x := 0) (y := 0) hO.1 (fun i hi => z5 _ (by omega)) b2, PastB_of hO.1 (by rw [gB 79 (by omega)]) (fun i hi => z5 i (by omega)) b3⟩, z4⟩ hO.2.2 (ImA_of (fun c _ _ => gA c (by omega)) hA.2.1) (ImB_of hO.1 (gB 81 (by omega)) (fun i _ _ => z5 i (by omega)) hτ.2.1) (fun c hc => gA c (by omega)) (fun i hi => by rw [gB 79 (by omega)]) (fun c hc => gB c (by omega))
    exact ⟨v, _, _, Q', by rw [z1], by rw [z3], q⟩
  · rw [some_snd e]
    exact (fr_X9_seed a1 σ _ rfl).hi rfl
  · rw [some_snd e]
    exact (fr_X10_seed a1 τ _ rfl).lo rfl
theorem s_judge (hN : 7000 ≤ N) (hW : WR σ) : StepR (o_X9_judge N σ) (o_X10_judge N) := by
  obtain ⟨Q, hO, hA, hB⟩ := hW
  refine mkStep hO hB (fun τ hτ => ?_) (fun v w e => (fr_X9_judge e).hi rfl) (fun τ v w e => (fr_X10_judge e).lo rfl)
  obtain ⟨v, wA, w, z1, z2, z3, z4, z5⟩ := e_judge (N := N) (WD.rlA hO hA) (WD.rlB hO hτ) hA.2.2.2 hτ.2.2.2 hN
  obtain ⟨⟨b1, b2, b3⟩, b4⟩ := hτ.1
  refine ⟨v, wA, w, Q, z1, z2, hO, WD.A_of (fun c hc => z3 c (by omega)) hA, ⟨⟨LandB_of (fun i _ => by rw [z4 79 (by omega)]) (fun c _ _ => z4 c (by omega)) b1, rowB_mv (x := 0) (y := 0) hO.1 (fun i hi => z5 _ (by omega)) b2, PastB_of hO.1 (by rw [z4 79 (by omega)]) (fun i hi => z5 i (by omega)) b3⟩, by rw [z5 38 (by omega)]; exact b4⟩, ImB_of hO.1 (z4 81 (by omega)) (fun i _ _ => z5 i (by omega)) hτ.2.1, ⟨TextB_of (by rw [z4 79 (by omega)]) (z4 93 (by omega)) hτ.2.2.1.1, by rw [z4 79 (by omega)]; exact hτ.2.2.1.2⟩, BookB_of (by rw [z4 79 (by omega)]) (z4 102 (by omega)) (z4 103 (by omega)) hτ.2.2.2⟩
theorem s_land (hN : 7000 ≤ N) (hW : WR σ) : StepR (o_X9_land N σ) (o_X10_land N) := by
  obtain ⟨Q, hO, hA, hB⟩ := hW
  refine mkStep hO hB (fun τ hτ => ?_) (fun v w e => (fr_X9_land e).hi rfl) (fun τ v w e => (fr_X10_land e).lo rfl)
  have hl : ∀ i, i < Q.n → Q.l i ≤ 255 := fun i hi => (hA.2.2.1.1.2.2 i hi).2
  obtain ⟨v, wA, z1, t1, z2⟩ := a_land (N := N) hA.2.2.1.1 hN
  obtain ⟨v', w, y1, t2, y2⟩ := b_land (N := N) hτ.2.2.1.1 hl hN
  have gB : ∀ c, ¬ (79 ≤ c ∧ c ≤ 92) → w c = τ c := fun c h1 => fr_X10_land y1 c (by simp; omega)
  have gA : ∀ c, ¬ (c ≤ 25 ∨ c = 57 ∨ c = 74) → wA c = σ c := fun c h1 => fr_X9_land z1 c (by simp; omega)
  have e0 : (0 : Int32) = nI 0 := rfl
  cases hr : prN Q.n Q.l 250 rawD 0 with
  | inl e =>
    rw [hr] at z2 y2
    obtain ⟨z3, z4, z5⟩ := z2
    obtain ⟨y3, y4, -, m, y5, y6⟩ := y2
    have hv : v = v' := z3.trans y3.symm
    subst hv
    have w79 : ∀ i, ¬ (6 ≤ i ∧ i ≤ 9 ∨ i = 21 ∨ 23 ≤ i ∧ i ≤ 27) → w 79 i = τ 79 i := fun i hi => by rw [y6, st_place (by omega)]; exact y5.2.1 i (by omega)
    have wc : ∀ c, ¬ (c = 79 ∨ c = 82 ∨ 84 ≤ c ∧ c ≤ 92) → w c = τ c := fun c hc => by rw [y6, st_cell (by omega)]; exact y5.1 c hc
    have w3 : ∀ i, i < 3 → w 84 i = τ 84 i ∧ w 85 i = τ 85 i ∧ w 92 i = τ 92 i := fun i hi => by
      rw [y6, st_cell (by decide), st_cell (by decide), st_cell (by decide)]
      exact y5.2.2.1 i hi
    have w7 : ∀ c i, 86 ≤ c → c ≤ 91 → i < 7 → w c i = τ c i := fun c i h1 h2 h3 => by
      rw [y6, st_cell (by omega)]
      exact y5.2.2.2 c i h1 h2 h3
    have hL : LandB Q.D w := by
      obtain ⟨b1, b2, b3, b4, b5⟩ := hτ.1.1.1
      have h7 := hO.1.p7
      have h3 := hO.1.k3
      refine ⟨by rw [w79 2 (by omega), w79 3 (by omega), w79 4 (by omega), w79 5 (by omega)]; exact b1, by rw [(w3 0 (by omega)).2.2, (w3 1 (by omega)).2.2, (w3 2 (by omega)).2.2]; exact b2, fun k hk => by rw [(w3 k (by omega)).1, (w3 k (by omega)).2.1]; exact b3 k hk, fun p hp => by rw [w7 86 p (by omega) (by omega) (by omega), w7 87 p (by omega) (by omega) (by omega), w7 88 p (by omega) (by omega) (by omega), w7 89 p (by omega) (by omega) (by omega), w7 90 p (by omega) (by omega) (by omega), w7 91 p (by omega) (by omega) (by omega)]; exact b4 p hp, fun i hi => by rw [wc 83 (by omega)]; exact b5 i hi⟩
    refine ⟨v, wA, w, (Q.1, Q.2.1, (0, Q.l), Q.2.2.2.1, nI e.2), z1, y1, hO, ⟨DrA_of (fun c hc => z5 c (by omega)) hA.1 , ImA_of (fun c _ _ => z5 c (by omega)) hA.2.1, ⟨⟨Nat.zero_le _, t1, fun i hi => absurd hi (Nat.not_lt_zero _)⟩, z4⟩, BookA_of (fun c _ _ => z5 c (by omega)) hA.2.2.2⟩,
      ⟨⟨hL, by rw [wc 80 (by omega)]; exact hτ.1.1.2.1, PastB_of hO.1 (w79 28 (by omega)) (fun i _ => by rw [wc 80 (by omega)]) hτ.1.1.2.2⟩, by rw [wc 80 (by omega)]; exact hτ.1.2⟩, ImB_of hO.1 (wc 81 (by omega)) (fun i _ _ => by rw [wc 80 (by omega)]) hτ.2.1, ⟨⟨Nat.zero_le _, t2, fun i hi => absurd hi (Nat.not_lt_zero _)⟩, y4⟩, BookB_of (w79 44 (by omega)) (wc 102 (by omega)) (wc 103 (by omega)) hτ.2.2.2⟩
  | inr D =>
    rw [hr] at z2 y2
    obtain ⟨z3, z4, z5, z6, z7, z8, z9, z10, z11⟩ := z2
    obtain ⟨y3, y4, y5, y6, y7, y8, y9, y10, y11, y12⟩ := y2
    have hv : v = v' := z3.trans y3.symm
    subst hv
    have ho := fwD_ok y5
    obtain ⟨x, hx⟩ := hA.1.1.2.2
    refine ⟨v, wA, w, ((fwD D, ((begR (fwD D), 0, fun _ => begR (fwD D)), Q.S.2)), (fun _ => false, fun _ => begR (fwD D), fun _ => 0), (0, Q.l), (0, Q.b, Q.d), -1), z1, y1, ⟨ho, ⟨⟨beg_ok ho, Nat.zero_le _, fun i hi => absurd hi (Nat.not_lt_zero _)⟩, hO.2.1.2⟩, fun q _ e => by cases e⟩,
      ⟨⟨⟨z5, z6, x, hx.1, z7.trans hx.2.1, z8, fun i hi => absurd hi (Nat.not_lt_zero _)⟩, by rw [z11]; exact hA.1.2⟩, fun q hq => ⟨?_, fun e => by cases e⟩, ⟨⟨Nat.zero_le _, t1, fun i hi => absurd hi (Nat.not_lt_zero _)⟩, z4⟩, Nat.zero_le _, z10, fun i hi => absurd hi (Nat.not_lt_zero _)⟩,
      ⟨⟨y6, y7, y10, fun i hi => absurd hi (Nat.not_lt_zero _)⟩, y8.trans hτ.1.2⟩, fun q hq => ⟨?_, fun e => by cases e⟩, ⟨⟨Nat.zero_le _, t2, fun i hi => absurd hi (Nat.not_lt_zero _)⟩, y4⟩, Nat.zero_le _, y9, fun i hi => absurd hi (Nat.not_lt_zero _)⟩
    · rw [z9]
      show bit 0 q = false
      have : ∀ q : Fin 2, bit 0 q.val = false := by decide
      exact this ⟨q, hq⟩
    · rcases (by omega : q = 0 ∨ q = 1) with e | e
      · rw [e, y11]
        rfl
      · rw [e, y12]
        rfl
end STEPS2
