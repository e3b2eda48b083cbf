/-! the law's steps, one by one -/
section STEPS
variable {Q : WD} {σ τ w wA : St} {N : Nat}
theorem Fm1 {a : Nat} (h : Fm [a] σ w) : ∀ c, ¬ c = a → w c = σ c := fun c hc => h c (by simpa using hc)
theorem WD.mk' {D : LD} {S' : DT} {kp' : Nat → Bool} {I' : Nat → RD} {sd' : Nat → Nat} (ho : LandOk D) (hA : Q.A σ) (hB : Q.B τ) (hD : Q.D = D) (h1 : DrOk D S') (h2 : DrA D S' wA) (h3 : DrB D S' w) (i1 : ImOk D kp' I' sd') (i2 : ImA D kp' I' sd' wA) (i3 : ImB D kp' I' sd' w)
    (gA : ∀ c, c = 21 ∨ c = 22 ∨ 74 ≤ c ∧ c ≤ 76 → wA c = σ c) (g79 : ∀ i, i = 23 ∨ i = 27 ∨ i = 44 → w 79 i = τ 79 i) (gB : ∀ c, c = 93 ∨ c = 102 ∨ c = 103 → w c = τ c) : ∃ Q' : WD, Q'.O ∧ Q'.A wA ∧ Q'.B w := by
  subst hD
  exact ⟨((Q.D, S'), (kp', I', sd'), Q.2.2), ⟨ho, h1, i1⟩, ⟨h2, i2, ⟨TextA_of (by rw [gA 21 (by omega)]) (gA 22 (by omega)) hA.2.2.1.1, by rw [gA 21 (by omega)]; exact hA.2.2.1.2⟩, BookA_of (fun c h1 h2 => gA c (by omega)) hA.2.2.2⟩,
    h3, i3, ⟨TextB_of (g79 23 (by omega)) (gB 93 (by omega)) hB.2.2.1.1, by rw [g79 27 (by omega)]; exact hB.2.2.1.2⟩, BookB_of (g79 44 (by omega)) (gB 102 (by omega)) (gB 103 (by omega)) hB.2.2.2⟩
theorem WD.row {r' : RD} (hO : Q.O) (hA : Q.A σ) (hB : Q.B τ) (fA : Fm [24] σ wA) (fB : Fm [80] τ w) (h1 : RowA Q.D r' (wA 24)) (h2 : RowB Q.D r' (w 80) 0) (h3 : ∀ i, 38 ≤ i → w 80 i = τ 80 i) (hok : RowOk Q.D r') : ∃ Q' : WD, Q'.O ∧ Q'.A wA ∧ Q'.B w := by
  obtain ⟨⟨a1, a2, x, a3⟩, a4⟩ := hA.1
  obtain ⟨⟨b1, b2, b3⟩, b4⟩ := hB.1
  have gA := Fm1 fA
  have gB := Fm1 fB
  refine WD.mk' (S' := ((r', Q.S.1.2), Q.S.2)) hO.1 hA hB rfl ⟨⟨hok, hO.2.1.1.2⟩, hO.2.1.2⟩ ⟨⟨LandA_of (fun a ha => gA a (by omega)) a1, h1, x, PastA_of (fun a ha => gA a (by omega)) a3⟩, by rw [gA 62 (by omega)]; exact a4⟩ ⟨⟨LandB_of (fun i _ => by rw [gB 79 (by omega)]) (fun a _ _ => gB a (by omega)) b1, h2, PastB_of hO.1 (by rw [gB 79 (by omega)]) (fun i hi => h3 i (by omega)) b3⟩, by rw [h3 38 (by omega)]; exact b4⟩ hO.2.2 (ImA_of (fun c _ _ => gA c (by omega)) hA.2.1) (ImB_of hO.1 (gB 81 (by omega)) (fun i _ _ => h3 i (by omega)) hB.2.1) (fun c hc => gA c (by omega)) (fun i _ => by rw [gB 79 (by omega)]) (fun c hc => gB c (by omega))
theorem WD.ask (hO : Q.O) (hA : Q.A σ) (hB : Q.B τ) (fA : FrC σ wA) (fB : FrM τ w) : ∃ Q' : WD, Q'.O ∧ Q'.A wA ∧ Q'.B w :=
  ⟨Q, hO, WD.A_of (fun c hc => fA c (by omega)) hA, WD.B_of hO.1 (fun c hc => fB.1 c (by omega)) fB.2 hB⟩
theorem FrC.rf' : FrC σ σ := fun _ _ => rfl
theorem FrM.rf' : FrM σ σ := ⟨fun _ _ => rfl, fun _ _ => rfl⟩
theorem some_snd {v v' : Int32} {a w : St} (e : some (v', a) = some (v, w)) : w = a := (congrArg Prod.snd (Option.some.inj e)).symm
theorem s_go (hW : WR σ) (a1 a2 : Int32) : StepR (some ((t_X9_go a1 a2 σ).1, (t_X9_go a1 a2 σ).2)) (o_X10_go N a1 a2) := by
  obtain ⟨Q, hO, hA, hB⟩ := hW
  refine mkStep hO hB (fun τ hτ => ?_) (fun v w e => ?_) (fun τ v w e => (fr_X10_go e).lo rfl)
  · obtain ⟨v, r', w, z1, z2, z3, z4, z5, z6, z7⟩ := e_go (N := N) (WD.rlA hO hA) (WD.rlB hO hτ) a1 a2
    have hok : RowOk Q.D r' := by
      rcases z6 with rfl | ⟨k, b, rfl⟩
      · exact hO.2.1.1.1
      · exact goR_ok z5 hO.2.1.1.1
    obtain ⟨Q', q⟩ := WD.row hO hA hτ (fr_X9_go a1 a2 σ _ rfl) (fr_X10_go z3) z2 z4 z7 hok
    exact ⟨v, _, w, Q', by rw [z1], z3, q⟩
  · rw [some_snd e]
    exact (fr_X9_go a1 a2 σ _ rfl).hi rfl
theorem s_swap (hW : WR σ) (a1 a2 : Int32) : StepR (some ((t_X9_swap a1 a2 σ).1, (t_X9_swap a1 a2 σ).2)) (o_X10_swap N a1 a2) := by
  obtain ⟨Q, hO, hA, hB⟩ := hW
  refine mkStep hO hB (fun τ hτ => ?_) (fun v w e => ?_) (fun τ v w e => (fr_X10_swap e).lo rfl)
  · obtain ⟨v, r', w, z1, z2, z3, z4, z5, z6, z7⟩ := e_swap (N := N) (WD.rlA hO hA) (WD.rlB hO hτ) a1 a2
    have hok : RowOk Q.D r' := by
      rcases z6 with rfl | ⟨p, q, -, rfl⟩
      · exact hO.2.1.1.1
      · exact swR_ok z5 hO.2.1.1.1
    obtain ⟨Q', q⟩ := WD.row hO hA hτ (fr_X9_swap a1 a2 σ _ rfl) (fr_X10_swap z3) z2 z4 z7 hok
    exact ⟨v, _, w, Q', by rw [z1], z3, q⟩
  · rw [some_snd e]
    exact (fr_X9_swap a1 a2 σ _ rfl).hi rfl
theorem s_keep (hN : 7000 ≤ N) (hW : WR σ) (a1 : Int32) : StepR (o_X9_keep N a1 σ) (o_X10_keep N a1) := by
  obtain ⟨Q, hO, hA, hB⟩ := hW
  refine mkStep hO hB (fun τ hτ => ?_) (fun v w e => (fr_X9_keep e).hi rfl) (fun τ v w e => (fr_X10_keep e).lo rfl)
  obtain ⟨v, r', wA, w, z1, z2, z3, z4, z5, z6, z7⟩ := e_keep (N := N) (WD.rlA hO hA) (WD.rlB hO hτ) hO.2.1.1.1.2.1 hN a1
  have hok : RowOk Q.D r' := by
    rcases z6 with rfl | ⟨p, hp, rfl⟩
    · exact hO.2.1.1.1
    · exact kpR_ok hO.1 hp.1 hp.2 hO.2.1.1.1
  obtain ⟨Q', q⟩ := WD.row hO hA hτ (fr_X9_keep z1) (fr_X10_keep z3) z2 z4 z7 hok
  exact ⟨v, _, w, Q', z1, z3, q⟩
theorem s_takeDown (hN : 7000 ≤ N) (hW : WR σ) (a1 : Int32) : StepR (o_X9_takeDown N a1 σ) (o_X10_takeDown N a1) := by
  obtain ⟨Q, hO, hA, hB⟩ := hW
  refine mkStep hO hB (fun τ hτ => ?_) (fun v w e => (fr_X9_takeDown e).hi rfl) (fun τ v w e => (fr_X10_takeDown e).lo rfl)
  obtain ⟨v, r', wA, w, z1, z2, z3, z4, z5, z7⟩ := e_takeDown (N := N) (WD.rlA hO hA) (WD.rlB hO hτ) hO.2.1.1.1 hN a1
  obtain ⟨Q', q⟩ := WD.row hO hA hτ (fr_X9_takeDown z1) (fr_X10_takeDown z3) z2 z4 z7 z5
  exact ⟨v, _, w, Q', z1, z3, q⟩
theorem s_day (hN : 7000 ≤ N) (hW : WR σ) (a1 : Int32) : StepR (o_X9_day N a1 σ) (o_X10_day N a1) := by
  obtain ⟨Q, hO, hA, hB⟩ := hW
  refine mkStep hO hB (fun τ hτ => ?_) (fun v w e => (fr_X9_day e).hi rfl) (fun τ v w e => (fr_X10_day e).lo rfl)
  obtain ⟨v, s', wA, w, z1, z2, z3, z4, z5, z6, z7⟩ := e_day (N := N) hO.1 hO.2.1.1 hA.1.1 hτ.1.1 hN a1
  have gA : ∀ c, c < 24 ∨ 57 ≤ c → wA c = σ c := fun c hc => fr_X9_day z1 c (by simp; omega)
  have gB : ∀ c, ¬ c = 79 → ¬ c = 80 → w c = τ c := fun c h1 h2 => fr_X10_day z3 c (by simp; omega)
  obtain ⟨Q', q⟩ := WD.mk' (S' := (s', Q.S.2)) hO.1 hA hτ rfl ⟨z5, hO.2.1.2⟩ ⟨z2, by rw [gA 62 (by omega)]; exact hA.1.2⟩ ⟨z4, by rw [z7 38 (by omega) (by omega)]; exact hτ.1.2⟩ hO.2.2 (ImA_of (fun c _ _ => gA c (by omega)) hA.2.1) (ImB_of hO.1 (gB 81 (by omega) (by omega)) (fun i _ _ => z7 i (by omega) (by omega)) hτ.2.1) (fun c hc => gA c (by omega)) (fun i hi => z6 i (by omega)) (fun c hc => gB c (by omega) (by omega))
  exact ⟨v, _, w, Q', z1, z3, q⟩
theorem s_drift (hN : 7000 ≤ N) (hW : WR σ) (a1 : Int32) : StepR (o_X9_drift N a1 σ) (o_X10_drift N a1) := by
  obtain ⟨Q, hO, hA, hB⟩ := hW
  refine mkStep hO hB (fun τ hτ => ?_) (fun v w e => (fr_X9_drift e).hi rfl) (fun τ v w e => (fr_X10_drift e).lo rfl)
  obtain ⟨v, S', wA, w, z1, z2, z3, z4, z5, z6, z7⟩ := e_drift (N := N) hO.1 hO.2.1 hA.1 hτ.1 hN a1
  have gA : ∀ c, c < 24 ∨ 57 ≤ c → ¬ c = 62 → wA c = σ c := fun c hc h2 => fr_X9_drift z1 c (by simp; omega)
  have gB : ∀ c, ¬ c = 79 → ¬ c = 80 → w c = τ c := fun c h1 h2 => fr_X10_drift z3 c (by simp; omega)
  obtain ⟨Q', q⟩ := WD.mk' (S' := S') hO.1 hA hτ rfl z5 z2 z4 hO.2.2 (ImA_of (fun c _ _ => gA c (by omega) (by omega)) hA.2.1) (ImB_of hO.1 (gB 81 (by omega) (by omega)) (fun i _ _ => z7 i (by omega) (by omega)) hτ.2.1) (fun c hc => gA c (by omega) (by omega)) (fun i hi => z6 i (by omega)) (fun c hc => gB c (by omega) (by omega))
  exact ⟨v, _, w, Q', z1, z3, q⟩
theorem s_undo (hN : 7000 ≤ N) (hW : WR σ) (a1 : Int32) : StepR (o_X9_undo N a1 σ) (o_X10_undo N a1) := by
  obtain ⟨Q, hO, hA, hB⟩ := hW
  refine mkStep hO hB (fun τ hτ => ?_) (fun v w e => (fr_X9_undo e).hi rfl) (fun τ v w e => (fr_X10_undo e).lo rfl)
  obtain ⟨v, s', wA, w, z1, z2, z3, z4, z5, z8, z6, z7⟩ := e_undo (N := N) hO.1 hO.2.1.1 hA.1.1 hτ.1.1 hN a1
  have gA : ∀ c, ¬ c = 24 → ¬ c = 25 → wA c = σ c := fun c h1 h2 => fr_X9_undo z1 c (by simp; omega)
  have gB : ∀ c, ¬ c = 79 → ¬ c = 80 → w c = τ c := fun c h1 h2 => fr_X10_undo z3 c (by simp; omega)
  obtain ⟨Q', q⟩ := WD.mk' (S' := (s', Q.S.2)) hO.1 hA hτ rfl ⟨z5, hO.2.1.2⟩ ⟨z2, by rw [gA 62 (by omega) (by omega)]; exact hA.1.2⟩ ⟨z4, by rw [z8]; exact hτ.1.2⟩ hO.2.2 (ImA_of (fun c _ _ => gA c (by omega) (by omega)) hA.2.1) (ImB_of hO.1 (gB 81 (by omega) (by omega)) (fun i _ _ => z7 i (by omega)) hτ.2.1) (fun c hc => gA c (by omega) (by omega)) (fun i hi => z6 i (by omega)) (fun c hc => gB c (by omega) (by omega))
  exact ⟨v, _, w, Q', z1, z3, q⟩
theorem s_image (hN : 7000 ≤ N) (hW : WR σ) (a1 : Int32) : StepR (some ((t_X9_image a1 σ).1, (t_X9_image a1 σ).2)) (o_X10_image N a1) := by
  obtain ⟨Q, hO, hA, hB⟩ := hW
  refine mkStep hO hB (fun τ hτ => ?_) (fun v w e => ?_) (fun τ v w e => (fr_X10_image e).lo rfl)
  · obtain ⟨v, S', kp', I', sd', w, z1, z2, z3, z4, z5, z6, z7, z8, z9⟩ := e_image (N := N) hO.1 hO.2.1 hA.1 hτ.1 hA.2.1 hτ.2.1 hO.2.2 hN a1
    have gA : ∀ c, ¬ c = 25 → ¬ (57 ≤ c ∧ c ≤ 61) → (t_X9_image a1 σ).2 c = σ c := fun c h1 h2 => fr_X9_image a1 σ _ rfl c (by simp; omega)
    have gB : ∀ c, ¬ c = 79 → ¬ c = 80 → ¬ c = 81 → w c = τ c := fun c h1 h2 h3 => fr_X10_image z4 c (by simp; omega)
    obtain ⟨Q', q⟩ := WD.mk' hO.1 hA hτ rfl z7 z2 z5 z8 z3 z6 (fun c hc => gA c (by omega) (by omega)) (fun i hi => z9 i (by omega)) (fun c hc => gB c (by omega) (by omega) (by omega))
    exact ⟨v, _, w, Q', by rw [z1], z4, q⟩
  · rw [some_snd e]
    exact (fr_X9_image a1 σ _ rfl).hi rfl
theorem s_goBack (hN : 7000 ≤ N) (hW : WR σ) (a1 : Int32) : StepR (some ((t_X9_goBack a1 σ).1, (t_X9_goBack a1 σ).2)) (o_X10_goBack N a1) := by
  obtain ⟨Q, hO, hA, hB⟩ := hW
  refine mkStep hO hB (fun τ hτ => ?_) (fun v w e => ?_) (fun τ v w e => (fr_X10_goBack e).lo rfl)
  · obtain ⟨v, S', w, z1, z2, z3, z4, z5, z6, z7, z9⟩ := e_goBack (N := N) hO.1 hO.2.1 hA.1 hτ.1 hA.2.1 hτ.2.1 hO.2.2 hN a1
    have gA : ∀ c, ¬ c = 24 → ¬ c = 25 → ¬ c = 62 → (t_X9_goBack a1 σ).2 c = σ c := fun c h1 h2 h3 => fr_X9_goBack a1 σ _ rfl c (by simp; omega)
    have gB : ∀ c, ¬ c = 79 → ¬ c = 80 → w c = τ c := fun c h1 h2 => fr_X10_goBack z4 c (by simp; omega)
    obtain ⟨Q', q⟩ := WD.mk' hO.1 hA hτ rfl z7 z2 z5 hO.2.2 z3 z6 (fun c hc => gA c (by omega) (by omega) (by omega)) (fun i hi => z9 i (by omega)) (fun c hc => gB c (by omega) (by omega))
    exact ⟨v, _, w, Q', by rw [z1], z4, q⟩
  · rw [some_snd e]
    exact (fr_X9_goBack a1 σ _ rfl).hi rfl
theorem s_told (hN : 7000 ≤ N) (hW : WR σ) (a1 : Int32) : StepR (o_X9_told N a1 σ) (o_X10_told N a1) := by
  obtain ⟨Q, hO, hA, hB⟩ := hW
  obtain ⟨x, hx⟩ := hA.1.1.2.2
  obtain ⟨v, z1, z2⟩ := e_told (N := N) (WD.rl0 hO hA hB) (by rw [hA.2.2.1.1.2.1, hB.2.2.1.1.2.1]) (by rw [hA.2.2.2.2.1, hB.2.2.2.2.1]) (by rw [hx.2.2.1, hB.1.1.2.2.1]) hN a1
  exact ⟨v, σ, σ, z1, z2, Q, hO, hA, hB⟩
theorem s_keeper (hN : 7000 ≤ N) (hW : WR σ) (a1 a2 : Int32) : StepR (o_X9_keeper N a1 a2 σ) (o_X10_keeper N a1 a2) := by
  obtain ⟨Q, hO, hA, hB⟩ := hW
  obtain ⟨v, z1, z2⟩ := e_keeper (N := N) (WD.rl0 hO hA hB) hN a1 a2
  exact ⟨v, σ, σ, z1, z2, Q, hO, hA, hB⟩
theorem s_promise (hN : 7000 ≤ N) (hW : WR σ) (a1 a2 : Int32) : StepR (o_X9_promise N a1 a2 σ) (o_X10_promise N a1 a2) := by
  obtain ⟨Q, hO, hA, hB⟩ := hW
  obtain ⟨v, z1, z2⟩ := e_promise (N := N) (WD.rl0 hO hA hB) hN a1 a2
  exact ⟨v, σ, σ, z1, z2, Q, hO, hA, hB⟩
theorem s_calendar (hN : 7000 ≤ N) (hW : WR σ) (a1 a2 : Int32) : StepR (o_X9_calendar N a1 a2 σ) (o_X10_calendar N a1 a2) := by
  obtain ⟨Q, hO, hA, hB⟩ := hW
  obtain ⟨v, z1, z2⟩ := e_calendar (N := N) (WD.rl0 hO hA hB) hN a1 a2
  exact ⟨v, σ, σ, z1, z2, Q, hO, hA, hB⟩
theorem s_plan (hN : 7000 ≤ N) (hU : UB 9 + 2 ≤ N) (hW : WR σ) (a1 a2 : Int32) : StepR (o_X9_plan N a1 a2 σ) (o_X10_plan N a1 a2) := by
  obtain ⟨Q, hO, hA, hB⟩ := hW
  refine mkStep hO hB (fun τ hτ => ?_) (fun v w e => (fr_X9_plan e).hi rfl) (fun τ v w e => (fr_X10_plan e).lo rfl)
  obtain ⟨v, wA, w, z1, z2, z3, z4⟩ := e_plan (N := N) (WD.rlA hO hA) (WD.rlB hO hτ) hN hU a1 a2
  obtain ⟨Q', q⟩ := WD.ask hO hA hτ z3 z4
  exact ⟨v, _, w, Q', z1, z2, q⟩
theorem s_clash (hN : 7000 ≤ N) (hU : UB 9 + 2 ≤ N) (hW : WR σ) (a1 a2 : Int32) : StepR (o_X9_clash N a1 a2 σ) (o_X10_clash N a1 a2) := by
  obtain ⟨Q, hO, hA, hB⟩ := hW
  refine mkStep hO hB (fun τ hτ => ?_) (fun v w e => (fr_X9_clash e).hi rfl) (fun τ v w e => (fr_X10_clash e).lo rfl)
  obtain ⟨v, wA, w, z1, z2, z3, z4⟩ := e_clash (N := N) (WD.rlA hO hA) (WD.rlB hO hτ) hN hU a1 a2
  obtain ⟨Q', q⟩ := WD.ask hO hA hτ z3 z4
  exact ⟨v, _, w, Q', z1, z2, q⟩
theorem s_still (hN : 7000 ≤ N) (hU : UB 9 + 2 ≤ N) (hW : WR σ) (a1 a2 a3 : Int32) : StepR (o_X9_still N a1 a2 a3 σ) (o_X10_still N a1 a2 a3) := by
  obtain ⟨Q, hO, hA, hB⟩ := hW
  refine mkStep hO hB (fun τ hτ => ?_) (fun v w e => (fr_X9_still e).hi rfl) (fun τ v w e => (fr_X10_still e).lo rfl)
  obtain ⟨v, wA, w, z1, z2, z3, z4⟩ := e_still (N := N) (WD.rlA hO hA) (WD.rlB hO hτ) hN hU a1 a2 a3
  obtain ⟨Q', q⟩ := WD.ask hO hA hτ z3 z4
  exact ⟨v, _, w, Q', z1, z2, q⟩
theorem s_busiest (hN : 7000 ≤ N) (hW : WR σ) (a1 : Int32) : StepR (o_X9_busiest N a1 σ) (o_X10_busiest N a1) := by
  obtain ⟨Q, hO, hA, hB⟩ := hW
  obtain ⟨v, z1, z2⟩ := e_busiest (N := N) (WD.rlA hO hA) (WD.rlB hO hB) hN a1
  exact ⟨v, σ, σ, z1, z2, Q, hO, hA, hB⟩
theorem s_lives (hN : 20000 ≤ N) (hW : WR σ) (a1 a2 : Int32) : StepR (o_X9_lives N a1 a2 σ) (o_X10_lives N a1 a2) := by
  obtain ⟨Q, hO, hA, hB⟩ := hW
  obtain ⟨v, z1, z2⟩ := e_lives (N := N) (WD.rlA hO hA) (WD.rlB hO hB) hN a1 a2
  exact ⟨v, σ, σ, z1, z2, Q, hO, hA, hB⟩
theorem s_let (hN : 7000 ≤ N) (hW : WR σ) (a1 a2 a3 : Int32) : StepR (o_X9_let N a1 a2 a3 σ) (o_X10_let N a1 a2 a3) := by
  obtain ⟨Q, hO, hA, hB⟩ := hW
  obtain ⟨v, z1, z2⟩ := e_let (N := N) (WD.rlA hO hA) (WD.rlB hO hB) hN a1 a2 a3
  exact ⟨v, σ, σ, z1, z2, Q, hO, hA, hB⟩
end STEPS
