/-! the law's whole relation -/
abbrev WD : Type := (LD × DT) × ((Nat → Bool) × (Nat → RD) × (Nat → Nat)) × (Nat × (Nat → Nat)) × (Nat × (Nat → Nat) × (Nat → Nat)) × Int32
abbrev WD.D (Q : WD) : LD := Q.1.1
abbrev WD.S (Q : WD) : DT := Q.1.2
abbrev WD.kp (Q : WD) : Nat → Bool := Q.2.1.1
abbrev WD.I (Q : WD) : Nat → RD := Q.2.1.2.1
abbrev WD.sd (Q : WD) : Nat → Nat := Q.2.1.2.2
abbrev WD.n (Q : WD) : Nat := Q.2.2.1.1
abbrev WD.l (Q : WD) : Nat → Nat := Q.2.2.1.2
abbrev WD.nB (Q : WD) : Nat := Q.2.2.2.1.1
abbrev WD.b (Q : WD) : Nat → Nat := Q.2.2.2.1.2.1
abbrev WD.d (Q : WD) : Nat → Nat := Q.2.2.2.1.2.2
abbrev WD.f (Q : WD) : Int32 := Q.2.2.2.2
def WD.O (Q : WD) : Prop := LandOk Q.D ∧ DrOk Q.D Q.S ∧ ImOk Q.D Q.kp Q.I Q.sd
def WD.A (Q : WD) (σ : St) : Prop := DrA Q.D Q.S σ ∧ ImA Q.D Q.kp Q.I Q.sd σ ∧ (TextA Q.n Q.l σ ∧ σ 21 5 = Q.f) ∧ BookA Q.D Q.nB Q.b Q.d σ
def WD.B (Q : WD) (τ : St) : Prop := DrB Q.D Q.S τ ∧ ImB Q.D Q.kp Q.I Q.sd τ ∧ (TextB Q.n Q.l τ ∧ τ 79 27 = Q.f) ∧ BookB Q.nB Q.b Q.d τ
def WR (σ : St) : Prop := ∃ Q : WD, Q.O ∧ Q.A σ ∧ Q.B σ
theorem Fm.hi {L : List Nat} {σ w : St} (h : Fm L σ w) (hs : (L.all fun k => decide (k < 79)) = true) : ∀ c, 79 ≤ c → w c = σ c := by
  intro c hc
  refine h c fun hm => ?_
  have := List.all_eq_true.mp hs c hm
  have := of_decide_eq_true this
  omega
theorem Fm.lo {L : List Nat} {σ w : St} (h : Fm L σ w) (hs : (L.all fun k => decide (79 ≤ k)) = true) : ∀ c, c < 79 → w c = σ c := by
  intro c hc
  refine h c fun hm => ?_
  have := List.all_eq_true.mp hs c hm
  have := of_decide_eq_true this
  omega
section RELN
variable {Q : WD} {σ τ w wA : St}
theorem DrA_of {D : LD} {S : DT} (g : ∀ c, c < 11 ∨ 24 ≤ c ∧ c < 57 ∨ c = 62 → w c = σ c) (h : DrA D S σ) : DrA D S w := by
  obtain ⟨⟨h1, h2, x, h3⟩, h4⟩ := h
  exact ⟨⟨LandA_of (fun a ha => g a (by omega)) h1, by rw [g 24 (by omega)]; exact h2, x, PastA_of (fun a ha => g a (by omega)) h3⟩, by rw [g 62 (by omega)]; exact h4⟩
theorem ImA_of {D : LD} {kp : Nat → Bool} {I : Nat → RD} {sd : Nat → Nat} (g : ∀ c, 57 ≤ c → c ≤ 61 → w c = σ c) (h : ImA D kp I sd σ) : ImA D kp I sd w := fun q hq => by
  rw [g 57 (by omega) (by omega), g (59 + q) (by omega) (by omega), g 61 (by omega) (by omega)]
  exact h q hq
theorem TextA_of {n : Nat} {l : Nat → Nat} (g : w 21 1 = σ 21 1) (g2 : w 22 = σ 22) (h : TextA n l σ) : TextA n l w := ⟨h.1, g.trans h.2.1, fun i hi => by rw [g2]; exact h.2.2 i hi⟩
theorem BookA_of {D : LD} {n : Nat} {b d : Nat → Nat} (g : ∀ c, 74 ≤ c → c ≤ 76 → w c = σ c) (h : BookA D n b d σ) : BookA D n b d w := ⟨h.1, by rw [g 74 (by omega) (by omega)]; exact h.2.1, fun i hi => by rw [g 75 (by omega) (by omega), g 76 (by omega) (by omega)]; exact h.2.2 i hi⟩
theorem DrB_of {D : LD} {S : DT} (ho : LandOk D) (g79 : ∀ i, i < 6 ∨ i = 28 → w 79 i = τ 79 i) (g80 : ∀ i, w 80 i = τ 80 i) (g : ∀ c, 82 < c → c < 93 → w c = τ c) (h : DrB D S τ) : DrB D S w := by
  obtain ⟨⟨h1, h2, h3⟩, h4⟩ := h
  exact ⟨⟨LandB_of (fun i hi => g79 i (by omega)) g h1, rowB_mv (x := 0) (y := 0) ho (fun i _ => g80 _) h2, PastB_of ho (g79 28 (by omega)) (fun i _ => g80 i) h3⟩, by rw [g80]; exact h4⟩
theorem ImB_of {D : LD} {kp : Nat → Bool} {I : Nat → RD} {sd : Nat → Nat} (ho : LandOk D) (g81 : w 81 = τ 81) (g80 : ∀ i, 80 ≤ i → i < 160 → w 80 i = τ 80 i) (h : ImB D kp I sd τ) : ImB D kp I sd w := fun q hq => by
  rw [g81, g80 (80 + 40 * q + 38) (by omega) (by omega)]
  exact ⟨(h q hq).1, fun e => ⟨rowB_mv ho (fun i hi => g80 _ (by omega) (by omega)) ((h q hq).2 e).1, ((h q hq).2 e).2⟩⟩
theorem TextB_of {n : Nat} {l : Nat → Nat} (g : w 79 23 = τ 79 23) (g2 : w 93 = τ 93) (h : TextB n l τ) : TextB n l w := ⟨h.1, g.trans h.2.1, fun i hi => by rw [g2]; exact h.2.2 i hi⟩
theorem BookB_of {n : Nat} {b d : Nat → Nat} (g : w 79 44 = τ 79 44) (g2 : w 102 = τ 102) (g3 : w 103 = τ 103) (h : BookB n b d τ) : BookB n b d w := ⟨h.1, g.trans h.2.1, fun i hi => by rw [g2, g3]; exact h.2.2 i hi⟩
theorem WD.A_of (g : ∀ c, ¬ (63 ≤ c ∧ c ≤ 73 ∨ 77 ≤ c) → w c = σ c) (h : Q.A σ) : Q.A w :=
  ⟨DrA_of (fun c hc => g c (by omega)) h.1, ImA_of (fun c h1 h2 => g c (by omega)) h.2.1, ⟨TextA_of (by rw [g 21 (by omega)]) (g 22 (by omega)) h.2.2.1.1, by rw [g 21 (by omega)]; exact h.2.2.1.2⟩, BookA_of (fun c h1 h2 => g c (by omega)) h.2.2.2⟩
theorem WD.B_of (ho : LandOk Q.D) (g : ∀ c, ¬ (c < 80 ∨ 94 ≤ c ∧ c ≤ 101) → w c = τ c) (g79 : ∀ i, i < 29 ∨ 39 ≤ i → w 79 i = τ 79 i) (h : Q.B τ) : Q.B w :=
  ⟨DrB_of ho (fun i hi => g79 i (by omega)) (fun i => by rw [g 80 (by omega)]) (fun c h1 h2 => g c (by omega)) h.1, ImB_of ho (g 81 (by omega)) (fun i _ _ => by rw [g 80 (by omega)]) h.2.1,
   ⟨TextB_of (g79 23 (by omega)) (g 93 (by omega)) h.2.2.1.1, by rw [g79 27 (by omega)]; exact h.2.2.1.2⟩, BookB_of (g79 44 (by omega)) (g 102 (by omega)) (g 103 (by omega)) h.2.2.2⟩
theorem WD.rlA (hO : Q.O) (h : Q.A σ) : RlA Q.D Q.S.1.1 σ := ⟨hO.1, h.1.1.1, h.1.1.2.1, hO.2.1.1.1.1⟩
theorem WD.rlB (hO : Q.O) (h : Q.B τ) : RlB Q.D Q.S.1.1 τ := ⟨hO.1, h.1.1.1, h.1.1.2.1, hO.2.1.1.1.1⟩
theorem WD.rl0 (hO : Q.O) (h : Q.A σ) (g : Q.B σ) : Rl0 Q.D Q.S.1.1 σ := ⟨hO.1, h.1.1.1, g.1.1.1, h.1.1.2.1, g.1.1.2.1, hO.2.1.1.1.1⟩
def StepR (cA : Option (Int32 × St)) (cB : St → Option (Int32 × St)) : Prop := ∃ v σ1 σ2, cA = some (v, σ1) ∧ cB σ1 = some (v, σ2) ∧ WR σ2
theorem mkStep {cA : Option (Int32 × St)} {cB : St → Option (Int32 × St)} (hO : Q.O) (hB : Q.B σ)
    (call : ∀ τ, Q.B τ → ∃ v wA w, ∃ Q' : WD, cA = some (v, wA) ∧ cB τ = some (v, w) ∧ Q'.O ∧ Q'.A wA ∧ Q'.B w)
    (frA : ∀ v w, cA = some (v, w) → ∀ c, 79 ≤ c → w c = σ c) (frB : ∀ τ v w, cB τ = some (v, w) → ∀ c, c < 79 → w c = τ c) : StepR cA cB := by
  obtain ⟨v, wA, -, -, z1, -⟩ := call σ hB
  have hB1 : Q.B wA := WD.B_of hO.1 (fun c hc => frA v wA z1 c (by omega)) (fun i _ => by rw [frA v wA z1 79 (by omega)]) hB
  obtain ⟨v', wA', w, Q', y1, y2, y3, y4, y5⟩ := call wA hB1
  have e := z1.symm.trans y1
  have e2 := Option.some.inj e
  have e3 : v = v' := congrArg Prod.fst e2
  have e4 : wA = wA' := congrArg Prod.snd e2
  subst e3
  subst e4
  exact ⟨v, wA, w, z1, y2, Q', y3, WD.A_of (fun c hc => frB wA v w y2 c (by omega)) y4, y5⟩
end RELN
