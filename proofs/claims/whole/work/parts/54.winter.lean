/-! winter -/
theorem neg_msb (z : Int32) : z < 0 ↔ z.toBitVec.msb = true := by
  rw [Int32.lt_iff_toInt_lt, BitVec.msb_eq_toInt]
  simp
theorem xor_nn (x y : Int32) : 0 ≤ x ^^^ y ↔ (x < 0 ↔ y < 0) := by
  rw [← Int32.not_lt, neg_msb, neg_msb, neg_msb, Int32.toBitVec_xor, BitVec.msb_xor]
  cases x.toBitVec.msb <;> cases y.toBitVec.msb <;> simp
theorem sub_neg' {d F : Nat} (h : d < F) : nI d - nI F = -nI (F - d) := by
  have e : nI F = nI (F - d) + nI d := by
    rw [nI_add]
    congr 1
    omega
  rw [e]
  generalize nI (F - d) = x
  generalize nI d = y
  rw [Int32.sub_eq_add_neg, Int32.neg_add, Int32.sub_eq_add_neg, Int32.add_comm (-x) (-y), ← Int32.add_assoc, Int32.add_right_neg, Int32.zero_add]
theorem rem_neg {c b : Nat} (hc : c < 2 ^ 30) (hb : b < 2 ^ 30) : -nI c - -nI c / nI b * nI b = -nI (c % b) := by
  rw [rem32]
  apply Int32.toInt_inj.mp
  have hm : c % b ≤ c := Nat.mod_le c b
  have e1 : (-nI c).toInt = -(c : Int) := by
    rw [Int32.toInt_neg, nI_toInt (by omega)]
    exact Int.bmod_eq_of_le (by omega) (by omega)
  have e2 : (-nI (c % b)).toInt = -((c % b : Nat) : Int) := by
    rw [Int32.toInt_neg, nI_toInt (by omega)]
    generalize c % b = m at hm
    exact Int.bmod_eq_of_le (by omega) (by omega)
  rw [Int32.toInt_mod, e1, e2, nI_toInt (by omega), Int.neg_tmod]
  rfl
theorem mod_round {d F b : Nat} (hF : F ≤ 98) (hb : 1 ≤ b) : (d + 99 * b - F) % b = if F ≤ d then (d - F) % b else if (F - d) % b = 0 then 0 else b - (F - d) % b := by
  by_cases h : F ≤ d
  · rw [if_pos h]
    have e : d + 99 * b - F = (d - F) + b * 99 := by omega
    rw [e, Nat.add_mul_mod_self_left]
  · rw [if_neg h]
    have hdm := Nat.div_add_mod (F - d) b
    have hq : (F - d) / b ≤ F - d := Nat.div_le_self _ _
    have hm : (F - d) % b < b := Nat.mod_lt _ hb
    generalize hM : (F - d) % b = m at hdm hm
    generalize hQ : (F - d) / b = q at hdm hq
    have e1 : b * (99 - q) = b * 99 - b * q := Nat.mul_sub _ _ _
    have e2 : b * (98 - q) = b * 98 - b * q := Nat.mul_sub _ _ _
    have e3 : b * q ≤ b * 98 := Nat.mul_le_mul_left b (by omega)
    by_cases hz : m = 0
    · rw [if_pos hz]
      have e : d + 99 * b - F = b * (99 - q) := by omega
      rw [e, Nat.mul_mod_right]
    · rw [if_neg hz]
      have e : d + 99 * b - F = (b - m) + b * (98 - q) := by omega
      rw [e, Nat.add_mul_mod_self_left, Nat.mod_eq_of_lt (by omega)]
theorem fmod_nI {d F b : Nat} (hF : F ≤ 98) (hb : 1 ≤ b) (hb2 : b ≤ 99) (hd : d < 2 ^ 30) (N : Nat) (σ : St) :
    o_J9_floorMod_7cf53 N (nI d - nI F) (nI b) σ = some (nI ((d + 99 * b - F) % b), σ) := by
  have hnb : ¬ nI b < 0 := nI_pos (by omega)
  have hb0 : ¬ nI b = 0 := by
    intro e
    exact absurd (nI_eq (a := b) (b := 0) (by omega) (by omega) |>.mp e) (by omega)
  rw [mod_round hF hb]
  unfold o_J9_floorMod_7cf53 ckDI bt
  rw [if_neg hb0]
  by_cases h : F ≤ d
  · rw [if_pos h, nI_sub h, nI_mod (by omega) (by omega)]
    have hx : 0 ≤ nI (d - F) ^^^ nI b := by
      rw [xor_nn]
      exact ⟨fun e => absurd e (nI_pos (by omega)), fun e => absurd e hnb⟩
    dsimp only
    rw [if_pos hx]
  · rw [if_neg h, sub_neg' (by omega), rem_neg (by omega) (by omega)]
    have hx : ¬ 0 ≤ -nI (F - d) ^^^ nI b := by
      rw [xor_nn]
      intro e
      refine hnb (e.mp ?_)
      rw [Int32.lt_iff_toInt_lt, Int32.toInt_neg, nI_toInt (by omega), Int.bmod_eq_of_le (by omega) (by omega)]
      show -((F - d : Nat) : Int) < 0
      omega
    dsimp only
    rw [if_neg hx]
    have hm : (F - d) % b < b := Nat.mod_lt _ hb
    generalize (F - d) % b = m at hm
    by_cases hz : m = 0
    · subst hz
      rw [if_pos rfl]
      rfl
    · have hn : ¬ -nI m = 0 := by
        intro e
        have e2 : nI m = 0 := by
          rw [← Int32.neg_neg (a := nI m), e]
          rfl
        exact absurd (nI_eq (a := m) (b := 0) (by omega) (by omega) |>.mp e2) hz
      have e : -nI m + nI b = nI (b - m) := by
        rw [← nI_sub (by omega), Int32.add_comm, Int32.sub_eq_add_neg]
      rw [if_neg hn, if_neg hz, e]
/-- the place of a day in its round of winter -/
def phs (D : LD) (d : Nat) : Nat := (d + 99 * D 8 2 - D 8 0) % D 8 2
def win (D : LD) (d : Nat) : Bool := decide (D 8 2 ≠ 0) && decide (phs D d < D 8 1)
section WIN
variable {D : LD} {r : RD} {σ : St} {N : Nat}
theorem LandOk.w (h : LandOk D) : D 8 2 = 0 ∧ D 8 0 = 0 ∧ D 8 1 = 0 ∨ 2 ≤ D 8 2 ∧ D 8 2 ≤ 99 ∧ D 8 1 < D 8 2 ∧ D 8 0 ≤ 98 := h.2.2.2.2.2.2.2.2
def b01 (b : Bool) : Int32 := if b then 1 else 0
theorem a_win (ho : LandOk D) (ha : LandA D σ) {d : Nat} (hd : d < 2 ^ 30) : o_X5_isWinter N (nI d) σ = some (b01 (win D d), σ) := by
  unfold o_X5_isWinter win phs j_X5_isWinter_31
  rw [ha.2.1.1, ha.2.1.2.2]
  rcases ho.w with ⟨h0, _, _⟩ | ⟨h1, h2, h3, h4⟩
  · rw [h0]
    rfl
  · have hpos : ¬ nI (D 8 2) ≤ 0 := fun e => absurd ((nI_le_iff (a := D 8 2) (b := 0) (by omega) (by omega)).mp e) (by omega)
    rw [if_neg hpos, fmod_nI h4 (by omega) h2 hd, bd_some, ha.2.1.2.1]
    have hm : (d + 99 * D 8 2 - D 8 0) % D 8 2 < D 8 2 := Nat.mod_lt _ (by omega)
    have hne : decide (D 8 2 ≠ 0) = true := by simpa using (by omega : D 8 2 ≠ 0)
    rw [hne, Bool.true_and]
    generalize (d + 99 * D 8 2 - D 8 0) % D 8 2 = m at hm
    by_cases h : m < D 8 1
    · rw [if_neg (by rw [nI_le_iff (by omega) (by omega)]; omega), decide_eq_true h]
      rfl
    · rw [if_pos (by rw [nI_le_iff (by omega) (by omega)]; omega), decide_eq_false h]
      rfl
theorem b_win_core {F n l d : Nat} (hF : F ≤ 98) (hn : 2 ≤ n) (hn2 : n ≤ 99) (hl : l < n) (hd : d < 2 ^ 30) (hw0 : σ 92 0 = nI F) (hw1 : σ 92 1 = nI l) :
    j_X10_isWinter_20 N (nI d) (nI n) σ = some (b01 (decide ((d + 99 * n - F) % n < l)), σ) := by
  have hb0 : ¬ nI n = 0 := by
    intro e
    exact absurd (nI_eq (a := n) (b := 0) (by omega) (by omega) |>.mp e) (by omega)
  have c0 : (0 : Int32).toNatClampNeg = 0 := rfl
  have c1 : (1 : Int32).toNatClampNeg = 1 := rfl
  have key : ((nI d - nI F) - (nI d - nI F) / nI n * nI n + nI n) - ((nI d - nI F) - (nI d - nI F) / nI n * nI n + nI n) / nI n * nI n = nI ((d + 99 * n - F) % n) := by
    rw [mod_round hF (by omega)]
    by_cases h : F ≤ d
    · rw [if_pos h, nI_sub h, nI_mod (by omega) (by omega), nI_add]
      have hm : (d - F) % n < n := Nat.mod_lt _ (by omega)
      rw [nI_mod (by omega) (by omega), Nat.add_mod_right, Nat.mod_eq_of_lt hm]
    · rw [if_neg h, sub_neg' (by omega), rem_neg (by omega) (by omega)]
      have hm : (F - d) % n < n := Nat.mod_lt _ (by omega)
      generalize (F - d) % n = m at hm
      have e : -nI m + nI n = nI (n - m) := by
        rw [← nI_sub (by omega), Int32.add_comm, Int32.sub_eq_add_neg]
      rw [e, nI_mod (by omega) (by omega)]
      by_cases hz : m = 0
      · subst hz
        rw [if_pos rfl, Nat.sub_zero, Nat.mod_self]
      · rw [if_neg hz, Nat.mod_eq_of_lt (by omega)]
  unfold j_X10_isWinter_20 ckDI
  rw [if_neg hb0, if_neg hb0, c0, c1, hw0, hw1, key]
  have hm : (d + 99 * n - F) % n < n := Nat.mod_lt _ (by omega)
  generalize (d + 99 * n - F) % n = m at hm
  by_cases h : m < l
  · rw [if_neg (by rw [nI_le_iff (by omega) (by omega)]; omega), decide_eq_true h]
    rfl
  · rw [if_pos (by rw [nI_le_iff (by omega) (by omega)]; omega), decide_eq_false h]
    rfl
theorem b_win (ho : LandOk D) (hb : LandB D σ) {d : Nat} (hd : d < 2 ^ 30) : o_X10_isWinter N (nI d) σ = some (b01 (win D d), σ) := by
  have c2 : (2 : Int32).toNatClampNeg = 2 := rfl
  unfold o_X10_isWinter win phs
  rw [c2]
  rcases ho.w with ⟨h0, h1, h2⟩ | ⟨h1, h2, h3, h4⟩
  · have e := b_win_core (σ := σ) (N := N) (F := D 8 0) (n := 2) (l := D 8 1) (d := d) (by omega) (by omega) (by omega) (by omega) hd hb.2.1.1 hb.2.1.2.1
    rw [h2] at e
    rw [h0]
    have hz : σ 92 2 = 2 ∨ σ 92 2 = 0 := by
      rcases hb.2.1.2.2 with ⟨_, h⟩ | ⟨h, _⟩
      · exact h
      · exact absurd h0 h
    rcases hz with hz | hz
    · rw [hz, if_pos (by decide)]
      exact e
    · rw [hz, if_neg (by decide)]
      exact e
  · have hz : σ 92 2 = nI (D 8 2) := by
      rcases hb.2.1.2.2 with ⟨h, _⟩ | ⟨_, h⟩
      · omega
      · exact h
    have h22 : (2 : Int32) ≤ nI (D 8 2) := nI_le (a := 2) h1 (by omega)
    rw [hz, if_pos h22, b_win_core h4 h1 h2 h3 hd hb.2.1.1 hb.2.1.2.1]
    have hne : decide (D 8 2 ≠ 0) = true := by simpa using (by omega : D 8 2 ≠ 0)
    rw [hne, Bool.true_and]
end WIN
