/-! may it be kept -/
def mayV (D : LD) (r : RD) (p d : Nat) : Bool := decide (ripV D r p ≠ 0) && decide (ripV D r p - 1 ≤ d) && decide (d ≤ ripV D r p - 1 + D 4 p)
/-- one that is open and given isn't past its time -/
def RowK (D : LD) (r : RD) : Prop := ∀ p, p < nP D → r 1 p = 0 → ripV D r p ≠ 0 → r 0 0 ≤ ripV D r p - 1 + D 4 p
def canV (D : LD) (r : RD) (p : Nat) : Bool := decide (r 1 p = 0) && decide (r 4 (r 3 p) = D 2 p) && !decide (r 0 0 < r 5 (r 3 p)) && mayV D r p (r 0 0)
section CAN
variable {D : LD} {r : RD} {σ : St} {N : Nat}
theorem ripV_le (h : RlZ D r) {p : Nat} (hp : p < nP D) : ripV D r p ≤ 16400 := by
  have hq := h.ho.pr hp
  have hg := gvn_le h.ho h.ri hp
  unfold ripV
  by_cases h0 : gvn D r p = 0
  · rw [if_pos h0]
    omega
  · rw [if_neg h0]
    have := rip_le h.ho (d := gvn D r p - 1) (a := D 3 p) hq.2.1.2
    omega
theorem gvn_rip {p : Nat} (D : LD) (r : RD) : gvn D r p = 0 ↔ ripV D r p = 0 := by
  unfold ripV
  by_cases h0 : gvn D r p = 0
  · rw [if_pos h0]
    simp [h0]
  · rw [if_neg h0]
    simp [h0]
theorem a_mayBe (h : RlA D r σ) {p : Nat} (hp : p < nP D) {d : Nat} (hd : d < 2 ^ 20) : o_X1_mayBeKeptOn_23 N (nI p) (nI d) σ = some (b01 (mayV D r p d), σ) := by
  have h7 := h.ho.p7
  have hr := ripV_le h.z hp
  have hq := h.ho.pr hp
  unfold o_X1_mayBeKeptOn_23 j_X1_mayBeKeptOn_23_37 mayV
  rw [a_ripeOn h hp, bd_some]
  by_cases h0 : ripV D r p = 0
  · rw [if_pos ((oI_neg (by omega)).mpr h0)]
    have : decide (ripV D r p ≠ 0) = false := by simpa using h0
    rw [this]
    rfl
  · have : decide (ripV D r p ≠ 0) = true := by simpa using h0
    rw [if_neg (fun e => h0 ((oI_neg (by omega)).mp e)), this, Bool.true_and, oI_pos h0, at_nI (by omega) (by decide), (h.ha.2.2.2.1 p hp).2.2.2.1, nI_add]
    by_cases h1 : d < ripV D r p - 1
    · rw [if_pos ((nI_lt_iff (by omega) (by omega)).mpr h1), decide_eq_false (by omega)]
      rfl
    · rw [if_neg (by rw [nI_lt_iff (by omega) (by omega)]; exact h1), decide_eq_true (by omega : ripV D r p - 1 ≤ d), Bool.true_and]
      by_cases h2 : ripV D r p - 1 + D 4 p < d
      · rw [if_pos ((nI_lt_iff (by omega) (by omega)).mpr h2), decide_eq_false (by omega)]
        rfl
      · rw [if_neg (by rw [nI_lt_iff (by omega) (by omega)]; exact h2), decide_eq_true (by omega)]
        rfl
theorem a_isOpen (h : RlA D r σ) {p : Nat} (hp : p < nP D) : p_X1_isOpen_23 (nI p) σ = b01 (decide (r 1 p = 0)) := by
  have hr := (h.ri.2.1 p hp).1
  unfold p_X1_isOpen_23 j_X1_isOpen_23_23
  rw [a_hasPromise_in h.ha h.ho hp, if_neg one_ne, a_how h.ho h.ra hp]
  by_cases h0 : r 1 p = 0
  · rw [decide_eq_true h0, h0]
    rfl
  · have hn : ¬ nI (r 1 p) = 0 := fun e => h0 ((nI_eq (a := r 1 p) (b := 0) (by omega) (by omega)).mp e)
    rw [if_neg hn, decide_eq_false h0]
    rfl
theorem b01_0 {b : Bool} : b01 b = 0 ↔ b = false := by
  cases b
  · exact ⟨fun _ => rfl, fun _ => rfl⟩
  · exact ⟨fun e => absurd e one_ne, fun e => by cases e⟩
theorem a_canKeep (h : RlA D r σ) {p : Nat} (hp : p < nP D) : o_X1_canKeep N (nI p) σ = some (b01 (canV D r p), σ) := by
  have h7 := h.ho.p7
  have hk := (h.ri.2.1 p hp).2.2.1
  have ht := (h.ri.2.2.1 _ hk).1
  have h5 := h.ho.t5
  have hq := h.ho.pr hp
  have hd := h.ri.1
  unfold o_X1_canKeep j_X1_canKeep_57 bt canV
  rw [a_holder h.ho h.ra hp, a_isOpen h hp]
  dsimp only
  rw [a_town h.ho h.ra hk, at_nI (by omega) (by decide), (h.ha.2.2.2.1 p hp).2.1, a_onWay h hk, a_today h.ra, a_mayBe h hp (by omega), bd_some]
  by_cases h0 : r 1 p = 0
  · rw [decide_eq_true h0, Bool.true_and]
    have e1 : ¬ b01 true = 0 := one_ne
    rw [if_neg e1]
    by_cases h1 : r 4 (r 3 p) = D 2 p
    · rw [h1, if_pos rfl, decide_eq_true rfl, Bool.true_and]
      cases decide (r 0 0 < r 5 (r 3 p))
      · have e2 : b01 false = 0 := rfl
        rw [if_pos e2]
        cases mayV D r p (r 0 0)
        · rfl
        · rfl
      · rw [if_neg e1]
        rfl
    · have hn : ¬ nI (r 4 (r 3 p)) = nI (D 2 p) := fun e => h1 ((nI_eq (by omega) (by omega)).mp e)
      rw [if_neg hn, decide_eq_false h1]
      rfl
  · rw [decide_eq_false h0]
    rfl
theorem b_canKeep (h : RlB D r σ) (hK : RowK D r) {p : Nat} (hp : p < nP D) (hN : 7000 ≤ N) : o_X10_canKeep N (nI p) σ = some (b01 (canV D r p), σ) := by
  have h7 := h.ho.p7
  have h3 := h.ho.k3
  have hk := (h.ri.2.1 p hp).2.2.1
  have hh := (h.ri.2.1 p hp).1
  have ht := (h.ri.2.2.1 _ hk).1
  have h5 := h.ho.t5
  have hq := h.ho.pr hp
  have hd := h.ri.1
  have hr := ripV_le h.z hp
  have hg := gvn_le h.ho h.ri hp
  have b28 : σ 80 (28 + r 3 p) = nI (r 4 (r 3 p)) := by
    have e := (h.rb.2.2.1 _ hk).1
    rw [Nat.zero_add] at e
    exact e
  have b21 : σ 80 (21 + p) = oI (gvn D r p) := by
    have e := (h.rb.2.1 p hp).2.2.2
    rw [show 0 + 21 + p = 21 + p from rfl] at e
    exact e
  unfold o_X10_canKeep j_X10_canKeep_77 bt canV
  rw [show (14 : Int32) + nI p = nI (14 + p) from nI_add 14 p, b_cka (x := 14 + p) _ (by omega) (by decide), w_nI (c := σ 80) (x := 14 + p) (by omega), b_whose h.rb hp]
  dsimp only
  rw [b_cka (x := p) (n := 1360) _ (by omega) (by decide), w_nI (c := σ 80) (x := p) (by omega), b_how h.rb hp, b_onWay h hk, bd_some,
    show (28 : Int32) + nI (r 3 p) = nI (28 + r 3 p) from nI_add 28 _, b_cka (x := 28 + r 3 p) _ (by omega) (by decide), b_cka (x := p) (n := 14) _ (by omega) (by decide), w_nI (c := σ 80) (x := 28 + r 3 p) (by omega), b28, w_nI (c := σ 87) (x := p) (by omega), (h.hb.2.2.2.1 p hp).2.1,
    show (21 : Int32) + nI p = nI (21 + p) from nI_add 21 p, b_cka (x := 21 + p) _ (by omega) (by decide), w_nI (c := σ 80) (x := 21 + p) (by omega), b21,
    show o_X10_ripe N 0 (nI p) σ = some (oI (ripV D r p), σ) from b_ripe h.ho h.hb h.ri (x := 0) (by omega) h.rb hp hN, bd_some, b_today h]
  by_cases h0 : r 1 p = 0
  · have hz : nI (r 1 p) = (0 : Int32) := by
      rw [h0]
      rfl
    rw [if_pos hz, decide_eq_true h0, Bool.true_and]
    have e1 : ¬ b01 true = 0 := one_ne
    have e2 : b01 false = 0 := rfl
    cases decide (r 0 0 < r 5 (r 3 p))
    · rw [if_pos e2]
      by_cases h1 : r 4 (r 3 p) = D 2 p
      · rw [h1, if_pos rfl, decide_eq_true rfl]
        unfold mayV
        by_cases hz : ripV D r p = 0
        · have hg0 : gvn D r p = 0 := (gvn_rip D r).mpr hz
          have hneg : oI (gvn D r p) < 0 := by
            rw [hg0]
            decide
          have : decide (ripV D r p ≠ 0) = false := by simpa using hz
          rw [if_pos hneg, this]
          rfl
        · have hg0 : gvn D r p ≠ 0 := fun e => hz ((gvn_rip D r).mp e)
          have hnn : ¬ oI (gvn D r p) < 0 := by
            rw [oI_pos hg0]
            exact nI_pos (by omega)
          have : decide (ripV D r p ≠ 0) = true := by simpa using hz
          have hle := hK p hp h0 hz
          rw [if_neg hnn, this, oI_pos hz, decide_eq_true hle]
          by_cases h2 : r 0 0 < ripV D r p - 1
          · rw [if_pos ((nI_lt_iff (by omega) (by omega)).mpr h2), decide_eq_false (by omega)]
            rfl
          · rw [if_neg (by rw [nI_lt_iff (by omega) (by omega)]; exact h2), decide_eq_true (by omega : ripV D r p - 1 ≤ r 0 0)]
            rfl
      · have hn : ¬ nI (r 4 (r 3 p)) = nI (D 2 p) := fun e => h1 ((nI_eq (by omega) (by omega)).mp e)
        rw [if_neg hn, decide_eq_false h1]
        rfl
    · rw [if_neg e1]
      cases decide (r 4 (r 3 p) = D 2 p)
      · rfl
      · rfl
  · have hn : ¬ nI (r 1 p) = 0 := fun e => h0 ((nI_eq (a := r 1 p) (b := 0) (by omega) (by omega)).mp e)
    rw [if_neg hn, decide_eq_false h0]
    rfl
end CAN
