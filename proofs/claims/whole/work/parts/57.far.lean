/-! far, told -/
section FAR
variable {D : LD} {r : RD} {σ : St} {N : Nat}
theorem LandOk.di (h : LandOk D) {i : Nat} (hi : i < 25) : D 7 i ≤ 288 ∨ D 7 i = 1000 := h.2.2.2.2.2.1 i hi
theorem a_dist (ho : LandOk D) (ha : LandA D σ) {a b : Nat} (hA : a < nT D) (hB : b < nT D) : p_X5_distance (nI a) (nI b) σ = dI (D 7 (5 * a + b)) := by
  have h5 := ho.t5
  unfold p_X5_distance
  have e : nI a * 5 + nI b = nI (5 * a + b) := by
    show nI a * nI 5 + nI b = _
    rw [nI_mul, nI_add, Nat.mul_comm]
  rw [a_hasTown_in ha ho hA, a_hasTown_in ha ho hB, if_neg one_ne, if_neg one_ne, e, at_nI (by omega) (by decide), ha.2.2.2.2 _ (by omega)]
theorem e_far (h : Rl0 D r σ) (a1 a2 : Int32) : o_X10_far N a1 a2 σ = some (p_X9_far a1 a2 σ, σ) := by
  have h5 := h.ho.t5
  rcases a_has (n := nT D) (by omega) a1 with ⟨a, hA, rfl⟩ | hx
  · rcases a_has (n := nT D) (by omega) a2 with ⟨b, hB, rfl⟩ | hx
    · unfold o_X10_far p_X9_far
      have e : (5 : Int32) * nI a + nI b = nI (5 * a + b) := by
        show nI 5 * nI a + nI b = _
        rw [nI_mul, nI_add]
      rw [b_isTown_in h.hb h.ho hA, bd_some, if_neg one_ne, b_isTown_in h.hb h.ho hB, bd_some, if_neg one_ne, a_hasTown_in h.ha h.ho hA, a_hasTown_in h.ha h.ho hB, if_neg one_ne, if_neg one_ne,
        a_dist h.ho h.ha hA hB, e, b_cka _ (by omega) (by decide), b_cka _ (by omega) (by decide), w_nI (c := σ 83) (by omega), h.hb.2.2.2.2 _ (by omega)]
      unfold dI dJ
      have hd := h.ho.di (i := 5 * a + b) (by omega)
      by_cases h1 : D 7 (5 * a + b) = 1000
      · rw [if_pos h1, if_pos h1]
        rfl
      · have hlt : nI (D 7 (5 * a + b)) < (99999999 : Int32) := (nI_lt_iff (a := D 7 (5 * a + b)) (b := 99999999) (by omega) (by omega)).mpr (by omega)
        rw [if_neg h1, if_neg h1, if_pos hlt]
    · unfold o_X10_far p_X9_far
      rw [b_isTown_in h.hb h.ho hA, bd_some, if_neg one_ne, b_isTown_out h.hb h.ho hx, bd_some, a_hasTown_in h.ha h.ho hA, a_hasTown_out h.ha hx, if_neg one_ne]
      rfl
  · unfold o_X10_far p_X9_far
    rw [b_isTown_out h.hb h.ho hx, bd_some, a_hasTown_out h.ha hx]
    rfl
theorem b_today (h : RlB D r σ) : σ 80 (37 : Int32).toNatClampNeg = nI (r 0 0) := by
  have e := h.rb.1
  rw [Nat.zero_add] at e
  exact e
theorem e_told (h : Rl0 D r σ) (h4 : σ 79 23 = σ 21 1) (h10 : σ 79 44 = σ 74 4) (h11 : σ 79 28 = σ 25 2) (hN : 7000 ≤ N) (a1 : Int32) :
    ∃ v, o_X9_told N a1 σ = some (v, σ) ∧ o_X10_told N a1 σ = some (v, σ) := by
  have hN2 : 100 ≤ N := by omega
  have hda := h.ri.1
  unfold o_X9_told o_X10_told
  rw [h.ha.1.1, h.ha.1.2.1, h.ha.1.2.2.1, h.ha.1.2.2.2, h.hb.1.1, h.hb.1.2.1, h.hb.1.2.2.1, h.hb.1.2.2.2, h4, h10, h11, b_today h.b, a_today h.ra,
    a_setOf h.ho h.ha h.ra hN2, a_setOf h.ho h.ha h.ra hN2, a_setOf h.ho h.ha h.ra hN2, a_setOf h.ho h.ha h.ra hN2,
    b_inWay h.ho h.hb h.rb hN2, b_inWay h.ho h.hb h.rb hN2, b_inWay h.ho h.hb h.rb hN2, b_inWay h.ho h.hb h.rb hN2,
    a_win h.ho h.ha (by omega), b_win h.ho h.hb (by omega)]
  by_cases e0 : a1 = 0
  · rw [if_pos e0, if_pos e0]
    exact ⟨_, rfl, rfl⟩
  rw [if_neg e0, if_neg e0]
  by_cases e1 : a1 = 1
  · rw [if_pos e1, if_pos e1]
    exact ⟨_, rfl, rfl⟩
  rw [if_neg e1, if_neg e1]
  by_cases e2 : a1 = 2
  · rw [if_pos e2, if_pos e2]
    exact ⟨_, rfl, rfl⟩
  rw [if_neg e2, if_neg e2]
  by_cases e3 : a1 = 3
  · rw [if_pos e3, if_pos e3]
    exact ⟨_, rfl, rfl⟩
  rw [if_neg e3, if_neg e3]
  by_cases e4 : a1 = 4
  · rw [if_pos e4, if_pos e4]
    exact ⟨_, rfl, rfl⟩
  rw [if_neg e4, if_neg e4]
  by_cases e5 : a1 = 5
  · rw [if_pos e5, if_pos e5]
    exact ⟨_, rfl, rfl⟩
  rw [if_neg e5, if_neg e5]
  by_cases e6 : a1 = 6
  · rw [if_pos e6, if_pos e6]
    exact ⟨_, rfl, rfl⟩
  rw [if_neg e6, if_neg e6]
  by_cases e7 : a1 = 7
  · rw [if_pos e7, if_pos e7]
    exact ⟨_, rfl, rfl⟩
  rw [if_neg e7, if_neg e7]
  by_cases e8 : a1 = 8
  · rw [if_pos e8, if_pos e8]
    exact ⟨_, rfl, rfl⟩
  rw [if_neg e8, if_neg e8]
  by_cases e9 : a1 = 9
  · rw [if_pos e9, if_pos e9]
    exact ⟨_, rfl, rfl⟩
  rw [if_neg e9, if_neg e9]
  by_cases e10 : a1 = 10
  · rw [if_pos e10, if_pos e10]
    exact ⟨_, rfl, rfl⟩
  rw [if_neg e10, if_neg e10]
  by_cases e11 : a1 = 11
  · rw [if_pos e11, if_pos e11]
    exact ⟨_, rfl, rfl⟩
  rw [if_neg e11, if_neg e11]
  by_cases e12 : a1 = 12
  · rw [if_pos e12, if_pos e12]
    cases win D (r 0 0)
    · exact ⟨_, rfl, rfl⟩
    · exact ⟨_, rfl, rfl⟩
  rw [if_neg e12, if_neg e12]
  exact ⟨_, rfl, rfl⟩
theorem a_onWay (h : RlA D r σ) {k : Nat} (hk : k < nK D) : p_X1_onTheWay (nI k) σ = b01 (decide (r 0 0 < r 5 k)) := by
  have h1 := h.ri.1
  have h2 := (h.ri.2.2.1 k hk).2
  unfold p_X1_onTheWay
  rw [a_there h.ho h.ra hk, a_today h.ra]
  by_cases hc : r 0 0 < r 5 k
  · rw [if_neg (by rw [nI_le_iff (by omega) (by omega)]; omega), decide_eq_true hc]
    rfl
  · rw [if_pos (by rw [nI_le_iff (by omega) (by omega)]; omega), decide_eq_false hc]
    rfl
theorem b_onWay (h : RlB D r σ) {k : Nat} (hk : k < nK D) : o_X10_isOnWay N (nI k) σ = some (b01 (decide (r 0 0 < r 5 k)), σ) := by
  have h1 := h.ri.1
  have h2 := (h.ri.2.2.1 k hk).2
  have h3 := h.ho.k3
  unfold o_X10_isOnWay
  have b31 : σ 80 (31 + k) = nI (r 5 k) := by
    have e := (h.rb.2.2.1 k hk).2
    rw [Nat.zero_add] at e
    exact e
  rw [show (31 : Int32) + nI k = nI (31 + k) from nI_add 31 k, b_cka _ (by omega) (by decide), w_nI (c := σ 80) (by omega), b31, b_today h]
  by_cases hc : r 0 0 < r 5 k
  · rw [if_neg (by rw [nI_le_iff (by omega) (by omega)]; omega), decide_eq_true hc]
    rfl
  · rw [if_pos (by rw [nI_le_iff (by omega) (by omega)]; omega), decide_eq_false hc]
    rfl
end FAR
