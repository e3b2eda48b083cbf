/-! what falls on a family; ripe already; half of a size -/
section FALL
variable {D : LD} {r : RD} {σ : St} {N : Nat}
theorem LandOk.ke (h : LandOk D) {k : Nat} (hk : k < nK D) : D 1 k < 3 ∧ D 9 k < nT D := h.2.2.2.1 k hk
theorem a_fall (h : RlA D r σ) {p : Nat} (hp : p < nP D) (v : Nat) :
    put_ σ 24 31 (28 + at_ σ 3 3 (p_X1_holderOf_23 (nI p) σ)) (at_ σ 24 31 (28 + at_ σ 3 3 (p_X1_holderOf_23 (nI p) σ)) + nI v) = st σ 24 (28 + D 1 (r 3 p)) (nI (r 6 (D 1 (r 3 p)) + v)) := by
  have h3 := h.ho.k3
  have hk := (h.ri.2.1 p hp).2.2.1
  have hf := (h.ho.ke hk).1
  rw [a_holder h.ho h.ra hp, at_nI (j := r 3 p) (by omega) (by decide), (h.ha.2.2.1 _ hk).1, show (28 : Int32) + nI (D 1 (r 3 p)) = nI (28 + D 1 (r 3 p)) from nI_add 28 _,
    at_nI (by omega) (by decide), h.ra.2.2.2 _ hf, nI_add, put_nI (by omega) (by decide)]
theorem b_fall (h : RlB D r σ) {p : Nat} (hp : p < nP D) (v : Nat) :
    o_X10_fallOn N (nI p) (nI v) σ = some ((), st σ 80 (34 + D 1 (r 3 p)) (nI (r 6 (D 1 (r 3 p)) + v))) := by
  have h3 := h.ho.k3
  have h7 := h.ho.p7
  have hk := (h.ri.2.1 p hp).2.2.1
  have hf := (h.ho.ke hk).1
  have b34 : σ 80 (34 + D 1 (r 3 p)) = nI (r 6 (D 1 (r 3 p))) := by
    have e := h.rb.2.2.2 _ hf
    rw [Nat.zero_add] at e
    exact e
  unfold o_X10_fallOn bt
  dsimp only
  rw [show (14 : Int32) + nI p = nI (14 + p) from nI_add 14 p, b_cka (x := 14 + p) _ (by omega) (by decide), w_nI (c := σ 80) (x := 14 + p) (by omega), b_whose h.rb hp,
    b_cka (x := r 3 p) (n := 6) _ (by omega) (by decide), w_nI (c := σ 85) (x := r 3 p) (by omega), (h.hb.2.2.1 _ hk).1, show (34 : Int32) + nI (D 1 (r 3 p)) = nI (34 + D 1 (r 3 p)) from nI_add 34 _,
    b_cka (x := 34 + D 1 (r 3 p)) _ (by omega) (by decide), b_cka (x := 34 + D 1 (r 3 p)) _ (by omega) (by decide), nI_clamp (by omega), b34, nI_add]
theorem a_isRipe (h : RlA D r σ) {p : Nat} (hp : p < nP D) : o_X1_isRipe N (nI p) σ = some (b01 (decide (ripV D r p ≠ 0) && decide (ripV D r p - 1 ≤ r 0 0)), σ) := by
  have hr := ripV_le h.z hp
  have hd := h.ri.1
  unfold o_X1_isRipe j_X1_isRipe_23
  rw [a_ripeOn h hp, bd_some, a_today h.ra]
  by_cases h0 : ripV D r p = 0
  · have : decide (ripV D r p ≠ 0) = false := by simpa using h0
    rw [if_pos ((oI_neg (by omega)).mpr h0), this]
    rfl
  · have : decide (ripV D r p ≠ 0) = true := by simpa using h0
    rw [if_neg (fun e => h0 ((oI_neg (by omega)).mp e)), this, Bool.true_and, oI_pos h0]
    by_cases h1 : r 0 0 < ripV D r p - 1
    · rw [if_pos ((nI_lt_iff (by omega) (by omega)).mpr h1), decide_eq_false (by omega)]
      rfl
    · rw [if_neg (by rw [nI_lt_iff (by omega) (by omega)]; exact h1), decide_eq_true (by omega : ripV D r p - 1 ≤ r 0 0)]
      rfl
theorem half_nI {s : Nat} (hs : s < 2 ^ 30) : nI s / 2 = nI (s / 2) := nI_div (a := s) (b := 2) (by omega) (by omega)
end FALL
/-- grafts: an open one stands on one that is open or kept; one that is kept or fell, on one that is kept -/
def RowG (D : LD) (r : RD) : Prop := ∀ p, p < nP D → D 6 p ≠ 9 → (r 1 p = 0 → r 1 (D 6 p) ≤ 1) ∧ (r 1 p = 1 ∨ r 1 p = 2 → r 1 (D 6 p) = 1)
theorem rowG_set {D : LD} {r : RD} {a b v : Nat} (h1 : ¬ 1 = a) (h : RowG D r) : RowG D (rset r a b v) := by
  intro p hp h9
  rw [rset_ne h1, rset_ne h1]
  exact h p hp h9
theorem kpR_G {D : LD} {r : RD} {p : Nat} (ho : LandOk D) (hp : p < nP D) (hc : canV D r p = true) (h : RowG D r) : RowG D (kpR r p) := by
  have h7 := ho.p7
  intro q hq h9
  have hqq := (ho.pr hq).2.2.2.2.1
  have hg := h q hq h9
  have e : ∀ y, kpR r p 1 y = if y = p then 1 else r 1 y := by
    intro y
    unfold kpR
    rw [rset_ne (by decide)]
    by_cases e : y = p
    · rw [e, rset_eq, if_pos rfl]
    · rw [rset_np e, if_neg e]
  rw [e, e]
  by_cases e1 : q = p
  · subst e1
    rw [if_pos rfl, if_neg (by omega)]
    refine ⟨fun x => by omega, fun _ => ?_⟩
    unfold canV mayV at hc
    rw [Bool.and_eq_true, Bool.and_eq_true, Bool.and_eq_true, decide_eq_true_eq, Bool.and_eq_true, Bool.and_eq_true, decide_eq_true_eq] at hc
    have hz : gvn D r q ≠ 0 := fun x => (of_decide_eq_true hc.2.1.1) ((gvn_rip D r).mp x)
    unfold gvn at hz
    rw [if_neg h9] at hz
    by_cases e2 : r 1 (D 6 q) = 1
    · exact e2
    · rw [if_neg e2] at hz
      exact absurd rfl hz
  · rw [if_neg e1]
    by_cases e2 : D 6 q = p
    · rw [if_pos e2]
      exact ⟨fun _ => Nat.le_refl 1, fun _ => rfl⟩
    · rw [if_neg e2]
      exact hg
