/-! shares: the reference's sums and parts -/
section SHARE4
variable {D : LD} {r : RD} {N : Nat}
theorem szV_bit {i p : Nat} (hp : p < nP D) (h7 : nP D ≤ 7) : bit (ownS D r (nI i)) p = decide (nI (r 3 p) = nI i) := by
  rw [bit_mset _ _ _ (by omega) (by omega), decide_eq_true hp, Bool.true_and]
theorem b_szloop {τ : St} (g : RlB D r τ) (i : Nat) : ∀ (c n p : Nat), p + c = nP D → c < n → l_X10_sizesOf_4 N n (nI i) (nI (szV D (ownS D r (nI i)) p)) (nI p) τ = some (nI (szK D r i), τ) := by
  intro c
  have h7 := g.ho.p7
  induction c with
  | zero =>
    intro n p hp hn
    obtain ⟨n, rfl⟩ : ∃ k, n = k + 1 := ⟨n - 1, by omega⟩
    have e : p = nP D := by omega
    rw [l_X10_sizesOf_4, g.hb.1.2.2.2, if_pos (nI_le (by omega) (by omega)), e]
    rfl
  | succ c ih =>
    intro n p hp hn
    obtain ⟨n, rfl⟩ : ∃ k, n = k + 1 := ⟨n - 1, by omega⟩
    have hlt : p < nP D := by omega
    have i1 := ih n (p + 1) (by omega) (by omega)
    have e14 : (14 : Int32) + nI p = nI (14 + p) := nI_add 14 p
    have h14 : τ 80 (14 + p) = nI (r 3 p) := by
      have := (g.rb.2.1 p hlt).2.2.1
      rw [show 0 + 14 + p = 14 + p by omega] at this
      exact this
    have e90 := (g.hb.2.2.2.1 p hlt).2.2.2.2.1
    rw [szV, p1_sub, szV_bit hlt h7] at i1
    rw [l_X10_sizesOf_4, g.hb.1.2.2.2, if_neg (nI_ge hlt (by omega)), e14, b_cka (x := 14 + p) (n := 1360) _ (by omega) (by decide), nI_clamp (n := 14 + p) (by omega), h14]
    unfold j_X10_sizesOf_36
    by_cases e : nI (r 3 p) = nI i
    · rw [if_pos (decide_eq_true e)] at i1
      rw [if_pos e, b_cka (x := p) (n := 14) _ (by omega) (by decide), nI_clamp (n := p) (by omega), e90, bt_eq, bt_eq, nI_add]
      exact i1
    · rw [if_neg (by simpa using e)] at i1
      rw [if_neg e, bt_eq, bt_eq, Int32.add_zero]
      exact i1
theorem b_sizesOf {τ : St} (g : RlB D r τ) (hN : 7000 ≤ N) (i : Nat) : o_X10_sizesOf N (nI i) τ = some (nI (szK D r i), τ) := by
  have h7 := g.ho.p7
  exact b_szloop (N := N) g i (nP D) N 0 (by omega) (by omega)
theorem tot_mono {F : Nat} : ∀ a b, a ≤ b → totF D r F a ≤ totF D r F b := by
  intro a b hab
  induction hab with
  | refl => exact Nat.le_refl _
  | step _ ih2 => exact Nat.le_trans ih2 (Nat.le_add_right _ _)
/-- going down: the sum, and the first of them -/
theorem b_fs12 {τ : St} (g : RlB D r τ) (hN : 7000 ≤ N) {F : Nat} (hF : F < 3) : ∀ (c n : Nat), c ≤ nK D → c < n →
    l_X10_findShares_12 N n (nI F) (nI (totF D r F (nK D) - totF D r F c)) (fstI D F (nK D - c) c) (nI c - 1) τ = l_X10_findShares_79 N N (nI F) (nI (totF D r F (nK D))) (fstI D F (nK D) 0) (τ 80 (34 + F)) 0 τ := by
  intro c
  have h3 := g.ho.k3
  have hT := totF_le (r := r) g.ho (F := F) (nK D)
  induction c with
  | zero =>
    intro n hc hn
    obtain ⟨n, rfl⟩ : ∃ k, n = k + 1 := ⟨n - 1, by omega⟩
    have e34 : (34 : Int32) + nI F = nI (34 + F) := nI_add 34 F
    have e1 : nI 0 - 1 < (0 : Int32) := by decide
    rw [l_X10_findShares_12, if_pos e1, e34, b_cka (x := 34 + F) (n := 1360) _ (by omega) (by decide), bt_eq, nI_clamp (n := 34 + F) (by omega)]
    rfl
  | succ c ih =>
    intro n hc hn
    obtain ⟨n, rfl⟩ : ∃ k, n = k + 1 := ⟨n - 1, by omega⟩
    have hlt : c < nK D := by omega
    have hf := fam_lt g.ho hlt
    have e1 : nI (c + 1) - 1 = nI c := nI_sub (b := 1) (by omega)
    have hm := tot_mono (r := r) (D := D) (F := F) (c + 1) (nK D) hc
    have i1 := ih n (by omega) (by omega)
    have ed : nK D - c = (nK D - (c + 1)) + 1 := by omega
    have en : nI c + (-1) = nI c - 1 := (Int32.sub_eq_add_neg _ _).symm
    rw [ed, fstI] at i1
    rw [totF] at hm
    rw [l_X10_findShares_12, e1, if_neg (nI_pos (by omega)), b_cka (x := c) (n := 6) _ (by omega) (by decide), nI_clamp (n := c) (by omega), (g.hb.2.2.1 c hlt).1, totF]
    unfold j_X10_findShares_39 j_X10_findShares_58
    rw [nI_clamp (n := c) (by omega)]
    by_cases e : D 1 c = F
    · rw [if_pos e] at i1 hm
      have ev : totF D r F (nK D) - (totF D r F c + szK D r c) + szK D r c = totF D r F (nK D) - totF D r F c := by omega
      have ep : nI (D 1 c) = nI F := by rw [e]
      rw [if_pos ep, if_pos e, b_sizesOf g hN, bd_some, bt_eq, b_cka (x := c) (n := 6) _ (by omega) (by decide), (g.hb.2.2.1 c hlt).1, if_pos ep, bt_eq, nI_add, ev, en]
      exact i1
    · rw [if_neg e] at i1
      have ep : ¬ nI (D 1 c) = nI F := fun z => e ((nI_eq (by omega) (by omega)).mp z)
      rw [if_neg ep, if_neg e, bt_eq, b_cka (x := c) (n := 6) _ (by omega) (by decide), (g.hb.2.2.1 c hlt).1, if_neg ep, bt_eq, Int32.add_zero, Nat.add_zero, en]
      exact i1
end SHARE4
