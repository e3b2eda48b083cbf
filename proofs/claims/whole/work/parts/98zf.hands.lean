/-! hands: all ways, and codes of the unkept ones alone -/
abbrev AC : Type := Nat × (Nat → Nat)
def canB (D : LD) (r : RD) (k : Nat) (L : Int32) : Bool := (bestO D r 0 0 0 true k L).isSome
def setA (D : LD) (r : RD) (A : Nat → Nat) (k : Nat) : Int32 := mset (fun p => decide (r 1 p = 0) && decide (A p = k)) (nP D)
def costA (D : LD) (r : RD) (A : Nat → Nat) : Nat := cnt (fun p => decide (r 1 p = 0) && !decide (A p = r 3 p)) (nP D)
def ValA (D : LD) (r : RD) (A : Nat → Nat) : Prop := ∀ p, p < nP D → r 1 p ≠ 0 → A p = r 3 p
def FitA (D : LD) (r : RD) (A : Nat → Nat) : Prop := ∀ k, k < nK D → canB D r k (setA D r A k) = true
noncomputable def stpA (D : LD) (r : RD) (A : Nat → Nat) (acc : AC) : AC := @ite _ ((ValA D r A ∧ FitA D r A) ∧ costA D r A < acc.1) (Classical.propDecidable _) (costA D r A, A) acc
/-- how many of the last j are unkept -/
def oC (D : LD) (r : RD) : Nat → Nat
  | 0 => 0
  | j + 1 => oC D r j + if r 1 (nP D - 1 - j) = 0 then 1 else 0
def asgW (D : LD) (W p : Nat) : Nat := if p < nP D then W / nK D ^ (nP D - 1 - p) % nK D else 0
def asgC (D : LD) (r : RD) (B p : Nat) : Nat := if p < nP D then (if r 1 p = 0 then B / nK D ^ oC D r (nP D - 1 - p) % nK D else r 3 p) else 0
def foldN (F : Nat → AC → AC) : Nat → Nat → AC → AC
  | 0, _, acc => acc
  | c + 1, a, acc => foldN F c (a + 1) (F a acc)
section HAN
variable {D : LD} {r : RD}
theorem foldN_add (F : Nat → AC → AC) : ∀ (m n a : Nat) (acc : AC), foldN F (m + n) a acc = foldN F n (a + m) (foldN F m a acc)
  | 0, n, a, acc => by rw [Nat.zero_add, Nat.add_zero, foldN]
  | m + 1, n, a, acc => by
    rw [show m + 1 + n = (m + n) + 1 by omega, foldN, foldN, foldN_add F m n (a + 1), show a + 1 + m = a + (m + 1) by omega]
theorem foldN_id (F : Nat → AC → AC) (acc : AC) : ∀ (c a : Nat), (∀ x, a ≤ x → x < a + c → F x acc = acc) → foldN F c a acc = acc
  | 0, _, _ => rfl
  | c + 1, a, h => by
    rw [foldN, h a (Nat.le_refl _) (by omega)]
    exact foldN_id F acc c (a + 1) fun x h1 h2 => h x (by omega) (by omega)
theorem oC_mono : ∀ a b, a ≤ b → oC D r a ≤ oC D r b := by
  intro a b hab
  induction hab with
  | refl => exact Nat.le_refl _
  | step _ ih2 => exact Nat.le_trans ih2 (Nat.le_add_right _ _)
theorem dk {K a d e : Nat} (hd : d < K) : (K * a + d) / K ^ (e + 1) = a / K ^ e := by
  rw [Nat.pow_succ, Nat.mul_comm (K ^ e) K, ← Nat.div_div_eq_div_mul, Nat.mul_add_div (by omega), Nat.div_eq_of_lt hd, Nat.add_zero]
theorem dp {K a x j e : Nat} (hK : 0 < K) (hx : x < K ^ j) : (K ^ j * a + x) / K ^ (j + e) = a / K ^ e := by
  have hp : 0 < K ^ j := Nat.pow_pos hK
  rw [Nat.pow_add, ← Nat.div_div_eq_div_mul, Nat.mul_add_div hp, Nat.div_eq_of_lt hx, Nat.add_zero]
def RelV (D : LD) (r : RD) (j a b : Nat) : Prop := ∀ p, p + j < nP D → (r 1 p = 0 → a / nK D ^ (nP D - 1 - j - p) % nK D = b / nK D ^ (oC D r (nP D - 1 - p) - oC D r j) % nK D) ∧ (r 1 p ≠ 0 → a / nK D ^ (nP D - 1 - j - p) % nK D = r 3 p)
theorem stp_bad {A : Nat → Nat} {acc : AC} (h : ¬ ValA D r A) : stpA D r A acc = acc := if_neg (fun z => h z.1.1)
theorem han_bad (hK : 0 < nK D) {j a p : Nat} (hp : p + j < nP D) (hc : r 1 p ≠ 0) (hb : a / nK D ^ (nP D - 1 - j - p) % nK D ≠ r 3 p) (acc : AC) : foldN (fun W => stpA D r (asgW D W)) (nK D ^ j) (nK D ^ j * a) acc = acc := by
  refine foldN_id _ acc _ _ fun x h1 h2 => stp_bad fun hv => hb ?_
  have := hv p (by omega) hc
  unfold asgW at this
  rw [if_pos (by omega)] at this
  obtain ⟨y, rfl⟩ : ∃ y, x = nK D ^ j * a + y := ⟨x - nK D ^ j * a, by omega⟩
  rw [show nP D - 1 - p = j + (nP D - 1 - j - p) by omega, dp hK (by omega)] at this
  exact this
theorem han_main (hr : ∀ p, p < nP D → r 3 p < nK D) : ∀ (j : Nat), j ≤ nP D → ∀ (a b : Nat), RelV D r j a b → ∀ acc, foldN (fun W => stpA D r (asgW D W)) (nK D ^ j) (nK D ^ j * a) acc = foldN (fun B => stpA D r (asgC D r B)) (nK D ^ oC D r j) (nK D ^ oC D r j * b) acc := by
  intro j
  induction j with
  | zero =>
    intro _ a b h acc
    have e : asgW D a = asgC D r b := by
      funext p
      unfold asgW asgC
      by_cases hp : p < nP D
      · have := h p hp
        rw [if_pos hp, if_pos hp]
        by_cases c : r 1 p = 0
        · rw [if_pos c]
          exact this.1 c
        · rw [if_neg c]
          exact this.2 c
      · rw [if_neg hp, if_neg hp]
    show foldN _ (nK D ^ 0) (nK D ^ 0 * a) acc = foldN _ (nK D ^ 0) (nK D ^ 0 * b) acc
    rw [Nat.pow_zero, Nat.one_mul, Nat.one_mul]
    show stpA D r (asgW D a) acc = stpA D r (asgC D r b) acc
    rw [e]
  | succ j ih =>
    intro hj a b h acc
    have hs : nP D - 1 - j < nP D := by omega
    have hK : 0 < nK D := Nat.lt_of_le_of_lt (Nat.zero_le _) (hr _ hs)
    have old : ∀ p d, p + (j + 1) < nP D → d < nK D → (nK D * a + d) / nK D ^ (nP D - 1 - j - p) = a / nK D ^ (nP D - 1 - (j + 1) - p) := fun p d h1 h2 => by
      rw [show nP D - 1 - j - p = (nP D - 1 - (j + 1) - p) + 1 by omega]
      exact dk h2
    have new : ∀ d, d < nK D → (nK D * a + d) / nK D ^ (nP D - 1 - j - (nP D - 1 - j)) % nK D = d := fun d hd => by
      rw [Nat.sub_self, Nat.pow_zero, Nat.div_one, Nat.mul_add_mod, Nat.mod_eq_of_lt hd]
    have es : nK D ^ (j + 1) * a = nK D ^ j * (nK D * a) := by rw [Nat.pow_succ, Nat.mul_assoc]
    rw [es, Nat.pow_succ]
    by_cases c : r 1 (nP D - 1 - j) = 0
    · have eo : oC D r (j + 1) = oC D r j + 1 := by
        rw [oC, if_pos c]
      have es2 : nK D ^ (oC D r j + 1) * b = nK D ^ oC D r j * (nK D * b) := by rw [Nat.pow_succ, Nat.mul_assoc]
      rw [eo, es2, Nat.pow_succ]
      have key : ∀ d, d ≤ nK D → foldN (fun W => stpA D r (asgW D W)) (nK D ^ j * d) (nK D ^ j * (nK D * a)) acc = foldN (fun B => stpA D r (asgC D r B)) (nK D ^ oC D r j * d) (nK D ^ oC D r j * (nK D * b)) acc := by
        intro d
        induction d with
        | zero =>
          intro _
          rfl
        | succ d ihd =>
          intro hd
          rw [Nat.mul_succ, Nat.mul_succ, foldN_add, foldN_add, ihd (by omega), ← Nat.mul_add, ← Nat.mul_add]
          refine ih (by omega) (nK D * a + d) (nK D * b + d) (fun p hp => ?_) _
          by_cases e : p = nP D - 1 - j
          · subst e
            rw [new d (by omega), show nP D - 1 - (nP D - 1 - j) = j by omega, Nat.sub_self, Nat.pow_zero, Nat.div_one, Nat.mul_add_mod, Nat.mod_eq_of_lt (by omega)]
            exact ⟨fun _ => rfl, fun z => absurd c z⟩
          · have hp2 : p + (j + 1) < nP D := by omega
            have hm := oC_mono (D := D) (r := r) (j + 1) (nP D - 1 - p) (by omega)
            rw [old p d hp2 (by omega)]
            have := h p hp2
            refine ⟨fun z => ?_, this.2⟩
            rw [this.1 z, show oC D r (nP D - 1 - p) - oC D r j = (oC D r (nP D - 1 - p) - oC D r (j + 1)) + 1 by omega, dk (show d < nK D by omega)]
      exact key (nK D) (Nat.le_refl _)
    · have eo : oC D r (j + 1) = oC D r j := by
        rw [oC, if_neg c]
        rfl
      rw [eo]
      have key : ∀ d, d ≤ nK D → foldN (fun W => stpA D r (asgW D W)) (nK D ^ j * d) (nK D ^ j * (nK D * a)) acc = if r 3 (nP D - 1 - j) < d then foldN (fun B => stpA D r (asgC D r B)) (nK D ^ oC D r j) (nK D ^ oC D r j * b) acc else acc := by
        intro d
        induction d with
        | zero =>
          intro _
          rw [if_neg (Nat.not_lt_zero _)]
          rfl
        | succ d ihd =>
          intro hd
          rw [Nat.mul_succ, foldN_add, ihd (by omega), ← Nat.mul_add]
          by_cases e : d = r 3 (nP D - 1 - j)
          · rw [if_neg (by omega), if_pos (by omega)]
            refine ih (by omega) (nK D * a + d) b (fun p hp => ?_) _
            by_cases e2 : p = nP D - 1 - j
            · subst e2
              rw [new d (by omega)]
              exact ⟨fun z => absurd z c, fun _ => e⟩
            · have hp2 : p + (j + 1) < nP D := by omega
              rw [old p d hp2 (by omega)]
              have := h p hp2
              rw [eo] at this
              exact this
          · have bad := fun acc => han_bad (D := D) (r := r) hK (j := j) (a := nK D * a + d) (p := nP D - 1 - j) (by omega) c (by rw [new d (by omega)]; exact e) acc
            rw [bad]
            by_cases e3 : r 3 (nP D - 1 - j) < d
            · rw [if_pos e3, if_pos (by omega)]
            · rw [if_neg e3, if_neg (by omega)]
      have := key (nK D) (Nat.le_refl _)
      rw [if_pos (hr _ hs)] at this
      exact this
theorem han_eq (hr : ∀ p, p < nP D → r 3 p < nK D) (acc : AC) : foldN (fun W => stpA D r (asgW D W)) (nK D ^ nP D) 0 acc = foldN (fun B => stpA D r (asgC D r B)) (nK D ^ oC D r (nP D)) 0 acc :=
  han_main hr (nP D) (Nat.le_refl _) 0 0 (fun p hp => absurd hp (by omega)) acc
end HAN
