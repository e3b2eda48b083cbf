/-! shares: first of a family, sums; the reference's totals -/
section SHARE2
variable {D : LD} {r : RD} {N : Nat}
def fstI (D : LD) (F : Nat) : Nat → Nat → Int32
  | 0, _ => -1
  | c + 1, i => if D 1 i = F then nI i else fstI D F c (i + 1)
theorem fst_in {F : Nat} : ∀ (c i k : Nat), i ≤ k → k < i + c → D 1 k = F → ∃ f, i ≤ f ∧ f ≤ k ∧ D 1 f = F ∧ fstI D F c i = nI f ∧ ∀ j, i ≤ j → j < f → ¬ D 1 j = F
  | 0, i, k, h1, h2, _ => absurd h2 (by omega)
  | c + 1, i, k, h1, h2, h3 => by
    rw [fstI]
    by_cases e : D 1 i = F
    · rw [if_pos e]
      exact ⟨i, Nat.le_refl _, h1, e, rfl, fun j a b => absurd a (by omega)⟩
    · rw [if_neg e]
      have : ¬ i = k := fun z => e (by rw [z]; exact h3)
      obtain ⟨f, f1, f2, f3, f4, f5⟩ := fst_in c (i + 1) k (by omega) (by omega) h3
      refine ⟨f, by omega, f2, f3, f4, fun j a b => ?_⟩
      by_cases e2 : j = i
      · rw [e2]
        exact e
      · exact f5 j (by omega) b
theorem a_first {σ : St} (h : RlA D r σ) {F : Nat} (hF : F < 3) : ∀ (c n i : Nat), i + c = nK D → c < n → l_X9_firstOfFamily_2 N n (nI F) (nI i) σ = some (fstI D F c i, σ) := by
  intro c
  have h3 := h.ho.k3
  induction c with
  | zero =>
    intro n i hi hn
    obtain ⟨n, rfl⟩ : ∃ x, n = x + 1 := ⟨n - 1, by omega⟩
    rw [l_X9_firstOfFamily_2, h.ha.1.2.2.1, if_pos (nI_le (by omega) (by omega)), fstI]
  | succ c ih =>
    intro n i hi hn
    obtain ⟨n, rfl⟩ : ∃ x, n = x + 1 := ⟨n - 1, by omega⟩
    have hlt : i < nK D := by omega
    have hf := fam_lt h.ho hlt
    rw [l_X9_firstOfFamily_2, h.ha.1.2.2.1, if_neg (nI_ge hlt (by omega)), a_fam h hlt, fstI]
    by_cases e : D 1 i = F
    · rw [if_pos (by rw [e]), if_pos e]
    · rw [if_neg (fun z => e ((nI_eq (by omega) (by omega)).mp z)), if_neg e, bt_eq, ← p1_sub]
      exact ih n (i + 1) (by omega) (by omega)
theorem got_tot {F V T : Nat} : ∀ n, T * gotF D r F V T n ≤ V * totF D r F n
  | 0 => Nat.zero_le _
  | n + 1 => by
    have h1 := got_tot (F := F) (V := V) (T := T) n
    rw [gotF, totF]
    by_cases e : D 1 n = F
    · rw [if_pos e, if_pos e, Nat.mul_add, Nat.mul_add]
      have := Nat.mul_div_le (V * szK D r n) T
      omega
    · rw [if_neg e, if_neg e]
      exact h1
theorem tot_got {F V T : Nat} (hT : 0 < T) : ∀ n, V * totF D r F n ≤ T * (gotF D r F V T n + cnt (fun i => decide (D 1 i = F)) n)
  | 0 => Nat.zero_le _
  | n + 1 => by
    have h1 := tot_got (F := F) (V := V) hT n
    rw [gotF, totF, cnt]
    by_cases e : D 1 n = F
    · rw [if_pos e, if_pos e, decide_eq_true e, Nat.mul_add]
      show _ ≤ T * (gotF D r F V T n + V * szK D r n / T + (cnt (fun i => decide (D 1 i = F)) n + 1))
      have h2 : V * szK D r n = T * (V * szK D r n / T) + V * szK D r n % T := (Nat.div_add_mod _ _).symm
      have h3 := Nat.mod_lt (V * szK D r n) hT
      have e4 : T * (gotF D r F V T n + V * szK D r n / T + (cnt (fun i => decide (D 1 i = F)) n + 1)) = T * (gotF D r F V T n + cnt (fun i => decide (D 1 i = F)) n) + T * (V * szK D r n / T) + T := by
        simp only [Nat.mul_add, Nat.mul_one]
        omega
      rw [e4]
      omega
    · rw [if_neg e, if_neg e, decide_eq_false e]
      exact h1
theorem got_le {F V : Nat} (hT : 0 < totF D r F (nK D)) : gotF D r F V (totF D r F (nK D)) (nK D) ≤ V := by
  have := got_tot (D := D) (r := r) (F := F) (V := V) (T := totF D r F (nK D)) (nK D)
  rw [Nat.mul_comm V] at this
  exact Nat.le_of_mul_le_mul_left this hT
theorem left_le {F V : Nat} (hT : 0 < totF D r F (nK D)) : V - gotF D r F V (totF D r F (nK D)) (nK D) ≤ cnt (fun i => decide (D 1 i = F)) (nK D) := by
  have := tot_got (D := D) (r := r) (F := F) (V := V) hT (nK D)
  rw [Nat.mul_comm V] at this
  have := Nat.le_of_mul_le_mul_left this hT
  omega
/-- what one of the family is given -/
def shrV (D : LD) (r : RD) (k : Nat) : Nat :=
  if 0 < totF D r (D 1 k) (nK D) then r 6 (D 1 k) * szK D r k / totF D r (D 1 k) (nK D) + (if r 6 (D 1 k) - gotF D r (D 1 k) (r 6 (D 1 k)) (totF D r (D 1 k) (nK D)) (nK D) ≤ cnt (ahdQ D r (D 1 k) (r 6 (D 1 k)) (totF D r (D 1 k) (nK D)) k) (nK D) then 0 else 1)
  else if fstI D (D 1 k) (nK D) 0 = nI k then r 6 (D 1 k) else 0
theorem a_share {σ : St} (h : RlA D r σ) (hN : 7000 ≤ N) {k : Nat} (hk : k < nK D) : o_X9_share N (nI k) σ = some (nI (shrV D r k), σ) := by
  have h3 := h.ho.k3
  have hF := fam_lt h.ho hk
  have hV : r 6 (D 1 k) ≤ 63 := h.ri.2.2.2 _ hF
  have hT := totF_le (r := r) h.ho (F := D 1 k) (nK D)
  have e28 : p_X1_fellOn (nI (D 1 k)) σ = nI (r 6 (D 1 k)) := by
    show at_ σ 24 31 (nI 28 + nI (D 1 k)) = _
    rw [nI_add, at_nI (by omega) (by decide)]
    exact h.ra.2.2.2 _ hF
  unfold o_X9_share shrV
  rw [a_hasKeeper_in h.ha h.ho hk, if_neg one_ne, a_fam h hk, bt_eq, e28, bt_eq]
  have run : l_X9_share_41 N N (nI k) (nI (D 1 k)) (nI (r 6 (D 1 k))) 0 0 σ = _ := a_sh41 (N := N) h hN (k := k) (V := nI (r 6 (D 1 k))) hF (nK D) N 0 (by omega) (by omega)
  rw [run]
  obtain ⟨n, hn⟩ : ∃ x, N - nK D = x + 1 := ⟨N - nK D - 1, by omega⟩
  rw [hn, l_X9_share_41, h.ha.1.2.2.1, if_pos (nI_le (Nat.le_refl _) (by omega))]
  have hz1 := szK_le (r := r) h.ho k
  have hz : r 6 (D 1 k) * szK D r k ≤ 63 * 63 := Nat.mul_le_mul hV hz1
  by_cases c : 0 < totF D r (D 1 k) (nK D)
  · have hg := got_le (D := D) (r := r) (F := D 1 k) (V := r 6 (D 1 k)) c
    have := a_sh137 (N := N) h hN (k := k) (F := D 1 k) (V := r 6 (D 1 k)) (T := totF D r (D 1 k) (nK D)) hF hV ⟨c, by omega⟩ hk hg (nK D) N 0 (by omega) (by omega) (Nat.zero_le _)
    have e : l_X9_share_137 N N (nI k) (nI (D 1 k)) (nI (r 6 (D 1 k))) (nI (totF D r (D 1 k) (nK D))) (nI (r 6 (D 1 k))) 0 (nI (r 6 (D 1 k) * szK D r k % totF D r (D 1 k) (nK D))) 0 σ = _ := this
    have ck : ∀ (o : Option (Int32 × St)), ckDI (nI (totF D r (D 1 k) (nK D))) o = o := fun o => if_neg (fun z => absurd ((nI_eq (a := totF D r (D 1 k) (nK D)) (b := 0) (by omega) (by omega)).mp z) (by omega))
    have hp : (0 : Int32) < nI (totF D r (D 1 k) (nK D)) := (nI_lt_iff (a := 0) (b := totF D r (D 1 k) (nK D)) (by omega) (by omega)).mpr c
    rw [if_pos hp, a_sizesOf h hN, bd_some, ck, nI_mul, nI_mod (by omega) (by omega), bt_eq, e, if_pos c]
  · have hq : ¬ (0 : Int32) < nI (totF D r (D 1 k) (nK D)) := fun z => c ((nI_lt_iff (a := 0) (b := totF D r (D 1 k) (nK D)) (by omega) (by omega)).mp z)
    rw [if_neg hq, if_neg c]
    unfold o_X9_firstOfFamily
    have e : l_X9_firstOfFamily_2 N N (nI (D 1 k)) 0 σ = _ := a_first (N := N) h hF (nK D) N 0 (by omega) (by omega)
    rw [e, bd_some]
    by_cases c2 : fstI D (D 1 k) (nK D) 0 = nI k
    · rw [if_pos c2, if_pos c2]
    · rw [if_neg c2, if_neg c2]
      rfl
end SHARE2
