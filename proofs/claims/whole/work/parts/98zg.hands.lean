/-! hands: the reference's asking -/
def mn (f : Nat → Bool) : Nat → Nat
  | 0 => 0
  | p + 1 => mn f p + if f p = true then 2 ^ p else 0
def Mem (D : LD) (r : RD) (τ : St) : Prop := ∀ k m, k < nK D → m < 128 → τ 99 (128 * k + m) = 0 ∨ τ 99 (128 * k + m) = 1 ∧ canB D r k (nI m) = true ∨ τ 99 (128 * k + m) = 2 ∧ canB D r k (nI m) = false
def vlB (D : LD) (r : RD) (A : Nat → Nat) : Nat → Bool
  | 0 => true
  | p + 1 => vlB D r A p && (decide (r 1 p = 0) || decide (A p = r 3 p))
def ftB (D : LD) (r : RD) (A : Nat → Nat) : Nat → Nat → Bool
  | 0, _ => true
  | c + 1, k => canB D r k (setA D r A k) && ftB D r A c (k + 1)
section HANB
variable {D : LD} {r : RD} {N : Nat}
theorem mn_lt (f : Nat → Bool) : ∀ n, mn f n < 2 ^ n
  | 0 => Nat.one_pos
  | n + 1 => by
    have h := mn_lt f n
    rw [mn, Nat.pow_succ]
    split <;> omega
theorem or_bit : ∀ n : Fin 7, ∀ a : Fin 128, a.val < 2 ^ n.val → nI a.val ||| (1 <<< (nI n.val &&& 31)) = nI (a.val + 2 ^ n.val) := by decide +kernel
theorem mset_mn (f : Nat → Bool) : ∀ n, n ≤ 7 → mset f n = nI (mn f n)
  | 0, _ => rfl
  | n + 1, h => by
    have h1 := mn_lt f n
    have h2 : 2 ^ n ≤ 2 ^ 6 := Nat.pow_le_pow_right (by decide) (by omega)
    rw [mset, mn, mset_mn f n (by omega)]
    by_cases e : f n = true
    · rw [if_pos e, if_pos e]
      exact or_bit ⟨n, by omega⟩ ⟨mn f n, by omega⟩ h1
    · rw [if_neg e, if_neg e, Nat.add_zero]
      exact Int32.or_zero
theorem b_hand {τ : St} (g : RlB D r τ) {W p : Nat} (hp : p < nP D) (hK : 0 < nK D) (hW : W < 2 ^ 20) (hN : 7000 ≤ N) : o_X10_handOf N (nI W) (nI p) τ = some (nI (asgW D W p), τ) := by
  have h7 := g.ho.p7
  have h3 := g.ho.k3
  have ckd : ∀ (o : Option (Int32 × St)), ckDI (nI (nK D)) o = o := fun o => if_neg (fun z => absurd ((nI_eq (a := nK D) (b := 0) (by omega) (by omega)).mp z) (by omega))
  have loop : ∀ (c n W : Nat), p + c < 10 → W < 2 ^ 20 → c < n → l_X10_handOf_10 N n (nI p) (nI W) (nI (p + c)) τ = some (nI (W / nK D ^ c % nK D), τ) := by
    intro c
    induction c with
    | zero =>
      intro n W _ hW hn
      obtain ⟨n, rfl⟩ : ∃ k, n = k + 1 := ⟨n - 1, by omega⟩
      rw [l_X10_handOf_10, if_pos (nI_le (show p + 0 ≤ p from Nat.le_refl _) (by omega)), g.hb.1.2.2.1, ckd, nI_mod (by omega) (by omega), Nat.pow_zero, Nat.div_one]
    | succ c ih =>
      intro n W hc hW hn
      obtain ⟨n, rfl⟩ : ∃ k, n = k + 1 := ⟨n - 1, by omega⟩
      have hle : ¬ nI (p + (c + 1)) ≤ nI p := by
        rw [nI_le_iff (by omega) (by omega)]
        omega
      have e1 : nI (p + (c + 1)) + (-1) = nI (p + c) := by
        have : nI (p + (c + 1)) - 1 = nI (p + c) := nI_sub (b := 1) (by omega)
        rw [← this]
        exact (Int32.sub_eq_add_neg _ _).symm
      have hd := Nat.div_le_self W (nK D)
      rw [l_X10_handOf_10, if_neg hle, g.hb.1.2.2.1, ckd, nI_div (by omega) (by omega), bt_eq, e1, bt_eq, ih n (W / nK D) (by omega) (by omega) (by omega), Nat.div_div_eq_div_mul, Nat.pow_succ, Nat.mul_comm (nK D ^ c)]
  have e2 : nI (nP D) - 1 = nI (p + (nP D - 1 - p)) := by
    have : nI (nP D) - 1 = nI (nP D - 1) := nI_sub (b := 1) (by omega)
    rw [this]
    congr 1
    omega
  unfold o_X10_handOf asgW
  rw [g.hb.1.2.2.2, bt_eq, e2, if_pos hp]
  exact loop (nP D - 1 - p) N W (by omega) hW (by omega)
theorem b_canHave {τ : St} (g : RlB D r τ) (hM : Mem D r τ) {k m : Nat} (hk : k < nK D) (hm : m < 128) (hL : ∀ q, q < 32 → bit (nI m) q = true → q < nP D ∧ r 1 q = 0) (hN : 7000 ≤ N) (hU : UB 9 + 2 ≤ N) :
    ∃ w, o_X10_canHave N (nI k) (nI m) τ = some (b01 (canB D r k (nI m)), w) ∧ Mem D r w ∧ FrM τ w := by
  have h3 := g.ho.k3
  have ex : (128 : Int32) * nI k + nI m = nI (128 * k + m) := by
    show nI 128 * nI k + nI m = _
    rw [nI_mul, nI_add]
  have ck : ∀ {o : Option (Int32 × St)}, ckA (nI (128 * k + m)) 384 o = o := fun {o} => b_cka (x := 128 * k + m) (n := 384) o (by omega) (by decide)
  have ni : (nI (128 * k + m)).toNatClampNeg = 128 * k + m := nI_clamp (n := 128 * k + m) (by omega)
  have n20 : ¬ (2 : Int32) = 1 := by decide
  have n10 : ¬ (1 : Int32) = 0 := by decide
  have n21 : ¬ (2 : Int32) = 0 := by decide
  unfold o_X10_canHave j_X10_canHave_40 j_X10_canHave_39 j_X10_canHave_40
  rw [ex, bt_eq, ck, ni]
  rcases hM k m hk hm with h0 | ⟨h1, h2⟩ | ⟨h1, h2⟩
  · obtain ⟨hS, b7⟩ := op_set g.z hk hL
    obtain ⟨w, q1, q2, q3⟩ := b_find (N := N) (any := true) (A := 1) (k := k) g hS (fun e => by rw [b7] at e; cases e) ⟨by omega, by omega⟩ (fun e => by rw [b7] at e; cases e) hk hN hU
    have q1' : o_X10_findOrder N (nI k) (nI m) 1 τ = _ := q1
    have w99 : w 99 = τ 99 := q3.1 99 (by omega)
    rw [if_pos h0, q1', bd_some]
    have fm : ∀ x, FrM τ (st w 99 (128 * k + m) x) := fun x => q3.m.tr ⟨fun c hc => st_cell (by omega), fun i _ => by rw [st_cell (by decide)]⟩
    have mem : ∀ x, (x = 1 ∧ canB D r k (nI m) = true ∨ x = 2 ∧ canB D r k (nI m) = false) → Mem D r (st w 99 (128 * k + m) x) := by
      intro x hx k' m' hk' hm'
      rw [st_get, w99]
      by_cases e : 128 * k' + m' = 128 * k + m
      · have e1 : k' = k := by omega
        have e2 : m' = m := by omega
        rw [if_pos e, e1, e2]
        exact Or.inr hx
      · rw [if_neg e]
        exact hM k' m' hk' hm'
    cases hb : bestO D r 0 0 0 true k (nI m) with
    | none =>
      have hc : canB D r k (nI m) = false := by
        unfold canB
        rw [hb]
        rfl
      have e9 : (99999999 : Int32) ≤ encB none := by decide
      rw [if_pos e9, ck, bt_eq, ck, st_same, if_neg n20, hc]
      exact ⟨_, rfl, mem 2 (Or.inr ⟨rfl, hc⟩), fm 2⟩
    | some x =>
      rw [hb] at q2
      obtain ⟨-, q4, q5, -⟩ := q2
      have hc : canB D r k (nI m) = true := by
        unfold canB
        rw [hb]
        rfl
      have e9 : ¬ (99999999 : Int32) ≤ encB (some x) := fun e => absurd ((nI_le_iff (a := 99999999) (b := x.1) (by omega) (by omega)).mp e) (by omega)
      rw [if_neg e9, ck, bt_eq, ck, st_same, if_pos rfl, hc]
      exact ⟨_, rfl, mem 1 (Or.inl ⟨rfl, hc⟩), fm 1⟩
  · have e0 : ¬ τ 99 (128 * k + m) = 0 := by
      rw [h1]
      exact n10
    rw [if_neg e0, ck, if_pos h1, h2]
    exact ⟨τ, rfl, hM, FrM.rf⟩
  · have e0 : ¬ τ 99 (128 * k + m) = 0 := by
      rw [h1]
      exact n21
    have e1 : ¬ τ 99 (128 * k + m) = 1 := by
      rw [h1]
      exact n20
    rw [if_neg e0, ck, if_neg e1, h2]
    exact ⟨τ, rfl, hM, FrM.rf⟩
end HANB
