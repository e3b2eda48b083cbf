/-! numbers: an Int32 by a Nat -/
theorem nI_lit (n : Nat) : (OfNat.ofNat n : Int32) = nI n := rfl
theorem nI_mul (a b : Nat) : nI a * nI b = nI (a * b) := (Int32.ofNat_mul a b).symm
theorem nI_sub {a b : Nat} (h : b ≤ a) : nI a - nI b = nI (a - b) := by
  have e : nI a = nI (a - b) + nI b := by
    rw [nI_add]
    congr 1
    omega
  rw [e, Int32.add_sub_cancel]
theorem nI_le_iff {a b : Nat} (ha : a < 2 ^ 31) (hb : b < 2 ^ 31) : nI a ≤ nI b ↔ a ≤ b := by
  rw [Int32.le_iff_toInt_le, nI_toInt ha, nI_toInt hb]
  omega
theorem nI_lt_iff {a b : Nat} (ha : a < 2 ^ 31) (hb : b < 2 ^ 31) : nI a < nI b ↔ a < b := by
  rw [Int32.lt_iff_toInt_lt, nI_toInt ha, nI_toInt hb]
  omega
theorem nI_div {a b : Nat} (ha : a < 2 ^ 31) (hb : b < 2 ^ 31) : nI a / nI b = nI (a / b) := by
  apply Int32.toInt_inj.mp
  have hd : a / b ≤ a := Nat.div_le_self a b
  rw [Int32.toInt_div, nI_toInt ha, nI_toInt hb, nI_toInt (by omega)]
  show (((a / b : Nat) : Int)).bmod (2 ^ 32) = _
  generalize a / b = q at hd ⊢
  exact Int.bmod_eq_of_le (by omega) (by omega)
theorem nI_mod {a b : Nat} (ha : a < 2 ^ 31) (hb : b < 2 ^ 31) : nI a - nI a / nI b * nI b = nI (a % b) := by
  rw [nI_div ha hb, nI_mul, nI_sub (Nat.div_mul_le_self a b)]
  congr 1
  have := Nat.mod_add_div' a b
  omega
theorem nI_neg1 {a : Nat} (h : a < 2 ^ 31) : ¬ nI a = -1 := by
  intro e
  have h1 := congrArg Int32.toInt e
  rw [nI_toInt h] at h1
  have h2 : (-1 : Int32).toInt = -1 := by decide
  omega
theorem nI_lt0 {a : Nat} (h : a < 2 ^ 31) : ¬ nI a < 0 := nI_pos h
theorem nI_vp {a n : Nat} (h : a < n) (hn : n < 2 ^ 31) : vp_in (nI a) n := nI_in h hn
theorem at_nI {σ : St} {k n j : Nat} (h : j < n) (hn : n < 2 ^ 31) : at_ σ k n (nI j) = σ k j := by
  show (if nI j < 0 then 0 else if nI n ≤ nI j then 0 else σ k (nI j).toNatClampNeg) = _
  rw [if_neg (nI_pos (by omega)), if_neg (nI_ge h hn), nI_clamp (by omega)]
theorem at_out {σ : St} {k n j : Nat} (h : n ≤ j) (hj : j < 2 ^ 31) : at_ σ k n (nI j) = 0 := by
  show (if nI j < 0 then 0 else if nI n ≤ nI j then 0 else σ k (nI j).toNatClampNeg) = _
  rw [if_neg (nI_pos hj), if_pos (nI_le h hj)]
theorem at_neg {σ : St} {k n : Nat} : at_ σ k n (-1) = 0 := by
  unfold at_
  rw [if_pos (by decide)]
theorem put_nI {σ : St} {k n j : Nat} {x : Int32} (h : j < n) (hn : n < 2 ^ 31) : put_ σ k n (nI j) x = st σ k j x := by
  show (if nI j < 0 then σ else if nI n ≤ nI j then σ else st σ k (nI j).toNatClampNeg x) = _
  rw [if_neg (nI_pos (by omega)), if_neg (nI_ge h hn), nI_clamp (by omega)]
theorem st_same {σ : St} {k j : Nat} {x : Int32} : st σ k j x k j = x := by simp [st, upd]
theorem st_cell {σ : St} {k a j : Nat} {x : Int32} (h : ¬ a = k) : st σ k j x a = σ a := if_neg h
theorem st_place {σ : St} {k i j : Nat} {x : Int32} (h : ¬ i = j) : st σ k j x k i = σ k i := by simp [st, upd, h]
theorem st_get (σ : St) (k j : Nat) (x : Int32) (i : Nat) : st σ k j x k i = if i = j then x else σ k i := by simp [st, upd]
/-- every Int32 is below 0 or a Nat's -/
theorem int_cases (x : Int32) : x < 0 ∨ ∃ n, n < 2 ^ 31 ∧ x = nI n := by
  by_cases h : x < 0
  · exact Or.inl h
  · right
    have h0 : 0 ≤ x.toInt := by
      rw [Int32.lt_iff_toInt_lt] at h
      simpa using h
    have h1 := x.toInt_lt
    refine ⟨x.toInt.toNat, by omega, ?_⟩
    apply Int32.toInt_inj.mp
    rw [nI_toInt (by omega)]
    omega
/-- a number, or none -/
def oI (a : Nat) : Int32 := match a with
  | 0 => -1
  | a + 1 => nI a
/-! sets -/
def bit (x : Int32) (p : Nat) : Bool := x.toBitVec.getLsbD p
def mset (f : Nat → Bool) : Nat → Int32
  | 0 => 0
  | p + 1 => mset f p ||| (if f p then 1 <<< (nI p &&& 31) else 0)
theorem shl_and {p : Nat} (h : p < 32) : (nI p &&& 31 : Int32) = nI p := by
  apply Int32.toBitVec_inj.mp
  apply BitVec.eq_of_toNat_eq
  have e : (31 : Int32).toBitVec.toNat = 2 ^ 5 - 1 := by decide
  have e2 : (nI p).toBitVec.toNat = p := by
    show (BitVec.ofNat 32 p).toNat = p
    rw [BitVec.toNat_ofNat, Nat.mod_eq_of_lt (by omega)]
  rw [Int32.toBitVec_and, BitVec.toNat_and, e, Nat.and_two_pow_sub_one_eq_mod, e2]
  omega
theorem bit_or (x y : Int32) (p : Nat) : bit (x ||| y) p = (bit x p || bit y p) := by simp [bit]
theorem bit_and (x y : Int32) (p : Nat) : bit (x &&& y) p = (bit x p && bit y p) := by simp [bit]
theorem bit_0 (p : Nat) : bit 0 p = false := by simp [bit]
theorem bit_one {p q : Nat} (h : p < 32) (hq : q < 32) : bit (1 <<< (nI p &&& 31)) q = decide (p = q) := by
  rw [shl_and h]
  have h1 : ∀ p q : Fin 32, bit (1 <<< (nI p.val)) q.val = decide (p.val = q.val) := by decide +kernel
  exact h1 ⟨p, h⟩ ⟨q, hq⟩
theorem bit_mset (f : Nat → Bool) : ∀ (n q : Nat), n ≤ 32 → q < 32 → bit (mset f n) q = (decide (q < n) && f q)
  | 0, q, _, _ => by simp [mset, bit_0]
  | n + 1, q, hn, hq => by
    rw [mset, bit_or, bit_mset f n q (by omega) hq]
    by_cases hf : f n
    · rw [if_pos hf, bit_one (by omega) hq]
      by_cases e : n = q
      · subst e
        simp [hf]
      · have : decide (n = q) = false := by simpa using e
        rw [this, Bool.or_false]
        congr 1
        simp
        omega
    · rw [if_neg hf, bit_0, Bool.or_false]
      by_cases e : q = n
      · subst e
        simp [hf]
      · congr 1
        simp
        omega
theorem set_ext {x y : Int32} (h : ∀ q, q < 32 → bit x q = bit y q) : x = y := by
  apply Int32.toBitVec_inj.mp
  apply BitVec.eq_of_getLsbD_eq
  intro i hi
  exact h i hi
