/-! the one mathematical value behind both: a land D, a state of days r; numbers, by kind and place -/
abbrev LD : Type := Nat → Nat → Nat
abbrev RD : Type := Nat → Nat → Nat
/-- how many towns, keepers, promises -/
def nT (D : LD) : Nat := D 0 0
def nK (D : LD) : Nat := D 0 2
def nP (D : LD) : Nat := D 0 3
/-- a graft as the class keeps it: none is -1 -/
def gI (g : Nat) : Int32 := if g = 9 then -1 else nI g
/-- a distance as the class keeps it; as the reference does (1000: no way) -/
def dI (d : Nat) : Int32 := if d = 1000 then -1 else nI d
def dJ (d : Nat) : Int32 := if d = 1000 then 99999999 else nI d
def LandOk (D : LD) : Prop :=
  (nT D ≤ 5 ∧ D 0 1 ≤ 8 ∧ nK D ≤ 3 ∧ nP D ≤ 7) ∧ (nT D = 0 → nK D = 0) ∧ (nK D = 0 → nP D = 0) ∧
  (∀ k, k < nK D → D 1 k < 3 ∧ D 9 k < nT D) ∧
  (∀ p, p < nP D → D 2 p < nT D ∧ (1 ≤ D 3 p ∧ D 3 p ≤ 60) ∧ D 4 p ≤ 9 ∧ (1 ≤ D 5 p ∧ D 5 p ≤ 9) ∧ (D 6 p = 9 ∨ D 6 p < p) ∧ D 10 p < nK D) ∧
  (∀ i, i < 25 → D 7 i ≤ 288 ∨ D 7 i = 1000) ∧ (∀ a, a < 5 → D 7 (5 * a + a) = 0) ∧
  (∀ a b c, a < 5 → b < 5 → c < 5 → D 7 (5 * a + b) ≠ 1000 → D 7 (5 * b + c) ≠ 1000 → D 7 (5 * a + c) ≤ D 7 (5 * a + b) + D 7 (5 * b + c)) ∧
  (D 8 2 = 0 ∧ D 8 0 = 0 ∧ D 8 1 = 0 ∨ 2 ≤ D 8 2 ∧ D 8 2 ≤ 99 ∧ D 8 1 < D 8 2 ∧ D 8 0 ≤ 98)
def LandA (D : LD) (σ : St) : Prop :=
  (σ 1 0 = nI (nT D) ∧ σ 1 1 = nI (D 0 1) ∧ σ 1 2 = nI (nK D) ∧ σ 1 3 = nI (nP D)) ∧ (σ 1 4 = nI (D 8 0) ∧ σ 1 5 = nI (D 8 1) ∧ σ 1 6 = nI (D 8 2)) ∧
  (∀ k, k < nK D → σ 3 k = nI (D 1 k) ∧ σ 2 k = nI (D 9 k)) ∧
  (∀ p, p < nP D → σ 4 p = nI (D 10 p) ∧ σ 5 p = nI (D 2 p) ∧ σ 6 p = nI (D 3 p) ∧ σ 7 p = nI (D 4 p) ∧ σ 8 p = nI (D 5 p) ∧ σ 9 p = gI (D 6 p)) ∧
  ∀ i, i < 25 → σ 10 i = dI (D 7 i)
def LandB (D : LD) (σ : St) : Prop :=
  (σ 79 2 = nI (nT D) ∧ σ 79 3 = nI (D 0 1) ∧ σ 79 4 = nI (nK D) ∧ σ 79 5 = nI (nP D)) ∧ (σ 92 0 = nI (D 8 0) ∧ σ 92 1 = nI (D 8 1) ∧ (D 8 2 = 0 ∧ (σ 92 2 = 2 ∨ σ 92 2 = 0) ∨ D 8 2 ≠ 0 ∧ σ 92 2 = nI (D 8 2))) ∧
  (∀ k, k < nK D → σ 85 k = nI (D 1 k) ∧ σ 84 k = nI (D 9 k)) ∧
  (∀ p, p < nP D → σ 86 p = nI (D 10 p) ∧ σ 87 p = nI (D 2 p) ∧ σ 88 p = nI (D 3 p) ∧ σ 89 p = nI (D 4 p) ∧ σ 90 p = nI (D 5 p) ∧ σ 91 p = nI (D 6 p)) ∧
  ∀ i, i < 25 → σ 83 i = dJ (D 7 i)
/-- the day on which one is given, and one; 0: not given -/
def gvn (D : LD) (r : RD) (p : Nat) : Nat := if D 6 p = 9 then 1 else if r 1 (D 6 p) = 1 then r 2 (D 6 p) else 0
def RowA (D : LD) (r : RD) (c : Nat → Int32) : Prop :=
  c 0 = nI (r 0 0) ∧ (∀ p, p < nP D → c (1 + p) = nI (r 1 p) ∧ c (8 + p) = oI (r 2 p) ∧ c (15 + p) = nI (r 3 p)) ∧
  (∀ k, k < nK D → c (22 + k) = nI (r 4 k) ∧ c (25 + k) = nI (r 5 k)) ∧ ∀ f, f < 3 → c (28 + f) = nI (r 6 f)
def RowB (D : LD) (r : RD) (w : Nat → Int32) (x : Nat) : Prop :=
  w (x + 37) = nI (r 0 0) ∧ (∀ p, p < nP D → w (x + p) = nI (r 1 p) ∧ w (x + 7 + p) = oI (r 2 p) ∧ w (x + 14 + p) = nI (r 3 p) ∧ w (x + 21 + p) = oI (gvn D r p)) ∧
  (∀ k, k < nK D → w (x + 28 + k) = nI (r 4 k) ∧ w (x + 31 + k) = nI (r 5 k)) ∧ ∀ f, f < 3 → w (x + 34 + f) = nI (r 6 f)
/-- ranges of a state of days -/
def RowIn (D : LD) (r : RD) : Prop :=
  r 0 0 ≤ 9200 ∧ (∀ p, p < nP D → r 1 p ≤ 3 ∧ r 2 p ≤ 10001 ∧ r 3 p < nK D ∧ (r 1 p = 1 → 1 ≤ r 2 p)) ∧ (∀ k, k < nK D → r 4 k < nT D ∧ r 5 k ≤ 10001) ∧ ∀ f, f < 3 → r 6 f ≤ 63
/-! what the class's small readers say -/
section RA
variable {D : LD} {r : RD} {σ : St}
theorem LandOk.p7 (h : LandOk D) : nP D ≤ 7 := h.1.2.2.2
theorem LandOk.k3 (h : LandOk D) : nK D ≤ 3 := h.1.2.2.1
theorem LandOk.t5 (h : LandOk D) : nT D ≤ 5 := h.1.1
theorem a_has {n : Nat} (hn : n < 2 ^ 31) (x : Int32) : (∃ p, p < n ∧ x = nI p) ∨ (x < 0 ∨ nI n ≤ x) := by
  rcases int_cases x with h | ⟨p, hp, rfl⟩
  · exact Or.inr (Or.inl h)
  · by_cases h : p < n
    · exact Or.inl ⟨p, h, rfl⟩
    · exact Or.inr (Or.inr (nI_le (by omega) hp))
theorem a_today (hr : RowA D r (σ 24)) : p_X1_today_23 σ = nI (r 0 0) := by
  show at_ σ 24 31 (nI 0) = _
  rw [at_nI (by decide) (by decide)]
  exact hr.1
theorem a_how (ho : LandOk D) (hr : RowA D r (σ 24)) {p : Nat} (hp : p < nP D) : p_X1_how_23 (nI p) σ = nI (r 1 p) := by
  have h7 := ho.p7
  show at_ σ 24 31 (nI 1 + nI p) = _
  rw [nI_add, at_nI (by omega) (by decide)]
  exact (hr.2.1 p hp).1
theorem a_ended (ho : LandOk D) (hr : RowA D r (σ 24)) {p : Nat} (hp : p < nP D) : p_X1_endedOn (nI p) σ = oI (r 2 p) := by
  have h7 := ho.p7
  show at_ σ 24 31 (nI 8 + nI p) = _
  rw [nI_add, at_nI (by omega) (by decide)]
  exact (hr.2.1 p hp).2.1
theorem a_holder (ho : LandOk D) (hr : RowA D r (σ 24)) {p : Nat} (hp : p < nP D) : p_X1_holderOf_23 (nI p) σ = nI (r 3 p) := by
  have h7 := ho.p7
  show at_ σ 24 31 (nI 15 + nI p) = _
  rw [nI_add, at_nI (by omega) (by decide)]
  exact (hr.2.1 p hp).2.2
theorem a_town (ho : LandOk D) (hr : RowA D r (σ 24)) {k : Nat} (hk : k < nK D) : p_X1_townOf_23 (nI k) σ = nI (r 4 k) := by
  have h3 := ho.k3
  show at_ σ 24 31 (nI 22 + nI k) = _
  rw [nI_add, at_nI (by omega) (by decide)]
  exact (hr.2.2.1 k hk).1
theorem a_there (ho : LandOk D) (hr : RowA D r (σ 24)) {k : Nat} (hk : k < nK D) : p_X1_thereOn_23 (nI k) σ = nI (r 5 k) := by
  have h3 := ho.k3
  show at_ σ 24 31 (nI 25 + nI k) = _
  rw [nI_add, at_nI (by omega) (by decide)]
  exact (hr.2.2.1 k hk).2
end RA
