/-! the reference's search: the levels put together -/
def LevP (D : LD) (r : RD) (t s A : Nat) (any : Bool) (N Z k : Nat) (L0 : Int32) (f : Nat) : Prop := ∀ (ρ pre Dy Tv : Nat → Nat) (a day tr m B : Nat) (L : Int32), LvOk D r t s A k L0 ρ a day tr L m pre Dy Tv B → m + pc L = Z → pc L ≤ f → 1 ≤ pc L →
  ∀ (C c p : Nat) (b : BS) (σ : St), c ≤ C → p + c = 8 → RlB D r σ → FldB t s A L0 σ → StB pre Dy Tv m σ → BestB Z b σ →
  ∃ u w, u ≤ c * (2 + UB (f - 1)) + 1 ∧ (∀ n, l_X10_findOrder_63 N (n + 1 + u) (nI k) (b01 any) (nI m) (nI p) L σ = PopV N n (nI k) (b01 any) m pre L w) ∧
    BestB Z (srF D t s (srch D t s any f) ρ a day tr L m pre c p b) w ∧ StB pre Dy Tv m w ∧ FrB σ w
section LEV2
variable {D : LD} {r : RD} {t s A : Nat} {any : Bool} {N Z k : Nat} {L0 : Int32}
abbrev KT : Type := Int32 → Int32 → Int32 → Int32 → Int32 → St → Option (Int32 × St)
theorem bt_eq {α β : Type} (x : α) (f : α → β) : bt x f = f x := rfl
theorem b_back {pre : Nat → Nat} {m : Nat} {L : Int32} {σ : St} (K : KT) (kI anyI v5 : Int32) (hm : m ≤ 8) (h95 : m ≠ 0 → σ 95 (m - 1) = nI (pre (m - 1))) :
    j_X10_findOrder_188 N K kI anyI (nI m) v5 L (nI 8) σ = if m = 0 then K kI anyI (-1) v5 L σ else K kI anyI (nI (m - 1)) (nI (pre (m - 1) + 1)) (L ||| 1 <<< (nI (pre (m - 1)) &&& 31)) σ := by
  have h8 : ¬ nI 8 ≤ (7 : Int32) := fun e => absurd ((nI_le_iff (a := 8) (b := 7) (by omega) (by omega)).mp e) (by omega)
  unfold j_X10_findOrder_188
  rw [if_neg h8, bt_eq]
  by_cases m0 : m = 0
  · have e0 : nI 0 + (-1) = -1 := by decide
    rw [if_pos m0, m0, e0, if_pos (by decide)]
    rfl
  · have es : nI (pre (m - 1) + 1) = nI (pre (m - 1)) + 1 := by rw [nI_succ]
    rw [if_neg m0, nI_m1 (by omega), if_neg (nI_pos (by omega)), b_cka (x := m - 1) (n := 9) _ (by omega) (by decide), bt_eq, b_cka (x := m - 1) (n := 9) _ (by omega) (by decide), bt_eq, nI_clamp (n := m - 1) (by omega), h95 m0, es]
    rfl
theorem b_deep {m q : Nat} {L : Int32} {σ : St} (K : KT) (kI anyI v5 : Int32) (hq : q < 8) (hm : m < 8) (h38 : σ 79 38 = nI Z) (hZ : Z ≤ 8) (hne : ¬ m + 1 = Z) :
    j_X10_findOrder_188 N K kI anyI (nI m) v5 L (nI q) σ = K kI anyI (nI (m + 1)) (nI 0) (rmv L q) σ := by
  have hq7 : nI q ≤ (7 : Int32) := (nI_le_iff (a := q) (b := 7) (by omega) (by omega)).mpr (by omega)
  have esm : nI (m + 1) = nI m + 1 := by rw [nI_succ]
  have hn2 : ¬ nI (m + 1) = nI Z := fun e => hne ((nI_eq (by omega) (by omega)).mp e)
  unfold j_X10_findOrder_188
  rw [if_pos hq7, bt_eq, bt_eq, ← esm, h38, if_neg hn2]
  rfl
theorem b_found {m q : Nat} {L : Int32} {σ w2 : St} (K : KT) (kI anyI v5 : Int32) (hq : q < 8) (hb : bit L q = true) (hm : m < 8) (h38 : σ 79 38 = nI Z) (hZ : Z ≤ 8) (he : m + 1 = Z) (hl : o_X10_look N σ = some ((), w2)) (h95 : w2 95 m = nI q) :
    j_X10_findOrder_188 N K kI anyI (nI m) v5 L (nI q) σ = K kI anyI (nI m) (nI (q + 1)) L w2 := by
  have hq7 : nI q ≤ (7 : Int32) := (nI_le_iff (a := q) (b := 7) (by omega) (by omega)).mpr (by omega)
  have esm : nI (m + 1) = nI m + 1 := by rw [nI_succ]
  have esq : nI (q + 1) = nI q + 1 := by rw [nI_succ]
  have hn2 : nI (m + 1) = nI Z := by rw [he]
  have hbk : L &&& (1 <<< (nI q &&& 31) ^^^ (-1 : Int32)) ||| 1 <<< (nI q &&& 31) = L := rmv_back (by omega) hb
  unfold j_X10_findOrder_188
  rw [if_pos hq7, bt_eq, bt_eq, ← esm, h38, if_pos hn2, hl, bd_some, bt_eq, nI_m1 (by omega), Nat.add_sub_cancel, b_cka (x := m) (n := 9) _ (by omega) (by decide), bt_eq, b_cka (x := m) (n := 9) _ (by omega) (by decide), bt_eq, nI_clamp (n := m) (by omega), h95, ← esq, hbk]
  rfl
theorem l63_neg (n : Nat) (kI anyI x y : Int32) (w : St) : l_X10_findOrder_63 N (n + 1) kI anyI (-1) x y w = some (w 79 37, w) := by
  rw [l_X10_findOrder_63, if_pos (by decide)]
  rfl
theorem b_pop {pre : Nat → Nat} {m : Nat} {L : Int32} {σ : St} (n : Nat) (kI anyI v5 : Int32) (hm : m ≤ 8) (h95 : m ≠ 0 → σ 95 (m - 1) = nI (pre (m - 1))) :
    j_X10_findOrder_188 N (l_X10_findOrder_63 N (n + 1)) kI anyI (nI m) v5 L (nI 8) σ = PopV N n kI anyI m pre L σ := by
  rw [b_back (pre := pre) _ _ _ _ hm h95]
  unfold PopV
  by_cases m0 : m = 0
  · rw [if_pos m0, if_pos m0, l63_neg]
  · rw [if_neg m0, if_neg m0]
end LEV2
