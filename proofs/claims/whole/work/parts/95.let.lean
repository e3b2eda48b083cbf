/-! let -/
section LET
variable {D : LD} {r : RD} {N : Nat}
def szV (D : LD) (S : Int32) : Nat → Nat
  | 0 => 0
  | p + 1 => szV D S p + if bit S p = true then D 5 p else 0
theorem a_sizes_loop {σ : St} (ho : LandOk D) (ha : LandA D σ) (S : Int32) : ∀ (c n p : Nat), p + c = nP D → c < n → l_X5_sizesIn_4 N n S (nI (szV D S p)) (nI p) σ = some (nI (szV D S (nP D)), σ) := by
  intro c
  have h7 := ho.p7
  induction c with
  | zero =>
    intro n p hp hn
    obtain ⟨n, rfl⟩ : ∃ k, n = k + 1 := ⟨n - 1, by omega⟩
    have e : p = nP D := by omega
    rw [l_X5_sizesIn_4, ha.1.2.2.2, if_pos (nI_le (by omega) (by omega)), e]
  | succ c ih =>
    intro n p hp hn
    obtain ⟨n, rfl⟩ : ∃ k, n = k + 1 := ⟨n - 1, by omega⟩
    have hlt : p < nP D := by omega
    have e1 : ¬ b01 true = 0 := one_ne
    have e2 : b01 false = 0 := rfl
    have i1 := ih n (p + 1) (by omega) (by omega)
    rw [szV, p1_sub] at i1
    rw [l_X5_sizesIn_4, ha.1.2.2.2, if_neg (nI_ge hlt (by omega)), a_hasb S (g := p) (by omega), at_nI (j := p) (n := 7) (by omega) (by decide), (ha.2.2.2.1 p hlt).2.2.2.2.1]
    unfold j_X5_sizesIn_33
    cases hb : bit S p
    · rw [hb, if_neg Bool.false_ne_true] at i1
      rw [if_pos e2, bt_eq, bt_eq, Int32.add_zero]
      exact i1
    · rw [hb, if_pos rfl] at i1
      rw [if_neg e1, bt_eq, bt_eq, nI_add]
      exact i1
/-- the reference's sum of a set, and then what follows -/
theorem b_sum_loop {τ : St} (ho : LandOk D) (hb : LandB D τ) (K : Int32 → Int32 → Int32 → Int32 → Int32 → Int32 → Int32 → St → Option (Int32 × St)) (v2 v3 v4 v5 v6 v7 S : Int32) : ∀ (c n p : Nat), p + c = nP D → c < n →
    l_X10_let_72 N K n v2 v3 v4 v5 v6 v7 S (nI (szV D S p)) (nI p) τ = (if (S &&& (v4 ^^^ (-1))) = 0 then (if nI (szV D S (nP D)) = v2 then (if v5 = 0 then (j_X10_let_141 N K v2 v3 v4 v5 v7 S S τ) else (j_X10_let_141 N K v2 v3 v4 v5 v7 S v6 τ)) else (j_X10_let_153 N K v2 v3 v4 v5 v6 v7 S τ)) else (j_X10_let_153 N K v2 v3 v4 v5 v6 v7 S τ)) := by
  intro c
  have h7 := ho.p7
  induction c with
  | zero =>
    intro n p hp hn
    obtain ⟨n, rfl⟩ : ∃ k, n = k + 1 := ⟨n - 1, by omega⟩
    have e : p = nP D := by omega
    rw [l_X10_let_72, hb.1.2.2.2, if_pos (nI_le (by omega) (by omega)), e]
  | succ c ih =>
    intro n p hp hn
    obtain ⟨n, rfl⟩ : ∃ k, n = k + 1 := ⟨n - 1, by omega⟩
    have hlt : p < nP D := by omega
    have e1 : ¬ b01 true = 0 := one_ne
    have e2 : b01 false = 0 := rfl
    have i1 := ih n (p + 1) (by omega) (by omega)
    rw [szV, p1_sub] at i1
    rw [l_X10_let_72, hb.1.2.2.2, if_neg (nI_ge hlt (by omega)), b_has S (g := p) (by omega), b_cka (x := p) (n := 14) _ (by omega) (by decide), nI_clamp (n := p) (by omega), (hb.2.2.2.1 p hlt).2.2.2.2.1]
    unfold j_X10_let_104
    cases hb : bit S p
    · rw [hb, if_neg Bool.false_ne_true] at i1
      rw [if_pos e2, bt_eq, bt_eq, Int32.add_zero]
      exact i1
    · rw [hb, if_pos rfl] at i1
      rw [if_neg e1, bt_eq, bt_eq, nI_add]
      exact i1
theorem e_let_loop {σ τ : St} (h : RlA D r σ) (g : RlB D r τ) {own : Int32} (hown : ∀ q, q < 32 → bit own q = true → q < 7) (hN : 7000 ≤ N) (a2 a3 : Int32) : ∀ (c n s m : Nat) (least sA sB : Int32), s + c = 128 → m ≤ s → c < n →
    (m = 0 ∧ sA = own ∧ sB = 127 ∨ m ≠ 0 ∧ sA = sB) →
    ∃ v, l_X9_let_59 N n a2 a3 own (nI m) least sA (nI s) σ = some (v, σ) ∧ l_X10_let_58 N n a2 a3 own (nI m) least sB (nI s) τ = some (v, τ) := by
  intro c
  have h7 := h.ho.p7
  induction c with
  | zero =>
    intro n s m least sA sB hs hm hn hr
    obtain ⟨n, rfl⟩ : ∃ k, n = k + 1 := ⟨n - 1, by omega⟩
    have e : s = 128 := by omega
    subst e
    have hle : (128 : Int32) ≤ nI 128 := nI_le (a := 128) (by omega) (by omega)
    rw [l_X9_let_59, if_pos hle, l_X10_let_58, if_pos hle]
    by_cases c0 : a3 = 0
    · rw [if_pos c0, if_pos c0]
      exact ⟨_, rfl, rfl⟩
    · rw [if_neg c0, if_neg c0]
      by_cases c1 : a3 = 1
      · rw [if_pos c1, if_pos c1]
        exact ⟨_, rfl, rfl⟩
      · rw [if_neg c1, if_neg c1]
        rcases hr with ⟨r1, r2, r3⟩ | ⟨r1, r2⟩
        · have hz : nI m = 0 := by
            rw [r1]
            rfl
          rw [if_pos hz, if_pos hz]
          exact ⟨_, rfl, rfl⟩
        · have hz : ¬ nI m = 0 := fun e => r1 ((nI_eq (a := m) (b := 0) (by omega) (by omega)).mp e)
          rw [if_neg hz, if_neg hz, r2]
          exact ⟨_, rfl, rfl⟩
  | succ c ih =>
    intro n s m least sA sB hs hm hn hr
    obtain ⟨n, rfl⟩ : ∃ k, n = k + 1 := ⟨n - 1, by omega⟩
    have hle : ¬ (128 : Int32) ≤ nI s := fun e => absurd ((nI_le_iff (a := 128) (b := s) (by omega) (by omega)).mp e) (by omega)
    have ea : o_X5_sizesIn N (nI s) σ = some (nI (szV D (nI s) (nP D)), σ) := a_sizes_loop (N := N) h.ho h.ha (nI s) (nP D) N 0 (by omega) (by omega)
    have eb : l_X10_let_72 N (l_X10_let_58 N n) N a2 a3 own (nI m) least sB (nI s) 0 0 τ = _ := b_sum_loop (N := N) g.ho g.hb (l_X10_let_58 N n) a2 a3 own (nI m) least sB (nI s) (nP D) N 0 (by omega) (by omega)
    have skip : ∃ v, j_X9_let_114 N (l_X9_let_59 N n) a2 a3 own (nI m) least sA (nI s) σ = some (v, σ) ∧ j_X10_let_153 N (l_X10_let_58 N n) a2 a3 own (nI m) least sB (nI s) τ = some (v, τ) := by
      unfold j_X9_let_114 j_X10_let_153
      rw [bt_eq, bt_eq, ← p1_sub]
      exact ih n (s + 1) m least sA sB (by omega) (by omega) (by omega) hr
    rw [l_X9_let_59, if_neg hle, l_X10_let_58, if_neg hle, eb, ea, bd_some]
    by_cases c1 : nI s &&& (own ^^^ (-1)) = 0
    · rw [if_pos c1, if_pos c1]
      by_cases c2 : nI (szV D (nI s) (nP D)) = a2
      · rw [if_pos c2, if_pos c2]
        have hsub : ∀ q, q < 32 → bit (nI s) q = true → bit own q = true := by
          intro q hq hb
          have h1 := bit_and (nI s) (own ^^^ (-1)) q
          rw [c1, bit_0, hb, bit_xor, bit_n1 hq] at h1
          simpa using h1.symm
        have h127 : ∀ q, q < 7 → bit 127 q = true := by
          intro q hq
          have h1 : ∀ q : Fin 7, bit 127 q.val = true := by decide +kernel
          exact h1 ⟨q, hq⟩
        have hsame : sA &&& nI s = sB &&& nI s := by
          rcases hr with ⟨r1, r2, r3⟩ | ⟨r1, r2⟩
          · refine set_ext fun q hq => ?_
            rw [bit_and, bit_and, r2, r3]
            cases hb : bit (nI s) q
            · simp
            · rw [hsub q hq hb, h127 q (hown q hq (hsub q hq hb))]
          · rw [r2]
        have step : ∀ l', ∃ v, j_X9_let_102 N (l_X9_let_59 N n) a2 a3 own (nI m) sA (nI s) l' σ = some (v, σ) ∧ j_X10_let_141 N (l_X10_let_58 N n) a2 a3 own (nI m) sB (nI s) l' τ = some (v, τ) := by
          intro l'
          unfold j_X9_let_102 j_X10_let_141 j_X9_let_114 j_X10_let_153
          rw [bt_eq, bt_eq, bt_eq, bt_eq, bt_eq, bt_eq, ← p1_sub, ← p1_sub]
          exact ih n (s + 1) (m + 1) l' (sA &&& nI s) (sB &&& nI s) (by omega) (by omega) (by omega) (Or.inr ⟨by omega, hsame⟩)
        by_cases c3 : nI m = 0
        · rw [if_pos c3, if_pos c3]
          exact step _
        · rw [if_neg c3, if_neg c3]
          exact step _
      · rw [if_neg c2, if_neg c2]
        exact skip
    · rw [if_neg c1, if_neg c1]
      exact skip
theorem lim_of {a n : Int32} {m : Nat} (hm : m < 2 ^ 31) (hn : n = nI m) (h : ¬ a < 0) (h2 : nI (m + 1) ≤ a) (hm2 : m + 1 < 2 ^ 31) : ¬ a ≤ n := by
  rcases int_cases a with x | ⟨q, hq, rfl⟩
  · exact absurd x h
  · intro e
    rw [hn] at e
    have h3 := (nI_le_iff hq hm).mp e
    have h4 := (nI_le_iff hm2 hq).mp h2
    omega
theorem e_let {σ τ : St} (h : RlA D r σ) (g : RlB D r τ) (hN : 7000 ≤ N) (a1 a2 a3 : Int32) : ∃ v, o_X9_let N a1 a2 a3 σ = some (v, σ) ∧ o_X10_let N a1 a2 a3 τ = some (v, τ) := by
  have h3 := h.ho.k3
  have h7 := h.ho.p7
  have e0 : (0 : Int32) = 0 := rfl
  unfold o_X9_let o_X10_let
  rcases a_has (n := nK D) (by omega) a1 with ⟨k, hk, rfl⟩ | hx
  · rw [a_hasKeeper_in h.ha h.ho hk, if_neg one_ne, b_isKeeper_in g.hb g.ho hk, bd_some, if_neg one_ne]
    rcases a_has (n := 100) (by omega) a2 with ⟨y, hy, rfl⟩ | hx
    · have ein : p_X10_in (nI y).toInt64 0 99 τ = 1 := b_in_lt hy (by omega) τ
      have e9 : ¬ (99 : Int32) < nI y := fun e => absurd ((nI_lt_iff (a := 99) (b := y) (by omega) (by omega)).mp e) (by omega)
      rw [ein, if_neg one_ne, if_neg (nI_pos (by omega)), if_neg e9]
      rcases a_has (n := 3) (by omega) a3 with ⟨z, hz, rfl⟩ | hx
      · have ein2 : p_X10_in (nI z).toInt64 0 2 τ = 1 := b_in_lt hz (by omega) τ
        have e3 : nI z ≤ (2 : Int32) := (nI_le_iff (a := z) (b := 2) (by omega) (by omega)).mpr (by omega)
        rw [ein2, if_neg one_ne, if_neg (nI_pos (by omega)), if_pos e3, a_heldBy h.ho h.ha h.ra (by omega), bd_some, b_ofKeeper g.ho g.hb g.rb (by omega), bd_some]
        refine e_let_loop (N := N) h g (own := ownS D r (nI k)) (fun q hq hb => ?_) hN (nI y) (nI z) 128 N 0 0 (-1) _ 127 (by omega) (by omega) (by omega) (Or.inl ⟨rfl, rfl, rfl⟩)
        rw [bit_mset _ _ _ (by omega) hq, Bool.and_eq_true, decide_eq_true_eq] at hb
        omega
      · have ein2 : p_X10_in a3.toInt64 0 2 τ = 0 := b_in_out (n := 3) hx (by omega) τ
        rw [ein2, if_pos e0]
        by_cases c : a3 < 0
        · rw [if_pos c]
          exact ⟨_, rfl, rfl⟩
        · rw [if_neg c, if_neg (lim_of (n := 2) (m := 2) (by omega) rfl c (hx.resolve_left c) (by omega))]
          exact ⟨_, rfl, rfl⟩
    · have ein : p_X10_in a2.toInt64 0 99 τ = 0 := b_in_out (n := 100) hx (by omega) τ
      rw [ein, if_pos e0]
      by_cases c : a2 < 0
      · rw [if_pos c]
        exact ⟨_, rfl, rfl⟩
      · rw [if_neg c, if_pos (Int32.not_le.mp (lim_of (n := 99) (m := 99) (by omega) rfl c (hx.resolve_left c) (by omega)))]
        exact ⟨_, rfl, rfl⟩
  · rw [a_hasKeeper_out h.ha hx, if_pos e0, b_isKeeper_out g.hb g.ho hx, bd_some, if_pos e0]
    exact ⟨_, rfl, rfl⟩
end LET
