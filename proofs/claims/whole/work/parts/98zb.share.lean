/-! shares: the reference deals what is left -/
section SHARE3
variable {K N : Nat}
theorem oI_le {a b : Nat} (ha : a < 2 ^ 30) (hb : b < 2 ^ 30) : oI a ≤ oI b ↔ a ≤ b := by
  cases a with
  | zero =>
    refine ⟨fun _ => Nat.zero_le _, fun _ => ?_⟩
    cases b with
    | zero => exact Int32.le_refl _
    | succ b =>
      show (-1 : Int32) ≤ nI b
      exact Int32.le_trans (show (-1 : Int32) ≤ 0 by decide) (Int32.not_lt.mp (nI_pos (by omega)))
  | succ a =>
    cases b with
    | zero =>
      refine ⟨fun e => ?_, fun e => absurd e (by omega)⟩
      have e' : nI a ≤ (-1 : Int32) := e
      exact absurd (Int32.lt_of_le_of_lt e' (by decide)) (nI_pos (n := a) (by omega))
    | succ b =>
      show nI a ≤ nI b ↔ _
      rw [nI_le_iff (by omega) (by omega)]
      omega
def ahX (x : Nat → Nat) (k i : Nat) : Bool := decide (x k < x i) || (decide (x k = x i) && decide (i < k))
def RsT (K : Nat) (x : Nat → Nat) (τ : St) : Prop := (τ 79 4 = nI K ∧ K ≤ 3) ∧ ∀ i, i < K → τ 101 i = oI (x i) ∧ x i ≤ 1000
theorem b_pick (K221 : Int32 → Int32 → St → Option (Unit × St)) (v3 v4 : Int32) {x : Nat → Nat} {τ : St} (h : RsT K x τ) : ∀ (c n i b : Nat), i + c = K → b < K → c < n →
    ∃ b', b' < K ∧ x b ≤ x b' ∧ (∀ j, i ≤ j → j < K → x j ≤ x b') ∧ (b' = b ∨ x b < x b' ∧ ∀ j, i ≤ j → j < b' → x j < x b') ∧ l_X10_findShares_236 N K221 n v3 v4 (nI b) (nI i) τ = K221 v3 (v4 + (-1)) (st (st τ 100 b' (τ 100 b' + 1)) 101 b' (-1)) := by
  intro c
  have hK := h.1.2
  induction c with
  | zero =>
    intro n i b hi hb hn
    obtain ⟨n, rfl⟩ : ∃ k, n = k + 1 := ⟨n - 1, by omega⟩
    refine ⟨b, hb, Nat.le_refl _, fun j h1 h2 => absurd h1 (by omega), Or.inl rfl, ?_⟩
    have ck : ∀ {o : Option (Unit × St)}, ckA (nI b) 3 o = o := fun {o} => b_cka (x := b) (n := 3) o (by omega) (by decide)
    rw [l_X10_findShares_236, h.1.1, if_pos (nI_le (by omega) (by omega)), ck, ck, bt_eq, ck, bt_eq, bt_eq, nI_clamp (n := b) (by omega)]
  | succ c ih =>
    intro n i b hi hb hn
    obtain ⟨n, rfl⟩ : ∃ k, n = k + 1 := ⟨n - 1, by omega⟩
    have hlt : i < K := by omega
    obtain ⟨e1, x1⟩ := h.2 i hlt
    obtain ⟨e2, x2⟩ := h.2 b hb
    rw [l_X10_findShares_236, h.1.1, if_neg (nI_ge hlt (by omega)), b_cka (x := i) (n := 3) _ (by omega) (by decide), b_cka (x := b) (n := 3) _ (by omega) (by decide), nI_clamp (n := i) (by omega), nI_clamp (n := b) (by omega), e1, e2]
    unfold j_X10_findShares_269
    by_cases c1 : x i ≤ x b
    · rw [if_pos ((oI_le (by omega) (by omega)).mpr c1), bt_eq, ← p1_sub]
      obtain ⟨b', y1, y2, y3, y4, y5⟩ := ih n (i + 1) b (by omega) hb (by omega)
      refine ⟨b', y1, y2, fun j h1 h2 => ?_, ?_, y5⟩
      · by_cases e : j = i
        · rw [e]
          omega
        · exact y3 j (by omega) h2
      · rcases y4 with y4 | ⟨y4, y6⟩
        · exact Or.inl y4
        · refine Or.inr ⟨y4, fun j h1 h2 => ?_⟩
          by_cases e : j = i
          · rw [e]
            omega
          · exact y6 j (by omega) h2
    · rw [if_neg (by rw [oI_le (by omega) (by omega)]; exact c1), bt_eq, ← p1_sub]
      obtain ⟨b', y1, y2, y3, y4, y5⟩ := ih n (i + 1) i (by omega) hlt (by omega)
      refine ⟨b', y1, by omega, fun j h1 h2 => ?_, Or.inr ⟨by omega, fun j h1 h2 => ?_⟩, y5⟩
      · by_cases e : j = i
        · rw [e]
          exact y2
        · exact y3 j (by omega) h2
      · rcases y4 with y4 | ⟨y4, y6⟩
        · omega
        · by_cases e : j = i
          · rw [e]
            exact y4
          · exact y6 j (by omega) h2
theorem b_deal {f : Nat} (hN : 7000 ≤ N) : ∀ (L n : Nat) (x : Nat → Nat) (τ : St), RsT K x τ → L ≤ cnt (fun i => decide (0 < x i)) K → f < K → (∀ j, j < f → x j = 0) → L < n →
    ∃ w, l_X10_findShares_221 N n (nI f) (nI L) τ = some ((), w) ∧ (∀ k, k < K → w 100 k = τ 100 k + (if 0 < x k ∧ cnt (ahX x k) K < L then 1 else 0)) ∧ ∀ c, ¬ c = 100 → ¬ c = 101 → w c = τ c := by
  intro L
  induction L with
  | zero =>
    intro n x τ h hL hf hx hn
    obtain ⟨n, rfl⟩ : ∃ k, n = k + 1 := ⟨n - 1, by omega⟩
    refine ⟨τ, ?_, fun k hk => ?_, fun _ _ _ => rfl⟩
    · rw [l_X10_findShares_221, if_pos (show nI 0 ≤ (0 : Int32) by decide)]
    · rw [if_neg (by omega), Int32.add_zero]
  | succ L ih =>
    intro n x τ h hL hf hx hn
    obtain ⟨n, rfl⟩ : ∃ k, n = k + 1 := ⟨n - 1, by omega⟩
    have hK := h.1.2
    have hcl := cnt_le (fun i => decide (0 < x i)) K
    have q1 : ¬ nI (L + 1) ≤ 0 := fun z => by
      have := (nI_le_iff (a := L + 1) (b := 0) (by omega) (by omega)).mp z
      omega
    obtain ⟨b, y1, y2, y3, y4, y5⟩ := b_pick (N := N) (l_X10_findShares_221 N n) (nI f) (nI (L + 1)) h K N 0 f (by omega) hf (by omega)
    have hb0 : 0 < x b := by
      by_cases z : 0 < x b
      · exact z
      · have : cnt (fun i => decide (0 < x i)) K = 0 := cnt_zero K fun q hq => by
          have := y3 q (Nat.zero_le _) hq
          exact decide_eq_false (by omega)
        omega
    have hlow : ∀ j, j < b → x j < x b := by
      intro j hj
      rcases y4 with e | ⟨-, e⟩
      · have := hx j (by omega)
        omega
      · exact e j (Nat.zero_le _) hj
    have hR : RsT K (fun i => if i = b then 0 else x i) (st (st τ 100 b (τ 100 b + 1)) 101 b (-1)) := by
      refine ⟨⟨by rw [st_cell (by decide), st_cell (by decide)]; exact h.1.1, hK⟩, fun i hi => ?_⟩
      show _ = oI (if i = b then 0 else x i) ∧ (if i = b then 0 else x i) ≤ 1000
      rw [st_get, st_cell (by decide)]
      by_cases e : i = b
      · rw [if_pos e, if_pos e]
        exact ⟨rfl, Nat.zero_le _⟩
      · rw [if_neg e, if_neg e]
        exact h.2 i hi
    have hpos : cnt (fun i => decide (0 < if i = b then 0 else x i)) K + 1 = cnt (fun i => decide (0 < x i)) K := by
      rw [← cnt_rmv (f := fun i => decide (0 < x i)) (p := b) (decide_eq_true hb0) K y1]
      congr 1
      refine cnt_congr K fun q hq => ?_
      by_cases e : q = b
      · simp [e]
      · have e2 : ¬ b = q := fun z => e z.symm
        simp [e, e2]
    obtain ⟨w, z1, z2, z3⟩ := ih n (fun i => if i = b then 0 else x i) _ hR (by omega) hf (fun j hj => by
      show (if j = b then 0 else x j) = 0
      split
      · rfl
      · exact hx j hj) (by omega)
    refine ⟨w, ?_, fun k hk => ?_, fun c h1 h2 => by rw [z3 c h1 h2, st_cell h2, st_cell h1]⟩
    · have e0 : (0 : Int32) = nI 0 := rfl
      have e1 : nI (L + 1) + (-1) = nI L := by
        have : nI (L + 1) - 1 = nI L := nI_sub (b := 1) (by omega)
        rw [← this]
        exact (Int32.sub_eq_add_neg _ _).symm
      rw [l_X10_findShares_221, if_neg q1, if_neg (nI_pos (by omega)), e0, y5, e1]
      exact z1
    · rw [z2 k hk, st_cell (by decide), st_get]
      by_cases e : k = b
      · subst e
        have hz : cnt (ahX x k) K = 0 := cnt_zero K fun q hq => by
          have t1 := y3 q (Nat.zero_le _) hq
          unfold ahX
          by_cases c1 : q < k
          · have := hlow q c1
            simp
            omega
          · simp
            omega
        rw [if_pos rfl, if_neg (by simp), if_pos ⟨hb0, by omega⟩, Int32.add_zero]
      · rw [if_neg e]
        by_cases c0 : 0 < x k
        · have hc : cnt (ahX (fun i => if i = b then 0 else x i) k) K + 1 = cnt (ahX x k) K := by
            have hb : ahX x k b = true := by
              have t1 := y3 k (Nat.zero_le _) hk
              unfold ahX
              by_cases c1 : k < b
              · have := hlow k c1
                simp
                omega
              · simp
                omega
            rw [← cnt_rmv hb K y1]
            congr 1
            refine cnt_congr K fun q hq => ?_
            unfold ahX
            by_cases e3 : q = b
            · simp [e3, e]
              omega
            · have e2 : ¬ b = q := fun z => e3 z.symm
              simp [e, e3, e2]
          have hx' : (if k = b then 0 else x k) = x k := if_neg e
          show τ 100 k + (if 0 < (if k = b then 0 else x k) ∧ _ then 1 else 0) = _
          rw [hx']
          by_cases c3 : cnt (ahX x k) K < L + 1
          · rw [if_pos ⟨c0, by omega⟩, if_pos ⟨c0, c3⟩]
          · rw [if_neg (fun z => c3 (by have := z.2; omega)), if_neg (fun z => c3 z.2)]
        · have hx' : (if k = b then 0 else x k) = x k := if_neg e
          show τ 100 k + (if 0 < (if k = b then 0 else x k) ∧ _ then 1 else 0) = _
          rw [hx', if_neg (fun z => c0 z.1), if_neg (fun z => c0 z.1)]
end SHARE3
