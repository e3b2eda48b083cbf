/-! still -/
section STILL
variable {D : LD} {r : RD} {N : Nat}
theorem or_0 (x : Int32) : x ||| 0 = x := set_ext fun q _ => by rw [bit_or, bit_0, Bool.or_false]
theorem bit_128 {q : Nat} (hq : q < 32) : bit 128 q = decide (7 = q) := by
  have e : (128 : Int32) = 1 <<< (nI 7 &&& 31) := by decide
  rw [e, bit_one (by omega) hq]
theorem st_set (h : RlZ D r) {k t s T : Nat} (hk : k < nK D) (ht : t < nT D) (hs : s ≤ 9) (hT : T ≤ 20000) : SetOk D r t s T (opS D r k ||| 128) ∧ bit (opS D r k ||| 128) 7 = true := by
  have h7 := h.ho.p7
  have h5 := h.ho.t5
  have hb : ∀ q, q < 32 → (bit (opS D r k ||| 128) q = true ↔ (q < nP D ∧ r 3 q = k ∧ r 1 q = 0) ∨ q = 7) := by
    intro q hq
    rw [bit_or, bit_128 hq, Bool.or_eq_true, bit_op h hk hq, decide_eq_true_eq]
    constructor
    · rintro (e | e)
      · exact Or.inl e
      · exact Or.inr e.symm
    · rintro (e | e)
      · exact Or.inl e
      · exact Or.inr e.symm
  refine ⟨⟨fun q h1 h2 => ?_, ⟨by omega, hs, fun _ => ht, fun p hp e => ?_⟩, hT, fun p hp e => ?_⟩, (hb 7 (by omega)).mpr (Or.inr rfl)⟩
  · cases e : bit (opS D r k ||| 128) q
    · rfl
    · rcases (hb q h2).mp e with x | x
      · omega
      · omega
  · rcases (hb p (by omega)).mp e with x | x
    · exact x.1
    · omega
  · rcases (hb p (by omega)).mp e with x | x
    · exact x.2.2
    · omega
theorem e_still_loop {k t s : Nat} (hk : k < nK D) (ht : t < nT D) (hs : s ≤ 9) (hN : 7000 ≤ N) (hU : UB 9 + 2 ≤ N) : ∀ (c n y : Nat) (acc : Int32) (σ τ : St), y + c = 31 → 1 ≤ y → c < n → RlA D r σ → RlB D r τ → τ 79 29 = nI t → τ 79 31 = nI s →
    ∃ v wA w, l_X9_still_58 N n (nI k) (nI t) (nI s) acc (nI y) σ = some (v, wA) ∧ l_X10_still_61 N n (nI k) acc (nI y) τ = some (v, w) ∧ FrC σ wA ∧ FrM τ w := by
  intro c
  induction c with
  | zero =>
    intro n y acc σ τ hy h1 hn h g h29 h31
    obtain ⟨n, rfl⟩ : ∃ k, n = k + 1 := ⟨n - 1, by omega⟩
    have e : y = 31 := by omega
    subst e
    have hlt : (30 : Int32) < nI 31 := (nI_lt_iff (a := 30) (b := 31) (by omega) (by omega)).mpr (by omega)
    rw [l_X9_still_58, if_pos hlt, l_X10_still_61, if_pos hlt]
    exact ⟨_, σ, τ, rfl, rfl, FrC.rf, FrM.rf⟩
  | succ c ih =>
    intro n y acc σ τ hy h1 hn h g h29 h31
    obtain ⟨n, rfl⟩ : ∃ k, n = k + 1 := ⟨n - 1, by omega⟩
    have hd := h.ri.1
    have hlt : ¬ (30 : Int32) < nI y := fun e => absurd ((nI_lt_iff (a := 30) (b := y) (by omega) (by omega)).mp e) (by omega)
    have hrl := rip_le h.ho (d := r 0 0) (a := y) (by omega)
    have e1 : ¬ b01 true = 0 := one_ne
    have etry : t_X8_tryOne (nI t) (nI (rip D (r 0 0) y)) (nI s) σ = st (st (st σ 64 7 (nI t)) 66 7 (nI (rip D (r 0 0) y))) 65 7 (nI s) := by
      show put_ (put_ (put_ σ 64 8 (nI 7) (nI t)) 66 8 (nI 7) (nI (rip D (r 0 0) y))) 65 8 (nI 7) (nI s) = _
      rw [put_nI (by omega) (by decide), put_nI (by omega) (by decide), put_nI (by omega) (by decide)]
    have fC0 : FrC σ (st (st (st σ 64 7 (nI t)) 66 7 (nI (rip D (r 0 0) y))) 65 7 (nI s)) := fun c hc => by
      rw [st_cell (by omega), st_cell (by omega), st_cell (by omega)]
    have h0 := fC0.a h
    have fM0 : FrM τ (st τ 79 30 (nI y)) := ⟨fun c hc => st_cell (by omega), fun i hi => st_place (by omega)⟩
    have g0 := fM0.b g
    obtain ⟨hS, b7⟩ := st_set h.z hk ht hs (T := rip D (r 0 0) y + 1) (by omega)
    obtain ⟨wA, p1, p2, p3⟩ := a_canAll (N := N) (any := true) h0 hS (fun _ => by
      rw [st_cell (by decide), st_cell (by decide), st_same, st_same, st_cell (by decide), st_same]
      exact ⟨rfl, rfl, rfl⟩) hk hN
    obtain ⟨w, q1, q2, q3⟩ := b_find (N := N) (any := true) (A := y) (k := k) g0 hS (fun _ => by
      rw [st_place (by decide), st_same, st_place (by decide)]
      exact ⟨h29, rfl, h31⟩) ⟨h1, by omega⟩ (fun _ => rfl) hk hN hU
    have hp1 : o_X8_canKeepAll N (nI k) (opS D r k ||| 128) 1 (st (st (st σ 64 7 (nI t)) 66 7 (nI (rip D (r 0 0) y))) 65 7 (nI s)) = _ := p1
    have hq1 : o_X10_findOrder N (nI k) (opS D r k ||| 128) 1 (st τ 79 30 (nI y)) = _ := q1
    have fC : FrC σ wA := fC0.tr (fun c hc => p3 c (by omega))
    have fM : FrM τ w := fM0.tr q3.m
    have w29 : w 79 29 = nI t := by
      rw [q3.2 29 (by decide), st_place (by decide)]
      exact h29
    have w31 : w 79 31 = nI s := by
      rw [q3.2 31 (by decide), st_place (by decide)]
      exact h31
    rw [l_X9_still_58, if_neg hlt, a_today h.ra, a_ripe h.ho h.ha (by omega) (by omega), bd_some, bt_eq, etry, a_openOf h0.ho h0.ha h0.ra (by omega), bd_some, hp1, bd_some,
      l_X10_still_61, if_neg hlt, bt_eq, bt_eq, b_openOf g0.ho g0.hb g0.rb (by omega), bd_some, hq1, bd_some]
    generalize bestO D r t s (rip D (r 0 0) y + 1) true k (opS D r k ||| 128) = b at q2 ⊢
    obtain ⟨-, q2⟩ := q2
    cases b with
    | none =>
      have e9 : (99999999 : Int32) ≤ encB none := by decide
      rw [if_pos (show b01 (none : BS).isSome = 0 from rfl), if_pos e9]
      unfold j_X9_still_123 j_X10_still_101
      rw [bt_eq, bt_eq, bt_eq, one_0, shl_0 (by omega), or_0, ← p1_sub]
      obtain ⟨v, wA', w', z1, z2, z3, z4⟩ := ih n (y + 1) acc wA w (by omega) (by omega) (by omega) (fC.a h) (fM.b g) w29 w31
      exact ⟨v, wA', w', z1, z2, fC.tr z3, fM.tr z4⟩
    | some x =>
      dsimp only at q2
      have e9 : ¬ (99999999 : Int32) ≤ encB (some x) := fun e => absurd ((nI_le_iff (a := 99999999) (b := x.1) (by omega) (by omega)).mp e) (by omega)
      have eb : ¬ b01 (some x : BS).isSome = 0 := one_ne
      rw [if_neg eb, if_neg e9]
      unfold j_X9_still_123 j_X10_still_101
      rw [bt_eq, bt_eq, bt_eq, one_1, ← p1_sub]
      obtain ⟨v, wA', w', z1, z2, z3, z4⟩ := ih n (y + 1) (acc ||| 1 <<< (nI y &&& 31)) wA w (by omega) (by omega) (by omega) (fC.a h) (fM.b g) w29 w31
      exact ⟨v, wA', w', z1, z2, fC.tr z3, fM.tr z4⟩
theorem e_still {σ τ : St} (h : RlA D r σ) (g : RlB D r τ) (hN : 7000 ≤ N) (hU : UB 9 + 2 ≤ N) (a1 a2 a3 : Int32) : ∃ v wA w, o_X9_still N a1 a2 a3 σ = some (v, wA) ∧ o_X10_still N a1 a2 a3 τ = some (v, w) ∧ FrC σ wA ∧ FrM τ w := by
  have h3 := h.ho.k3
  have h5 := h.ho.t5
  have e0 : (0 : Int32) = 0 := rfl
  have e1 : ¬ b01 true = 0 := one_ne
  have e2 : b01 false = 0 := rfl
  unfold o_X9_still o_X10_still
  rcases a_has (n := nK D) (by omega) a1 with ⟨k, hk, rfl⟩ | hx
  · rw [a_hasKeeper_in h.ha h.ho hk, if_neg one_ne, b_isKeeper_in g.hb g.ho hk, bd_some, if_neg one_ne]
    rcases a_has (n := nT D) (by omega) a2 with ⟨t, ht, rfl⟩ | hx
    · rw [a_hasTown_in h.ha h.ho ht, if_neg one_ne, b_isTown_in g.hb g.ho ht, bd_some, if_neg one_ne]
      rcases a_has (n := 10) (by omega) a3 with ⟨s, hs, rfl⟩ | hx
      · have ein : p_X10_in (nI s).toInt64 0 9 τ = 1 := b_in_lt hs (by omega) τ
        have e3 : nI s ≤ (9 : Int32) := (nI_le_iff (a := s) (b := 9) (by omega) (by omega)).mpr (by omega)
        rw [ein, if_neg one_ne, if_neg (nI_pos (by omega)), if_pos e3, a_onWay h hk, b_onWay g hk, bd_some]
        cases decide (r 0 0 < r 5 k)
        · rw [if_pos e2, if_pos e2, bt_eq, bt_eq]
          have fM0 : FrM τ (st (st τ 79 29 (nI t)) 79 31 (nI s)) := ⟨fun c hc => by rw [st_cell (by omega), st_cell (by omega)], fun i hi => by rw [st_place (by omega), st_place (by omega)]⟩
          obtain ⟨v, wA, w, z1, z2, z3, z4⟩ := e_still_loop (N := N) (r := r) hk ht (s := s) (by omega) hN hU 30 N 1 0 σ (st (st τ 79 29 (nI t)) 79 31 (nI s)) (by omega) (by omega) (by omega) h (fM0.b g) (by rw [st_place (by decide), st_same]) st_same
          exact ⟨v, wA, w, z1, z2, z3, fM0.tr z4⟩
        · rw [if_neg e1, if_neg e1]
          exact ⟨_, σ, τ, rfl, rfl, FrC.rf, FrM.rf⟩
      · have ein : p_X10_in a3.toInt64 0 9 τ = 0 := b_in_out (n := 10) hx (by omega) τ
        rw [ein, if_pos e0]
        by_cases c : a3 < 0
        · rw [if_pos c]
          exact ⟨_, σ, τ, rfl, rfl, FrC.rf, FrM.rf⟩
        · have c3 : ¬ a3 ≤ (9 : Int32) := by
            rcases int_cases a3 with x | ⟨m, hm, rfl⟩
            · exact absurd x c
            · intro e
              have h1 := (nI_le_iff (a := m) (b := 9) hm (by omega)).mp e
              have h2 := (nI_le_iff (a := 10) (b := m) (by omega) hm).mp (hx.resolve_left c)
              omega
          rw [if_neg c, if_neg c3]
          exact ⟨_, σ, τ, rfl, rfl, FrC.rf, FrM.rf⟩
    · rw [a_hasTown_out h.ha hx, if_pos e0, b_isTown_out g.hb g.ho hx, bd_some, if_pos e0]
      exact ⟨_, σ, τ, rfl, rfl, FrC.rf, FrM.rf⟩
  · rw [a_hasKeeper_out h.ha hx, if_pos e0, b_isKeeper_out g.hb g.ho hx, bd_some, if_pos e0]
    exact ⟨_, σ, τ, rfl, rfl, FrC.rf, FrM.rf⟩
end STILL
