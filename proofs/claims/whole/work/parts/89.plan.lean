/-! plan -/
abbrev opS (D : LD) (r : RD) (k : Nat) : Int32 := ownS D r (nI k) &&& wayS D r 0
section PLAN
variable {D : LD} {r : RD} {N : Nat}
theorem bit_op (h : RlZ D r) {k q : Nat} (hk : k < nK D) (hq : q < 32) : bit (opS D r k) q = true ↔ q < nP D ∧ r 3 q = k ∧ r 1 q = 0 := by
  have h7 := h.ho.p7
  have h3 := h.ho.k3
  rw [bit_and, bit_mset _ _ _ (by omega) hq, bit_mset _ _ _ (by omega) hq]
  by_cases hp : q < nP D
  · have hr := h.ri.2.1 q hp
    have e1 : nI (r 3 q) = nI k ↔ r 3 q = k := nI_eq (by omega) (by omega)
    have e2 : nI (r 1 q) = 0 ↔ r 1 q = 0 := nI_eq (a := r 1 q) (b := 0) (by omega) (by omega)
    simp only [hp, decide_true, Bool.true_and, Bool.and_eq_true, decide_eq_true_eq, e1, e2, true_and]
  · simp [hp]
theorem op_set (h : RlZ D r) {k : Nat} (hk : k < nK D) {L : Int32} (hL : ∀ q, q < 32 → bit L q = true → q < nP D ∧ r 1 q = 0) : SetOk D r 0 0 0 L ∧ bit L 7 = false := by
  have h7 := h.ho.p7
  have b7 : bit L 7 = false := by
    cases e : bit L 7
    · rfl
    · have := (hL 7 (by omega) e).1
      omega
  refine ⟨⟨fun q h1 h2 => ?_, ⟨by omega, by omega, fun e => ?_, fun p hp e => (hL p (by omega) e).1⟩, by omega, fun p hp e => (hL p (by omega) e).2⟩, b7⟩
  · cases e : bit L q
    · rfl
    · have := (hL q h2 e).1
      omega
  · rw [b7] at e
    cases e
theorem e_plan {σ τ : St} (h : RlA D r σ) (g : RlB D r τ) (hN : 7000 ≤ N) (hU : UB 9 + 2 ≤ N) (a1 a2 : Int32) : ∃ v wA w, o_X9_plan N a1 a2 σ = some (v, wA) ∧ o_X10_plan N a1 a2 τ = some (v, w) ∧ FrC σ wA ∧ FrM τ w := by
  have h3 := h.ho.k3
  have e0 : (0 : Int32) = 0 := rfl
  have e1 : ¬ b01 true = 0 := one_ne
  have e2 : b01 false = 0 := rfl
  unfold o_X9_plan o_X10_plan p_X9_refusalOfTrying
  rcases a_has (n := nK D) (by omega) a1 with ⟨k, hk, rfl⟩ | hx
  · rw [bt_eq, a_hasKeeper_in h.ha h.ho hk, if_neg one_ne, b_isKeeper_in g.hb g.ho hk, bd_some, if_neg one_ne, a_onWay h hk, b_onWay g hk, bd_some]
    cases decide (r 0 0 < r 5 k)
    · rw [if_pos e2, if_pos e0, if_pos e2, a_openOf h.ho h.ha h.ra (by omega), bd_some, b_openOf g.ho g.hb g.rb (by omega), bd_some]
      obtain ⟨hS, b7⟩ := op_set h.z hk (L := opS D r k) (fun q hq hb => by
        have := (bit_op h.z hk hq).mp hb
        exact ⟨this.1, this.2.2⟩)
      obtain ⟨wA, p1, p2, p3⟩ := a_canAll (N := N) (any := false) h hS (fun e => by rw [b7] at e; cases e) hk hN
      obtain ⟨w, q1, q2, q3⟩ := b_find (N := N) (any := false) (A := 1) (k := k) g hS (fun e => by rw [b7] at e; cases e) ⟨by omega, by omega⟩ (fun e => by rw [b7] at e; cases e) hk hN hU
      have hp1 : o_X8_canKeepAll N (nI k) (opS D r k) 0 σ = _ := p1
      have hq1 : o_X10_findOrder N (nI k) (opS D r k) 0 τ = _ := q1
      have hpl := pc_le (opS D r k)
      rw [hp1, bd_some, hq1, bd_some]
      have fC : FrC σ wA := fun c hc => p3 c (by omega)
      generalize bestO D r 0 0 0 false k (opS D r k) = b at p2 q2 ⊢
      obtain ⟨-, p2⟩ := p2
      obtain ⟨z38, q2⟩ := q2
      cases b with
      | none =>
        have e9 : encB none = 99999999 := rfl
        rw [if_pos (show b01 (none : BS).isSome = 0 from rfl), if_pos e9]
        unfold j_X10_plan_45
        rw [if_pos e9]
        exact ⟨_, wA, w, rfl, rfl, fC, q3.m⟩
      | some x =>
        dsimp only at p2 q2
        obtain ⟨a8, ax, a7, a68⟩ := p2
        obtain ⟨m37, -, m98⟩ := q2
        have e9 : ¬ encB (some x) = 99999999 := fun e => absurd ((nI_eq (a := x.1) (b := 99999999) (by omega) (by omega)).mp e) (by omega)
        have eb : ¬ b01 (some x : BS).isSome = 0 := one_ne
        rw [if_neg eb, if_neg e9, a8]
        by_cases c1 : a2 = -1
        · rw [if_pos c1, if_pos c1]
          unfold j_X10_plan_45
          rw [if_neg e9]
          exact ⟨_, wA, w, rfl, rfl, fC, q3.m⟩
        · rw [if_neg c1, if_neg c1, z38]
          unfold p_X8_bestAt j_X8_bestAt_12
          rcases a_has (n := pc (opS D r k)) (by omega) a2 with ⟨i, hi, rfl⟩ | hx
          · rw [b_in_lt hi (by omega), if_neg one_ne, if_neg (nI_pos (by omega)), a7, if_pos ((nI_lt_iff (by omega) (by omega)).mpr hi), at_nI (j := i) (n := 8) (by omega) (by decide), a68 i hi, b_cka (x := i) (n := 9) _ (by omega) (by decide), nI_clamp (n := i) (by omega), m98 i hi]
            exact ⟨_, wA, w, rfl, rfl, fC, q3.m⟩
          · rw [b_in_out hx (by omega), if_pos e0, a7]
            by_cases c2 : a2 < 0
            · rw [if_pos c2]
              exact ⟨_, wA, w, rfl, rfl, fC, q3.m⟩
            · rw [if_neg c2, if_neg (Int32.not_lt.mpr (hx.resolve_left c2))]
              exact ⟨_, wA, w, rfl, rfl, fC, q3.m⟩
    · have e3 : ¬ (-1000000003 : Int32) = 0 := by decide
      rw [if_neg e1, if_neg e3, if_neg e1]
      exact ⟨_, σ, τ, rfl, rfl, FrC.rf, FrM.rf⟩
  · have e3 : ¬ (-1000000001 : Int32) = 0 := by decide
    rw [bt_eq, a_hasKeeper_out h.ha hx, if_pos e0, if_neg e3, b_isKeeper_out g.hb g.ho hx, bd_some, if_pos e0]
    exact ⟨_, σ, τ, rfl, rfl, FrC.rf, FrM.rf⟩
end PLAN
