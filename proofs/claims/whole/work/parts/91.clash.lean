/-! clash -/
section CLASH
variable {D : LD} {r : RD} {N : Nat}
theorem p1_sub (p : Nat) : nI (p + 1) = nI p + 1 := by rw [nI_succ]
/-- the set that is tried for a pair, alike on both sides -/
theorem e_pair (h : RlZ D r) {k : Nat} (hk : k < nK D) {p q : Nat} (hp : p < nP D) (hq : q < nP D) (bp : bit (opS D r k) p = true) (bq : bit (opS D r k) q = true) (hN : 7000 ≤ N) :
    ∃ S1 S2, (∀ σ, LandA D σ → o_X8_withOlder N (nI p) (opS D r k) σ = some (S1, σ) ∧ o_X8_withOlder N (nI q) (opS D r k) σ = some (S2, σ)) ∧
      (∀ τ, RlB D r τ → o_X10_withGrafts N (nI k) (1 <<< (nI p &&& 31) ||| 1 <<< (nI q &&& 31)) τ = some (S1 ||| S2, τ)) ∧ ∀ x, x < 32 → bit (S1 ||| S2) x = true → x < nP D ∧ r 1 x = 0 := by
  have h7 := h.ho.p7
  have hO : ∀ x, x < 32 → bit (opS D r k) x = true → x < nP D := fun x hx hb => ((bit_op h hk hx).mp hb).1
  -- the sets do not hang on the cells
  have hS : ∀ y, y < nP D → ∃ S, (∀ σ, LandA D σ → o_X8_withOlder N (nI y) (opS D r k) σ = some (S, σ)) ∧ ∀ x, x < 32 → bit S x = chN D (opS D r k) 7 y x := by
    intro y hy
    refine ⟨mset (fun x => chN D (opS D r k) 7 y x) 32, fun σ ha => ?_, fun x hx => ?_⟩
    · obtain ⟨S, s1, s2⟩ := a_older_loop (N := N) (O := opS D r k) h.ho ha 7 N y 0 0 hy (by omega) (by omega) (by omega)
      have e : S = mset (fun x => chN D (opS D r k) 7 y x) 32 := by
        refine set_ext fun x hx => ?_
        rw [s2 x hx, bit_0, Bool.false_or, bit_mset _ _ _ (by omega) hx, decide_eq_true hx, Bool.true_and]
      rw [← e]
      exact s1
    · rw [bit_mset _ _ _ (by omega) hx, decide_eq_true hx, Bool.true_and]
  obtain ⟨S1, a1, b1⟩ := hS p hp
  obtain ⟨S2, a2, b2⟩ := hS q hq
  have hcl : ∀ x, x < 32 → (bit (S1 ||| S2) x = true ↔ clN D (opS D r k) p q x = true) := by
    intro x hx
    rw [bit_or, b1 x hx, b2 x hx]
    rfl
  refine ⟨S1, S2, fun σ ha => ⟨a1 σ ha, a2 σ ha⟩, fun τ g => ?_, fun x hx hb => ?_⟩
  · have g0 : ∀ x, x < 32 → (bit (1 <<< (nI p &&& 31) ||| 1 <<< (nI q &&& 31)) x = true ↔ (x = p ∨ x = q) ∨ ∃ y, nP D ≤ y ∧ y < nP D ∧ clN D (opS D r k) p q y = true ∧ D 6 y = x ∧ bit (opS D r k) x = true) := by
      intro x hx
      rw [bit_or, bit_one (by omega) hx, bit_one (by omega) hx, Bool.or_eq_true, decide_eq_true_eq, decide_eq_true_eq]
      constructor
      · rintro (e | e)
        · exact Or.inl (Or.inl e.symm)
        · exact Or.inl (Or.inr e.symm)
      · rintro ((e | e) | ⟨y, y1, y2, -⟩)
        · exact Or.inl e.symm
        · exact Or.inr e.symm
        · omega
    obtain ⟨S', s1, s2⟩ := b_with_loop2 (N := N) h.ho hO hp hq bp bq g.hb (nP D) N _ (Nat.le_refl _) (by omega) g0
    have e : S' = S1 ||| S2 := by
      refine set_ext fun x hx => ?_
      have := s2 x hx
      rw [← hcl x hx] at this
      cases e1 : bit S' x
      · cases e2 : bit (S1 ||| S2) x
        · rfl
        · rw [this.mpr e2] at e1
          cases e1
      · exact (this.mp e1).symm
    unfold o_X10_withGrafts
    rw [b_openOf g.ho g.hb g.rb (by omega), bd_some, bt_eq, g.hb.1.2.2.2, ← e]
    exact s1
  · have hc := (hcl x hx).mp hb
    unfold clN at hc
    rw [Bool.or_eq_true] at hc
    have : bit (opS D r k) x = true := by
      rcases hc with hc | hc
      · exact chN_O h.ho hO hp (by omega) hx hc
      · exact chN_O h.ho hO hq (by omega) hx hc
    have := (bit_op h hk hx).mp this
    exact ⟨this.1, this.2.2⟩
/-- what the two loops answer, held together -/
def ClR (a2 v vM : Int32) : Prop := (v = -1 ∧ vM = -1) ∨ ∃ p q, p < 7 ∧ q < 7 ∧ v = nI (7 * p + q) ∧ vM = if a2 = 0 then nI p else nI q
theorem e_clash_in {k : Nat} (hk : k < nK D) (hN : 7000 ≤ N) (hU : UB 9 + 2 ≤ N) (a2 : Int32) {p : Nat} (hp : p < nP D) (K1 : Int32 → Int32 → Int32 → St → Option (Int32 × St)) (K2 : Int32 → Int32 → Int32 → Int32 → St → Option (Int32 × St))
    (hK : ∀ σ τ, RlA D r σ → RlB D r τ → ∃ v vM wA w, K1 (nI k) (opS D r k) (nI (p + 1)) σ = some (v, wA) ∧ K2 (nI k) a2 (opS D r k) (nI (p + 1)) τ = some (vM, w) ∧ ClR a2 v vM ∧ FrC σ wA ∧ FrM τ w) :
    ∀ (c n q : Nat) (σ τ : St), q + c = nP D → c < n → RlA D r σ → RlB D r τ → ∃ v vM wA w, l_X8_firstClash_27 N K1 n (nI k) (opS D r k) (nI p) (nI q) σ = some (v, wA) ∧ l_X10_clash_59 N K2 n (nI k) a2 (opS D r k) (nI p) (nI q) τ = some (vM, w) ∧ ClR a2 v vM ∧ FrC σ wA ∧ FrM τ w := by
  intro c
  induction c with
  | zero =>
    intro n q σ τ hq hn h g
    obtain ⟨n, rfl⟩ : ∃ k, n = k + 1 := ⟨n - 1, by omega⟩
    have h7 := h.ho.p7
    rw [l_X8_firstClash_27, h.ha.1.2.2.2, if_pos (nI_le (by omega) (by omega)), bt_eq, ← p1_sub, l_X10_clash_59, g.hb.1.2.2.2, if_pos (nI_le (by omega) (by omega)), bt_eq, ← p1_sub]
    exact hK σ τ h g
  | succ c ih =>
    intro n q σ τ hq hn h g
    obtain ⟨n, rfl⟩ : ∃ k, n = k + 1 := ⟨n - 1, by omega⟩
    have h7 := h.ho.p7
    have hql : q < nP D := by omega
    have e1 : ¬ b01 true = 0 := one_ne
    have e2 : b01 false = 0 := rfl
    have skip : ∀ σ' τ', RlA D r σ' → RlB D r τ' → FrC σ σ' → FrM τ τ' → ∃ v vM wA w, j_X8_firstClash_87 N K1 (l_X8_firstClash_27 N K1 n) (nI k) (opS D r k) (nI p) (nI q) σ' = some (v, wA) ∧
        j_X10_clash_135 N K2 (l_X10_clash_59 N K2 n) (nI k) a2 (opS D r k) (nI p) (nI q) τ' = some (vM, w) ∧ ClR a2 v vM ∧ FrC σ wA ∧ FrM τ w := by
      intro σ' τ' h' g' f1 f2
      obtain ⟨v, vM, wA, w, z1, z2, z3, z4, z5⟩ := ih n (q + 1) σ' τ' (by omega) (by omega) h' g'
      refine ⟨v, vM, wA, w, ?_, ?_, z3, f1.tr z4, f2.tr z5⟩
      · unfold j_X8_firstClash_87
        rw [bt_eq, ← p1_sub]
        exact z1
      · unfold j_X10_clash_135
        rw [bt_eq, ← p1_sub]
        exact z2
    have skip2 : ∃ v vM wA w, j_X8_firstClash_87 N K1 (l_X8_firstClash_27 N K1 n) (nI k) (opS D r k) (nI p) (nI q) σ = some (v, wA) ∧
        j_X10_clash_90 N K2 (l_X10_clash_59 N K2 n) (nI k) a2 (opS D r k) (nI p) (nI q) τ = some (vM, w) ∧ ClR a2 v vM ∧ FrC σ wA ∧ FrM τ w := by
      have e0 : (0 : Int32) = 0 := rfl
      unfold j_X10_clash_90 j_X10_clash_91
      rw [if_pos e0]
      exact skip σ τ h g FrC.rf FrM.rf
    rw [l_X8_firstClash_27, h.ha.1.2.2.2, if_neg (nI_ge hql (by omega)), l_X10_clash_59, g.hb.1.2.2.2, if_neg (nI_ge hql (by omega)), a_hasb _ (g := p) (by omega), a_hasb _ (g := q) (by omega), b_has _ (g := p) (by omega), b_has _ (g := q) (by omega)]
    cases bp : bit (opS D r k) p
    · rw [if_pos e2, if_pos e2]
      exact skip2
    · rw [if_neg e1, if_neg e1]
      cases bq : bit (opS D r k) q
      · rw [if_pos e2, if_pos e2]
        exact skip2
      · obtain ⟨S1, S2, s1, s2, s3⟩ := e_pair (N := N) h.z hk hp hql bp bq hN
        obtain ⟨hS, b7⟩ := op_set h.z hk (L := S1 ||| S2) s3
        obtain ⟨wA, p1, p2, p3⟩ := a_canAll (N := N) (any := true) h hS (fun e => by rw [b7] at e; cases e) hk hN
        obtain ⟨w, q1, q2, q3⟩ := b_find (N := N) (any := true) (A := 1) (k := k) g hS (fun e => by rw [b7] at e; cases e) ⟨by omega, by omega⟩ (fun e => by rw [b7] at e; cases e) hk hN hU
        have hp1 : o_X8_canKeepAll N (nI k) (S1 ||| S2) 1 σ = _ := p1
        have hq1 : o_X10_findOrder N (nI k) (S1 ||| S2) 1 τ = _ := q1
        have fC : FrC σ wA := fun c hc => p3 c (by omega)
        rw [if_neg e1, if_neg e1, (s1 σ h.ha).1, bd_some, (s1 σ h.ha).2, bd_some, hp1, bd_some]
        unfold j_X10_clash_91
        rw [if_neg one_ne, s2 τ g, bd_some, hq1, bd_some]
        generalize bestO D r 0 0 0 true k (S1 ||| S2) = b at q2 ⊢
        obtain ⟨-, q2⟩ := q2
        cases b with
        | none =>
          have e9 : encB none = 99999999 := rfl
          have e7 : nI p * 7 + nI q = nI (7 * p + q) := by
            show nI p * nI 7 + nI q = _
            rw [nI_mul, nI_add, Nat.mul_comm]
          rw [if_pos (show b01 (none : BS).isSome = 0 from rfl), if_pos e9, e7]
          by_cases c0 : a2 = 0
          · rw [if_pos c0]
            exact ⟨_, _, wA, w, rfl, rfl, Or.inr ⟨p, q, by omega, by omega, rfl, by rw [if_pos c0]⟩, fC, q3.m⟩
          · rw [if_neg c0]
            exact ⟨_, _, wA, w, rfl, rfl, Or.inr ⟨p, q, by omega, by omega, rfl, by rw [if_neg c0]⟩, fC, q3.m⟩
        | some x =>
          dsimp only at q2
          have e9 : ¬ encB (some x) = 99999999 := fun e => absurd ((nI_eq (a := x.1) (b := 99999999) (by omega) (by omega)).mp e) (by omega)
          have eb : ¬ b01 (some x : BS).isSome = 0 := one_ne
          rw [if_neg eb, if_neg e9]
          exact skip wA w (fC.a h) (q3.m.b g) fC q3.m
theorem e_clash_out {k : Nat} (hk : k < nK D) (hN : 7000 ≤ N) (hU : UB 9 + 2 ≤ N) (a2 : Int32) : ∀ (c n p : Nat) (σ τ : St), p + c = nP D → c < n → RlA D r σ → RlB D r τ →
    ∃ v vM wA w, l_X8_firstClash_11 N n (nI k) (opS D r k) (nI p) σ = some (v, wA) ∧ l_X10_clash_44 N n (nI k) a2 (opS D r k) (nI p) τ = some (vM, w) ∧ ClR a2 v vM ∧ FrC σ wA ∧ FrM τ w := by
  intro c
  induction c with
  | zero =>
    intro n p σ τ hp hn h g
    obtain ⟨n, rfl⟩ : ∃ k, n = k + 1 := ⟨n - 1, by omega⟩
    have h7 := h.ho.p7
    rw [l_X8_firstClash_11, h.ha.1.2.2.2, if_pos (nI_le (by omega) (by omega)), l_X10_clash_44, g.hb.1.2.2.2, if_pos (nI_le (by omega) (by omega))]
    exact ⟨_, _, σ, τ, rfl, rfl, Or.inl ⟨rfl, rfl⟩, FrC.rf, FrM.rf⟩
  | succ c ih =>
    intro n p σ τ hp hn h g
    obtain ⟨n, rfl⟩ : ∃ k, n = k + 1 := ⟨n - 1, by omega⟩
    have h7 := h.ho.p7
    have hpl : p < nP D := by omega
    rw [l_X8_firstClash_11, h.ha.1.2.2.2, if_neg (nI_ge hpl (by omega)), bt_eq, l_X10_clash_44, g.hb.1.2.2.2, if_neg (nI_ge hpl (by omega)), bt_eq, ← p1_sub]
    exact e_clash_in hk hN hU a2 hpl _ _ (fun σ' τ' h' g' => ih n (p + 1) σ' τ' (by omega) (by omega) h' g') c N (p + 1) σ τ (by omega) (by omega) h g
theorem e_clash {σ τ : St} (h : RlA D r σ) (g : RlB D r τ) (hN : 7000 ≤ N) (hU : UB 9 + 2 ≤ N) (a1 a2 : Int32) : ∃ v wA w, o_X9_clash N a1 a2 σ = some (v, wA) ∧ o_X10_clash N a1 a2 τ = some (v, w) ∧ FrC σ wA ∧ FrM τ w := by
  have h3 := h.ho.k3
  have h7 := h.ho.p7
  have e0 : (0 : Int32) = 0 := rfl
  have e1 : ¬ b01 true = 0 := one_ne
  have e2 : b01 false = 0 := rfl
  unfold o_X9_clash o_X10_clash
  rcases a_has (n := nK D) (by omega) a1 with ⟨k, hk, rfl⟩ | hx
  · rw [a_hasKeeper_in h.ha h.ho hk, if_neg one_ne, b_isKeeper_in g.hb g.ho hk, bd_some, if_neg one_ne]
    rcases two_cases a2 with ⟨i, hi, rfl⟩ | ho2
    · have e3 : nI i ≤ (1 : Int32) := (nI_le_iff (a := i) (b := 1) (by omega) (by omega)).mpr (by omega)
      rw [im_in hi, if_neg one_ne, if_neg (nI_pos (by omega)), if_pos e3, a_onWay h hk, b_onWay g hk, bd_some]
      cases decide (r 0 0 < r 5 k)
      · rw [if_pos e2, if_pos e2]
        obtain ⟨v, vM, wA, w, z1, z2, z3, z4, z5⟩ := e_clash_out (N := N) hk hN hU (nI i) (nP D) N 0 σ τ (by omega) (by omega) h g
        have y1 : o_X8_firstClash N (nI k) σ = some (v, wA) := by
          unfold o_X8_firstClash
          rw [a_openOf h.ho h.ha h.ra (by omega), bd_some]
          exact z1
        rw [y1, bd_some, b_openOf g.ho g.hb g.rb (by omega), bd_some]
        have y2 : l_X10_clash_44 N N (nI k) (nI i) (opS D r k) 0 τ = some (vM, w) := z2
        rw [y2]
        rcases z3 with ⟨v1, v2⟩ | ⟨p, q, hp, hq, v1, v2⟩
        · rw [if_pos v1, v2]
          exact ⟨_, wA, w, rfl, rfl, z4, z5⟩
        · rw [v1, if_neg (nI_neg1 (by omega)), v2]
          by_cases c0 : nI i = 0
          · have ed : nI (7 * p + q) / 7 = nI p := by
              refine (nI_div (a := 7 * p + q) (b := 7) (by omega) (by omega)).trans ?_
              congr 1
              omega
            rw [if_pos c0, if_pos c0, ed]
            exact ⟨_, wA, w, rfl, rfl, z4, z5⟩
          · have ed : nI (7 * p + q) - nI (7 * p + q) / 7 * 7 = nI q := by
              refine (nI_mod (a := 7 * p + q) (b := 7) (by omega) (by omega)).trans ?_
              congr 1
              omega
            rw [if_neg c0, if_neg c0, ed]
            exact ⟨_, wA, w, rfl, rfl, z4, z5⟩
      · rw [if_neg e1, if_neg e1]
        exact ⟨_, σ, τ, rfl, rfl, FrC.rf, FrM.rf⟩
    · rw [im_out ho2, if_pos e0]
      rcases ho2 with c | ⟨c1, c2⟩
      · rw [if_pos c]
        exact ⟨_, σ, τ, rfl, rfl, FrC.rf, FrM.rf⟩
      · have c3 : ¬ a2 ≤ (1 : Int32) := by
          rcases int_cases a2 with x | ⟨m, hm, rfl⟩
          · exact absurd x c1
          · intro e
            have := (nI_le_iff (a := m) (b := 1) hm (by omega)).mp e
            exact c2 ((nI_lt_iff (a := m) (b := 2) hm (by omega)).mpr (by omega))
        rw [if_neg c1, if_neg c3]
        exact ⟨_, σ, τ, rfl, rfl, FrC.rf, FrM.rf⟩
  · rw [a_hasKeeper_out h.ha hx, if_pos e0, b_isKeeper_out g.hb g.ho hx, bd_some, if_pos e0]
    exact ⟨_, σ, τ, rfl, rfl, FrC.rf, FrM.rf⟩
end CLASH
