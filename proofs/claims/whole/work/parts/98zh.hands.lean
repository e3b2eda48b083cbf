/-! hands: the reference's changes, and its loop -/
section HANB2
variable {D : LD} {r : RD} {N : Nat}
theorem setA_in (h : RlZ D r) {A : Nat → Nat} {k : Nat} : ∀ q, q < 32 → bit (setA D r A k) q = true → q < nP D ∧ r 1 q = 0 := by
  intro q hq hb
  have h7 := h.ho.p7
  unfold setA at hb
  rw [bit_mset _ _ _ (by omega) hq] at hb
  simp only [Bool.and_eq_true, decide_eq_true_eq] at hb
  exact ⟨hb.1, hb.2.1⟩
theorem bit_way (h : RlZ D r) {p : Nat} (hp : p < nP D) : bit (wayS D r 0) p = decide (r 1 p = 0) := by
  have h7 := h.ho.p7
  have hr := h.ri.2.1 p hp
  have e2 : nI (r 1 p) = 0 ↔ r 1 p = 0 := nI_eq (a := r 1 p) (b := 0) (by omega) (by omega)
  rw [bit_mset _ _ _ (by omega) (by omega), decide_eq_true hp, Bool.true_and]
  exact decide_eq_decide.mpr e2
theorem asgW_lt {W p : Nat} (hK : 0 < nK D) : asgW D W p < nK D := by
  unfold asgW
  split
  · exact Nat.mod_lt _ hK
  · exact hK
theorem b_mask {τ : St} (g : RlB D r τ) {W k : Nat} (hW : W < 2 ^ 20) (hk : k < nK D) (hN : 7000 ≤ N) (K87 : Int32 → Int32 → Int32 → Int32 → Int32 → St → Option (Int32 × St)) (v3 : Int32) : ∀ (c n p : Nat), p + c = nP D → c < n →
    l_X10_changesBy_107 N K87 n (nI W) (wayS D r 0) v3 (nI k) (mset (fun q => decide (r 1 q = 0) && decide (asgW D W q = k)) p) (nI p) τ = (bd (o_X10_canHave N (nI k) (setA D r (asgW D W) k) τ) fun x2 σ3 => bt (nI k + 1) fun x5 => K87 (nI W) (wayS D r 0) v3 x2 x5 σ3) := by
  intro c
  have h7 := g.ho.p7
  have h3 := g.ho.k3
  have hK : 0 < nK D := by omega
  induction c with
  | zero =>
    intro n p hp hn
    obtain ⟨n, rfl⟩ : ∃ k, n = k + 1 := ⟨n - 1, by omega⟩
    have e : p = nP D := by omega
    rw [l_X10_changesBy_107, g.hb.1.2.2.2, if_pos (nI_le (by omega) (by omega)), e]
    rfl
  | succ c ih =>
    intro n p hp hn
    obtain ⟨n, rfl⟩ : ∃ k, n = k + 1 := ⟨n - 1, by omega⟩
    have hlt : p < nP D := by omega
    have i1 := ih n (p + 1) (by omega) (by omega)
    have ha := asgW_lt (D := D) (W := W) (p := p) hK
    rw [mset, p1_sub] at i1
    rw [l_X10_changesBy_107, g.hb.1.2.2.2, if_neg (nI_ge hlt (by omega)), b_has _ (g := p) (by omega), bit_way g.z hlt]
    unfold j_X10_changesBy_143 j_X10_changesBy_144
    by_cases c1 : r 1 p = 0
    · rw [decide_eq_true c1, if_neg (show ¬ b01 true = 0 from one_ne), b_hand g hlt hK hW hN, bd_some]
      rw [decide_eq_true c1, Bool.true_and] at i1
      by_cases c2 : asgW D W p = k
      · rw [decide_eq_true c2, if_pos rfl] at i1
        rw [if_pos (by rw [c2]), one_1, bt_eq, bt_eq]
        exact i1
      · rw [decide_eq_false c2, if_neg Bool.false_ne_true] at i1
        rw [if_neg (fun z => c2 ((nI_eq (by omega) (by omega)).mp z)), one_0, shl_0 (by omega), bt_eq, bt_eq]
        exact i1
    · rw [decide_eq_false c1, Bool.false_and, if_neg Bool.false_ne_true] at i1
      rw [decide_eq_false c1, if_pos (show b01 false = 0 from rfl), one_0, shl_0 (by omega), bt_eq, bt_eq]
      exact i1
theorem b_ch87 {W : Nat} (hW : W < 2 ^ 20) (v3 : Int32) (hN : 7000 ≤ N) (hU : UB 9 + 2 ≤ N) : ∀ (c n k : Nat) (v : Bool) (τ : St), RlB D r τ → Mem D r τ → k + c = nK D → c < n →
    ∃ w, l_X10_changesBy_87 N n (nI W) (wayS D r 0) v3 (b01 v) (nI k) τ = some (if v = true ∧ ftB D r (asgW D W) c k = true then v3 else 99999999, w) ∧ Mem D r w ∧ FrM τ w := by
  intro c
  induction c with
  | zero =>
    intro n k v τ g hM hk hn
    obtain ⟨n, rfl⟩ : ∃ k, n = k + 1 := ⟨n - 1, by omega⟩
    have h3 := g.ho.k3
    rw [l_X10_changesBy_87, g.hb.1.2.2.1, if_pos (nI_le (by omega) (by omega)), ftB]
    unfold j_X10_changesBy_175
    cases v
    · rw [if_pos (show b01 false = 0 from rfl), if_neg (fun z => Bool.false_ne_true z.1)]
      exact ⟨τ, rfl, hM, FrM.rf⟩
    · rw [if_neg (show ¬ b01 true = 0 from one_ne), if_pos ⟨rfl, rfl⟩]
      exact ⟨τ, rfl, hM, FrM.rf⟩
  | succ c ih =>
    intro n k v τ g hM hk hn
    obtain ⟨n, rfl⟩ : ∃ k, n = k + 1 := ⟨n - 1, by omega⟩
    have h3 := g.ho.k3
    have h7 := g.ho.p7
    have hlt : k < nK D := by omega
    rw [l_X10_changesBy_87, g.hb.1.2.2.1, if_neg (nI_ge hlt (by omega))]
    cases v
    · unfold j_X10_changesBy_175
      rw [if_pos (show b01 false = 0 from rfl), if_pos (show b01 false = 0 from rfl), if_neg (fun z => Bool.false_ne_true z.1)]
      exact ⟨τ, rfl, hM, FrM.rf⟩
    · have hm := b_mask (N := N) g hW hlt hN (l_X10_changesBy_87 N n) v3 (nP D) N 0 (by omega) (by omega)
      have hm' : l_X10_changesBy_107 N (l_X10_changesBy_87 N n) N (nI W) (wayS D r 0) v3 (nI k) 0 0 τ = _ := hm
      have es := mset_mn (fun p => decide (r 1 p = 0) && decide (asgW D W p = k)) (nP D) h7
      have hs : setA D r (asgW D W) k = nI (mn (fun p => decide (r 1 p = 0) && decide (asgW D W p = k)) (nP D)) := es
      have hml : mn (fun p => decide (r 1 p = 0) && decide (asgW D W p = k)) (nP D) < 128 := Nat.lt_of_lt_of_le (mn_lt _ _) (Nat.pow_le_pow_right (by decide) h7 : 2 ^ nP D ≤ 2 ^ 7)
      obtain ⟨w1, z1, z2, z3⟩ := b_canHave (N := N) g hM hlt hml (by rw [← hs]; exact setA_in g.z) hN hU
      rw [← hs] at z1
      rw [if_neg (show ¬ b01 true = 0 from one_ne), hm', z1, bd_some, bt_eq, ← p1_sub, ftB]
      obtain ⟨w, y1, y2, y3⟩ := ih n (k + 1) (canB D r k (setA D r (asgW D W) k)) w1 (z3.b g) z2 (by omega) (by omega)
      refine ⟨w, ?_, y2, z3.tr y3⟩
      rw [y1]
      simp only [Bool.and_eq_true, true_and]
theorem b_ch8 {τ : St} (g : RlB D r τ) {W : Nat} (hW : W < 2 ^ 20) (hN : 7000 ≤ N) : ∀ (c n p : Nat), p + c = nP D → c < n → 
    l_X10_changesBy_8 N n (nI W) (wayS D r 0) (nI (cnt (fun q => !decide (asgW D W q = r 3 q)) p)) (b01 (vlB D r (asgW D W) p)) (nI p) τ = l_X10_changesBy_87 N N (nI W) (wayS D r 0) (nI (cnt (fun q => !decide (asgW D W q = r 3 q)) (nP D))) (b01 (vlB D r (asgW D W) (nP D))) 0 τ := by
  intro c
  have h7 := g.ho.p7
  have h3 := g.ho.k3
  induction c with
  | zero =>
    intro n p hp hn
    obtain ⟨n, rfl⟩ : ∃ k, n = k + 1 := ⟨n - 1, by omega⟩
    have e : p = nP D := by omega
    rw [l_X10_changesBy_8, g.hb.1.2.2.2, if_pos (nI_le (by omega) (by omega)), e]
  | succ c ih =>
    intro n p hp hn
    obtain ⟨n, rfl⟩ : ∃ k, n = k + 1 := ⟨n - 1, by omega⟩
    have hlt : p < nP D := by omega
    have hr := (g.ri.2.1 p hlt).2.2.1
    have hK : 0 < nK D := by omega
    have ha := asgW_lt (D := D) (W := W) (p := p) hK
    have i1 := ih n (p + 1) (by omega) (by omega)
    have e14 : (14 : Int32) + nI p = nI (14 + p) := nI_add 14 p
    have h14 : τ 80 (14 + p) = nI (r 3 p) := by
      have := (g.rb.2.1 p hlt).2.2.1
      rw [show 0 + 14 + p = 14 + p by omega] at this
      exact this
    have bt1 : ¬ b01 true = 0 := one_ne
    have bt0 : b01 false = 0 := rfl
    have e0 : (0 : Int32) = 0 := rfl
    have a1 : ∀ x : Nat, nI x + 1 = nI (x + 1) := fun x => nI_add x 1
    rw [cnt, vlB, p1_sub] at i1
    rw [l_X10_changesBy_8, g.hb.1.2.2.2, if_neg (nI_ge hlt (by omega)), b_hand g hlt hK hW hN, bd_some, e14, b_cka (x := 14 + p) (n := 1360) _ (by omega) (by decide), nI_clamp (n := 14 + p) (by omega), h14]
    unfold j_X10_changesBy_42 j_X10_changesBy_71 j_X10_changesBy_75 j_X10_changesBy_76
    rw [b_has _ (g := p) (by omega), bit_way g.z hlt, one_0, one_1]
    by_cases c1 : asgW D W p = r 3 p
    · rw [decide_eq_true c1] at i1
      rw [if_pos (by rw [c1]), Int32.add_zero, bt_eq]
      cases hv : vlB D r (asgW D W) p
      · rw [hv] at i1
        rw [if_pos bt0, bt_eq]
        exact i1
      · rw [hv] at i1
        rw [if_neg bt1]
        by_cases c2 : r 1 p = 0
        · rw [decide_eq_true c2] at i1 ⊢
          rw [if_neg bt1, bt_eq]
          exact i1
        · rw [decide_eq_false c2] at i1 ⊢
          rw [if_pos bt0, if_pos e0, bt_eq]
          exact i1
    · rw [decide_eq_false c1] at i1
      rw [if_neg (fun z => c1 ((nI_eq (by omega) (by omega)).mp z)), a1, bt_eq]
      cases hv : vlB D r (asgW D W) p
      · rw [hv] at i1
        rw [if_pos bt0, bt_eq]
        exact i1
      · rw [hv] at i1
        rw [if_neg bt1]
        by_cases c2 : r 1 p = 0
        · rw [decide_eq_true c2] at i1 ⊢
          rw [if_neg bt1, bt_eq]
          exact i1
        · rw [decide_eq_false c2] at i1 ⊢
          rw [if_pos bt0, if_neg one_ne, bt_eq]
          exact i1
theorem vl_iff {A : Nat → Nat} : vlB D r A (nP D) = true ↔ ValA D r A := by
  have key : ∀ n, n ≤ nP D → (vlB D r A n = true ↔ ∀ p, p < n → r 1 p ≠ 0 → A p = r 3 p) := by
    intro n
    induction n with
    | zero =>
      intro _
      exact ⟨fun _ p hp => absurd hp (Nat.not_lt_zero _), fun _ => rfl⟩
    | succ n ih =>
      intro hn
      rw [vlB, Bool.and_eq_true, ih (by omega), Bool.or_eq_true, decide_eq_true_eq, decide_eq_true_eq]
      refine ⟨fun z p hp h1 => ?_, fun z => ⟨fun p hp h1 => z p (by omega) h1, ?_⟩⟩
      · by_cases e : p = n
        · subst e
          exact z.2.resolve_left h1
        · exact z.1 p (by omega) h1
      · by_cases e : r 1 n = 0
        · exact Or.inl e
        · exact Or.inr (z n (by omega) e)
  exact key (nP D) (Nat.le_refl _)
theorem ft_iff {A : Nat → Nat} : ftB D r A (nK D) 0 = true ↔ FitA D r A := by
  have key : ∀ c k, k + c = nK D → (ftB D r A c k = true ↔ ∀ q, k ≤ q → q < nK D → canB D r q (setA D r A q) = true) := by
    intro c
    induction c with
    | zero =>
      intro k hk
      exact ⟨fun _ q h1 h2 => absurd h1 (by omega), fun _ => rfl⟩
    | succ c ih =>
      intro k hk
      rw [ftB, Bool.and_eq_true, ih (k + 1) (by omega)]
      refine ⟨fun z q h1 h2 => ?_, fun z => ⟨z k (Nat.le_refl _) (by omega), fun q h1 h2 => z q (by omega) h2⟩⟩
      by_cases e : q = k
      · subst e
        exact z.1
      · exact z.2 q (by omega) h2
  rw [key (nK D) 0 (by omega)]
  exact ⟨fun z k hk => z k (Nat.zero_le _) hk, fun z q _ hq => z q hq⟩
theorem cost_val {A : Nat → Nat} (h : ValA D r A) : cnt (fun q => !decide (A q = r 3 q)) (nP D) = costA D r A := by
  refine cnt_congr _ fun q hq => ?_
  by_cases e : r 1 q = 0
  · rw [decide_eq_true e, Bool.true_and]
  · rw [decide_eq_false e, Bool.false_and, decide_eq_true (h q hq e)]
    rfl
theorem b_changes {τ : St} (g : RlB D r τ) (hM : Mem D r τ) {W : Nat} (hW : W < 2 ^ 20) (hN : 7000 ≤ N) (hU : UB 9 + 2 ≤ N) :
    ∃ x w, o_X10_changesBy N (nI W) (wayS D r 0) τ = some (x, w) ∧ (x = nI (costA D r (asgW D W)) ∧ ValA D r (asgW D W) ∧ FitA D r (asgW D W) ∨ x = 99999999 ∧ ¬ (ValA D r (asgW D W) ∧ FitA D r (asgW D W))) ∧ Mem D r w ∧ FrM τ w := by
  have h7 := g.ho.p7
  have h3 := g.ho.k3
  have run : o_X10_changesBy N (nI W) (wayS D r 0) τ = _ := b_ch8 (N := N) g hW hN (nP D) N 0 (by omega) (by omega)
  obtain ⟨w, y1, y2, y3⟩ := b_ch87 (N := N) hW (nI (cnt (fun q => !decide (asgW D W q = r 3 q)) (nP D))) hN hU (nK D) N 0 (vlB D r (asgW D W) (nP D)) τ g hM (by omega) (by omega)
  refine ⟨_, w, run.trans y1, ?_, y2, y3⟩
  by_cases c : vlB D r (asgW D W) (nP D) = true ∧ ftB D r (asgW D W) (nK D) 0 = true
  · have hv := vl_iff.mp c.1
    rw [if_pos c, cost_val hv]
    exact Or.inl ⟨rfl, hv, ft_iff.mp c.2⟩
  · rw [if_neg c]
    exact Or.inr ⟨rfl, fun z => c ⟨vl_iff.mpr z.1, ft_iff.mpr z.2⟩⟩
/-- the best so far, as the reference keeps it -/
def EncW (D : LD) (acc : AC) (v4 v5 : Int32) : Prop := acc.1 = 1000 ∧ v4 = -1 ∧ v5 = 99999999 ∨ acc.1 ≤ 7 ∧ v5 = nI acc.1 ∧ ∃ w, w < 2 ^ 20 ∧ v4 = nI w ∧ acc.2 = asgW D w
theorem b_han106 (a1 : Int32) {tot : Nat} (htot : tot < 2 ^ 20) (hN : 7000 ≤ N) (hU : UB 9 + 2 ≤ N) : ∀ (c n W : Nat) (acc : AC) (v4 v5 : Int32) (τ : St), RlB D r τ → Mem D r τ → EncW D acc v4 v5 → W + c = tot → c < n →
    ∃ v4' v5' w, l_X10_hands_106 N n a1 (nI tot) (wayS D r 0) v4 v5 (nI W) τ = (if (0 : Int32) ≤ v4' then (if a1 = (-1) then (some (v5', w)) else (bd (o_X10_handOf N v4' a1 w) fun x4 σ5 => some (x4, σ5))) else (some ((-1), w))) ∧ EncW D (foldN (fun W => stpA D r (asgW D W)) c W acc) v4' v5' ∧ FrM τ w := by
  intro c
  induction c with
  | zero =>
    intro n W acc v4 v5 τ g hM hE hW hn
    obtain ⟨n, rfl⟩ : ∃ k, n = k + 1 := ⟨n - 1, by omega⟩
    refine ⟨v4, v5, τ, ?_, hE, FrM.rf⟩
    rw [l_X10_hands_106, if_pos (nI_le (by omega) (by omega))]
  | succ c ih =>
    intro n W acc v4 v5 τ g hM hE hW hn
    obtain ⟨n, rfl⟩ : ∃ k, n = k + 1 := ⟨n - 1, by omega⟩
    have h7 := g.ho.p7
    have hlt : ¬ nI tot ≤ nI W := by
      rw [nI_le_iff (by omega) (by omega)]
      omega
    obtain ⟨x, w1, z1, z2, z3, z4⟩ := b_changes (N := N) g hM (W := W) (by omega) hN hU
    have hc : costA D r (asgW D W) ≤ 7 := Nat.le_trans (cnt_le _ _) h7
    rw [l_X10_hands_106, if_neg hlt, z1, bd_some, foldN]
    unfold j_X10_hands_136
    have go : ∀ v4' v5', EncW D (stpA D r (asgW D W) acc) v4' v5' → ∃ v4'' v5'' w, (bt (nI W + 1) fun x1 => l_X10_hands_106 N n a1 (nI tot) (wayS D r 0) v4' v5' x1 w1) = (if (0 : Int32) ≤ v4'' then (if a1 = (-1) then (some (v5'', w)) else (bd (o_X10_handOf N v4'' a1 w) fun x4 σ5 => some (x4, σ5))) else (some ((-1), w))) ∧ EncW D (foldN (fun W => stpA D r (asgW D W)) c (W + 1) (stpA D r (asgW D W) acc)) v4'' v5'' ∧ FrM τ w := by
      intro v4' v5' hE'
      obtain ⟨v4'', v5'', w, y1, y2, y3⟩ := ih n (W + 1) (stpA D r (asgW D W) acc) v4' v5' w1 (z4.b g) z3 hE' (by omega) (by omega)
      refine ⟨v4'', v5'', w, ?_, y2, z4.tr y3⟩
      rw [bt_eq, ← p1_sub]
      exact y1
    rcases z2 with ⟨e1, e2, e3⟩ | ⟨e1, e2⟩
    · by_cases cc : costA D r (asgW D W) < acc.1
      · have hs : stpA D r (asgW D W) acc = (costA D r (asgW D W), asgW D W) := if_pos ⟨⟨e2, e3⟩, cc⟩
        have q : ¬ v5 ≤ x := by
          rcases hE with ⟨-, -, h⟩ | ⟨h1, h, -⟩
          · rw [h, e1]
            exact fun z => absurd ((nI_le_iff (a := 99999999) (b := costA D r (asgW D W)) (by omega) (by omega)).mp z) (by omega)
          · rw [h, e1, nI_le_iff (by omega) (by omega)]
            omega
        rw [if_neg q]
        refine go _ _ ?_
        rw [hs]
        exact Or.inr ⟨hc, e1, W, by omega, rfl, rfl⟩
      · have hs : stpA D r (asgW D W) acc = acc := if_neg (fun z => cc z.2)
        have q : v5 ≤ x := by
          rcases hE with ⟨h1, -, h⟩ | ⟨h1, h, -⟩
          · omega
          · rw [h, e1]
            exact nI_le (by omega) (by omega)
        rw [if_pos q]
        refine go _ _ ?_
        rw [hs]
        exact hE
    · have hs : stpA D r (asgW D W) acc = acc := if_neg (fun z => e2 z.1)
      have q : v5 ≤ x := by
        rcases hE with ⟨h1, -, h⟩ | ⟨h1, h, -⟩
        · rw [h, e1]
          exact Int32.le_refl _
        · rw [h, e1]
          exact nI_le (b := 99999999) (by omega) (by omega)
      rw [if_pos q]
      refine go _ _ ?_
      rw [hs]
      exact hE
end HANB2
