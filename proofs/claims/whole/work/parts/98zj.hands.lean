/-! hands: both together -/
def EncC (D : LD) (acc : AC) (v2 : Int32) (σ : St) : Prop := acc.1 = 1000 ∧ v2 = -1 ∨ acc.1 ≤ 7 ∧ v2 = nI acc.1 ∧ ∀ p, p < nP D → σ 73 p = nI (acc.2 p)
theorem pw_le {K i : Nat} (hK : K ≤ 3) (hi : i ≤ 7) : K ^ i ≤ 2187 := Nat.le_trans (Nat.pow_le_pow_left hK i) (Nat.pow_le_pow_right (by decide) hi : 3 ^ i ≤ 3 ^ 7)
theorem EncC.of {D : LD} {acc : AC} {v2 : Int32} {σ w : St} (h : EncC D acc v2 σ) (e : w 73 = σ 73) : EncC D acc v2 w := by
  rcases h with h | ⟨h1, h2, h3⟩
  · exact Or.inl h
  · exact Or.inr ⟨h1, h2, fun p hp => by rw [e]; exact h3 p hp⟩
section HANC
variable {D : LD} {r : RD} {N : Nat}
theorem Fits.of {σ w : St} (h : Fits D r 128 σ) (e : w 70 = σ 70) : Fits D r 128 w := fun m hm hs => by
  rw [e]
  exact h m hm hs
theorem valC (B : Nat) : ValA D r (asgC D r B) := by
  intro p hp hc
  unfold asgC
  rw [if_pos hp, if_neg hc]
theorem bcW (h : RlZ D r) (σ : St) : p_J6_bitCount_0f7a4 (wayS D r 0) σ = nI (oC D r (nP D)) := by
  rw [bc_mset _ σ _ h.ho.p7, oC_all]
  congr 1
  refine cnt_congr _ fun q hq => ?_
  have hr := h.ri.2.1 q hq
  exact decide_eq_decide.mpr (nI_eq (a := r 1 q) (b := 0) (by omega) (by omega))
theorem a_few39 {tot : Nat} (htot : tot < 2 ^ 20) (hN : 7000 ≤ N) : ∀ (c n B : Nat) (acc : AC) (v2 : Int32) (σ : St), RlA D r σ → Fits D r 128 σ → EncC D acc v2 σ → B + c = tot → c < n →
    ∃ v2' w, l_X3_fewest_39 N n (nI tot) v2 (nI B) σ = some (v2', w) ∧ EncC D (foldN (fun B => stpA D r (asgC D r B)) c B acc) v2' w ∧ FrC σ w := by
  intro c
  induction c with
  | zero =>
    intro n B acc v2 σ h hF hE hB hn
    obtain ⟨n, rfl⟩ : ∃ k, n = k + 1 := ⟨n - 1, by omega⟩
    rw [l_X3_fewest_39, if_pos (nI_le (by omega) (by omega))]
    exact ⟨v2, σ, rfl, hE, FrC.rf⟩
  | succ c ih =>
    intro n B acc v2 σ h hF hE hB hn
    obtain ⟨n, rfl⟩ : ∃ k, n = k + 1 := ⟨n - 1, by omega⟩
    have h7 := h.ho.p7
    have h3 := h.ho.k3
    have hlt : ¬ nI tot ≤ nI B := nI_ge (by omega) (by omega)
    obtain ⟨w1, z1, z2, z3, z4⟩ := a_giveBy (N := N) h (B := B) (by omega) hN
    have fr1 : FrC σ w1 := fun x hx => z4 x (by omega)
    have h1 := fr1.a h
    have hF1 : Fits D r 128 w1 := hF.of (z4 70 (by decide))
    have hE1 : EncC D acc v2 w1 := hE.of (z4 73 (by decide))
    have hc : costA D r (asgC D r B) ≤ 7 := Nat.le_trans (cnt_le _ _) h7
    rw [l_X3_fewest_39, if_neg hlt, z1, bd_some, foldN]
    have go : ∀ v' σ', EncC D (stpA D r (asgC D r B) acc) v' σ' → RlA D r σ' → Fits D r 128 σ' → FrC σ σ' → ∃ v2' w, j_X3_fewest_83 N (l_X3_fewest_39 N n) (nI tot) v' (nI B) σ' = some (v2', w) ∧ EncC D (foldN (fun B => stpA D r (asgC D r B)) c (B + 1) (stpA D r (asgC D r B) acc)) v2' w ∧ FrC σ w := by
      intro v' σ' e1 e2 e3 e4
      obtain ⟨v2', w, y1, y2, y3⟩ := ih n (B + 1) (stpA D r (asgC D r B) acc) v' σ' e2 e3 e1 (by omega) (by omega)
      refine ⟨v2', w, ?_, y2, e4.tr y3⟩
      unfold j_X3_fewest_83
      rw [bt_eq, ← p1_sub]
      exact y1
    have ask : costA D r (asgC D r B) < acc.1 → ∃ v2' w, j_X3_fewest_62 N (l_X3_fewest_39 N n) (nI tot) v2 (nI B) (nI (costA D r (asgC D r B))) w1 = some (v2', w) ∧ EncC D (foldN (fun B => stpA D r (asgC D r B)) c (B + 1) (stpA D r (asgC D r B) acc)) v2' w ∧ FrC σ w := by
      intro hlt
      have fit : o_X3_allFit N w1 = some (b01 (ftB D r (asgC D r B) (nK D) 0), w1) := a_allFit h1 hF1 z2 (nK D) N 0 (by omega) (by omega)
      unfold j_X3_fewest_62
      rw [fit, bd_some]
      cases hf : ftB D r (asgC D r B) (nK D) 0
      · have hs : stpA D r (asgC D r B) acc = acc := if_neg (fun z => by
          have := ft_iff.mpr z.1.2
          rw [hf] at this
          cases this)
        rw [if_pos (show b01 false = 0 from rfl)]
        refine go _ _ ?_ h1 hF1 fr1
        rw [hs]
        exact hE1
      · have hs : stpA D r (asgC D r B) acc = (costA D r (asgC D r B), asgC D r B) := if_pos ⟨⟨valC B, ft_iff.mp hf⟩, hlt⟩
        have fr2 : FrC w1 (cp_ w1 72 73 7) := fun x hx => cp_ne (by omega)
        rw [if_neg (show ¬ b01 true = 0 from one_ne), cpO_some, show min 7 7 = 7 from rfl, bt_eq]
        refine go _ _ ?_ (fr2.a h1) (hF1.of (cp_ne (by decide))) (fr1.tr fr2)
        rw [hs]
        refine Or.inr ⟨hc, rfl, fun p hp => ?_⟩
        rw [cp_to]
        show (if p < 7 then w1 72 p else w1 73 p) = _
        rw [if_pos (show p < 7 by omega)]
        exact z3 p hp
    rcases hE with ⟨e1, e2⟩ | ⟨e1, e2, e3⟩
    · rw [if_pos e2]
      exact ask (by omega)
    · have n1 : ¬ v2 = -1 := by
        rw [e2]
        exact nI_neg1 (by omega)
      rw [if_neg n1]
      by_cases cc : costA D r (asgC D r B) < acc.1
      · have n2 : ¬ v2 ≤ nI (costA D r (asgC D r B)) := by
          rw [e2]
          exact nI_ge cc (by omega)
        rw [if_neg n2]
        exact ask cc
      · have hs : stpA D r (asgC D r B) acc = acc := if_neg (fun z => cc z.2)
        have n2 : v2 ≤ nI (costA D r (asgC D r B)) := by
          rw [e2]
          exact nI_le (by omega) (by omega)
        rw [if_pos n2]
        refine go _ _ ?_ h1 hF1 fr1
        rw [hs]
        exact hE1
theorem a_few4 {σ : St} (h : RlA D r σ) (hN : 7000 ≤ N) : ∀ (c n i : Nat), i + c = oC D r (nP D) → c < n →
    l_X3_fewest_4 N n (nI (nK D ^ i)) (nI i) σ = l_X3_fewest_39 N N (nI (nK D ^ oC D r (nP D))) (-1) 0 σ := by
  have h7 := h.ho.p7
  have h3 := h.ho.k3
  have ho : oC D r (nP D) ≤ 7 := by
    rw [oC_all]
    exact Nat.le_trans (cnt_le _ _) h7
  have hb : p_J6_bitCount_0f7a4 (mset (fun q => decide (nI (r 1 q) = 0)) (nP D)) σ = nI (oC D r (nP D)) := bcW h.z σ
  intro c
  induction c with
  | zero =>
    intro n i hi hn
    obtain ⟨n, rfl⟩ : ∃ k, n = k + 1 := ⟨n - 1, by omega⟩
    have e : i = oC D r (nP D) := by omega
    rw [l_X3_fewest_4, a_setOf h.ho h.ha h.ra (by omega), bd_some, hb, if_pos (nI_le (by omega) (by omega)), e]
  | succ c ih =>
    intro n i hi hn
    obtain ⟨n, rfl⟩ : ∃ k, n = k + 1 := ⟨n - 1, by omega⟩
    rw [l_X3_fewest_4, a_setOf h.ho h.ha h.ra (by omega), bd_some, hb, if_neg (nI_ge (by omega) (by omega)), h.ha.1.2.2.1, nI_mul, ← Nat.pow_succ, bt_eq, bt_eq, ← p1_sub]
    exact ih n (i + 1) (by omega) (by omega)
/-- the class's asking, whole -/
theorem a_fewest {σ : St} (h : RlA D r σ) (hN : 7000 ≤ N) : ∃ v2 w1 w, o_X3_fillFits N σ = some ((), w1) ∧ o_X3_fewest N w1 = some (v2, w) ∧ EncC D (foldN (fun B => stpA D r (asgC D r B)) (nK D ^ oC D r (nP D)) 0 (1000, fun _ => 0)) v2 w ∧ FrC σ w := by
  have h7 := h.ho.p7
  have h3 := h.ho.k3
  have ho : oC D r (nP D) ≤ 7 := by
    rw [oC_all]
    exact Nat.le_trans (cnt_le _ _) h7
  have hp := pw_le h3 ho
  obtain ⟨w1, y1, y2, y3⟩ := a_fillFits h hN
  have h1 := y3.a h
  obtain ⟨v2, w, z1, z2, z3⟩ := a_few39 (N := N) (tot := nK D ^ oC D r (nP D)) (by omega) hN (nK D ^ oC D r (nP D)) N 0 (1000, fun _ => 0) (-1) w1 h1 y2 (Or.inl ⟨rfl, rfl⟩) (by omega) (by omega)
  have e4 := a_few4 h1 hN (oC D r (nP D)) N 0 (by omega) (by omega)
  rw [Nat.pow_zero] at e4
  have e : o_X3_fewest N w1 = l_X3_fewest_39 N N (nI (nK D ^ oC D r (nP D))) (-1) 0 w1 := e4
  exact ⟨v2, w1, w, y1, e.trans z1, z2, y3.tr z3⟩
theorem b_han47 {τ : St} (g : RlB D r τ) (a1 : Int32) : ∀ (c n i : Nat), i + c = nP D → c < n →
    l_X10_hands_47 N n a1 (nI (nK D ^ i)) (nI i) τ = l_X10_hands_70 N N a1 (nI (nK D ^ nP D)) 0 τ := by
  have h7 := g.ho.p7
  intro c
  induction c with
  | zero =>
    intro n i hi hn
    obtain ⟨n, rfl⟩ : ∃ k, n = k + 1 := ⟨n - 1, by omega⟩
    have e : i = nP D := by omega
    rw [l_X10_hands_47, g.hb.1.2.2.2, if_pos (nI_le (by omega) (by omega)), e]
  | succ c ih =>
    intro n i hi hn
    obtain ⟨n, rfl⟩ : ∃ k, n = k + 1 := ⟨n - 1, by omega⟩
    rw [l_X10_hands_47, g.hb.1.2.2.2, if_neg (nI_ge (by omega) (by omega)), g.hb.1.2.2.1, nI_mul, ← Nat.pow_succ, bt_eq, bt_eq, ← p1_sub]
    exact ih n (i + 1) (by omega) (by omega)
theorem b_han70 (a1 tot : Int32) (hN : 7000 ≤ N) : ∀ (c n m : Nat) (τ : St), RlB D r τ → (∀ i, i < m → τ 99 i = 0) → m + c = 384 → c < n →
    ∃ w, l_X10_hands_70 N n a1 tot (nI m) τ = l_X10_hands_106 N N a1 tot (wayS D r 0) (-1) 99999999 0 w ∧ (∀ i, i < 384 → w 99 i = 0) ∧ FrM τ w := by
  intro c
  induction c with
  | zero =>
    intro n m τ g hz hm hn
    obtain ⟨n, rfl⟩ : ∃ k, n = k + 1 := ⟨n - 1, by omega⟩
    have e : m = 384 := by omega
    subst e
    rw [l_X10_hands_70, if_pos (show (384 : Int32) ≤ nI 384 by decide), b_inWay g.ho g.hb g.rb (by omega), bd_some]
    exact ⟨τ, rfl, hz, FrM.rf⟩
  | succ c ih =>
    intro n m τ g hz hm hn
    obtain ⟨n, rfl⟩ : ∃ k, n = k + 1 := ⟨n - 1, by omega⟩
    have hlt : ¬ (384 : Int32) ≤ nI m := nI_ge (b := 384) (by omega) (by omega)
    have fr : FrM τ (st τ 99 m 0) := ⟨fun c hc => st_cell (by omega), fun i _ => by rw [st_cell (by decide)]⟩
    obtain ⟨w, z1, z2, z3⟩ := ih n (m + 1) (st τ 99 m 0) (fr.b g) (fun i hi => by
      rw [st_get]
      by_cases e : i = m
      · rw [if_pos e]
      · rw [if_neg e]
        exact hz i (by omega)) (by omega) (by omega)
    refine ⟨w, ?_, z2, fr.tr z3⟩
    rw [l_X10_hands_70, if_neg hlt, b_cka _ (by omega : m < 384) (by decide), nI_clamp (by omega), bt_eq, bt_eq, ← p1_sub]
    exact z1
theorem e_hway {σ τ : St} (h : RlA D r σ) (g : RlB D r τ) (a1 : Int32) : ∀ (c n k : Nat), k + c = nK D → c < n →
    (l_X9_hands_21 N n a1 (nI k) σ = some (-1000000003, σ) ∧ l_X10_hands_20 N n a1 1 (nI k) τ = some (-1000000003, τ)) ∨
    (l_X9_hands_21 N n a1 (nI k) σ = (bd (o_X3_fillFits N σ) fun _ σ3 => bd (o_X3_fewest N σ3) fun x5 σ6 => if x5 = (-1) then (some (x5, σ6)) else (if a1 = (-1) then (some (x5, σ6)) else (some ((at_ σ6 73 7 a1), σ6)))) ∧ l_X10_hands_20 N n a1 1 (nI k) τ = l_X10_hands_47 N N a1 1 0 τ) := by
  have h3 := h.ho.k3
  intro c
  induction c with
  | zero =>
    intro n k hk hn
    obtain ⟨n, rfl⟩ : ∃ k, n = k + 1 := ⟨n - 1, by omega⟩
    refine Or.inr ⟨?_, ?_⟩
    · rw [l_X9_hands_21, h.ha.1.2.2.1, if_pos (nI_le (by omega) (by omega))]
    · rw [l_X10_hands_20, g.hb.1.2.2.1, if_pos (nI_le (by omega) (by omega))]
  | succ c ih =>
    intro n k hk hn
    obtain ⟨n, rfl⟩ : ∃ k, n = k + 1 := ⟨n - 1, by omega⟩
    have hlt : k < nK D := by omega
    rw [l_X9_hands_21, h.ha.1.2.2.1, if_neg (nI_ge hlt (by omega)), a_onWay h hlt, l_X10_hands_20, g.hb.1.2.2.1, if_neg (nI_ge hlt (by omega)), b_onWay g hlt, bd_some]
    cases decide (r 0 0 < r 5 k)
    · rw [if_pos (show b01 false = 0 from rfl), if_pos (show b01 false = 0 from rfl), bt_eq, bt_eq, ← p1_sub]
      exact ih n (k + 1) (by omega) (by omega)
    · rw [if_neg (show ¬ b01 true = 0 from one_ne), if_neg (show ¬ b01 true = 0 from one_ne)]
      exact Or.inl ⟨rfl, rfl⟩
theorem e_hcore {σ τ : St} (h : RlA D r σ) (g : RlB D r τ) (hN : 7000 ≤ N) (hU : UB 9 + 2 ≤ N) (a1 : Int32) (ha1 : a1 = -1 ∨ ∃ p, p < nP D ∧ a1 = nI p) : ∃ v wA w, j_X9_hands_19 N a1 σ = some (v, wA) ∧ j_X10_hands_16 N a1 τ = some (v, w) ∧ FrC σ wA ∧ FrM τ w := by
  have h7 := h.ho.p7
  have h3 := h.ho.k3
  have hp := pw_le h3 h7
  unfold j_X9_hands_19 j_X10_hands_16
  rcases e_hway (N := N) h g a1 (nK D) N 0 (by omega) (by omega) with ⟨e1, e2⟩ | ⟨e1, e2⟩
  · exact ⟨_, σ, τ, e1, e2, FrC.rf, FrM.rf⟩
  · obtain ⟨v2, w1, wA, x1, x2, x3, x4⟩ := a_fewest (N := N) h hN
    rw [x1, bd_some, x2, bd_some] at e1
    have e3' := b_han47 (N := N) g a1 (nP D) N 0 (by omega) (by omega)
    rw [Nat.pow_zero] at e3'
    have e3 : l_X10_hands_47 N N a1 1 0 τ = l_X10_hands_70 N N a1 (nI (nK D ^ nP D)) 0 τ := e3'
    obtain ⟨w2, y1, y2, y3⟩ := b_han70 (N := N) (D := D) (r := r) a1 (nI (nK D ^ nP D)) hN 384 N 0 τ g (fun i hi => absurd hi (Nat.not_lt_zero _)) (by omega) (by omega)
    have hM : Mem D r w2 := fun k m hk hm => Or.inl (y2 _ (by omega))
    have g2 := y3.b g
    obtain ⟨v4, v5, w, z1, z2, z3⟩ := b_han106 (N := N) (D := D) (r := r) a1 (tot := nK D ^ nP D) (by omega) hN hU (nK D ^ nP D) N 0 (1000, fun _ => 0) (-1) 99999999 w2 g2 hM (Or.inl ⟨rfl, rfl, rfl⟩) (by omega) (by omega)
    have e4 : l_X10_hands_20 N N a1 1 0 τ = _ := e2.trans (e3.trans (Eq.trans y1 z1))
    have fM := y3.tr z3
    rw [han_eq (fun p hp => (h.ri.2.1 p hp).2.2.1)] at z2
    have e1' : l_X9_hands_21 N N a1 0 σ = _ := e1
    rw [e1', e4]
    revert x3 z2
    generalize foldN (fun B => stpA D r (asgC D r B)) (nK D ^ oC D r (nP D)) 0 (1000, fun _ => 0) = acc
    intro x3 z2
    rcases x3 with ⟨a2, b2⟩ | ⟨a2, b2, c2⟩
    · rcases z2 with ⟨a3, b3, c3⟩ | ⟨a3, b3, c3⟩
      · rw [if_pos b2, b2, b3, if_neg (show ¬ (0 : Int32) ≤ -1 by decide)]
        exact ⟨_, wA, w, rfl, rfl, x4, fM⟩
      · exact absurd a3 (by omega)
    · rcases z2 with ⟨a3, b3, c3⟩ | ⟨a3, b3, W, hW, c3, d3⟩
      · exact absurd a3 (by omega)
      · have hv : ¬ v2 = -1 := by
          rw [b2]
          exact nI_neg1 (by omega)
        have h0 : (0 : Int32) ≤ v4 := by
          rw [c3]
          exact nI_le (a := 0) (by omega) (by omega)
        rw [if_neg hv, if_pos h0, b2, b3]
        rcases ha1 with e | ⟨p, hp, rfl⟩
        · rw [if_pos e, if_pos e]
          exact ⟨_, wA, w, rfl, rfl, x4, fM⟩
        · have hr := (h.ri.2.1 p hp).2.2.1
          rw [if_neg (nI_neg1 (by omega)), if_neg (nI_neg1 (by omega)), at_nI (by omega) (by decide), c2 p hp, c3, b_hand (fM.b g) hp (by omega) hW hN, bd_some, d3]
          exact ⟨_, wA, w, rfl, rfl, x4, fM⟩
theorem e_hands {σ τ : St} (h : RlA D r σ) (g : RlB D r τ) (hN : 7000 ≤ N) (hU : UB 9 + 2 ≤ N) (a1 : Int32) : ∃ v wA w, o_X9_hands N a1 σ = some (v, wA) ∧ o_X10_hands N a1 τ = some (v, w) ∧ FrC σ wA ∧ FrM τ w := by
  have h7 := h.ho.p7
  have e0 : (0 : Int32) = 0 := rfl
  unfold o_X9_hands o_X10_hands
  by_cases c : a1 = -1
  · rw [if_pos c, if_pos c]
    exact e_hcore h g hN hU a1 (Or.inl c)
  · rw [if_neg c, if_neg c]
    rcases a_has (n := nP D) (by omega) a1 with ⟨p, hp, rfl⟩ | hx
    · rw [a_hasPromise_in h.ha h.ho hp, if_neg one_ne, b_isPromise_in g.hb g.ho hp, bd_some, if_neg one_ne]
      exact e_hcore h g hN hU _ (Or.inr ⟨p, hp, rfl⟩)
    · rw [a_hasPromise_out h.ha hx, if_pos e0, b_isPromise_out g.hb g.ho hx, bd_some, if_pos e0]
      exact ⟨_, σ, τ, rfl, rfl, FrC.rf, FrM.rf⟩
theorem s_hands (hN : 7000 ≤ N) (hU : UB 9 + 2 ≤ N) : HandsS N := by
  intro σ hW a1
  obtain ⟨Q, hO, hA, hB⟩ := hW
  refine mkStep hO hB (fun τ hτ => ?_) (fun v w e => (fr_X9_hands e).hi rfl) (fun τ v w e => (fr_X10_hands e).lo rfl)
  obtain ⟨v, wA, w, z1, z2, z3, z4⟩ := e_hands (N := N) (WD.rlA hO hA) (WD.rlB hO hτ) hN hU a1
  obtain ⟨Q', q⟩ := WD.ask hO hA hτ z3 z4
  exact ⟨v, _, w, Q', z1, z2, q⟩
end HANC
