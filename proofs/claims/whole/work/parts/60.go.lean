/-! go -/
theorem ripV_set {D : LD} {r : RD} {a b v p : Nat} (h1 : ¬ 1 = a) (h2 : ¬ 2 = a) : ripV D (rset r a b v) p = ripV D r p := by
  unfold ripV
  rw [gvn_set h1 h2]
theorem rowK_set {D : LD} {r : RD} {a b v : Nat} (h0 : ¬ 0 = a) (h1 : ¬ 1 = a) (h2 : ¬ 2 = a) (h : RowK D r) : RowK D (rset r a b v) := by
  intro p hp
  rw [ripV_set h1 h2, rset_ne h1, rset_ne h0]
  exact h p hp
def goV (D : LD) (r : RD) (k b : Nat) : Bool := !decide (r 0 0 < r 5 k) && (!decide (r 4 k = b) && !decide (D 7 (5 * r 4 k + b) = 1000))
def goR (D : LD) (r : RD) (k b : Nat) : RD := rset (rset r 4 k b) 5 k (r 0 0 + D 7 (5 * r 4 k + b))
section GO
variable {D : LD} {r : RD} {σ : St} {N : Nat}
theorem dI_neg (ho : LandOk D) {i : Nat} (hi : i < 25) : dI (D 7 i) = -1 ↔ D 7 i = 1000 := by
  have hd := ho.di hi
  unfold dI
  by_cases h : D 7 i = 1000
  · rw [if_pos h]
    exact ⟨fun _ => h, fun _ => rfl⟩
  · rw [if_neg h]
    exact ⟨fun e => absurd e (nI_neg1 (by omega)), fun e => absurd e h⟩
theorem a_depart (h : RlA D r σ) {k b : Nat} (hk : k < nK D) (hb : b < nT D) :
    t_X1_depart (nI k) (nI b) σ = if goV D r k b then (1, st (st σ 24 (22 + k) (nI b)) 24 (25 + k) (nI (r 0 0 + D 7 (5 * r 4 k + b)))) else (0, σ) := by
  have h3 := h.ho.k3
  have h5 := h.ho.t5
  have ht := (h.ri.2.2.1 k hk).1
  have hd := h.ho.di (i := 5 * r 4 k + b) (by omega)
  unfold t_X1_depart bt goV
  rw [a_town h.ho h.ra hk, a_dist h.ho h.ha ht hb, a_onWay h hk]
  dsimp only
  have e1 : ¬ b01 true = 0 := one_ne
  have e2 : b01 false = 0 := rfl
  cases decide (r 0 0 < r 5 k)
  · rw [if_pos e2]
    by_cases h1 : r 4 k = b
    · rw [h1, if_pos rfl, decide_eq_true rfl]
      rfl
    · have hn : ¬ nI (r 4 k) = nI b := fun e => h1 ((nI_eq (by omega) (by omega)).mp e)
      rw [if_neg hn, decide_eq_false h1]
      by_cases h2 : D 7 (5 * r 4 k + b) = 1000
      · rw [if_pos ((dI_neg h.ho (by omega)).mpr h2), decide_eq_true h2]
        rfl
      · rw [if_neg (fun e => h2 ((dI_neg h.ho (by omega)).mp e)), decide_eq_false h2, a_today h.ra]
        have e3 : (!false && (!false && !false)) = true := rfl
        rw [if_pos e3]
        unfold t_X1_sendTo_23 bt dI
        dsimp only
        rw [if_neg h2, show (22 : Int32) + nI k = nI (22 + k) from nI_add 22 k, show (25 : Int32) + nI k = nI (25 + k) from nI_add 25 k, nI_add, put_nI (by omega) (by decide), put_nI (by omega) (by decide)]
  · rw [if_neg e1]
    rfl
theorem b_town (h : RlB D r σ) {k : Nat} (hk : k < nK D) : σ 80 (28 + k) = nI (r 4 k) := by
  have e := (h.rb.2.2.1 k hk).1
  rw [Nat.zero_add] at e
  exact e
theorem b_canGo (h : RlB D r σ) {k b : Nat} (hk : k < nK D) (hb : b < nT D) : o_X10_canGo N (nI k) (nI b) σ = some (b01 (goV D r k b), σ) := by
  have h3 := h.ho.k3
  have h5 := h.ho.t5
  have ht := (h.ri.2.2.1 k hk).1
  have hd := h.ho.di (i := 5 * r 4 k + b) (by omega)
  unfold o_X10_canGo j_X10_canGo_48 goV
  have e : (5 : Int32) * nI (r 4 k) + nI b = nI (5 * r 4 k + b) := by
    show nI 5 * nI (r 4 k) + nI b = _
    rw [nI_mul, nI_add]
  rw [b_onWay h hk, bd_some, show (28 : Int32) + nI k = nI (28 + k) from nI_add 28 k, b_cka (x := 28 + k) _ (by omega) (by decide), b_cka (x := 28 + k) _ (by omega) (by decide), w_nI (c := σ 80) (x := 28 + k) (by omega), b_town h hk, e,
    b_cka (x := 5 * r 4 k + b) (n := 25) _ (by omega) (by decide), w_nI (c := σ 83) (x := 5 * r 4 k + b) (by omega), h.hb.2.2.2.2 _ (by omega)]
  have e1 : ¬ b01 true = 0 := one_ne
  have e2 : b01 false = 0 := rfl
  cases decide (r 0 0 < r 5 k)
  · rw [if_pos e2]
    by_cases h1 : r 4 k = b
    · rw [h1, if_pos rfl, decide_eq_true rfl]
      rfl
    · have hn : ¬ nI (r 4 k) = nI b := fun e => h1 ((nI_eq (by omega) (by omega)).mp e)
      rw [if_neg hn, decide_eq_false h1]
      unfold dJ
      by_cases h2 : D 7 (5 * r 4 k + b) = 1000
      · have hle : (99999999 : Int32) ≤ 99999999 := by decide
        rw [if_pos h2, if_pos hle, decide_eq_true h2]
        rfl
      · have hlt : ¬ (99999999 : Int32) ≤ nI (D 7 (5 * r 4 k + b)) := fun e => absurd ((nI_le_iff (a := 99999999) (b := D 7 (5 * r 4 k + b)) (by omega) (by omega)).mp e) (by omega)
        rw [if_neg h2, if_neg hlt, decide_eq_false h2]
        rfl
  · rw [if_neg e1]
    rfl
theorem b_goTo (h : RlB D r σ) {k b : Nat} (hk : k < nK D) (hb : b < nT D) (h2 : ¬ D 7 (5 * r 4 k + b) = 1000) :
    o_X10_goTo N (nI k) (nI b) σ = some ((), st (st σ 80 (31 + k) (nI (r 0 0 + D 7 (5 * r 4 k + b)))) 80 (28 + k) (nI b)) := by
  have h3 := h.ho.k3
  have h5 := h.ho.t5
  have ht := (h.ri.2.2.1 k hk).1
  have hd := h.ho.di (i := 5 * r 4 k + b) (by omega)
  unfold o_X10_goTo bt
  dsimp only
  have e : (5 : Int32) * nI (r 4 k) + nI b = nI (5 * r 4 k + b) := by
    show nI 5 * nI (r 4 k) + nI b = _
    rw [nI_mul, nI_add]
  rw [show (28 : Int32) + nI k = nI (28 + k) from nI_add 28 k, show (31 : Int32) + nI k = nI (31 + k) from nI_add 31 k, b_cka (x := 28 + k) _ (by omega) (by decide), b_cka (x := 28 + k) _ (by omega) (by decide), w_nI (c := σ 80) (x := 28 + k) (by omega), b_town h hk, e,
    b_cka (x := 5 * r 4 k + b) (n := 25) _ (by omega) (by decide), w_nI (c := σ 83) (x := 5 * r 4 k + b) (by omega), h.hb.2.2.2.2 _ (by omega), b_cka (x := 31 + k) _ (by omega) (by decide), b_today h, nI_clamp (by omega), nI_clamp (by omega)]
  unfold dJ
  rw [if_neg h2, nI_add]
theorem goR_A (h : RlA D r σ) {k b : Nat} (hk : k < nK D) : RowA D (goR D r k b) ((st (st σ 24 (22 + k) (nI b)) 24 (25 + k) (nI (r 0 0 + D 7 (5 * r 4 k + b)))) 24) := by
  have e1 : RowA D (rset r 4 k b) ((st σ 24 (22 + k) (nI b)) 24) := rowA_4 h.ho hk h.ra (fun i => st_get _ _ _ _ _)
  exact rowA_5 h.ho hk e1 (fun i => st_get _ _ _ _ _)
theorem goR_B (h : RlB D r σ) {k b : Nat} (hk : k < nK D) : RowB D (goR D r k b) ((st (st σ 80 (31 + k) (nI (r 0 0 + D 7 (5 * r 4 k + b)))) 80 (28 + k) (nI b)) 80) 0 := by
  have e1 : RowB D (rset r 5 k (r 0 0 + D 7 (5 * r 4 k + b))) ((st σ 80 (31 + k) (nI (r 0 0 + D 7 (5 * r 4 k + b)))) 80) 0 := rowB_5 h.ho hk h.rb (fun i => by
    rw [st_get, Nat.zero_add])
  have e2 := rowB_4 (v := b) (c' := (st (st σ 80 (31 + k) (nI (r 0 0 + D 7 (5 * r 4 k + b)))) 80 (28 + k) (nI b)) 80) h.ho hk e1 (fun i => by
    rw [st_get, Nat.zero_add])
  unfold goR
  rw [rset_comm (by decide)]
  exact e2
theorem goR_in (h : RlZ D r) {k b : Nat} (hk : k < nK D) (hb : b < nT D) (h2 : ¬ D 7 (5 * r 4 k + b) = 1000) : RowIn D (goR D r k b) := by
  have h5 := h.ho.t5
  have ht := (h.ri.2.2.1 k hk).1
  have hd := h.ho.di (i := 5 * r 4 k + b) (by omega)
  have h0 := h.ri.1
  refine ⟨h0, fun p hp => h.ri.2.1 p hp, fun j hj => ⟨?_, ?_⟩, fun f hf => h.ri.2.2.2 f hf⟩
  · unfold goR
    rw [rset_ne (by decide)]
    by_cases e : j = k
    · rw [e, rset_eq]
      exact hb
    · rw [rset_np e]
      exact (h.ri.2.2.1 j hj).1
  · unfold goR
    by_cases e : j = k
    · rw [e, rset_eq]
      omega
    · rw [rset_np e, rset_np e]
      exact (h.ri.2.2.1 j hj).2
theorem e_go {τ : St} (h : RlA D r σ) (g : RlB D r τ) (a1 a2 : Int32) : ∃ v r' w, (t_X9_go a1 a2 σ).1 = v ∧ RowA D r' ((t_X9_go a1 a2 σ).2 24) ∧ o_X10_go N a1 a2 τ = some (v, w) ∧ RowB D r' (w 80) 0 ∧ RowIn D r' ∧
    (r' = r ∨ ∃ k b, r' = goR D r k b) ∧ ∀ i, 38 ≤ i → w 80 i = τ 80 i := by
  have h3 := h.ho.k3
  have h5 := h.ho.t5
  rcases a_has (n := nK D) (by omega) a1 with ⟨k, hk, rfl⟩ | hx
  · rcases a_has (n := nT D) (by omega) a2 with ⟨b, hb, rfl⟩ | hx
    · have ht := (h.ri.2.2.1 k hk).1
      unfold t_X9_go o_X10_go bt
      rw [a_hasKeeper_in h.ha h.ho hk, a_hasTown_in h.ha h.ho hb, if_neg one_ne, if_neg one_ne, a_depart h hk hb,
        b_isKeeper_in g.hb g.ho hk, bd_some, if_neg one_ne, b_isTown_in g.hb g.ho hb, bd_some, if_neg one_ne, b_canGo g hk hb, bd_some]
      cases hg : goV D r k b
      · exact ⟨_, r, τ, rfl, h.ra, rfl, g.rb, h.ri, Or.inl rfl, fun _ _ => rfl⟩
      · have e1 : ¬ b01 true = 0 := one_ne
        have hd2 : ¬ D 7 (5 * r 4 k + b) = 1000 := by
          intro e
          unfold goV at hg
          rw [decide_eq_true e] at hg
          simp at hg
        rw [if_neg e1, b_goTo g hk hb hd2, bd_some, show (31 : Int32) + nI k = nI (31 + k) from nI_add 31 k, b_cka (x := 31 + k) _ (by omega) (by decide), nI_clamp (by omega)]
        have ea := goR_A h (b := b) hk
        refine ⟨_, goR D r k b, _, rfl, ea, ?_, goR_B g hk, goR_in h.z hk hb hd2, Or.inr ⟨k, b, rfl⟩, fun i hi => ?_⟩
        · have e5 : p_X1_thereOn_23 (nI k) (st (st σ 24 (22 + k) (nI b)) 24 (25 + k) (nI (r 0 0 + D 7 (5 * r 4 k + b)))) = _ := a_there h.ho ea hk
          show some (_, _) = some (p_X1_thereOn_23 (nI k) (st (st σ 24 (22 + k) (nI b)) 24 (25 + k) (nI (r 0 0 + D 7 (5 * r 4 k + b)))), _)
          have e6 := ((goR_B g (b := b) hk).2.2.1 k hk).2
          rw [show 0 + 31 + k = 31 + k from rfl] at e6
          rw [e5, e6]
        · rw [st_place (by omega), st_place (by omega)]
    · unfold t_X9_go o_X10_go
      rw [a_hasKeeper_in h.ha h.ho hk, a_hasTown_out h.ha hx, if_neg one_ne, b_isKeeper_in g.hb g.ho hk, bd_some, if_neg one_ne, b_isTown_out g.hb g.ho hx, bd_some]
      exact ⟨_, r, τ, rfl, h.ra, rfl, g.rb, h.ri, Or.inl rfl, fun _ _ => rfl⟩
  · unfold t_X9_go o_X10_go
    rw [a_hasKeeper_out h.ha hx, b_isKeeper_out g.hb g.ho hx, bd_some]
    exact ⟨_, r, τ, rfl, h.ra, rfl, g.rb, h.ri, Or.inl rfl, fun _ _ => rfl⟩
end GO
