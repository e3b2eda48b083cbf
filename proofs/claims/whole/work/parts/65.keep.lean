/-! keep: both answer alike -/
def kpR (r : RD) (p : Nat) : RD := rset (rset r 1 p 1) 2 p (r 0 0 + 1)
section KEEP2
variable {D : LD} {r : RD} {σ : St} {N : Nat}
theorem kpR_in (h : RlZ D r) {p : Nat} : RowIn D (kpR r p) := by
  refine ⟨h.ri.1, fun q hq => ?_, fun k hk => h.ri.2.2.1 k hk, fun f hf => h.ri.2.2.2 f hf⟩
  have ej := h.ri.2.1 q hq
  have h0 := h.ri.1
  unfold kpR
  rw [rset_ne (a := 2) (x := 1) (by decide), rset_ne (a := 2) (x := 3) (by decide), rset_ne (a := 1) (x := 3) (by decide)]
  by_cases e : q = p
  · rw [e, rset_eq, rset_eq]
    rw [e] at ej
    exact ⟨by omega, by omega, ej.2.2.1, fun _ => by omega⟩
  · rw [rset_np e, rset_np e, rset_ne (by decide)]
    exact ej
theorem kpR_K (h : RlZ D r) {p : Nat} (hp : p < nP D) (hK : RowK D r) : RowK D (kpR r p) := by
  intro q hq h1 h2
  have hqq := h.ho.pr hq
  have e0 : kpR r p 0 0 = r 0 0 := rfl
  rw [e0]
  have hg : gvn D (kpR r p) q = if D 6 q = p then r 0 0 + 1 else gvn D r q := gvn_keep h.ho hp
  unfold ripV at h2 ⊢
  rw [hg] at h2 ⊢
  by_cases e : D 6 q = p
  · rw [if_pos e] at h2 ⊢
    rw [if_neg (by omega)]
    have := rip_pos (D := D) (d := r 0 0 + 1 - 1) (a := D 3 q) hqq.2.1.1
    omega
  · rw [if_neg e] at h2 ⊢
    have hne : ¬ q = p := by
      intro e2
      rw [e2] at h1
      unfold kpR at h1
      rw [rset_ne (by decide), rset_eq] at h1
      cases h1
    have h1' : r 1 q = 0 := by
      unfold kpR at h1
      rw [rset_ne (by decide), rset_np hne] at h1
      exact h1
    exact hK q hq h1' h2
theorem a_end (h : RlA D r σ) {p : Nat} (hp : p < nP D) (x y : Int32) : t_X1_end_23 (nI p) x y σ = st (st σ 24 (1 + p) x) 24 (8 + p) y := by
  have h7 := h.ho.p7
  unfold t_X1_end_23 bt
  dsimp only
  rw [show (1 : Int32) + nI p = nI (1 + p) from nI_add 1 p, show (8 : Int32) + nI p = nI (8 + p) from nI_add 8 p, put_nI (by omega) (by decide), put_nI (by omega) (by decide)]
theorem b_keepNow (h : RlB D r σ) {p : Nat} (hp : p < nP D) (hN : 7000 ≤ N) :
    ∃ w, o_X10_keepNow N (nI p) σ = some ((), w) ∧ RowB D (kpR r p) (w 80) 0 ∧ (∀ a, ¬ a = 80 → w a = σ a) ∧ ∀ i, 38 ≤ i → w 80 i = σ 80 i := by
  have h7 := h.ho.p7
  have c37 : (37 : Int32).toNatClampNeg = 37 := rfl
  have t0 : σ 80 37 = nI (r 0 0) := b_today h
  have hw : ∀ a, ¬ a = 80 → st (st σ 80 p 1) 80 (7 + p) (nI (r 0 0)) a = σ a := fun a ha => (st_cell ha).trans (st_cell ha)
  have t1 : st σ 80 p 1 80 37 = nI (r 0 0) := by
    rw [st_place (by omega)]
    exact t0
  have t2 : st (st σ 80 p 1) 80 (7 + p) (nI (r 0 0)) 80 37 = nI (r 0 0) := by
    rw [st_place (by omega)]
    exact t1
  obtain ⟨w, e1, e2, e3⟩ := b_keepNow_loop (N := N) (t := r 0 0) h.ho hp (nP D) N 0 _ (LandB_80 hw h.hb) t2 (by omega) (by omega)
  refine ⟨w, ?_, ?_, fun a ha => (e3 a ha).trans (hw a ha), fun i hi => by rw [e2, if_neg (by omega), st_place (by omega), st_place (by omega)]⟩
  · unfold o_X10_keepNow bt
    dsimp only
    rw [b_cka (x := p) (n := 1360) _ (by omega) (by decide), show (7 : Int32) + nI p = nI (7 + p) from nI_add 7 p, b_cka (x := 7 + p) _ (by omega) (by decide), nI_clamp (n := p) (by omega), nI_clamp (n := 7 + p) (by omega), c37, t1]
    exact e1
  · refine rowB_keep h.ho hp h.rb fun i => ?_
    rw [e2, st_get, st_get]
    rfl
theorem e_keep {τ : St} (h : RlA D r σ) (g : RlB D r τ) (hK : RowK D r) (hN : 7000 ≤ N) (a1 : Int32) : ∃ v r' wA w, o_X9_keep N a1 σ = some (v, wA) ∧ RowA D r' (wA 24) ∧ o_X10_keep N a1 τ = some (v, w) ∧ RowB D r' (w 80) 0 ∧ RowIn D r' ∧
    (r' = r ∨ ∃ p, (p < nP D ∧ canV D r p = true) ∧ r' = kpR r p) ∧ ∀ i, 38 ≤ i → w 80 i = τ 80 i := by
  have h7 := h.ho.p7
  rcases a_has (n := nP D) (by omega) a1 with ⟨p, hp, rfl⟩ | hx
  · unfold o_X9_keep o_X10_keep
    rw [a_hasPromise_in h.ha h.ho hp, if_neg one_ne, b_isPromise_in g.hb h.ho hp, bd_some, if_neg one_ne, a_canKeep h hp, bd_some, b_canKeep g hK hp hN, bd_some]
    have e1 : ¬ b01 true = 0 := one_ne
    have e2 : b01 false = 0 := rfl
    cases hc : canV D r p
    · rw [if_pos e2, if_pos e2]
      exact ⟨_, r, σ, τ, rfl, h.ra, rfl, g.rb, h.ri, Or.inl rfl, fun _ _ => rfl⟩
    · obtain ⟨w, b1, b2, b3, b4⟩ := b_keepNow (N := N) g hp hN
      rw [if_neg e1, if_neg e1, b1, bd_some, a_today h.ra, a_end h hp, b_cka (x := p) (n := 14) _ (by omega) (by decide), w_nI (c := w 90) (x := p) (by omega), b3 90 (by decide), (g.hb.2.2.2.1 p hp).2.2.2.2.1]
      unfold bt
      dsimp only
      rw [at_nI (j := p) (by omega) (by decide), st_cell (by decide), st_cell (by decide), (h.ha.2.2.2.1 p hp).2.2.2.2.1]
      refine ⟨_, kpR r p, _, w, rfl, ?_, rfl, b2, kpR_in h.z, Or.inr ⟨p, ⟨hp, hc⟩, rfl⟩, b4⟩
      refine rowA_end h.ho hp h.ra fun i => ?_
      rw [st_get, st_get]
      rfl
  · unfold o_X9_keep o_X10_keep
    rw [a_hasPromise_out h.ha hx, b_isPromise_out g.hb h.ho hx, bd_some]
    exact ⟨_, r, σ, τ, rfl, h.ra, rfl, g.rb, h.ri, Or.inl rfl, fun _ _ => rfl⟩
end KEEP2
