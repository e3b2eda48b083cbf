/-! swap -/
def swR (r : RD) (p q : Nat) : RD := rset (rset r 3 p (r 3 q)) 3 q (r 3 p)
section SWAP
variable {D : LD} {r : RD} {σ : St} {N : Nat}
theorem open_nI (h : RlZ D r) {p : Nat} (hp : p < nP D) : nI (r 1 p) = 0 ↔ r 1 p = 0 := by
  have hh := (h.ri.2.1 p hp).1
  exact nI_eq (a := r 1 p) (b := 0) (by omega) (by omega)
theorem swR_in (h : RlZ D r) {p q : Nat} (hp : p < nP D) (hq : q < nP D) : RowIn D (swR r p q) := by
  refine ⟨h.ri.1, fun j hj => ?_, fun k hk => h.ri.2.2.1 k hk, fun f hf => h.ri.2.2.2 f hf⟩
  have ej := h.ri.2.1 j hj
  refine ⟨ej.1, ej.2.1, ?_, ej.2.2.2⟩
  unfold swR
  by_cases e : j = q
  · rw [e, rset_eq]
    exact (h.ri.2.1 p hp).2.2.1
  · rw [rset_np e]
    by_cases e2 : j = p
    · rw [e2, rset_eq]
      exact (h.ri.2.1 q hq).2.2.1
    · rw [rset_np e2]
      exact ej.2.2.1
theorem e_swap {τ : St} (h : RlA D r σ) (g : RlB D r τ) (a1 a2 : Int32) : ∃ v r' w, (t_X9_swap a1 a2 σ).1 = v ∧ RowA D r' ((t_X9_swap a1 a2 σ).2 24) ∧ o_X10_swap N a1 a2 τ = some (v, w) ∧ RowB D r' (w 80) 0 ∧ RowIn D r' ∧
    (r' = r ∨ ∃ p q, (p < nP D ∧ q < nP D ∧ ¬ p = q ∧ r 1 p = 0 ∧ r 1 q = 0 ∧ D 5 p = D 5 q) ∧ r' = swR r p q) ∧ ∀ i, 38 ≤ i → w 80 i = τ 80 i := by
  have h7 := h.ho.p7
  rcases a_has (n := nP D) (by omega) a1 with ⟨p, hp, rfl⟩ | hx
  · rcases a_has (n := nP D) (by omega) a2 with ⟨q, hq, rfl⟩ | hx
    · have h5p := (h.ho.pr hp).2.2.2.1
      have h5q := (h.ho.pr hq).2.2.2.1
      unfold t_X9_swap o_X10_swap bt
      rw [a_hasPromise_in h.ha h.ho hp, a_hasPromise_in h.ha h.ho hq, if_neg one_ne, if_neg one_ne, b_isPromise_in g.hb g.ho hp, bd_some, if_neg one_ne, b_isPromise_in g.hb g.ho hq, bd_some, if_neg one_ne,
        a_isOpen h hp, a_isOpen h hq]
      dsimp only
      by_cases e0 : nI p = nI q
      · rw [if_pos e0, if_pos e0]
        exact ⟨_, r, τ, rfl, h.ra, rfl, g.rb, h.ri, Or.inl rfl, fun _ _ => rfl⟩
      have hpq : ¬ p = q := fun e => e0 (by rw [e])
      rw [if_neg e0, if_neg e0, b_cka (x := p) (n := 1360) _ (by omega) (by decide), w_nI (c := τ 80) (x := p) (by omega), b_how g.rb hp,
        b_cka (x := q) (n := 1360) _ (by omega) (by decide), w_nI (c := τ 80) (x := q) (by omega), b_how g.rb hq]
      have e1 : ¬ b01 true = 0 := one_ne
      have e2 : b01 false = 0 := rfl
      by_cases o1 : r 1 p = 0
      · rw [if_pos ((open_nI h.z hp).mpr o1), decide_eq_true o1, if_neg e1]
        by_cases o2 : r 1 q = 0
        · rw [if_pos ((open_nI h.z hq).mpr o2), decide_eq_true o2, if_neg e1, b_cka (x := p) (n := 14) _ (by omega) (by decide), b_cka (x := q) (n := 14) _ (by omega) (by decide),
            w_nI (c := τ 90) (x := p) (by omega), w_nI (c := τ 90) (x := q) (by omega), (g.hb.2.2.2.1 p hp).2.2.2.2.1, (g.hb.2.2.2.1 q hq).2.2.2.2.1,
            at_nI (j := p) (by omega) (by decide), at_nI (j := q) (by omega) (by decide), (h.ha.2.2.2.1 p hp).2.2.2.2.1, (h.ha.2.2.2.1 q hq).2.2.2.2.1]
          by_cases es : nI (D 5 p) = nI (D 5 q)
          · have es' : D 5 p = D 5 q := (nI_eq (by omega) (by omega)).mp es
            rw [if_pos es, if_pos es, show (14 : Int32) + nI p = nI (14 + p) from nI_add 14 p, show (14 : Int32) + nI q = nI (14 + q) from nI_add 14 q]
            rw [nI_clamp (n := 14 + p) (by omega), nI_clamp (n := 14 + q) (by omega), b_whose g.rb hp, b_whose g.rb hq]
            unfold t_X1_exchange bt
            dsimp only
            rw [a_holder h.ho h.ra hp, a_holder h.ho h.ra hq, show (15 : Int32) + nI p = nI (15 + p) from nI_add 15 p, show (15 : Int32) + nI q = nI (15 + q) from nI_add 15 q, put_nI (by omega) (by decide), put_nI (by omega) (by decide)]
            have a1' : RowA D (rset r 3 p (r 3 q)) ((st σ 24 (15 + p) (nI (r 3 q))) 24) := rowA_3 h.ho hp h.ra (fun i => st_get _ _ _ _ _)
            have a2' : RowA D (swR r p q) ((st (st σ 24 (15 + p) (nI (r 3 q))) 24 (15 + q) (nI (r 3 p))) 24) := rowA_3 h.ho hq a1' (fun i => st_get _ _ _ _ _)
            have b1' : RowB D (rset r 3 p (r 3 q)) ((st τ 80 (14 + p) (nI (r 3 q))) 80) 0 := rowB_3 h.ho hp g.rb (fun i => by
              rw [st_get, show 0 + 14 + p = 14 + p from rfl])
            have b2' : RowB D (swR r p q) ((st (st τ 80 (14 + p) (nI (r 3 q))) 80 (14 + q) (nI (r 3 p))) 80) 0 := rowB_3 h.ho hq b1' (fun i => by
              rw [st_get, show 0 + 14 + q = 14 + q from rfl])
            refine ⟨_, swR r p q, st (st τ 80 (14 + p) (nI (r 3 q))) 80 (14 + q) (nI (r 3 p)), rfl, a2', ?_, b2', swR_in h.z hp hq, Or.inr ⟨p, q, ⟨hp, hq, hpq, o1, o2, es'⟩, rfl⟩, fun i hi => by rw [st_place (by omega), st_place (by omega)]⟩
            unfold ckA
            rw [if_neg (nI_vp (a := 14 + p) (n := 1360) (by omega) (by decide)), if_neg (nI_vp (a := 14 + q) (n := 1360) (by omega) (by decide)), if_neg (nI_vp (a := 14 + p) (n := 1360) (by omega) (by decide)), if_neg (nI_vp (a := 14 + q) (n := 1360) (by omega) (by decide))]
          · rw [if_neg es, if_neg es]
            exact ⟨_, r, τ, rfl, h.ra, rfl, g.rb, h.ri, Or.inl rfl, fun _ _ => rfl⟩
        · rw [if_neg (fun e => o2 ((open_nI h.z hq).mp e)), decide_eq_false o2, if_pos e2]
          exact ⟨_, r, τ, rfl, h.ra, rfl, g.rb, h.ri, Or.inl rfl, fun _ _ => rfl⟩
      · rw [if_neg (fun e => o1 ((open_nI h.z hp).mp e)), decide_eq_false o1, if_pos e2]
        exact ⟨_, r, τ, rfl, h.ra, rfl, g.rb, h.ri, Or.inl rfl, fun _ _ => rfl⟩
    · unfold t_X9_swap o_X10_swap
      rw [a_hasPromise_in h.ha h.ho hp, a_hasPromise_out h.ha hx, if_neg one_ne, b_isPromise_in g.hb g.ho hp, bd_some, if_neg one_ne, b_isPromise_out g.hb g.ho hx, bd_some]
      exact ⟨_, r, τ, rfl, h.ra, rfl, g.rb, h.ri, Or.inl rfl, fun _ _ => rfl⟩
  · unfold t_X9_swap o_X10_swap
    rw [a_hasPromise_out h.ha hx, b_isPromise_out g.hb g.ho hx, bd_some]
    exact ⟨_, r, τ, rfl, h.ra, rfl, g.rb, h.ri, Or.inl rfl, fun _ _ => rfl⟩
end SWAP
