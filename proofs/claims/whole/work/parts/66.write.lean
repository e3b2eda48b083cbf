/-! write -/
section WRITE
variable {D : LD} {r : RD} {σ : St} {N : Nat}
theorem e_write {τ : St} (h : RlA D r σ) (g : RlB D r τ) {n : Nat} {b d : Nat → Nat} (hA : BookA D n b d σ) (hB : BookB n b d τ) (a1 a2 : Int32) :
    ∃ v n' b' d' w, (t_X9_write a1 a2 σ).1 = v ∧ BookA D n' b' d' (t_X9_write a1 a2 σ).2 ∧ o_X10_write N a1 a2 τ = some (v, w) ∧ BookB n' b' d' w ∧ ∀ i, ¬ i = 44 → w 79 i = τ 79 i := by
  have h7 := h.ho.p7
  obtain ⟨hn, ha1, ha2⟩ := hA
  obtain ⟨_, hb1, hb2⟩ := hB
  rcases a_has (n := nP D) (by omega) a1 with ⟨p, hp, rfl⟩ | hx
  · unfold t_X9_write o_X10_write
    rw [a_hasPromise_in h.ha h.ho hp, if_neg one_ne, b_isPromise_in g.hb h.ho hp, bd_some, if_neg one_ne]
    rcases a_has (n := 10000) (by omega) a2 with ⟨y, hy, rfl⟩ | hx
    · have e1 : p_X10_in (nI y).toInt64 0 9999 τ = 1 := b_in_lt hy (by omega) τ
      have e2 : nI y ≤ (9999 : Int32) := (nI_le_iff (a := y) (b := 9999) (by omega) (by omega)).mpr (by omega)
      rw [e1, if_neg one_ne, if_neg (nI_pos (n := y) (by omega)), if_pos e2, ha1, hb1]
      by_cases hf : n = 20
      · have e3 : nI n = (20 : Int32) := by
          rw [hf]
          rfl
        have e4 : ¬ nI n < (20 : Int32) := fun e => absurd ((nI_lt_iff (a := n) (b := 20) (by omega) (by omega)).mp e) (by omega)
        rw [if_neg e4, if_pos e3]
        exact ⟨_, n, b, d, τ, rfl, ⟨hn, ha1, ha2⟩, rfl, ⟨hn, hb1, hb2⟩, fun _ _ => rfl⟩
      · have e3 : ¬ nI n = (20 : Int32) := fun e => hf ((nI_eq (a := n) (b := 20) (by omega) (by omega)).mp e)
        have e4 : nI n < (20 : Int32) := (nI_lt_iff (a := n) (b := 20) (by omega) (by omega)).mpr (by omega)
        have es : nI (n + 1) = nI n + 1 := by rw [nI_succ]
        have c1 : st σ 75 n (nI p) 74 4 = nI n := by
          rw [st_cell (by decide)]
          exact ha1
        have c2 : st (st σ 75 n (nI p)) 76 n (nI y) 74 4 = nI n := by
          rw [st_cell (by decide)]
          exact c1
        have c3 : st τ 102 n (nI p) 79 44 = nI n := by
          rw [st_cell (by decide)]
          exact hb1
        have c4 : st (st τ 102 n (nI p)) 103 n (nI y) 79 44 = nI n := by
          rw [st_cell (by decide)]
          exact c3
        rw [if_pos e4, if_neg e3]
        unfold t_X0_add bt
        dsimp only
        rw [ha1, put_nI (by omega) (by decide), c1, put_nI (by omega) (by decide), c2, b_cka (x := n) (n := 20) _ (by omega) (by decide), nI_clamp (by omega), c3, b_cka (x := n) (n := 20) _ (by omega) (by decide), nI_clamp (by omega), c4, ← es, st_same, st_same]
        refine ⟨_, n + 1, setN b n p, setN d n y, _, rfl, ⟨by omega, st_same, fun i hi => ?_⟩, rfl, ⟨by omega, st_same, fun i hi => ?_⟩, fun i hi => by rw [st_place hi, st_cell (by decide), st_cell (by decide)]⟩
        · have g1 : st (st (st σ 75 n (nI p)) 76 n (nI y)) 74 4 (nI (n + 1)) 75 i = if i = n then nI p else σ 75 i := by rw [st_cell (by decide), st_cell (by decide), st_get]
          have g2 : st (st (st σ 75 n (nI p)) 76 n (nI y)) 74 4 (nI (n + 1)) 76 i = if i = n then nI y else σ 76 i := by rw [st_cell (by decide), st_get, st_cell (by decide)]
          rw [g1, g2]
          unfold setN
          by_cases e : i = n
          · rw [if_pos e, if_pos e, if_pos e, if_pos e]
            exact ⟨rfl, rfl, hp, by omega⟩
          · rw [if_neg e, if_neg e, if_neg e, if_neg e]
            exact ha2 i (by omega)
        · have g1 : st (st (st τ 102 n (nI p)) 103 n (nI y)) 79 44 (nI (n + 1)) 102 i = if i = n then nI p else τ 102 i := by rw [st_cell (by decide), st_cell (by decide), st_get]
          have g2 : st (st (st τ 102 n (nI p)) 103 n (nI y)) 79 44 (nI (n + 1)) 103 i = if i = n then nI y else τ 103 i := by rw [st_cell (by decide), st_get, st_cell (by decide)]
          rw [g1, g2]
          unfold setN
          by_cases e : i = n
          · rw [if_pos e, if_pos e, if_pos e, if_pos e]
            exact ⟨rfl, rfl⟩
          · rw [if_neg e, if_neg e, if_neg e, if_neg e]
            exact hb2 i (by omega)
    · have e1 : p_X10_in a2.toInt64 0 9999 τ = 0 := b_in_out (n := 10000) hx (by omega) τ
      have e0 : (0 : Int32) = 0 := rfl
      rw [e1, if_pos e0]
      by_cases h0 : a2 < 0
      · rw [if_pos h0]
        exact ⟨_, n, b, d, τ, rfl, ⟨hn, ha1, ha2⟩, rfl, ⟨hn, hb1, hb2⟩, fun _ _ => rfl⟩
      · have hgt : ¬ a2 ≤ (9999 : Int32) := by
          rcases int_cases a2 with h1 | ⟨q, hq, rfl⟩
          · exact absurd h1 h0
          · have hx2 := hx.resolve_left h0
            rw [nI_le_iff (by omega) hq] at hx2
            intro e
            exact absurd ((nI_le_iff (a := q) (b := 9999) hq (by omega)).mp e) (by omega)
        rw [if_neg h0, if_neg hgt]
        exact ⟨_, n, b, d, τ, rfl, ⟨hn, ha1, ha2⟩, rfl, ⟨hn, hb1, hb2⟩, fun _ _ => rfl⟩
  · unfold t_X9_write o_X10_write
    rw [a_hasPromise_out h.ha hx, b_isPromise_out g.hb h.ho hx, bd_some]
    exact ⟨_, n, b, d, τ, rfl, ⟨hn, ha1, ha2⟩, rfl, ⟨hn, hb1, hb2⟩, fun _ _ => rfl⟩
end WRITE
