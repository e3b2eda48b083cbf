/-! text, book, seed: feed, write, tear, seed -/
def TextA (n : Nat) (l : Nat → Nat) (σ : St) : Prop := n ≤ 250 ∧ σ 21 1 = nI n ∧ ∀ i, i < n → σ 22 i = nI (l i) ∧ l i ≤ 255
def TextB (n : Nat) (l : Nat → Nat) (σ : St) : Prop := n ≤ 250 ∧ σ 79 23 = nI n ∧ ∀ i, i < n → σ 93 i = nI (l i)
def BookA (D : LD) (n : Nat) (b d : Nat → Nat) (σ : St) : Prop := n ≤ 20 ∧ σ 74 4 = nI n ∧ ∀ i, i < n → σ 75 i = nI (b i) ∧ σ 76 i = nI (d i) ∧ b i < nP D ∧ d i ≤ 9999
def BookB (n : Nat) (b d : Nat → Nat) (σ : St) : Prop := n ≤ 20 ∧ σ 79 44 = nI n ∧ ∀ i, i < n → σ 102 i = nI (b i) ∧ σ 103 i = nI (d i)
def setN (l : Nat → Nat) (n v : Nat) : Nat → Nat := fun i => if i = n then v else l i
section FEED
variable {D : LD} {r : RD} {σ : St} {N : Nat}
theorem e_feed {τ : St} {n : Nat} {l : Nat → Nat} (hA : TextA n l σ) (hB : TextB n l τ) (a1 : Int32) :
    ∃ v n' l' w, (t_X9_feed a1 σ).1 = v ∧ TextA n' l' (t_X9_feed a1 σ).2 ∧ o_X10_feed N a1 τ = some (v, w) ∧ TextB n' l' w ∧ (t_X9_feed a1 σ).2 21 5 = σ 21 5 ∧ ∀ i, ¬ i = 23 → w 79 i = τ 79 i := by
  obtain ⟨hn, ha1, ha2⟩ := hA
  obtain ⟨_, hb1, hb2⟩ := hB
  rcases a_has (n := 256) (by omega) a1 with ⟨c, hc, rfl⟩ | hx
  · have e1 : p_X10_in (nI c).toInt64 0 255 τ = 1 := b_in_lt hc (by omega) τ
    have e2 : nI c ≤ (255 : Int32) := (nI_le_iff (a := c) (b := 255) (by omega) (by omega)).mpr (by omega)
    unfold t_X9_feed o_X10_feed p_X7_isFull
    rw [e1, if_neg one_ne, if_neg (nI_pos (n := c) (by omega)), if_pos e2, ha1, hb1]
    by_cases hf : n = 250
    · have e3 : nI n = (250 : Int32) := by
        rw [hf]
        rfl
      have e4 : ¬ nI n < (250 : Int32) := fun e => absurd ((nI_lt_iff (a := n) (b := 250) (by omega) (by omega)).mp e) (by omega)
      rw [if_neg e4, if_neg one_ne, if_pos e3]
      exact ⟨_, n, l, τ, rfl, ⟨hn, ha1, ha2⟩, rfl, ⟨hn, hb1, hb2⟩, rfl, fun _ _ => rfl⟩
    · have e3 : ¬ nI n = (250 : Int32) := fun e => hf ((nI_eq (a := n) (b := 250) (by omega) (by omega)).mp e)
      have e4 : nI n < (250 : Int32) := (nI_lt_iff (a := n) (b := 250) (by omega) (by omega)).mpr (by omega)
      have es : nI (n + 1) = nI n + 1 := by rw [nI_succ]
      rw [if_pos e4, if_neg e3]
      have e0 : (0 : Int32) = 0 := rfl
      rw [if_pos e0]
      have c1 : st σ 22 n (nI c) 21 1 = nI n := by
        rw [st_cell (by decide)]
        exact ha1
      have c2 : st τ 93 n (nI c) 79 23 = nI n := by
        rw [st_cell (by decide)]
        exact hb1
      unfold t_X7_add bt
      dsimp only
      rw [ha1, put_nI (by omega) (by decide), b_cka (x := n) (n := 250) _ (by omega) (by decide), nI_clamp (by omega), c1, c2, ← es, st_same, st_same]
      refine ⟨_, n + 1, setN l n c, _, rfl, ⟨by omega, st_same, fun i hi => ?_⟩, rfl, ⟨by omega, st_same, fun i hi => ?_⟩, ?_, fun i hi => ?_⟩
      · rw [st_cell (by decide), st_get]
        unfold setN
        by_cases e : i = n
        · rw [if_pos e, if_pos e]
          exact ⟨rfl, by omega⟩
        · rw [if_neg e, if_neg e]
          exact ha2 i (by omega)
      · rw [st_cell (by decide), st_get]
        unfold setN
        by_cases e : i = n
        · rw [if_pos e, if_pos e]
        · rw [if_neg e, if_neg e]
          exact hb2 i (by omega)
      · show st (st σ 22 n (nI c)) 21 1 _ 21 5 = _
        rw [st_place (by decide), st_cell (by decide)]
      · rw [st_place hi, st_cell (by decide)]
  · have e1 : p_X10_in a1.toInt64 0 255 τ = 0 := b_in_out (n := 256) hx (by omega) τ
    have e2 : t_X9_feed a1 σ = (-1000000002, σ) := by
      unfold t_X9_feed
      by_cases h0 : a1 < 0
      · rw [if_pos h0]
      · have hgt : ¬ a1 ≤ (255 : Int32) := by
          rcases int_cases a1 with h1 | ⟨q, hq, rfl⟩
          · exact absurd h1 h0
          · have hx2 := hx.resolve_left h0
            rw [nI_le_iff (by omega) hq] at hx2
            intro e
            exact absurd ((nI_le_iff (a := q) (b := 255) hq (by omega)).mp e) (by omega)
        rw [if_neg h0, if_neg hgt]
    rw [e2]
    unfold o_X10_feed
    rw [e1, if_pos rfl]
    exact ⟨_, n, l, τ, rfl, ⟨hn, ha1, ha2⟩, rfl, ⟨hn, hb1, hb2⟩, rfl, fun _ _ => rfl⟩
theorem e_tear {τ : St} {n : Nat} {b d : Nat → Nat} (hA : BookA D n b d σ) (hB : BookB n b d τ) :
    (t_X9_tear σ).1 = (t_X10_tear τ).1 ∧ BookA D 0 b d (t_X9_tear σ).2 ∧ BookB 0 b d (t_X10_tear τ).2 := by
  refine ⟨?_, ⟨by omega, ?_, fun i hi => absurd hi (Nat.not_lt_zero _)⟩, by omega, ?_, fun i hi => absurd hi (Nat.not_lt_zero _)⟩
  · show σ 74 4 = τ 79 44
    rw [hA.2.1, hB.2.1]
  · show st σ 74 4 0 74 4 = nI 0
    exact st_same
  · show st τ 79 44 0 79 44 = nI 0
    exact st_same
theorem e_seed {τ : St} {s : Nat} (hs : s < 2 ^ 31) (hA : σ 62 0 = nI s) (hB : τ 80 38 = nI s) (a1 : Int32) :
    ∃ v s', s' < 2 ^ 31 ∧ (t_X9_seed a1 σ).1 = v ∧ (t_X9_seed a1 σ).2 62 0 = nI s' ∧ (t_X10_seed a1 τ).1 = v ∧ (t_X10_seed a1 τ).2 80 38 = nI s' ∧ ∀ i, ¬ i = 38 → (t_X10_seed a1 τ).2 80 i = τ 80 i := by
  unfold t_X9_seed t_X10_seed bt
  rcases int_cases a1 with h | ⟨n, hn, rfl⟩
  · have h0 : ¬ (0 : Int32) ≤ a1 := Int32.not_le.mpr h
    rw [if_neg h0, if_neg h0]
    exact ⟨_, s, hs, rfl, hA, rfl, hB, fun _ _ => rfl⟩
  · have h0 : (0 : Int32) ≤ nI n := nI_le (a := 0) (by omega) hn
    rw [if_pos h0, if_pos h0]
    refine ⟨nI s, n, hn, hA, ?_, hB, ?_, fun i hi => ?_⟩
    · show st σ 62 0 (nI n) 62 0 = _
      exact st_same
    · show st τ 80 38 (nI n) 80 38 = _
      exact st_same
    · show st τ 80 38 (nI n) 80 i = _
      exact st_place hi
end FEED
