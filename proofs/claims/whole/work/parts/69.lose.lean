/-! the class's loss, younger by younger -/
def lsJ (D : LD) (r : RD) (p h v j : Nat) : RD := fun x y =>
  if x = 1 then (if y = p then h else if y < j ∧ r 1 y = 0 ∧ ds D p y = true then 3 else r 1 y)
  else if x = 2 then (if y = p then r 0 0 + 1 else if y < j ∧ r 1 y = 0 ∧ ds D p y = true then r 0 0 + 1 else r 2 y)
  else if x = 6 ∧ y = D 1 (r 3 p) then r 6 y + v else r x y
section LOSE
variable {D : LD} {r : RD} {p : Nat} {N : Nat}
theorem lsJ_skip {h v j : Nat} (hj : ¬ (r 1 j = 0 ∧ ds D p j = true)) : lsJ D r p h v (j + 1) = lsJ D r p h v j := by
  funext x y
  unfold lsJ
  have e : (y < j + 1 ∧ r 1 y = 0 ∧ ds D p y = true) ↔ (y < j ∧ r 1 y = 0 ∧ ds D p y = true) := by
    constructor
    · rintro ⟨h1, h2⟩
      refine ⟨?_, h2⟩
      by_cases e : y = j
      · rw [e] at h2
        exact absurd h2 hj
      · omega
    · rintro ⟨h1, h2⟩
      exact ⟨by omega, h2⟩
  simp only [e]
theorem lsJ_mark {h v j : Nat} (hjp : ¬ j = p) (hj : r 1 j = 0 ∧ ds D p j = true) : rset (rset (lsJ D r p h v j) 1 j 3) 2 j (r 0 0 + 1) = lsJ D r p h v (j + 1) := by
  funext x y
  by_cases ey : y = j
  · subst ey
    by_cases e1 : x = 1
    · subst e1
      rw [rset_ne (by decide), rset_eq]
      unfold lsJ
      rw [if_pos rfl, if_neg hjp, if_pos ⟨by omega, hj⟩]
    · by_cases e2 : x = 2
      · subst e2
        rw [rset_eq]
        unfold lsJ
        rw [if_neg (by decide), if_pos rfl, if_neg hjp, if_pos ⟨by omega, hj⟩]
      · rw [rset_ne e2, rset_ne e1]
        unfold lsJ
        rw [if_neg e1, if_neg e1, if_neg e2, if_neg e2]
  · rw [rset_np ey, rset_np ey]
    unfold lsJ
    have e : (y < j + 1 ∧ r 1 y = 0 ∧ ds D p y = true) ↔ (y < j ∧ r 1 y = 0 ∧ ds D p y = true) := by
      constructor
      · rintro ⟨h1, h2⟩
        exact ⟨by omega, h2⟩
      · rintro ⟨h1, h2⟩
        exact ⟨by omega, h2⟩
    simp only [e]
theorem LandA_24 {σ w : St} (hw : ∀ a, ¬ a = 24 → w a = σ a) (h : LandA D σ) : LandA D w := by
  unfold LandA at h ⊢
  rw [hw 1 (by decide), hw 2 (by decide), hw 3 (by decide), hw 4 (by decide), hw 5 (by decide), hw 6 (by decide), hw 7 (by decide), hw 8 (by decide), hw 9 (by decide), hw 10 (by decide)]
  exact h
theorem a_lose_loop (ho : LandOk D) (ri : RowIn D r) (hG : RowG D r) (hp : p < nP D) (h0 : r 1 p = 0) {h v : Nat} (hh : h = 2 ∨ h = 3) : ∀ (c n j : Nat) (σ : St), LandA D σ → RowA D (lsJ D r p h v j) (σ 24) → p < j → j + c = nP D → c < n →
    ∃ w, l_X1_lose_55 N n (nI p) (nI j) σ = some ((), w) ∧ RowA D (lsJ D r p h v (nP D)) (w 24) ∧ ∀ a, ¬ a = 24 → w a = σ a
  | c, 0, j, _, _, _, _, _, hn => absurd hn (Nat.not_lt_zero _)
  | 0, n + 1, j, σ, ha, hr, _, hj, _ => by
    have h7 := ho.p7
    have e : j = nP D := by omega
    refine ⟨σ, ?_, by rw [← e]; exact hr, fun a _ => rfl⟩
    rw [l_X1_lose_55, ha.1.2.2.2, if_pos (nI_le (by omega) (by omega))]
  | c + 1, n + 1, j, σ, ha, hr, hpj, hj, hn => by
    have h7 := ho.p7
    have hlt : j < nP D := by omega
    have hq := ho.pr hlt
    have hjr := (ri.2.1 j hlt).1
    have es : nI (j + 1) = nI j + 1 := by rw [nI_succ]
    have skip : ¬ (r 1 j = 0 ∧ ds D p j = true) → ∃ w, j_X1_lose_127 N (l_X1_lose_55 N n) (nI p) (nI j) σ = some ((), w) ∧ RowA D (lsJ D r p h v (nP D)) (w 24) ∧ ∀ a, ¬ a = 24 → w a = σ a := by
      intro hs
      have := a_lose_loop ho ri hG hp h0 hh c n (j + 1) σ ha (by rw [lsJ_skip hs]; exact hr) (by omega) (by omega) (by omega)
      rw [es] at this
      exact this
    have hnow : lsJ D r p h v j 1 j = r 1 j := by
      unfold lsJ
      rw [if_pos rfl, if_neg (by omega), if_neg (by omega)]
    have hopen : p_X1_isOpen_23 (nI j) σ = if nI (r 1 j) = 0 then 1 else 0 := by
      unfold p_X1_isOpen_23 j_X1_isOpen_23_23
      rw [a_hasPromise_in ha ho hlt, if_neg one_ne, a_how ho hr hlt, hnow]
    rw [l_X1_lose_55, ha.1.2.2.2, if_neg (nI_ge hlt (by omega)), hopen]
    unfold bt
    dsimp only
    rw [at_nI (j := j) (by omega) (by decide), (ha.2.2.2.1 j hlt).2.2.2.2.2]
    by_cases o1 : r 1 j = 0
    · have hz : nI (r 1 j) = 0 := by
        rw [o1]
        rfl
      rw [if_pos hz, if_neg one_ne]
      have hds := ds_eq (p := p) ho hlt
      rw [decide_eq_false (p := j = p) (by omega), Bool.false_or] at hds
      by_cases h9 : D 6 j = 9
      · have e : gI (D 6 j) = -1 := if_pos h9
        have hneg : (-1 : Int32) < nI p := Int32.lt_of_lt_of_le (by decide) (nI_le (a := 0) (b := p) (by omega) (by omega))
        rw [e, if_pos hneg]
        refine skip fun x => ?_
        rw [hds, decide_eq_false (p := p < j ∧ D 6 j ≠ 9) (fun e => e.2 h9)] at x
        cases x.2
      · have e : gI (D 6 j) = nI (D 6 j) := if_neg h9
        have hg : D 6 j < nP D := by omega
        rw [decide_eq_true (p := p < j ∧ D 6 j ≠ 9) ⟨hpj, h9⟩, Bool.true_and] at hds
        rw [e]
        by_cases hlo : D 6 j < p
        · rw [if_pos ((nI_lt_iff (by omega) (by omega)).mpr hlo)]
          refine skip fun x => ?_
          rw [hds, ds_lt ho hg hlo] at x
          cases x.2
        · rw [if_neg (by rw [nI_lt_iff (by omega) (by omega)]; exact hlo), a_how ho hr hg]
          have hgr := (ri.2.1 (D 6 j) hg).1
          have hle := (hG j hlt h9).1 o1
          by_cases hm : ds D p (D 6 j) = true
          · have hm0 := ds_open ho ri hG h0 hlt h9 o1 hm
            have hv : lsJ D r p h v j 1 (D 6 j) = 2 ∨ lsJ D r p h v j 1 (D 6 j) = 3 := by
              unfold lsJ
              rw [if_pos rfl]
              by_cases ep : D 6 j = p
              · rw [if_pos ep]
                exact hh
              · rw [if_neg ep, if_pos ⟨by omega, hm0, hm⟩]
                exact Or.inr rfl
            have mark : ∃ w, j_X1_lose_116 N (l_X1_lose_55 N n) (nI p) (nI j) σ = some ((), w) ∧ RowA D (lsJ D r p h v (nP D)) (w 24) ∧ ∀ a, ¬ a = 24 → w a = σ a := by
              have e00 : lsJ D r p h v j 0 0 = r 0 0 := by
                unfold lsJ
                rw [if_neg (by decide), if_neg (by decide), if_neg (by omega)]
              have ht : p_X1_today_23 σ = nI (r 0 0) := by
                rw [← e00]
                exact a_today hr
              have hw : ∀ a, ¬ a = 24 → st (st σ 24 (1 + j) 3) 24 (8 + j) (nI (r 0 0)) a = σ a := fun a ha => (st_cell ha).trans (st_cell ha)
              have hrow : RowA D (lsJ D r p h v (j + 1)) (st (st σ 24 (1 + j) 3) 24 (8 + j) (nI (r 0 0)) 24) := by
                rw [← lsJ_mark (by omega) ⟨o1, by rw [hds]; exact hm⟩]
                refine rowA_end ho hlt hr fun i => ?_
                rw [st_get, st_get]
                rfl
              obtain ⟨w, e1, e2, e3⟩ := a_lose_loop ho ri hG hp h0 hh c n (j + 1) _ (LandA_24 hw ha) hrow (by omega) (by omega) (by omega)
              refine ⟨w, ?_, e2, fun a ha => (e3 a ha).trans (hw a ha)⟩
              unfold j_X1_lose_116 j_X1_lose_127 t_X1_end_23 bt
              dsimp only
              rw [ht, show (1 : Int32) + nI j = nI (1 + j) from nI_add 1 j, show (8 : Int32) + nI j = nI (8 + j) from nI_add 8 j, put_nI (by omega) (by decide), put_nI (by omega) (by decide), ← es]
              exact e1
            rcases hv with hv | hv
            · have e2 : nI (lsJ D r p h v j 1 (D 6 j)) = (2 : Int32) := by
                rw [hv]
                rfl
              rw [if_pos e2]
              exact mark
            · have e2 : ¬ nI (lsJ D r p h v j 1 (D 6 j)) = (2 : Int32) := by
                rw [hv]
                decide
              have e3 : nI (lsJ D r p h v j 1 (D 6 j)) = (3 : Int32) := by
                rw [hv]
                rfl
              rw [if_neg e2, if_pos e3]
              exact mark
          · have ep : ¬ D 6 j = p := fun e => hm (by rw [e]; exact ds_self ho hp)
            have hv : lsJ D r p h v j 1 (D 6 j) = r 1 (D 6 j) := by
              unfold lsJ
              rw [if_pos rfl, if_neg ep, if_neg (fun x => hm x.2.2)]
            have e2 : ¬ nI (r 1 (D 6 j)) = (2 : Int32) := fun e => absurd ((nI_eq (a := r 1 (D 6 j)) (b := 2) (by omega) (by omega)).mp e) (by omega)
            have e3 : ¬ nI (r 1 (D 6 j)) = (3 : Int32) := fun e => absurd ((nI_eq (a := r 1 (D 6 j)) (b := 3) (by omega) (by omega)).mp e) (by omega)
            rw [hv, if_neg e2, if_neg e3]
            refine skip fun x => hm ?_
            rw [← hds]
            exact x.2
    · have hz : ¬ nI (r 1 j) = 0 := fun e => o1 ((nI_eq (a := r 1 j) (b := 0) (by omega) (by omega)).mp e)
      have e0 : (0 : Int32) = 0 := rfl
      rw [if_neg hz, if_pos e0]
      exact skip fun x => o1 x.1
end LOSE
