/-! one bit of a set; the reference's loss, younger by younger -/
section HASB
theorem nI_bv {g : Nat} (hg : g < 32) : ((nI g).toBitVec.smod (32 : Int32).toBitVec).toNat = g := by
  have h1 : ∀ g : Fin 32, ((nI g.val).toBitVec.smod (32 : Int32).toBitVec).toNat = g.val := by decide +kernel
  exact h1 ⟨g, hg⟩
theorem shr_bit (x : Int32) {g q : Nat} (hg : g < 32) (hq : q + g < 32) : bit (x >>> nI g) q = bit x (q + g) := by
  unfold bit
  have e : (x >>> nI g).toBitVec = x.toBitVec.sshiftRight ((nI g).toBitVec.smod (32 : Int32).toBitVec).toNat := rfl
  rw [e, nI_bv hg, BitVec.getLsbD_sshiftRight]
  have h1 : ¬ 32 ≤ q := by omega
  have h2 : g + q < 32 := by omega
  have h3 : g + q = q + g := by omega
  simp [h1, h2, h3]
  intro h
  omega
theorem bit_1 {q : Nat} (hq : q < 32) : bit 1 q = decide (q = 0) := by
  have h1 := bit_one (p := 0) (q := q) (by omega) hq
  have e : (1 : Int32) <<< (nI 0 &&& 31) = 1 := by decide
  rw [e] at h1
  rw [h1]
  by_cases h : q = 0
  · rw [decide_eq_true h, decide_eq_true h.symm]
  · rw [decide_eq_false h, decide_eq_false (fun e => h e.symm)]
theorem and_1 (y : Int32) : y &&& 1 = 1 ↔ bit y 0 = true := by
  constructor
  · intro h
    have h1 := bit_and y 1 0
    rw [h, bit_1 (by omega)] at h1
    simpa using h1.symm
  · intro h
    refine set_ext fun q hq => ?_
    rw [bit_and, bit_1 hq]
    by_cases e : q = 0
    · rw [e, h]
      rfl
    · rw [decide_eq_false e, Bool.and_false]
theorem and_0 (y : Int32) : y &&& 1 = 0 ↔ bit y 0 = false := by
  constructor
  · intro h
    have h1 := bit_and y 1 0
    rw [h, bit_1 (by omega), bit_0] at h1
    simpa using h1.symm
  · intro h
    refine set_ext fun q hq => ?_
    rw [bit_and, bit_1 hq, bit_0]
    by_cases e : q = 0
    · rw [e, h]
      rfl
    · rw [decide_eq_false e, Bool.and_false]
theorem b_has (x : Int32) {g : Nat} (hg : g < 32) (σ : St) : p_X10_has x (nI g) σ = b01 (bit x g) := by
  unfold p_X10_has
  rw [shl_and hg]
  have e := shr_bit x (q := 0) hg (by omega)
  rw [Nat.zero_add] at e
  cases h : bit x g
  · rw [if_neg (fun c => by rw [and_1, e, h] at c; cases c)]
    rfl
  · rw [if_pos ((and_1 _).mpr (by rw [e, h]))]
    rfl
theorem a_hasb (x : Int32) {g : Nat} (hg : g < 31) (σ : St) : p_X9_has x (nI g) σ = b01 (bit x g) := by
  unfold p_X9_has j_X9_has_22
  rw [shl_and (by omega), if_neg (nI_pos (by omega))]
  have e := shr_bit x (q := 0) (g := g) (by omega) (by omega)
  rw [Nat.zero_add] at e
  have e1 : ¬ (31 : Int32) ≤ nI g := fun c => absurd ((nI_le_iff (a := 31) (b := g) (by omega) (by omega)).mp c) (by omega)
  rw [if_neg e1]
  cases h : bit x g
  · rw [if_pos ((and_0 _).mpr (by rw [e, h]))]
    rfl
  · rw [if_neg (fun c => by rw [and_0, e, h] at c; cases c)]
    rfl
end HASB
section WITH2
variable {D : LD} {r : RD} {p : Nat} {N : Nat}
theorem lsJ_00 {h v j : Nat} : lsJ D r p h v j 0 0 = r 0 0 := by
  unfold lsJ
  rw [if_neg (by decide), if_neg (by decide), if_neg (by omega)]
theorem b_with_loop (ho : LandOk D) (ri : RowIn D r) {h v : Nat} (hp : p < nP D) : ∀ (c n j : Nat) (S : Int32) (τ : St), LandB D τ → RowB D (lsJ D r p h v j) (τ 80) 0 →
    (∀ q, q < 32 → bit S q = (decide (q < j) && ds D p q)) → p < j → j + c = nP D → c < n →
    ∃ w, l_X10_takeWith_8 N n S (nI j) τ = some ((), w) ∧ RowB D (lsJ D r p h v (nP D)) (w 80) 0 ∧ (∀ a, ¬ a = 80 → w a = τ a) ∧ ∀ i, 38 ≤ i → w 80 i = τ 80 i
  | c, 0, j, _, _, _, _, _, _, _, hn => absurd hn (Nat.not_lt_zero _)
  | 0, n + 1, j, S, τ, hb, hr, _, _, hj, _ => by
    have h7 := ho.p7
    have e : j = nP D := by omega
    refine ⟨τ, ?_, by rw [← e]; exact hr, fun a _ => rfl, fun _ _ => rfl⟩
    rw [l_X10_takeWith_8, hb.1.2.2.2, if_pos (nI_le (by omega) (by omega))]
  | c + 1, n + 1, j, S, τ, hb, hr, hS, hpj, hj, hn => by
    have h7 := ho.p7
    have hlt : j < nP D := by omega
    have hq := ho.pr hlt
    have hjr := (ri.2.1 j hlt).1
    have es : nI (j + 1) = nI j + 1 := by rw [nI_succ]
    have hds := ds_eq (p := p) ho hlt
    rw [decide_eq_false (p := j = p) (by omega), Bool.false_or] at hds
    have hnow : lsJ D r p h v j 1 j = r 1 j := by
      unfold lsJ
      rw [if_pos rfl, if_neg (by omega), if_neg (by omega)]
    have skip : ∀ S', (∀ q, q < 32 → bit S' q = (decide (q < j + 1) && ds D p q)) → ¬ (r 1 j = 0 ∧ ds D p j = true) →
        ∃ w, j_X10_takeWith_78 N (l_X10_takeWith_8 N n) S' (nI j) τ = some ((), w) ∧ RowB D (lsJ D r p h v (nP D)) (w 80) 0 ∧ (∀ a, ¬ a = 80 → w a = τ a) ∧ ∀ i, 38 ≤ i → w 80 i = τ 80 i := by
      intro S' hS' hs
      have := b_with_loop ho ri hp c n (j + 1) S' τ hb (by rw [lsJ_skip hs]; exact hr) hS' (by omega) (by omega) (by omega)
      rw [es] at this
      exact this
    have hSn : ds D p j = false → ∀ q, q < 32 → bit S q = (decide (q < j + 1) && ds D p q) := by
      intro hf q hq
      rw [hS q hq]
      by_cases e : q = j
      · rw [e, hf, Bool.and_false, Bool.and_false]
      · congr 1
        by_cases e2 : q < j
        · rw [decide_eq_true e2, decide_eq_true (by omega)]
        · rw [decide_eq_false e2, decide_eq_false (by omega)]
    rw [l_X10_takeWith_8, hb.1.2.2.2, if_neg (nI_ge hlt (by omega)), b_cka (x := j) (n := 14) _ (by omega) (by decide), b_cka (x := j) (n := 14) _ (by omega) (by decide), w_nI (c := τ 91) (x := j) (by omega), (hb.2.2.2.1 j hlt).2.2.2.2.2]
    by_cases h9 : D 6 j = 9
    · have e : nI (D 6 j) = (9 : Int32) := by
        rw [h9]
        rfl
      rw [decide_eq_false (p := p < j ∧ D 6 j ≠ 9) (fun e => e.2 h9), Bool.false_and] at hds
      rw [if_pos e]
      exact skip S (hSn hds) (fun x => by rw [hds] at x; cases x.2)
    · have e : ¬ nI (D 6 j) = 9 := fun e => h9 ((nI_eq (a := D 6 j) (b := 9) (by omega) (by omega)).mp e)
      have hg : D 6 j < nP D := by omega
      rw [decide_eq_true (p := p < j ∧ D 6 j ≠ 9) ⟨hpj, h9⟩, Bool.true_and] at hds
      rw [if_neg e, b_has S (g := D 6 j) (by omega), hS (D 6 j) (by omega), decide_eq_true (by omega : D 6 j < j), Bool.true_and, ← hds]
      cases hm : ds D p j
      · have e0 : b01 false = 0 := rfl
        rw [if_pos e0]
        exact skip S (hSn hm) (fun x => by rw [hm] at x; cases x.2)
      · have e1 : ¬ b01 true = 0 := one_ne
        have hS' : ∀ q, q < 32 → bit (S ||| 1 <<< (nI j &&& 31)) q = (decide (q < j + 1) && ds D p q) := by
          intro q hq
          rw [bit_or, hS q hq, bit_one (by omega) hq]
          by_cases e : q = j
          · rw [e, hm, decide_eq_false (by omega : ¬ j < j), decide_eq_true rfl, decide_eq_true (by omega : j < j + 1)]
            rfl
          · rw [decide_eq_false (fun x => e x.symm : ¬ j = q), Bool.or_false]
            congr 1
            by_cases e2 : q < j
            · rw [decide_eq_true e2, decide_eq_true (by omega)]
            · rw [decide_eq_false e2, decide_eq_false (by omega)]
        rw [if_neg e1]
        unfold bt
        dsimp only
        rw [b_cka (x := j) (n := 1360) _ (by omega) (by decide), b_cka (x := j) (n := 1360) _ (by omega) (by decide), w_nI (c := τ 80) (x := j) (by omega), b_how hr hlt, hnow]
        by_cases o1 : r 1 j = 0
        · have hz : nI (r 1 j) = 0 := by
            rw [o1]
            rfl
          have hw : ∀ a, ¬ a = 80 → st (st τ 80 j 3) 80 (7 + j) (nI (r 0 0)) a = τ a := fun a ha => (st_cell ha).trans (st_cell ha)
          have hrow : RowB D (lsJ D r p h v (j + 1)) (st (st τ 80 j 3) 80 (7 + j) (nI (r 0 0)) 80) 0 := by
            rw [← lsJ_mark (by omega) ⟨o1, hm⟩]
            refine rowB_end ho hlt hr (by rw [hnow]; omega) (by omega) fun i => ?_
            rw [st_get, st_get]
            rfl
          obtain ⟨w, e1, e2, e3, e4⟩ := b_with_loop ho ri hp c n (j + 1) _ _ (LandB_80 hw hb) hrow hS' (by omega) (by omega) (by omega)
          refine ⟨w, ?_, e2, fun a ha => (e3 a ha).trans (hw a ha), fun i hi => (e4 i hi).trans (by rw [st_place (by omega), st_place (by omega)])⟩
          have c37 : (37 : Int32).toNatClampNeg = 37 := rfl
          have h37 : st τ 80 j 3 80 37 = nI (r 0 0) := by
            rw [st_place (by omega)]
            have := hr.1
            rw [lsJ_00, Nat.zero_add] at this
            exact this
          rw [if_pos hz, show (7 : Int32) + nI j = nI (7 + j) from nI_add 7 j, b_cka (x := 7 + j) _ (by omega) (by decide), nI_clamp (n := j) (by omega), nI_clamp (n := 7 + j) (by omega), c37, h37]
          unfold j_X10_takeWith_78 bt
          rw [← es]
          exact e1
        · have hz : ¬ nI (r 1 j) = 0 := fun e => o1 ((nI_eq (a := r 1 j) (b := 0) (by omega) (by omega)).mp e)
          rw [if_neg hz]
          exact skip _ hS' (fun x => o1 x.1)
/-- all that a loss does -/
def loR (D : LD) (r : RD) (p h v : Nat) : RD := lsJ D r p h v (nP D)
theorem lsJ_start (ho : LandOk D) {h v : Nat} (hp : p < nP D) : lsJ D r p h v (p + 1) = rset (rset (rset r 6 (D 1 (r 3 p)) (r 6 (D 1 (r 3 p)) + v)) 1 p h) 2 p (r 0 0 + 1) := by
  funext x y
  have hno : ¬ y = p → ¬ (y < p + 1 ∧ r 1 y = 0 ∧ ds D p y = true) := by
    intro e x
    have := ds_lt (p := p) ho (q := y) (by omega) (by omega)
    rw [this] at x
    cases x.2.2
  unfold lsJ rset
  by_cases e1 : x = 1
  · subst e1
    by_cases e2 : y = p
    · simp [e2]
    · simp [e2, hno e2]
  · by_cases e2 : x = 2
    · subst e2
      by_cases e3 : y = p
      · simp [e3]
      · simp [e3, hno e3]
    · simp only [e1, e2, if_false, false_and]
      by_cases e3 : x = 6 ∧ y = D 1 (r 3 p)
      · rw [if_pos e3, if_pos e3, e3.2]
      · rw [if_neg e3, if_neg e3]
theorem a_lose {σ : St} (h : RlA D r σ) (hG : RowG D r) (hp : p < nP D) (h0 : r 1 p = 0) {m v : Nat} (hm : m = 2 ∨ m = 3) (hN : 7000 ≤ N) :
    ∃ w, o_X1_lose N (nI p) (nI m) (nI v) σ = some ((), w) ∧ RowA D (loR D r p m v) (w 24) ∧ ∀ a, ¬ a = 24 → w a = σ a := by
  have h7 := h.ho.p7
  have hk := (h.ri.2.1 p hp).2.2.1
  have hf := (h.ho.ke hk).1
  have es : nI (p + 1) = nI p + 1 := by rw [nI_succ]
  unfold o_X1_lose bt
  have e0 := a_fall h hp v
  dsimp only
  rw [e0]
  have r1 : RowA D (rset r 6 (D 1 (r 3 p)) (r 6 (D 1 (r 3 p)) + v)) (st σ 24 (28 + D 1 (r 3 p)) (nI (r 6 (D 1 (r 3 p)) + v)) 24) := rowA_6 h.ho hf h.ra (fun i => st_get _ _ _ _ _)
  have ht : p_X1_today_23 (st σ 24 (28 + D 1 (r 3 p)) (nI (r 6 (D 1 (r 3 p)) + v))) = nI (r 0 0) := by
    have h9 := a_today r1
    rw [rset_ne (by decide)] at h9
    exact h9
  rw [ht]
  unfold t_X1_end_23 bt
  dsimp only
  rw [show (1 : Int32) + nI p = nI (1 + p) from nI_add 1 p, show (8 : Int32) + nI p = nI (8 + p) from nI_add 8 p, put_nI (by omega) (by decide), put_nI (by omega) (by decide), ← es]
  have hw : ∀ a, ¬ a = 24 → st (st (st σ 24 (28 + D 1 (r 3 p)) (nI (r 6 (D 1 (r 3 p)) + v))) 24 (1 + p) (nI m)) 24 (8 + p) (nI (r 0 0)) a = σ a := fun a ha => ((st_cell ha).trans (st_cell ha)).trans (st_cell ha)
  have r2 : RowA D (lsJ D r p m v (p + 1)) (st (st (st σ 24 (28 + D 1 (r 3 p)) (nI (r 6 (D 1 (r 3 p)) + v))) 24 (1 + p) (nI m)) 24 (8 + p) (nI (r 0 0)) 24) := by
    rw [lsJ_start h.ho hp]
    refine rowA_end h.ho hp r1 fun i => ?_
    rw [st_get, st_get]
    rfl
  obtain ⟨w, e1, e2, e3⟩ := a_lose_loop (N := N) h.ho h.ri hG hp h0 hm (nP D - (p + 1)) N (p + 1) _ (LandA_24 hw h.ha) r2 (by omega) (by omega) (by omega)
  exact ⟨w, e1, e2, fun a ha => (e3 a ha).trans (hw a ha)⟩
end WITH2
