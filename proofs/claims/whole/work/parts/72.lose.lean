/-! a state of days that may be: all that is kept true of it -/
def opn (D : LD) (r : RD) : Nat → Nat
  | 0 => 0
  | p + 1 => opn D r p + if r 1 p = 0 then D 5 p else 0
def RowF (D : LD) (r : RD) : Prop := r 6 0 + r 6 1 + r 6 2 + opn D r (nP D) ≤ 63
def RowOk (D : LD) (r : RD) : Prop := RowIn D r ∧ RowK D r ∧ RowG D r ∧ RowF D r
theorem opn_le {D : LD} {r r' : RD} : ∀ (n : Nat), (∀ q, q < n → r' 1 q = 0 → r 1 q = 0) → opn D r' n ≤ opn D r n
  | 0, _ => Nat.le_refl _
  | n + 1, h => by
    have ih := opn_le (D := D) n (fun q hq => h q (by omega))
    have h1 := h n (by omega)
    unfold opn
    by_cases e : r' 1 n = 0
    · rw [if_pos e, if_pos (h1 e)]
      omega
    · rw [if_neg e]
      omega
theorem opn_lose {D : LD} {r r' : RD} {p : Nat} (h0 : r 1 p = 0) (h1 : ¬ r' 1 p = 0) : ∀ (n : Nat), p < n → (∀ q, q < n → r' 1 q = 0 → r 1 q = 0) → opn D r' n + D 5 p ≤ opn D r n
  | 0, hp, _ => absurd hp (Nat.not_lt_zero _)
  | n + 1, hp, h => by
    have h2 := h n (by omega)
    unfold opn
    by_cases e : p = n
    · have ih := opn_le (D := D) n (fun q hq => h q (by omega))
      rw [← e, if_neg h1, if_pos h0]
      rw [← e] at ih
      omega
    · have ih := opn_lose (D := D) h0 h1 n (by omega) (fun q hq => h q (by omega))
      by_cases e2 : r' 1 n = 0
      · rw [if_pos e2, if_pos (h2 e2)]
        omega
      · rw [if_neg e2]
        omega
theorem opn_eq {D : LD} {r r' : RD} (n : Nat) (h : ∀ q, q < n → r' 1 q = r 1 q) : opn D r' n = opn D r n := by
  refine Nat.le_antisymm (opn_le n fun q hq e => ?_) (opn_le n fun q hq e => ?_)
  · rw [← h q hq]
    exact e
  · rw [h q hq]
    exact e
section LOS
variable {D : LD} {r : RD} {p : Nat} {N : Nat}
theorem loR_1 {m v y : Nat} : loR D r p m v 1 y = if y = p then m else if y < nP D ∧ r 1 y = 0 ∧ ds D p y = true then 3 else r 1 y := by
  unfold loR lsJ
  rw [if_pos rfl]
theorem loR_2 {m v y : Nat} : loR D r p m v 2 y = if y = p then r 0 0 + 1 else if y < nP D ∧ r 1 y = 0 ∧ ds D p y = true then r 0 0 + 1 else r 2 y := by
  unfold loR lsJ
  rw [if_neg (by decide), if_pos rfl]
theorem loR_6 {m v f : Nat} : loR D r p m v 6 f = if f = D 1 (r 3 p) then r 6 f + v else r 6 f := by
  unfold loR lsJ
  rw [if_neg (by decide), if_neg (by decide)]
  by_cases e : f = D 1 (r 3 p)
  · rw [if_pos ⟨rfl, e⟩, if_pos e]
  · rw [if_neg (fun x => e x.2), if_neg e]
theorem loR_o {m v x y : Nat} (h1 : ¬ x = 1) (h2 : ¬ x = 2) (h6 : ¬ x = 6) : loR D r p m v x y = r x y := by
  unfold loR lsJ
  rw [if_neg h1, if_neg h2, if_neg (fun e => h6 e.1)]
theorem loR_open {m v q : Nat} (hm : m = 2 ∨ m = 3) (h : loR D r p m v 1 q = 0) : r 1 q = 0 ∧ ¬ q = p ∧ ¬ (q < nP D ∧ ds D p q = true) := by
  rw [loR_1] at h
  by_cases e : q = p
  · rw [if_pos e] at h
    omega
  · rw [if_neg e] at h
    by_cases e2 : q < nP D ∧ r 1 q = 0 ∧ ds D p q = true
    · rw [if_pos e2] at h
      cases h
    · rw [if_neg e2] at h
      exact ⟨h, e, fun x => e2 ⟨x.1, h, x.2⟩⟩
theorem gvn_lo {m v q : Nat} (h0 : r 1 p = 0) (hm : m = 2 ∨ m = 3) : gvn D (loR D r p m v) q = gvn D r q := by
  unfold gvn
  by_cases h9 : D 6 q = 9
  · rw [if_pos h9, if_pos h9]
  · rw [if_neg h9, if_neg h9]
    generalize D 6 q = g
    rw [loR_1, loR_2]
    by_cases e : g = p
    · rw [if_pos e, if_pos e, e, h0, if_neg (by omega), if_neg (by omega)]
    · rw [if_neg e, if_neg e]
      by_cases e2 : g < nP D ∧ r 1 g = 0 ∧ ds D p g = true
      · rw [if_pos e2, if_pos e2, e2.2.1, if_neg (by omega), if_neg (by omega)]
      · rw [if_neg e2, if_neg e2]
theorem ripV_lo {m v q : Nat} (h0 : r 1 p = 0) (hm : m = 2 ∨ m = 3) : ripV D (loR D r p m v) q = ripV D r q := by
  unfold ripV
  rw [gvn_lo h0 hm]
theorem loR_ok (ho : LandOk D) (hO : RowOk D r) (hp : p < nP D) (h0 : r 1 p = 0) {m v : Nat} (hm : m = 3 ∨ m = 2 ∧ gvn D r p ≠ 0) (hv : v ≤ D 5 p) : RowOk D (loR D r p m v) := by
  obtain ⟨hI, hK, hG, hF⟩ := hO
  have hm2 : m = 2 ∨ m = 3 := by omega
  have h7 := ho.p7
  have hk := (hI.2.1 p hp).2.2.1
  have hf := (ho.ke hk).1
  have hd := hI.1
  have hF2 : RowF D (loR D r p m v) := by
    have h1 := opn_lose (D := D) (r := r) (r' := loR D r p m v) (p := p) h0 (by rw [loR_1, if_pos rfl]; omega) (nP D) hp (fun q _ e => (loR_open hm2 e).1)
    unfold RowF at hF ⊢
    rw [loR_6, loR_6, loR_6]
    generalize D 1 (r 3 p) = f at hf
    by_cases e0 : 0 = f
    · rw [if_pos e0, if_neg (by omega), if_neg (by omega)]
      omega
    · by_cases e1 : 1 = f
      · rw [if_neg e0, if_pos e1, if_neg (by omega)]
        omega
      · rw [if_neg e0, if_neg e1, if_pos (by omega)]
        omega
  refine ⟨⟨by rw [loR_o (by decide) (by decide) (by decide)]; exact hd, fun q hq => ?_, fun k hk => ?_, fun f hf => ?_⟩, fun q hq e1 e2 => ?_, fun q hq h9 => ?_, hF2⟩
  · have e := hI.2.1 q hq
    rw [loR_1, loR_2, loR_o (x := 3) (by decide) (by decide) (by decide)]
    by_cases c1 : q = p
    · rw [if_pos c1, if_pos c1]
      exact ⟨by omega, by omega, e.2.2.1, by omega⟩
    · rw [if_neg c1, if_neg c1]
      by_cases c2 : q < nP D ∧ r 1 q = 0 ∧ ds D p q = true
      · rw [if_pos c2, if_pos c2]
        exact ⟨by omega, by omega, e.2.2.1, by omega⟩
      · rw [if_neg c2, if_neg c2]
        exact e
  · rw [loR_o (x := 4) (by decide) (by decide) (by decide), loR_o (x := 5) (by decide) (by decide) (by decide)]
    exact hI.2.2.1 k hk
  · unfold RowF at hF2
    have h3 : f = 0 ∨ f = 1 ∨ f = 2 := by omega
    rcases h3 with rfl | rfl | rfl <;> omega
  · rw [ripV_lo h0 hm2] at e2 ⊢
    rw [loR_o (x := 0) (by decide) (by decide) (by decide)]
    exact hK q hq (loR_open hm2 e1).1 e2
  · have hg := hG q hq h9
    have hq6 := (ho.pr hq).2.2.2.2.1
    have hds := ds_eq (p := p) ho hq
    refine ⟨fun e => ?_, fun e => ?_⟩
    · obtain ⟨e1, e2, e3⟩ := loR_open hm2 e
      rw [decide_eq_false e2, Bool.false_or] at hds
      have h1 := hg.1 e1
      have hnd : ¬ (D 6 q < nP D ∧ r 1 (D 6 q) = 0 ∧ ds D p (D 6 q) = true) := by
        intro x
        have hlt : p < q := by
          by_cases c : p < D 6 q
          · omega
          · by_cases c2 : D 6 q = p
            · omega
            · have := ds_lt (p := p) ho x.1 (by omega)
              rw [this] at x
              cases x.2.2
        rw [x.2.2, decide_eq_true ⟨hlt, h9⟩] at hds
        exact e3 ⟨hq, hds⟩
      rw [loR_1]
      by_cases c : D 6 q = p
      · exact absurd ⟨by omega, by rw [c]; exact h0, by rw [c]; exact ds_self ho hp⟩ hnd
      · rw [if_neg c, if_neg hnd]
        exact h1
    · have key : r 1 (D 6 q) = 1 := by
        rw [loR_1] at e
        by_cases c : q = p
        · rw [if_pos c] at e
          have hz : gvn D r p ≠ 0 := by
            rcases hm with x | x
            · omega
            · exact x.2
          rw [← c] at hz
          unfold gvn at hz
          rw [if_neg h9] at hz
          by_cases e2 : r 1 (D 6 q) = 1
          · exact e2
          · rw [if_neg e2] at hz
            exact absurd rfl hz
        · rw [if_neg c] at e
          by_cases c2 : q < nP D ∧ r 1 q = 0 ∧ ds D p q = true
          · rw [if_pos c2] at e
            omega
          · rw [if_neg c2] at e
            exact hg.2 e
      rw [loR_1, if_neg (fun c => by rw [c, h0] at key; cases key), if_neg (fun c => by rw [c.2.1] at key; cases key)]
      exact key
theorem b_lose {τ : St} (h : RlB D r τ) (hp : p < nP D) (h0 : r 1 p = 0) {m v : Nat} (hm : m = 2 ∨ m = 3) (hN : 7000 ≤ N) :
    ∃ w1 w, o_X10_fallOn N (nI p) (nI v) (st (st τ 80 p (nI m)) 80 (7 + p) (nI (r 0 0))) = some ((), w1) ∧ o_X10_takeWith N (nI p) w1 = some ((), w) ∧ RowB D (loR D r p m v) (w 80) 0 ∧
      (∀ a, ¬ a = 80 → w a = τ a) ∧ ∀ i, 38 ≤ i → w 80 i = τ 80 i := by
  have h7 := h.ho.p7
  have hk := (h.ri.2.1 p hp).2.2.1
  have hf := (h.ho.ke hk).1
  have hd := h.ri.1
  have es : nI (p + 1) = nI p + 1 := by rw [nI_succ]
  have hw : ∀ a, ¬ a = 80 → st (st τ 80 p (nI m)) 80 (7 + p) (nI (r 0 0)) a = τ a := fun a ha => (st_cell ha).trans (st_cell ha)
  have hr1 : RowB D (rset (rset r 1 p m) 2 p (r 0 0 + 1)) (st (st τ 80 p (nI m)) 80 (7 + p) (nI (r 0 0)) 80) 0 := by
    refine rowB_end h.ho hp h.rb (by omega) (by omega) fun i => ?_
    rw [st_get, st_get]
    rfl
  have hi1 : RowIn D (rset (rset r 1 p m) 2 p (r 0 0 + 1)) := by
    refine ⟨hd, fun q hq => ?_, fun k hk => h.ri.2.2.1 k hk, fun f hf => h.ri.2.2.2 f hf⟩
    have ej := h.ri.2.1 q hq
    rw [rset_ne (a := 2) (x := 1) (by decide), rset_ne (a := 2) (x := 3) (by decide), rset_ne (a := 1) (x := 3) (by decide)]
    by_cases e : q = p
    · rw [e, rset_eq, rset_eq]
      rw [e] at ej
      exact ⟨by omega, by omega, ej.2.2.1, fun _ => by omega⟩
    · rw [rset_np e, rset_np e, rset_ne (by decide)]
      exact ej
  have g : RlB D (rset (rset r 1 p m) 2 p (r 0 0 + 1)) (st (st τ 80 p (nI m)) 80 (7 + p) (nI (r 0 0))) := ⟨h.ho, LandB_80 hw h.hb, hr1, hi1⟩
  have e3 : rset (rset r 1 p m) 2 p (r 0 0 + 1) 3 p = r 3 p := by rw [rset_ne (by decide), rset_ne (by decide)]
  have e6 : rset (rset r 1 p m) 2 p (r 0 0 + 1) 6 (D 1 (r 3 p)) = r 6 (D 1 (r 3 p)) := by rw [rset_ne (by decide), rset_ne (by decide)]
  have eb := b_fall (N := N) g hp v
  rw [e3, e6] at eb
  have hw2 : ∀ a, ¬ a = 80 → st (st (st τ 80 p (nI m)) 80 (7 + p) (nI (r 0 0))) 80 (34 + D 1 (r 3 p)) (nI (r 6 (D 1 (r 3 p)) + v)) a = τ a := fun a ha => (st_cell ha).trans (hw a ha)
  have hr2 : RowB D (lsJ D r p m v (p + 1)) (st (st (st τ 80 p (nI m)) 80 (7 + p) (nI (r 0 0))) 80 (34 + D 1 (r 3 p)) (nI (r 6 (D 1 (r 3 p)) + v)) 80) 0 := by
    rw [lsJ_start h.ho hp, rset_comm (a := 6) (a' := 1) (by decide), rset_comm (a := 6) (a' := 2) (by decide)]
    refine rowB_6 h.ho hf hr1 fun i => ?_
    rw [st_get, Nat.zero_add]
  have hS : ∀ q, q < 32 → bit (1 <<< (nI p &&& 31)) q = (decide (q < p + 1) && ds D p q) := by
    intro q hq
    rw [bit_one (by omega) hq]
    by_cases e : q = p
    · rw [e, ds_self h.ho hp, decide_eq_true rfl, decide_eq_true (by omega)]
      rfl
    · rw [decide_eq_false (fun x => e x.symm : ¬ p = q)]
      by_cases e2 : q < p
      · rw [ds_lt h.ho (by omega) e2, Bool.and_false]
      · rw [decide_eq_false (by omega : ¬ q < p + 1)]
        rfl
  obtain ⟨w, e1, e2, e4, e5⟩ := b_with_loop (N := N) h.ho h.ri hp (nP D - (p + 1)) N (p + 1) (1 <<< (nI p &&& 31)) _ (LandB_80 hw2 h.hb) hr2 hS (by omega) (by omega) (by omega)
  refine ⟨_, w, eb, ?_, e2, fun a ha => (e4 a ha).trans (hw2 a ha), fun i hi => (e5 i hi).trans (by rw [st_place (by omega), st_place (by omega), st_place (by omega)])⟩
  unfold o_X10_takeWith bt
  rw [← es]
  exact e1
theorem e_takeDown {σ τ : St} (h : RlA D r σ) (g : RlB D r τ) (hO : RowOk D r) (hN : 7000 ≤ N) (a1 : Int32) : ∃ v r' wA w, o_X9_takeDown N a1 σ = some (v, wA) ∧ RowA D r' (wA 24) ∧ o_X10_takeDown N a1 τ = some (v, w) ∧ RowB D r' (w 80) 0 ∧ RowOk D r' ∧
    ∀ i, 38 ≤ i → w 80 i = τ 80 i := by
  have h7 := h.ho.p7
  rcases a_has (n := nP D) (by omega) a1 with ⟨p, hp, rfl⟩ | hx
  · have hr := ripV_le h.z hp
    have hg := gvn_le h.ho h.ri hp
    have hq := h.ho.pr hp
    have hd := h.ri.1
    have b21 : τ 80 (21 + p) = oI (gvn D r p) := by
      have e := (g.rb.2.1 p hp).2.2.2
      rw [show 0 + 21 + p = 21 + p from rfl] at e
      exact e
    unfold o_X9_takeDown o_X10_takeDown
    rw [a_hasPromise_in h.ha h.ho hp, if_neg one_ne, b_isPromise_in g.hb g.ho hp, bd_some, if_neg one_ne, a_isOpen h hp, b_cka (x := p) (n := 1360) _ (by omega) (by decide), w_nI (c := τ 80) (x := p) (by omega), b_how g.rb hp]
    have e1 : ¬ b01 true = 0 := one_ne
    have e2 : b01 false = 0 := rfl
    by_cases o1 : r 1 p = 0
    · rw [if_pos ((open_nI h.z hp).mpr o1), decide_eq_true o1, if_neg e1, a_isRipe h hp, bd_some, show (21 : Int32) + nI p = nI (21 + p) from nI_add 21 p, b_cka (x := 21 + p) _ (by omega) (by decide), w_nI (c := τ 80) (x := 21 + p) (by omega), b21,
        show o_X10_ripe N 0 (nI p) τ = some (oI (ripV D r p), τ) from b_ripe g.ho g.hb g.ri (x := 0) (by omega) g.rb hp hN, bd_some, b_today g]
      have take : ∃ v r' wA w, (bt ((at_ σ 8 7 (nI p)) / 2) fun x7 => bd (o_X1_lose N (nI p) 3 x7 σ) fun u8 σ9 => some (x7, σ9)) = some (v, wA) ∧ RowA D r' (wA 24) ∧ j_X10_takeDown_51 N (nI p) τ = some (v, w) ∧ RowB D r' (w 80) 0 ∧ RowOk D r' ∧
          ∀ i, 38 ≤ i → w 80 i = τ 80 i := by
        obtain ⟨wA, a1, a2, a3⟩ := a_lose (N := N) (m := 3) (v := D 5 p / 2) h hO.2.2.1 hp o1 (Or.inr rfl) hN
        obtain ⟨w1, w, b1, b2, b3, b4, b5⟩ := b_lose (N := N) (m := 3) (v := D 5 p / 2) g hp o1 (Or.inr rfl) hN
        refine ⟨nI (D 5 p / 2), loR D r p 3 (D 5 p / 2), wA, w, ?_, a2, ?_, b3, loR_ok h.ho hO hp o1 (Or.inl rfl) (Nat.div_le_self _ _), b5⟩
        · unfold bt
          dsimp only
          rw [at_nI (by omega) (by decide), (h.ha.2.2.2.1 p hp).2.2.2.2.1, half_nI (by omega), show o_X1_lose N (nI p) 3 (nI (D 5 p / 2)) σ = _ from a1, bd_some]
        · unfold j_X10_takeDown_51 bt
          have c37 : (37 : Int32).toNatClampNeg = 37 := rfl
          have t0 : τ 80 37 = nI (r 0 0) := b_today g
          have h37 : st τ 80 p 3 80 37 = nI (r 0 0) := by
            rw [st_place (by omega)]
            exact t0
          have h90 : st (st τ 80 p 3) 80 (7 + p) (nI (r 0 0)) 90 p = nI (D 5 p) := by
            rw [st_cell (by decide), st_cell (by decide)]
            exact (g.hb.2.2.2.1 p hp).2.2.2.2.1
          have h90w : w 90 p = nI (D 5 p) := by
            rw [b4 90 (by decide)]
            exact (g.hb.2.2.2.1 p hp).2.2.2.2.1
          dsimp only
          rw [b_cka (x := p) (n := 1360) _ (by omega) (by decide), show (7 : Int32) + nI p = nI (7 + p) from nI_add 7 p, b_cka (x := 7 + p) _ (by omega) (by decide), b_cka (x := p) (n := 14) _ (by omega) (by decide),
            nI_clamp (n := p) (by omega), nI_clamp (n := 7 + p) (by omega), c37, h37, h90, half_nI (by omega),
            show o_X10_fallOn N (nI p) (nI (D 5 p / 2)) (st (st τ 80 p 3) 80 (7 + p) (nI (r 0 0))) = _ from b1, bd_some, b2, bd_some, b_cka (x := p) (n := 14) _ (by omega) (by decide), h90w, half_nI (by omega)]
      by_cases hz : ripV D r p = 0
      · have hg0 : gvn D r p = 0 := (gvn_rip D r).mpr hz
        have hneg : oI (gvn D r p) < 0 := by
          rw [hg0]
          decide
        have : decide (ripV D r p ≠ 0) = false := by simpa using hz
        rw [this, Bool.false_and, if_pos e2, if_pos hneg]
        exact take
      · have hg0 : gvn D r p ≠ 0 := fun e => hz ((gvn_rip D r).mp e)
        have hnn : ¬ oI (gvn D r p) < 0 := by
          rw [oI_pos hg0]
          exact nI_pos (by omega)
        have : decide (ripV D r p ≠ 0) = true := by simpa using hz
        rw [this, Bool.true_and, if_neg hnn, oI_pos hz]
        by_cases h2 : r 0 0 < ripV D r p - 1
        · rw [decide_eq_false (by omega : ¬ ripV D r p - 1 ≤ r 0 0), if_pos e2, if_pos ((nI_lt_iff (by omega) (by omega)).mpr h2)]
          exact take
        · rw [decide_eq_true (by omega : ripV D r p - 1 ≤ r 0 0), if_neg e1, if_neg (by rw [nI_lt_iff (by omega) (by omega)]; exact h2)]
          exact ⟨_, r, σ, τ, rfl, h.ra, rfl, g.rb, hO, fun _ _ => rfl⟩
    · rw [if_neg (fun e => o1 ((open_nI h.z hp).mp e)), decide_eq_false o1, if_pos e2]
      exact ⟨_, r, σ, τ, rfl, h.ra, rfl, g.rb, hO, fun _ _ => rfl⟩
  · unfold o_X9_takeDown o_X10_takeDown
    rw [a_hasPromise_out h.ha hx, b_isPromise_out g.hb g.ho hx, bd_some]
    exact ⟨_, r, σ, τ, rfl, h.ra, rfl, g.rb, hO, fun _ _ => rfl⟩
end LOS
