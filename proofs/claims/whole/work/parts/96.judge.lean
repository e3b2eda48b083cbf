/-! judge: a row that is tried -/
def RowT (D : LD) (r : RD) (w : Nat → Int32) (x : Nat) : Prop :=
  w (x + 37) = nI (r 0 0) ∧ (∀ p, p < nP D → w (x + p) = nI (r 1 p) ∧ w (x + 14 + p) = nI (r 3 p) ∧ w (x + 21 + p) = oI (gvn D r p)) ∧ ∀ k, k < nK D → w (x + 28 + k) = nI (r 4 k) ∧ w (x + 31 + k) = nI (r 5 k)
theorem RowB.t {D : LD} {r : RD} {w : Nat → Int32} {x : Nat} (h : RowB D r w x) : RowT D r w x := ⟨h.1, fun p hp => ⟨(h.2.1 p hp).1, (h.2.1 p hp).2.2.1, (h.2.1 p hp).2.2.2⟩, h.2.2.1⟩
def jdR (D : LD) (r : RD) (p d : Nat) : RD := rset (rset (rset (rset r 1 p 1) 2 p (d + 1)) 4 (r 3 p) (D 2 p)) 5 (r 3 p) d
def cbV (D : LD) (r : RD) (p d : Nat) : Bool := decide (r 1 p = 0) && (mayV D r p d && (!decide (D 7 (5 * r 4 (r 3 p) + D 2 p) = 1000) && decide (max (r 0 0) (r 5 (r 3 p)) + D 7 (5 * r 4 (r 3 p) + D 2 p) ≤ d)))
section JUDGE
variable {D : LD} {r : RD} {N : Nat} {σ τ : St}
/-- as if the tried row stood in the first one's place -/
def swp (σ : St) : St := fun a => if a = 24 then σ 78 else σ a
theorem swp_a (ho : LandOk D) (ha : LandA D σ) (hr : RowA D r (σ 78)) (hi : RowIn D r) : RlA D r (swp σ) := ⟨ho, LandA_of (fun a h => if_neg (by omega)) ha, hr, hi⟩
theorem t_ripeOn (ho : LandOk D) (ha : LandA D σ) (hr : RowA D r (σ 78)) (hi : RowIn D r) {p : Nat} (hp : p < nP D) : o_X1_ripeOn_77 N (nI p) σ = some (oI (ripV D r p), σ) := by
  have h := swp_a ho ha hr hi
  have h7 := ho.p7
  have hq := ho.pr hp
  have hg := gvn_le ho hi hp
  have e : p_X1_givenOn_77 (nI p) σ = oI (gvn D r p) := a_given h hp
  unfold o_X1_ripeOn_77 ripV
  rw [bt_eq, e]
  by_cases h0 : gvn D r p = 0
  · rw [if_pos h0, h0]
    rfl
  · rw [if_neg h0, oI_pos h0, if_neg (nI_neg1 (by omega)), at_nI (by omega) (by decide), (ha.2.2.2.1 p hp).2.2.1, a_ripe ho ha (by omega) (by omega), bd_some]
    rfl
theorem t_mayBe (ho : LandOk D) (ha : LandA D σ) (hr : RowA D r (σ 78)) (hi : RowIn D r) {p : Nat} (hp : p < nP D) {d : Nat} (hd : d < 2 ^ 20) : o_X1_mayBeKeptOn_77 N (nI p) (nI d) σ = some (b01 (mayV D r p d), σ) := by
  have h7 := ho.p7
  have hrv := ripV_le ⟨ho, hi⟩ hp
  have hq := ho.pr hp
  unfold o_X1_mayBeKeptOn_77 j_X1_mayBeKeptOn_77_37 mayV
  rw [t_ripeOn ho ha hr hi hp, bd_some]
  by_cases h0 : ripV D r p = 0
  · rw [if_pos ((oI_neg (by omega)).mpr h0)]
    have : decide (ripV D r p ≠ 0) = false := by simpa using h0
    rw [this]
    rfl
  · have : decide (ripV D r p ≠ 0) = true := by simpa using h0
    rw [if_neg (fun e => h0 ((oI_neg (by omega)).mp e)), this, Bool.true_and, oI_pos h0, at_nI (by omega) (by decide), (ha.2.2.2.1 p hp).2.2.2.1, nI_add]
    by_cases h1 : d < ripV D r p - 1
    · rw [if_pos ((nI_lt_iff (by omega) (by omega)).mpr h1), decide_eq_false (by omega)]
      rfl
    · rw [if_neg (by rw [nI_lt_iff (by omega) (by omega)]; exact h1), decide_eq_true (by omega : ripV D r p - 1 ≤ d), Bool.true_and]
      by_cases h2 : ripV D r p - 1 + D 4 p < d
      · rw [if_pos ((nI_lt_iff (by omega) (by omega)).mpr h2), decide_eq_false (by omega)]
        rfl
      · rw [if_neg (by rw [nI_lt_iff (by omega) (by omega)]; exact h2), decide_eq_true (by omega)]
        rfl
theorem t_can (ho : LandOk D) (ha : LandA D σ) (hr : RowA D r (σ 78)) (hi : RowIn D r) {p : Nat} (hp : p < nP D) {d : Nat} (hd : d < 2 ^ 20) : o_X0_canBeKept N (nI p) (nI d) σ = some (b01 (cbV D r p d), σ) := by
  have h := swp_a ho ha hr hi
  have h7 := ho.p7
  have h5 := ho.t5
  have hq := ho.pr hp
  have hk := (hi.2.1 p hp).2.2.1
  have hkk := hi.2.2.1 _ hk
  have h00 := hi.1
  have e1 : p_X1_holderOf_77 (nI p) σ = nI (r 3 p) := a_holder ho h.ra hp
  have e2 : p_X1_townOf_77 (nI (r 3 p)) σ = nI (r 4 (r 3 p)) := a_town ho h.ra hk
  have e3 : p_X1_today_77 σ = nI (r 0 0) := a_today h.ra
  have e4 : p_X1_thereOn_77 (nI (r 3 p)) σ = nI (r 5 (r 3 p)) := a_there ho h.ra hk
  have e5 : p_X1_isOpen_77 (nI p) σ = b01 (decide (r 1 p = 0)) := a_isOpen h hp
  have dd := ho.di (i := 5 * r 4 (r 3 p) + D 2 p) (by omega)
  have t1 : ¬ b01 true = 0 := one_ne
  have t2 : b01 false = 0 := rfl
  unfold o_X0_canBeKept j_X0_canBeKept_99 cbV
  rw [bt_eq, bt_eq, bt_eq, e1, e2, e3, e4, e5, max_nI (by omega) (by omega), at_nI (by omega) (by decide), (ha.2.2.2.1 p hp).2.1, a_dist ho ha hkk.1 hq.1, t_mayBe ho ha hr hi hp hd, bd_some]
  by_cases o1 : r 1 p = 0
  · rw [decide_eq_true o1, if_neg t1, Bool.true_and]
    cases mayV D r p d
    · rw [if_pos t2]
      rfl
    · rw [if_neg t1, Bool.true_and]
      by_cases h1 : D 7 (5 * r 4 (r 3 p) + D 2 p) = 1000
      · rw [if_pos ((dI_neg ho (by omega)).mpr h1), decide_eq_true h1]
        rfl
      · have ed : dI (D 7 (5 * r 4 (r 3 p) + D 2 p)) = nI (D 7 (5 * r 4 (r 3 p) + D 2 p)) := if_neg h1
        rw [if_neg (fun e => h1 ((dI_neg ho (by omega)).mp e)), decide_eq_false h1, ed, nI_add]
        by_cases h2 : max (r 0 0) (r 5 (r 3 p)) + D 7 (5 * r 4 (r 3 p) + D 2 p) ≤ d
        · rw [if_neg (by rw [nI_lt_iff (by omega) (by omega)]; omega), decide_eq_true h2]
          rfl
        · rw [if_pos (by rw [nI_lt_iff (by omega) (by omega)]; omega), decide_eq_false h2]
          rfl
  · rw [decide_eq_false o1, if_pos t2]
    rfl
theorem jdR_in (ho : LandOk D) (hi : RowIn D r) {p d : Nat} (hp : p < nP D) (hd : d ≤ 9999) : RowIn D (jdR D r p d) := by
  have hq := ho.pr hp
  refine ⟨hi.1, fun q hq => ?_, fun k hk => ?_, fun f hf => hi.2.2.2 f hf⟩
  · have ej := hi.2.1 q hq
    have a1 : jdR D r p d 1 q = if q = p then 1 else r 1 q := by
      unfold jdR
      rw [rset_ne (by decide), rset_ne (by decide), rset_ne (by decide)]
      by_cases e : q = p
      · rw [e, rset_eq, if_pos rfl]
      · rw [rset_np e, if_neg e]
    have a2 : jdR D r p d 2 q = if q = p then d + 1 else r 2 q := by
      unfold jdR
      rw [rset_ne (by decide), rset_ne (by decide)]
      by_cases e : q = p
      · rw [e, rset_eq, if_pos rfl]
      · rw [rset_np e, if_neg e, rset_ne (by decide)]
    have a3 : jdR D r p d 3 q = r 3 q := by
      unfold jdR
      rw [rset_ne (by decide), rset_ne (by decide), rset_ne (by decide), rset_ne (by decide)]
    rw [a1, a2, a3]
    by_cases e : q = p
    · rw [if_pos e, if_pos e]
      exact ⟨by omega, by omega, ej.2.2.1, fun _ => by omega⟩
    · rw [if_neg e, if_neg e]
      exact ej
  · have ek := hi.2.2.1 k hk
    have a4 : jdR D r p d 4 k = if k = r 3 p then D 2 p else r 4 k := by
      unfold jdR
      rw [rset_ne (by decide)]
      by_cases e : k = r 3 p
      · rw [e, rset_eq, if_pos rfl]
      · rw [rset_np e, if_neg e, rset_ne (by decide), rset_ne (by decide)]
    have a5 : jdR D r p d 5 k = if k = r 3 p then d else r 5 k := by
      unfold jdR
      by_cases e : k = r 3 p
      · rw [e, rset_eq, if_pos rfl]
      · rw [rset_np e, if_neg e, rset_ne (by decide), rset_ne (by decide), rset_ne (by decide)]
    rw [a4, a5]
    by_cases e : k = r 3 p
    · rw [if_pos e, if_pos e]
      exact ⟨hq.1, by omega⟩
    · rw [if_neg e, if_neg e]
      exact ek
theorem t_step (ho : LandOk D) (ha : LandA D σ) (hr : RowA D r (σ 78)) (hi : RowIn D r) {p d : Nat} (hp : p < nP D) : ∃ w, (bt (t_X1_end_77 (nI p) 1 (nI d) σ) fun σ9 => t_X1_sendTo_77 (p_X1_holderOf_77 (nI p) σ9) (at_ σ9 5 7 (nI p)) (nI d) σ9) = w ∧ RowA D (jdR D r p d) (w 78) ∧ ∀ c, ¬ c = 78 → w c = σ c := by
  have h7 := ho.p7
  have h3 := ho.k3
  have hk := (hi.2.1 p hp).2.2.1
  have e1 : t_X1_end_77 (nI p) 1 (nI d) σ = st (st σ 78 (1 + p) 1) 78 (8 + p) (nI d) := by
    show put_ (put_ σ 78 31 (nI 1 + nI p) 1) 78 31 (nI 8 + nI p) (nI d) = _
    rw [nI_add, nI_add, put_nI (by omega) (by decide), put_nI (by omega) (by decide)]
  have r1 : RowA D (rset (rset r 1 p 1) 2 p (d + 1)) (st (st σ 78 (1 + p) 1) 78 (8 + p) (nI d) 78) := by
    refine rowA_end ho hp hr fun i => ?_
    rw [st_get, st_get]
    rfl
  have e2 : p_X1_holderOf_77 (nI p) (st (st σ 78 (1 + p) 1) 78 (8 + p) (nI d)) = nI (r 3 p) := by
    have := a_holder (σ := swp (st (st σ 78 (1 + p) 1) 78 (8 + p) (nI d))) ho (r := rset (rset r 1 p 1) 2 p (d + 1)) r1 hp
    rw [rset_ne (by decide), rset_ne (by decide)] at this
    exact this
  have e3 : at_ (st (st σ 78 (1 + p) 1) 78 (8 + p) (nI d)) 5 7 (nI p) = nI (D 2 p) := by
    rw [at_nI (by omega) (by decide), st_cell (by decide), st_cell (by decide)]
    exact (ha.2.2.2.1 p hp).2.1
  refine ⟨_, rfl, ?_, ?_⟩
  · rw [bt_eq, e1, e2, e3]
    show RowA D _ (put_ (put_ (st (st σ 78 (1 + p) 1) 78 (8 + p) (nI d)) 78 31 (nI 22 + nI (r 3 p)) (nI (D 2 p))) 78 31 (nI 25 + nI (r 3 p)) (nI d) 78)
    rw [nI_add, nI_add, put_nI (by omega) (by decide), put_nI (by omega) (by decide)]
    have r2 : RowA D (rset (rset (rset r 1 p 1) 2 p (d + 1)) 4 (r 3 p) (D 2 p)) (st (st (st σ 78 (1 + p) 1) 78 (8 + p) (nI d)) 78 (22 + r 3 p) (nI (D 2 p)) 78) := rowA_4 ho hk r1 (fun i => st_get _ _ _ _ _)
    exact rowA_5 ho hk r2 (fun i => st_get _ _ _ _ _)
  · intro c hc
    rw [bt_eq, e1, e2, e3]
    show put_ (put_ (st (st σ 78 (1 + p) 1) 78 (8 + p) (nI d)) 78 31 (nI 22 + nI (r 3 p)) (nI (D 2 p))) 78 31 (nI 25 + nI (r 3 p)) (nI d) c = _
    rw [nI_add, nI_add, put_nI (by omega) (by decide), put_nI (by omega) (by decide), st_cell hc, st_cell hc, st_cell hc, st_cell hc]
end JUDGE
