/-! the reference's search: who is given when, and what is put behind -/
def ageN (D : LD) (A q : Nat) : Nat := if q = 7 then A else D 3 q
def lmN (D : LD) (pre Dy : Nat → Nat) (q : Nat) : Nat → Nat
  | 0 => 0
  | i + 1 => if pre i = D 6 q then Dy i + 1 else lmN D pre Dy q i
def gvM (D : LD) (r : RD) (pre Dy : Nat → Nat) (m q : Nat) : Nat := if q = 7 then r 0 0 + 1 else if gvn D r q = 0 then lmN D pre Dy q m else gvn D r q
def RhoB (D : LD) (r : RD) (A : Nat) (ρ pre Dy : Nat → Nat) (m : Nat) (L : Int32) : Prop := ∀ q, q < 8 → bit L q = true → ρ q = if gvM D r pre Dy m q = 0 then 0 else rip D (gvM D r pre Dy m q - 1) (ageN D A q) + 1
def FldB (t s A : Nat) (L0 : Int32) (σ : St) : Prop := bit L0 7 = true → σ 79 29 = nI t ∧ σ 79 30 = nI A ∧ σ 79 31 = nI s
def StB (pre Dy Tv : Nat → Nat) (m : Nat) (σ : St) : Prop := ∀ i, i < m → σ 95 i = nI (pre i) ∧ σ 96 i = nI (Dy i) ∧ σ 97 i = nI (Tv i)
def BestB (Z : Nat) (b : BS) (σ : St) : Prop := σ 79 38 = nI Z ∧ match b with
  | none => σ 79 37 = 99999999
  | some x => σ 79 37 = nI x.1 ∧ x.1 < 2 ^ 20 ∧ ∀ i, i < Z → σ 98 i = nI (x.2 i)
def FrB (σ w : St) : Prop := (∀ c, ¬ (c = 79 ∨ 95 ≤ c ∧ c ≤ 98) → w c = σ c) ∧ ∀ i, ¬ i = 37 → w 79 i = σ 79 i
theorem FrB.rf {σ : St} : FrB σ σ := ⟨fun _ _ => rfl, fun _ _ => rfl⟩
theorem FrB.tr {a b c : St} (h : FrB a b) (g : FrB b c) : FrB a c := ⟨fun x hx => (g.1 x hx).trans (h.1 x hx), fun x hx => (g.2 x hx).trans (h.2 x hx)⟩
theorem FrB.b {D : LD} {r : RD} {σ w : St} (h : FrB σ w) (g : RlB D r σ) : RlB D r w := ⟨g.ho, LandB_of (fun i hi => h.2 i (by omega)) (fun a h1 h2 => h.1 a (by omega)) g.hb, by rw [h.1 80 (by omega)]; exact g.rb, g.ri⟩
theorem FrB.f {t s A : Nat} {L0 : Int32} {σ w : St} (h : FrB σ w) (g : FldB t s A L0 σ) : FldB t s A L0 w := fun e => by
  rw [h.2 29 (by decide), h.2 30 (by decide), h.2 31 (by decide)]
  exact g e
section PUT
variable {D : LD} {r : RD} {t s A : Nat} {N : Nat} {ρ pre Dy Tv : Nat → Nat} {L L0 : Int32} {m : Nat} {σ : St}
theorem b_townBy (h : RlB D r σ) (hi : ItOk D t s L0) (hF : FldB t s A L0 σ) {q : Nat} (hq : q < 8) (hb : bit L0 q = true) : o_X10_townBy N (nI q) σ = some (nI (twN D t q), σ) := by
  unfold o_X10_townBy twN
  by_cases e : q = 7
  · have e7 : nI q = (7 : Int32) := by
      rw [e]
      rfl
    rw [if_pos e7, if_pos e]
    rw [e] at hb
    rw [(hF hb).1]
  · have e7 : ¬ nI q = (7 : Int32) := fun x => e ((nI_eq (a := q) (b := 7) (by omega) (by omega)).mp x)
    rw [if_neg e7, if_neg e, b_cka (x := q) (n := 14) _ (by omega) (by decide), w_nI (c := σ 87) (x := q) (by omega), (h.hb.2.2.2.1 q (hi.2.2.2 q (by omega) hb)).2.1]
theorem b_ageBy (h : RlB D r σ) (hi : ItOk D t s L0) (hF : FldB t s A L0 σ) {q : Nat} (hq : q < 8) (hb : bit L0 q = true) : o_X10_ageBy N (nI q) σ = some (nI (ageN D A q), σ) := by
  unfold o_X10_ageBy ageN
  by_cases e : q = 7
  · have e7 : nI q = (7 : Int32) := by
      rw [e]
      rfl
    rw [if_pos e7, if_pos e]
    rw [e] at hb
    rw [(hF hb).2.1]
  · have e7 : ¬ nI q = (7 : Int32) := fun x => e ((nI_eq (a := q) (b := 7) (by omega) (by omega)).mp x)
    rw [if_neg e7, if_neg e, b_cka (x := q) (n := 14) _ (by omega) (by decide), w_nI (c := σ 88) (x := q) (by omega), (h.hb.2.2.2.1 q (hi.2.2.2 q (by omega) hb)).2.2.1]
theorem b_slackBy (h : RlB D r σ) (hi : ItOk D t s L0) (hF : FldB t s A L0 σ) {q : Nat} (hq : q < 8) (hb : bit L0 q = true) : o_X10_slackBy N (nI q) σ = some (nI (slN D s q), σ) := by
  unfold o_X10_slackBy slN
  by_cases e : q = 7
  · have e7 : nI q = (7 : Int32) := by
      rw [e]
      rfl
    rw [if_pos e7, if_pos e]
    rw [e] at hb
    rw [(hF hb).2.2]
  · have e7 : ¬ nI q = (7 : Int32) := fun x => e ((nI_eq (a := q) (b := 7) (by omega) (by omega)).mp x)
    rw [if_neg e7, if_neg e, b_cka (x := q) (n := 14) _ (by omega) (by decide), w_nI (c := σ 89) (x := q) (by omega), (h.hb.2.2.2.1 q (hi.2.2.2 q (by omega) hb)).2.2.2.1]
theorem b_given_loop (h : RlB D r σ) {q : Nat} (hq : q < nP D) (hm : m ≤ 8) (hp : ∀ i, i < m → pre i < 8) (hS : StB pre Dy Tv m σ) : ∀ (c n i : Nat), i + c = m → c < n →
    l_X10_givenBy_49 N n (nI q) (nI m) (oI (lmN D pre Dy q i)) (nI i) σ = some (oI (lmN D pre Dy q m), σ) := by
  intro c
  induction c with
  | zero =>
    intro n i hi hn
    obtain ⟨n, rfl⟩ : ∃ k, n = k + 1 := ⟨n - 1, by omega⟩
    have e : i = m := by omega
    rw [l_X10_givenBy_49, if_pos (nI_le (by omega) (by omega)), e]
  | succ c ih =>
    intro n i hi hn
    obtain ⟨n, rfl⟩ : ∃ k, n = k + 1 := ⟨n - 1, by omega⟩
    have h7 := h.ho.p7
    have es : nI (i + 1) = nI i + 1 := by rw [nI_succ]
    have hg := (h.ho.pr hq).2.2.2.2.1
    have hpi := hp i (by omega)
    obtain ⟨s1, s2, -⟩ := hS i (by omega)
    have i1 := ih n (i + 1) (by omega) (by omega)
    rw [es, lmN] at i1
    rw [l_X10_givenBy_49, if_neg (nI_ge (by omega) (by omega)), b_cka (x := i) (n := 9) _ (by omega) (by decide), b_cka (x := q) (n := 14) _ (by omega) (by decide), b_cka (x := i) (n := 9) _ (by omega) (by decide), nI_clamp (n := i) (by omega), nI_clamp (n := q) (by omega), s1, s2, (h.hb.2.2.2.1 q hq).2.2.2.2.2]
    by_cases e : pre i = D 6 q
    · rw [if_pos e] at i1
      rw [if_pos (by rw [e])]
      exact i1
    · rw [if_neg e] at i1
      rw [if_neg (fun x => e ((nI_eq (by omega) (by omega)).mp x))]
      exact i1
theorem b_givenBy (h : RlB D r σ) (hi : ItOk D t s L0) {q : Nat} (hq : q < 8) (hb : bit L0 q = true) (hm : m ≤ 8) (hp : ∀ i, i < m → pre i < 8) (hS : StB pre Dy Tv m σ) (hN : 7000 ≤ N) :
    o_X10_givenBy N (nI q) (nI m) σ = some (oI (gvM D r pre Dy m q), σ) := by
  unfold o_X10_givenBy j_X10_givenBy_18 gvM
  by_cases e : q = 7
  · have e7 : nI q = (7 : Int32) := by
      rw [e]
      rfl
    rw [if_pos e7, if_pos e7, if_pos e, b_today h]
    rfl
  · have e7 : ¬ nI q = (7 : Int32) := fun x => e ((nI_eq (a := q) (b := 7) (by omega) (by omega)).mp x)
    have hq7 := hi.2.2.2 q (by omega) hb
    have hg := gvn_le h.ho h.ri hq7
    have b21 : σ 80 (21 + q) = oI (gvn D r q) := by
      have e := (h.rb.2.1 q hq7).2.2.2
      rw [show 0 + 21 + q = 21 + q from rfl] at e
      exact e
    rw [if_neg e7, if_neg e7, if_neg e, show (21 : Int32) + nI q = nI (21 + q) from nI_add 21 q, b_cka (x := 21 + q) _ (by omega) (by decide), b_cka (x := 21 + q) _ (by omega) (by decide), nI_clamp (n := 21 + q) (by omega), b21]
    by_cases h0 : gvn D r q = 0
    · have hneg : oI (gvn D r q) < 0 := by
        rw [h0]
        decide
      rw [if_pos hneg, if_pos h0]
      exact b_given_loop (N := N) h hq7 hm hp hS m N 0 (by omega) (by omega)
    · have hnn : ¬ oI (gvn D r q) < 0 := by
        rw [oI_pos h0]
        exact nI_pos (by omega)
      rw [if_neg hnn, if_neg h0]
theorem b_put (h : RlB D r σ) (hi : ItOk D t s L0) (hF : FldB t s A L0 σ) (hA : 1 ≤ A ∧ A ≤ 60) (hsub : ∀ q, q < 8 → bit L q = true → bit L0 q = true) {q a day tr B : Nat} (hq : q < 8) (hb : bit L q = true) (hm : m < 8) (hp : ∀ i, i < m → pre i < 8) (hS : StB pre Dy Tv m σ) (hR : RhoB D r A ρ pre Dy m L)
    (ha : a < nT D) (hd : day ≤ B) (hg : gvM D r pre Dy m q ≤ B + 1) (hB : B ≤ 200000) (ht : tr ≤ 4000) (ht0 : m = 0 → tr = 0) (htm : m ≠ 0 → Tv (m - 1) = tr) (hN : 7000 ≤ N) :
    ∃ w, o_X10_put N (nI q) (nI m) (nI a) (nI day) σ = some (b01 (okN D t s ρ a day L q), w) ∧ (okN D t s ρ a day L q = true → w 95 m = nI q ∧ w 96 m = nI (kpN D t ρ a day q) ∧ w 97 m = nI (tr + D 7 (5 * a + twN D t q))) ∧
      (∀ i, ¬ i = m → w 95 i = σ 95 i ∧ w 96 i = σ 96 i ∧ w 97 i = σ 97 i) ∧ ∀ c, ¬ (95 ≤ c ∧ c ≤ 97) → w c = σ c := by
  have h5 := h.ho.t5
  have hb0 := hsub q hq hb
  have tq := twN_lt h.ho hi hq hb0
  have sq := slN_le h.ho hi hq hb0
  have dq := h.ho.di (i := 5 * a + twN D t q) (by omega)
  have hr := hR q hq hb
  have e5 : (5 : Int32) * nI a + nI (twN D t q) = nI (5 * a + twN D t q) := by
    show nI 5 * nI a + nI _ = _
    rw [nI_mul, nI_add]
  unfold o_X10_put
  rw [b_givenBy h hi hq hb0 (by omega) hp hS hN, bd_some, b_townBy h hi hF hq hb0, bd_some, e5, b_cka (x := 5 * a + twN D t q) (n := 25) _ (by omega) (by decide), nI_clamp (n := 5 * a + twN D t q) (by omega), h.hb.2.2.2.2 _ (by omega)]
  unfold bt
  dsimp only
  by_cases g0 : gvM D r pre Dy m q = 0
  · have hneg : oI (gvM D r pre Dy m q) < 0 := by
      rw [g0]
      decide
    rw [if_pos g0] at hr
    have hno : okN D t s ρ a day L q = false := by
      cases e : okN D t s ρ a day L q
      · rfl
      · exact absurd hr (okN_iff.mp e).2.1
    rw [if_pos hneg, hno]
    exact ⟨σ, rfl, fun e => absurd e Bool.false_ne_true, fun _ _ => ⟨rfl, rfl, rfl⟩, fun _ _ => rfl⟩
  · have hnn : ¬ oI (gvM D r pre Dy m q) < 0 := by
      rw [oI_pos g0]
      exact nI_pos (by omega)
    rw [if_neg g0] at hr
    rw [if_neg hnn]
    by_cases hd7 : D 7 (5 * a + twN D t q) = 1000
    · have ej : dJ (D 7 (5 * a + twN D t q)) = 99999999 := if_pos hd7
      have hno : okN D t s ρ a day L q = false := by
        cases e : okN D t s ρ a day L q
        · rfl
        · exact absurd hd7 (okN_iff.mp e).2.2.1
      rw [ej, if_neg (by decide), hno]
      exact ⟨σ, rfl, fun e => absurd e Bool.false_ne_true, fun _ _ => ⟨rfl, rfl, rfl⟩, fun _ _ => rfl⟩
    · have ej : dJ (D 7 (5 * a + twN D t q)) = nI (D 7 (5 * a + twN D t q)) := if_neg hd7
      have hlt : nI (D 7 (5 * a + twN D t q)) < (99999999 : Int32) := (nI_lt_iff (a := D 7 (5 * a + twN D t q)) (b := 99999999) (by omega) (by omega)).mpr (by omega)
      have hage : 1 ≤ ageN D A q ∧ ageN D A q ≤ 60 := by
        unfold ageN
        by_cases e : q = 7
        · rw [if_pos e]
          exact hA
        · rw [if_neg e]
          exact (h.ho.pr (hi.2.2.2 q (by omega) hb0)).2.1
      have hrl := rip_le h.ho (d := gvM D r pre Dy m q - 1) (a := ageN D A q) hage.2
      rw [ej, if_pos hlt, b_ageBy h hi hF hq hb0, bd_some, oI_pos g0, b_ripeBy h.ho h.hb hage.1 hage.2 (by omega) hN, bd_some, nI_add, b_cka (x := m) (n := 9) _ (by omega) (by decide), nI_clamp (n := m) (by omega)]
      have hk : kpN D t ρ a day q = max (day + D 7 (5 * a + twN D t q)) (rip D (gvM D r pre Dy m q - 1) (ageN D A q)) := by
        unfold kpN
        rw [hr, Nat.add_sub_cancel]
      have hok : okN D t s ρ a day L q = decide (kpN D t ρ a day q ≤ rip D (gvM D r pre Dy m q - 1) (ageN D A q) + slN D s q) := by
        unfold okN
        rw [hb, hr, decide_eq_false hd7, decide_eq_false (by omega), Nat.add_sub_cancel]
        rfl
      generalize rip D (gvM D r pre Dy m q - 1) (ageN D A q) = R at hk hok hrl
      generalize hKK : kpN D t ρ a day q = K at hk hok
      have last : ∀ w0 : St, (∀ c, ¬ c = 95 → w0 c = σ c) → w0 95 m = nI q → (∀ i, ¬ i = m → w0 95 i = σ 95 i) → ∀ K', K' = K →
          ∃ w, j_X10_put_84 N (nI q) (nI m) (nI (D 7 (5 * a + twN D t q))) (nI R) (nI m) (nI K') w0 = some (b01 (okN D t s ρ a day L q), w) ∧ (okN D t s ρ a day L q = true → w 95 m = nI q ∧ w 96 m = nI K ∧ w 97 m = nI (tr + D 7 (5 * a + twN D t q))) ∧
            (∀ i, ¬ i = m → w 95 i = σ 95 i ∧ w 96 i = σ 96 i ∧ w 97 i = σ 97 i) ∧ ∀ c, ¬ (95 ≤ c ∧ c ≤ 97) → w c = σ c := by
        intro w0 c1 c2 c3 K' eK
        rw [eK]
        have hw : st (st w0 96 m (nI K)) 97 m (nI (tr + D 7 (5 * a + twN D t q))) 96 m = nI K := by
          rw [st_cell (by decide), st_same]
        have hw95 : ∀ i, st (st w0 96 m (nI K)) 97 m (nI (tr + D 7 (5 * a + twN D t q))) 95 i = w0 95 i := fun i => by
          rw [st_cell (by decide), st_cell (by decide)]
        have hwc : ∀ c, ¬ (95 ≤ c ∧ c ≤ 97) → st (st w0 96 m (nI K)) 97 m (nI (tr + D 7 (5 * a + twN D t q))) c = σ c := fun c hc => by
          rw [st_cell (by omega), st_cell (by omega), c1 c (by omega)]
        have hfr : FrB σ (st (st w0 96 m (nI K)) 97 m (nI (tr + D 7 (5 * a + twN D t q)))) := ⟨fun c hc => hwc c (by omega), fun i _ => by rw [hwc 79 (by omega)]⟩
        have tail : j_X10_put_108 N (nI q) (nI m) (nI R) (nI m) (nI (D 7 (5 * a + twN D t q))) (nI tr) (st w0 96 m (nI K)) = some (b01 (okN D t s ρ a day L q), st (st w0 96 m (nI K)) 97 m (nI (tr + D 7 (5 * a + twN D t q)))) := by
          unfold j_X10_put_108 bt
          dsimp only
          rw [b_cka (x := m) (n := 9) _ (by omega) (by decide), b_cka (x := m) (n := 9) _ (by omega) (by decide), nI_clamp (n := m) (by omega), nI_add, Nat.add_comm (D 7 (5 * a + twN D t q)) tr, b_slackBy (hfr.b h) hi (hfr.f hF) hq hb0, bd_some, hw, nI_add, hok]
          by_cases c : K ≤ R + slN D s q
          · rw [if_neg (by rw [nI_lt_iff (by omega) (by omega)]; omega), decide_eq_true c]
            rfl
          · rw [if_pos (by rw [nI_lt_iff (by omega) (by omega)]; omega), decide_eq_false c]
            rfl
        refine ⟨st (st w0 96 m (nI K)) 97 m (nI (tr + D 7 (5 * a + twN D t q))), ?_, fun _ => ⟨(hw95 m).trans c2, hw, st_same⟩, fun i hi2 => ⟨(hw95 i).trans (c3 i hi2), ?_, ?_⟩, hwc⟩
        · unfold j_X10_put_84 bt
          dsimp only
          rw [b_cka (x := m) (n := 9) _ (by omega) (by decide), nI_clamp (n := m) (by omega)]
          by_cases m0 : m = 0
          · have em : nI m = 0 := by
              rw [m0]
              rfl
            have et : nI tr = 0 := by
              rw [ht0 m0]
              rfl
            rw [if_pos em, ← et]
            exact tail
          · have em : ¬ nI m = 0 := fun e => m0 ((nI_eq (a := m) (b := 0) (by omega) (by omega)).mp e)
            have e1 : nI m - 1 = nI (m - 1) := nI_sub (b := 1) (by omega)
            have e97 : st w0 96 m (nI K) 97 (m - 1) = nI tr := by
              rw [st_cell (by decide), c1 97 (by decide), (hS (m - 1) (by omega)).2.2, htm m0]
            rw [if_neg em, e1, b_cka (x := m - 1) (n := 9) _ (by omega) (by decide), nI_clamp (n := m - 1) (by omega), e97]
            exact tail
        · rw [st_cell (by decide), st_place hi2, c1 96 (by decide)]
        · rw [st_place hi2, st_cell (by decide), c1 97 (by decide)]
      by_cases c : day + D 7 (5 * a + twN D t q) ≤ R
      · rw [if_pos (nI_le c (by omega))]
        exact last (st σ 95 m (nI q)) (fun c hc => st_cell hc) st_same (fun i hi2 => st_place hi2) R (by omega)
      · rw [if_neg (by rw [nI_le_iff (by omega) (by omega)]; exact c)]
        exact last (st σ 95 m (nI q)) (fun c hc => st_cell hc) st_same (fun i hi2 => st_place hi2) _ (by omega)
end PUT
