/-! the class asks whether a keeper can keep all of a set -/
def rho0 (D : LD) (r : RD) (T : Nat) : Nat → Nat := fun p => if p = 7 then T else ripV D r p
/-- the best order, from now -/
def bestO (D : LD) (r : RD) (t s T : Nat) (any : Bool) (k : Nat) (L : Int32) : BS := srch D t s any 10 (rho0 D r T) (r 4 k) (r 0 0) 0 L 0 (fun _ => 0) none
/-- a set of open ones, the tried one perhaps -/
def SetOk (D : LD) (r : RD) (t s T : Nat) (L : Int32) : Prop := S8 L ∧ ItOk D t s L ∧ T ≤ 20000 ∧ ∀ p, p < 7 → bit L p = true → r 1 p = 0
section ALL
variable {D : LD} {r : RD} {t s T : Nat} {any : Bool} {N : Nat} {L : Int32}
theorem rho0_inv (h : RlZ D r) (hS : SetOk D r t s T L) : InvN D (rho0 D r T) L := by
  intro q hq hb h9 hg
  have h7 := h.ho.p7
  have hq6 := (h.ho.pr hq).2.2.2.2.1
  unfold rho0
  rw [if_neg (by omega)]
  refine (gvn_rip D r).mp ?_
  unfold gvn
  rw [if_neg h9, if_neg]
  have := hS.2.2.2 (D 6 q) (by omega) hg
  omega
theorem rho0_bd (h : RlZ D r) (hS : SetOk D r t s T L) : BdN (rho0 D r T) L 20000 := by
  intro p hp hb
  unfold rho0
  by_cases e : p = 7
  · rw [if_pos e]
    exact hS.2.2.1
  · rw [if_neg e]
    have := ripV_le h (hS.2.1.2.2.2 p (by omega) hb)
    omega
theorem pc_le (L : Int32) : pc L ≤ 8 := cnt_le _ 8
theorem a_hasg (L : Int32) {g : Nat} (hg : g ≤ 9) (σ : St) : p_X9_has L (gI g) σ = b01 (!decide (g = 9) && bit L g) := by
  unfold gI
  by_cases e : g = 9
  · rw [if_pos e, decide_eq_true e]
    unfold p_X9_has j_X9_has_22
    rw [if_pos (by decide)]
    rfl
  · rw [if_neg e, decide_eq_false e, a_hasb L (by omega)]
    rfl
theorem a_prep_loop (h0 : LandOk D) (hi : RowIn D r) : ∀ (c n p : Nat) (σ : St), LandA D σ → RowA D r (σ 24) → p + c = nP D → c < n →
    ∃ w, (∀ a, ¬ (64 ≤ a ∧ a ≤ 66) → w a = σ a) ∧ (∀ a i, i < p ∨ nP D ≤ i → w a i = σ a i) ∧
    ((l_X8_prepare_2 N n L (nI p) σ = some (0, w) ∧ ∃ q, q < nP D ∧ bit L q = true ∧ ripV D r q = 0 ∧ (D 6 q ≠ 9 → bit L (D 6 q) = false)) ∨
    (l_X8_prepare_2 N n L (nI p) σ = some (1, w) ∧ ∀ q, p ≤ q → q < nP D → bit L q = true → w 64 q = nI (D 2 q) ∧ w 65 q = nI (D 4 q) ∧ w 66 q = oI (ripV D r q))) := by
  intro c
  induction c with
  | zero =>
    intro n p σ ha hr hp hn
    obtain ⟨n, rfl⟩ : ∃ k, n = k + 1 := ⟨n - 1, by omega⟩
    have h7 := h0.p7
    refine ⟨σ, fun _ _ => rfl, fun _ _ _ => rfl, Or.inr ⟨?_, fun q h1 h2 => by omega⟩⟩
    rw [l_X8_prepare_2, ha.1.2.2.2, if_pos (nI_le (by omega) (by omega))]
  | succ c ih =>
    intro n p σ ha hr hp hn
    obtain ⟨n, rfl⟩ : ∃ k, n = k + 1 := ⟨n - 1, by omega⟩
    have h7 := h0.p7
    have hlt : p < nP D := by omega
    have hq := h0.pr hlt
    have es : nI (p + 1) = nI p + 1 := by rw [nI_succ]
    have e1 : ¬ b01 true = 0 := one_ne
    have e2 : b01 false = 0 := rfl
    have hrv := ripV_le ⟨h0, hi⟩ hlt
    rw [l_X8_prepare_2, ha.1.2.2.2, if_neg (nI_ge hlt (by omega)), a_hasb L (g := p) (by omega)]
    cases hb : bit L p
    · rw [if_pos e2]
      obtain ⟨w, i1, i2, i3⟩ := ih n (p + 1) σ ha hr (by omega) (by omega)
      rw [es] at i3
      refine ⟨w, i1, fun a i hi2 => i2 a i (by omega), ?_⟩
      rcases i3 with ⟨j1, j2⟩ | ⟨j1, j2⟩
      · exact Or.inl ⟨j1, j2⟩
      · refine Or.inr ⟨j1, fun q h1 h2 h3 => ?_⟩
        by_cases e : q = p
        · rw [e, hb] at h3
          cases h3
        · exact j2 q (by omega) h2 h3
    · rw [if_neg e1]
      unfold bt
      dsimp only
      have q1 : put_ σ 64 8 (nI p) (nI (D 2 p)) = st σ 64 p (nI (D 2 p)) := put_nI (by omega) (by decide)
      have q2 : st σ 64 p (nI (D 2 p)) 7 p = nI (D 4 p) := by
        rw [st_cell (by decide)]
        exact (ha.2.2.2.1 p hlt).2.2.2.1
      rw [at_nI (σ := σ) (k := 5) (j := p) (n := 7) (by omega) (by decide), (ha.2.2.2.1 p hlt).2.1, q1, at_nI (k := 7) (j := p) (n := 7) (by omega) (by decide), q2, put_nI (k := 65) (by omega) (by decide)]
      have hw1 : ∀ a, ¬ (64 ≤ a ∧ a ≤ 66) → st (st σ 64 p (nI (D 2 p))) 65 p (nI (D 4 p)) a = σ a := fun a ha => (st_cell (by omega)).trans (st_cell (by omega))
      have g1 : RlA D r (st (st σ 64 p (nI (D 2 p))) 65 p (nI (D 4 p))) := ⟨h0, LandA_of (fun a ha => hw1 a (by omega)) ha, by rw [hw1 24 (by omega)]; exact hr, hi⟩
      rw [a_ripeOn g1 hlt, bd_some, put_nI (by omega) (by decide)]
      have hw2 : ∀ a, ¬ (64 ≤ a ∧ a ≤ 66) → st (st (st σ 64 p (nI (D 2 p))) 65 p (nI (D 4 p))) 66 p (oI (ripV D r p)) a = σ a := fun a ha => (st_cell (by omega)).trans (hw1 a ha)
      have hp2 : ∀ a i, i < p ∨ nP D ≤ i → st (st (st σ 64 p (nI (D 2 p))) 65 p (nI (D 4 p))) 66 p (oI (ripV D r p)) a i = σ a i := by
        intro a i hi2
        by_cases c1 : a = 66
        · rw [c1, st_place (by omega), st_cell (by decide), st_cell (by decide)]
        · rw [st_cell c1]
          by_cases c2 : a = 65
          · rw [c2, st_place (by omega), st_cell (by decide)]
          · rw [st_cell c2]
            by_cases c3 : a = 64
            · rw [c3, st_place (by omega)]
            · rw [st_cell c3]
      have ha2 : LandA D (st (st (st σ 64 p (nI (D 2 p))) 65 p (nI (D 4 p))) 66 p (oI (ripV D r p))) := LandA_of (fun a ha => hw2 a (by omega)) ha
      rw [at_nI (j := p) (n := 8) (by omega) (by decide), st_same, at_nI (j := p) (n := 7) (by omega) (by decide), (ha2.2.2.2.1 p hlt).2.2.2.2.2, a_hasg L (by omega)]
      have go : ∃ w, (∀ a, ¬ (64 ≤ a ∧ a ≤ 66) → w a = σ a) ∧ (∀ a i, i < p ∨ nP D ≤ i → w a i = σ a i) ∧
          ((j_X8_prepare_107 N (l_X8_prepare_2 N n) L (nI p) (st (st (st σ 64 p (nI (D 2 p))) 65 p (nI (D 4 p))) 66 p (oI (ripV D r p))) = some (0, w) ∧ ∃ q, q < nP D ∧ bit L q = true ∧ ripV D r q = 0 ∧ (D 6 q ≠ 9 → bit L (D 6 q) = false)) ∨
          (j_X8_prepare_107 N (l_X8_prepare_2 N n) L (nI p) (st (st (st σ 64 p (nI (D 2 p))) 65 p (nI (D 4 p))) 66 p (oI (ripV D r p))) = some (1, w) ∧ ∀ q, p ≤ q → q < nP D → bit L q = true → w 64 q = nI (D 2 q) ∧ w 65 q = nI (D 4 q) ∧ w 66 q = oI (ripV D r q))) := by
        obtain ⟨w, i1, i2, i3⟩ := ih n (p + 1) _ ha2 (by rw [hw2 24 (by omega)]; exact hr) (by omega) (by omega)
        rw [es] at i3
        refine ⟨w, fun a ha => (i1 a ha).trans (hw2 a ha), fun a i hi2 => (i2 a i (by omega)).trans (hp2 a i hi2), ?_⟩
        rcases i3 with ⟨j1, j2⟩ | ⟨j1, j2⟩
        · exact Or.inl ⟨j1, j2⟩
        · refine Or.inr ⟨j1, fun q h1 h2 h3 => ?_⟩
          by_cases e : q = p
          · rw [e, i2 64 p (by omega), i2 65 p (by omega), i2 66 p (by omega), st_same, st_cell (by decide), st_cell (by decide), st_same, st_cell (by decide), st_same]
            exact ⟨rfl, rfl, rfl⟩
          · exact j2 q (by omega) h2 h3
      by_cases hz : ripV D r p = 0
      · rw [if_pos ((oI_neg (by omega)).mpr hz)]
        cases hc : !decide (D 6 p = 9) && bit L (D 6 p)
        · rw [if_pos e2]
          refine ⟨_, hw2, hp2, Or.inl ⟨rfl, p, hlt, hb, hz, fun h9 => ?_⟩⟩
          rw [decide_eq_false h9] at hc
          simpa using hc
        · rw [if_neg e1]
          exact go
      · rw [if_neg (fun e => hz ((oI_neg (by omega)).mp e))]
        exact go
theorem a_canAll {σ : St} (h : RlA D r σ) (hS : SetOk D r t s T L) (hT : bit L 7 = true → σ 64 7 = nI t ∧ σ 65 7 = nI s ∧ σ 66 7 = oI T) {k : Nat} (hk : k < nK D) (hN : 7000 ≤ N) :
    ∃ w, o_X8_canKeepAll N (nI k) L (b01 any) σ = some (b01 (bestO D r t s T any k L).isSome, w) ∧ BestA any (pc L) (bestO D r t s T any k L) w ∧ ∀ c, ¬ (63 ≤ c ∧ c ≤ 68) → w c = σ c := by
  have h7 := h.ho.p7
  have h3 := h.ho.k3
  have hd := h.ri.1
  have ht := (h.ri.2.2.1 k hk).1
  have e1 : ¬ b01 true = 0 := one_ne
  have e0 : (0 : Int32) = 0 := rfl
  have hw0 : ∀ a, ¬ a = 63 → st (st (st σ 63 8 (-1)) 63 7 0) 63 9 (b01 any) a = σ a := fun a ha => ((st_cell ha).trans (st_cell ha)).trans (st_cell ha)
  have h639 : st (st (st σ 63 8 (-1)) 63 7 0) 63 9 (b01 any) 63 9 = b01 any := st_same
  have h638 : st (st (st σ 63 8 (-1)) 63 7 0) 63 9 (b01 any) 63 8 = -1 := by
    rw [st_place (by decide), st_place (by decide), st_same]
  have hck : ∀ o : Option (Int32 × St), ckB (b01 any) o = o := by
    intro o
    unfold ckB
    cases any
    · exact if_pos (Or.inl rfl)
    · exact if_pos (Or.inr rfl)
  have fin : ∀ (b : BS) (w : St), BestA any (pc L) b w → j_X8_canKeepAll_45 N w = some (b01 b.isSome, w) := by
    intro b w hb
    unfold j_X8_canKeepAll_45
    obtain ⟨-, hb⟩ := hb
    cases b with
    | none =>
      dsimp only at hb
      rw [if_pos hb]
      rfl
    | some x =>
      dsimp only at hb
      rw [hb.1, if_neg (nI_neg1 (by omega))]
      rfl
  unfold o_X8_canKeepAll
  unfold bt
  dsimp only
  rw [hck]
  obtain ⟨w1, i1, i2, i3⟩ := a_prep_loop (N := N) (L := L) h.ho h.ri (nP D) N 0 (st (st (st σ 63 8 (-1)) 63 7 0) 63 9 (b01 any)) (LandA_of (fun a ha => hw0 a (by omega)) h.ha) (by rw [hw0 24 (by decide)]; exact h.ra) (by omega) (by omega)
  have hpre : ∀ v, l_X8_prepare_2 N N L (nI 0) (st (st (st σ 63 8 (-1)) 63 7 0) 63 9 (b01 any)) = v → o_X8_prepare N L (st (st (st σ 63 8 (-1)) 63 7 0) 63 9 (b01 any)) = v := fun v hv => hv
  have hb0 : BestA any (pc L) none w1 := by
    refine ⟨?_, ?_⟩
    · rw [i1 63 (by omega)]
      exact h639
    · dsimp only
      rw [i1 63 (by omega)]
      exact h638
  have hfr1 : ∀ c, ¬ (63 ≤ c ∧ c ≤ 68) → w1 c = σ c := fun c hc => (i1 c (by omega)).trans (hw0 c (by omega))
  rcases i3 with ⟨j1, q, q1, q2, q3, q4⟩ | ⟨j1, j2⟩
  · rw [hpre _ j1, bd_some, if_pos e0, fin none w1 hb0]
    have : bestO D r t s T any k L = none := by
      unfold bestO
      refine srch_p3 h.ho 10 _ _ _ _ _ _ _ q q1 q2 ?_ q4
      unfold rho0
      rw [if_neg (by omega)]
      exact q3
    rw [this]
    exact ⟨w1, rfl, hb0, hfr1⟩
  · have ha1 : LandA D w1 := LandA_of (fun a ha => hfr1 a (by omega)) h.ha
    have hr1 : RowA D r (w1 24) := by
      rw [hfr1 24 (by omega)]
      exact h.ra
    rw [hpre _ j1, bd_some, if_neg one_ne, a_town h.ho hr1 hk, a_today hr1]
    have hSr : SrA D t s (rho0 D r T) L w1 := by
      refine ⟨ha1, fun p hp hb => ?_⟩
      unfold twN slN rho0
      by_cases e : p = 7
      · rw [if_pos e, if_pos e, if_pos e, e, i2 64 7 (by omega), i2 65 7 (by omega), i2 66 7 (by omega), hw0 64 (by decide), hw0 65 (by decide), hw0 66 (by decide)]
        rw [e] at hb
        exact hT hb
      · rw [if_neg e, if_neg e, if_neg e]
        exact j2 p (by omega) (hS.2.1.2.2.2 p (by omega) hb) hb
    have hpl := pc_le L
    obtain ⟨w, x1, x2, x3, x4, x5⟩ := a_extend (D := D) (t := t) (s := s) (any := any) (N := N) (Z := pc L) h.ho hpl hN 10 (rho0 D r T) (r 4 k) (r 0 0) 0 L 0 (fun _ => 0) none 20000 w1 (by omega) (by omega) hS.1 hS.2.1 (rho0_inv h.z hS) ht (rho0_bd h.z hS) (by omega) (by omega) (by omega) hSr (fun i hi => by omega) hb0
    have hx : o_X8_extend N 0 (nI (r 4 k)) (nI (r 0 0)) 0 L w1 = some ((), w) := x1
    rw [hx, bd_some, fin _ w x2]
    exact ⟨w, rfl, x2, fun c hc => (x5 c (by omega)).trans (hfr1 c hc)⟩
end ALL
