/-! the reference's search, level by level -/
def LvOk (D : LD) (r : RD) (t s A k : Nat) (L0 : Int32) (ρ : Nat → Nat) (a day tr : Nat) (L : Int32) (m : Nat) (pre Dy Tv : Nat → Nat) (B : Nat) : Prop :=
  (S8 L ∧ ItOk D t s L0 ∧ ∀ q, q < 8 → bit L q = true → bit L0 q = true) ∧ (∀ i, i < m → pre i < 8 ∧ bit L0 (pre i) = true ∧ Dy i ≤ B) ∧ (∀ p, p < 7 → bit L0 p = true → r 1 p = 0) ∧
  (a < nT D ∧ day ≤ B ∧ 10000 ≤ B ∧ B + 7000 * pc L ≤ 200000 ∧ tr + 300 * pc L ≤ 4000) ∧ RhoB D r A ρ pre Dy m L ∧
  ((m = 0 → a = r 4 k ∧ day = r 0 0 ∧ tr = 0) ∧ (m ≠ 0 → a = twN D t (pre (m - 1)) ∧ day = Dy (m - 1) ∧ tr = Tv (m - 1)))
section LEV
variable {D : LD} {r : RD} {t s A : Nat} {any : Bool} {N Z k : Nat} {L0 : Int32} {ρ pre Dy Tv : Nat → Nat} {a day tr m B : Nat} {L : Int32}
theorem lmN_congr {pre' Dy' : Nat → Nat} {q : Nat} : ∀ (n : Nat), (∀ i, i < n → pre' i = pre i ∧ Dy' i = Dy i) → lmN D pre' Dy' q n = lmN D pre Dy q n
  | 0, _ => rfl
  | n + 1, h => by
    rw [lmN, lmN, lmN_congr n (fun i hi => h i (by omega)), (h n (by omega)).1, (h n (by omega)).2]
theorem lmN_le {q : Nat} : ∀ (n : Nat), (∀ i, i < n → Dy i ≤ B) → lmN D pre Dy q n ≤ B + 1
  | 0, _ => by
    rw [lmN]
    omega
  | n + 1, h => by
    have h1 := lmN_le (q := q) n (fun i hi => h i (by omega))
    have h2 := h n (by omega)
    rw [lmN]
    split
    · omega
    · exact h1
theorem gvM_le (g : RlZ D r) (h : LvOk D r t s A k L0 ρ a day tr L m pre Dy Tv B) {q : Nat} (hq : q < 8) (hb : bit L q = true) : gvM D r pre Dy m q ≤ B + 1 := by
  obtain ⟨⟨h1, h2, h3⟩, h4, h5, h6, h7, h8⟩ := h
  have hd := g.ri.1
  unfold gvM
  by_cases e : q = 7
  · rw [if_pos e]
    omega
  · rw [if_neg e]
    have hg := gvn_le g.ho g.ri (h2.2.2.2 q (by omega) (h3 q hq hb))
    by_cases e0 : gvn D r q = 0
    · rw [if_pos e0]
      exact lmN_le m (fun i hi => (h4 i hi).2.2)
    · rw [if_neg e0]
      omega
theorem rip_gv (g : RlZ D r) (hA : 1 ≤ A ∧ A ≤ 60) (h : LvOk D r t s A k L0 ρ a day tr L m pre Dy Tv B) {q : Nat} (hq : q < 8) (hb : bit L q = true) : ρ q ≤ B + 6310 := by
  have h1 := gvM_le g h hq hb
  obtain ⟨⟨h1, h2, h3⟩, h4, h5, h6, h7, h8⟩ := h
  rw [h7 q hq hb]
  have hage : ageN D A q ≤ 60 := by
    unfold ageN
    by_cases e : q = 7
    · rw [if_pos e]
      exact hA.2
    · rw [if_neg e]
      exact (g.ho.pr (h2.2.2.2 q (by omega) (h3 q hq hb))).2.1.2
  by_cases e0 : gvM D r pre Dy m q = 0
  · rw [if_pos e0]
    omega
  · rw [if_neg e0]
    have := rip_le g.ho (d := gvM D r pre Dy m q - 1) (a := ageN D A q) hage
    omega
/-- one level deeper -/
theorem LvOk_push (g : RlZ D r) (hA : 1 ≤ A ∧ A ≤ 60) (h : LvOk D r t s A k L0 ρ a day tr L m pre Dy Tv B) {q : Nat} (hq : q < 8) (hok : okN D t s ρ a day L q = true) :
    LvOk D r t s A k L0 (rhoK D ρ q (kpN D t ρ a day q)) (twN D t q) (kpN D t ρ a day q) (tr + D 7 (5 * a + twN D t q)) (rmv L q) (m + 1) (setN pre m q) (setN Dy m (kpN D t ρ a day q)) (setN Tv m (tr + D 7 (5 * a + twN D t q))) (B + 7000) := by
  obtain ⟨q1, q2, q3, q4⟩ := okN_iff.mp hok
  have hrl := rip_gv g hA h hq q1
  obtain ⟨⟨h1, h2, h3⟩, h4, h5, ⟨h6a, h6b, h6c, h6d, h6e⟩, h7, h8⟩ := h
  have hp5 := g.ho.t5
  have hp7 := g.ho.p7
  have tq := twN_lt g.ho h2 hq (h3 q hq q1)
  have dq := g.ho.di (i := 5 * a + twN D t q) (by omega)
  have hpc := pc_rmv hq q1
  have hk : kpN D t ρ a day q ≤ B + 6999 := by
    unfold kpN
    omega
  have sN : ∀ (f : Nat → Nat) (v i : Nat), i < m → setN f m v i = f i := fun f v i hi => if_neg (by omega)
  have sM : ∀ (f : Nat → Nat) (v : Nat), setN f m v m = v := fun f v => if_pos rfl
  refine ⟨⟨S8_rmv (by omega) h1, h2, fun p hp hb => h3 p hp (rmv_of (by omega) (by omega) hb).1⟩, fun i hi => ?_, h5, ⟨tq, by omega, by omega, by omega, by omega⟩, fun p hp hb => ?_, fun e => absurd e (Nat.succ_ne_zero m), fun _ => ?_⟩
  · by_cases e : i = m
    · rw [e, sM, sM]
      exact ⟨hq, h3 q hq q1, by omega⟩
    · rw [sN _ _ i (by omega), sN _ _ i (by omega)]
      obtain ⟨x1, x2, x3⟩ := h4 i (by omega)
      exact ⟨x1, x2, by omega⟩
  · obtain ⟨b1, b2⟩ := rmv_of (by omega) (by omega) hb
    have hr := h7 p hp b1
    have hp0 := h3 p hp b1
    unfold gvM ageN at hr ⊢
    by_cases e7 : p = 7
    · rw [if_pos e7, if_pos e7] at hr ⊢
      unfold rhoK
      rw [if_neg (by omega)]
      exact hr
    · have hpP := h2.2.2.2 p (by omega) hp0
      have hg6 := (g.ho.pr hpP).2.2.2.2.1
      rw [if_neg e7, if_neg e7] at hr ⊢
      have hcg : lmN D (setN pre m q) (setN Dy m (kpN D t ρ a day q)) p m = lmN D pre Dy p m := lmN_congr m (fun i hi => ⟨sN _ _ i hi, sN _ _ i hi⟩)
      rw [lmN, sM, sM, hcg]
      unfold rhoK
      by_cases e : D 6 p = q
      · have hgv : gvn D r p = 0 := by
          unfold gvn
          rw [if_neg (by omega), if_neg]
          have := h5 q (by omega) (h3 q hq q1)
          rw [e]
          omega
        rw [if_pos ⟨hpP, e⟩, if_pos hgv, if_pos e.symm, if_neg (by omega), Nat.add_sub_cancel]
      · have e' : ¬ q = D 6 p := fun x => e x.symm
        rw [if_neg (fun x => e x.2), if_neg e']
        exact hr
  · rw [Nat.add_sub_cancel, sM, sM, sM]
    exact ⟨rfl, rfl, rfl⟩
theorem b_scan (hA : 1 ≤ A ∧ A ≤ 60) (hv : LvOk D r t s A k L0 ρ a day tr L m pre Dy Tv B) (hm : m < 8) (hN : 7000 ≤ N) (kI anyI v5 : Int32) : ∀ (c n p : Nat) (σ : St), p + c = 8 → c < n → RlB D r σ → FldB t s A L0 σ → StB pre Dy Tv m σ →
    ∃ q w, (p ≤ q ∧ q ≤ 8) ∧ (∀ K, l_X10_findOrder_150 N K n kI anyI (nI m) v5 L (nI a) (nI day) (nI p) σ = j_X10_findOrder_188 N K kI anyI (nI m) v5 L (nI q) w) ∧
      (∀ REC b, srF D t s REC ρ a day tr L m pre c p b = srF D t s REC ρ a day tr L m pre (8 - q) q b) ∧ (q < 8 → okN D t s ρ a day L q = true ∧ w 95 m = nI q ∧ w 96 m = nI (kpN D t ρ a day q) ∧ w 97 m = nI (tr + D 7 (5 * a + twN D t q))) ∧
      StB pre Dy Tv m w ∧ ∀ c, ¬ (95 ≤ c ∧ c ≤ 97) → w c = σ c := by
  intro c
  induction c with
  | zero =>
    intro n p σ hp hn h hF hS
    obtain ⟨n, rfl⟩ : ∃ k, n = k + 1 := ⟨n - 1, by omega⟩
    have e : p = 8 := by omega
    subst e
    refine ⟨8, σ, ⟨by omega, by omega⟩, fun K => ?_, fun _ _ => rfl, fun x => by omega, hS, fun _ _ => rfl⟩
    rw [l_X10_findOrder_150, if_pos (show (7 : Int32) < nI 8 from (nI_lt_iff (a := 7) (b := 8) (by omega) (by omega)).mpr (by omega))]
  | succ c ih =>
    intro n p σ hp hn h hF hS
    obtain ⟨n, rfl⟩ : ∃ k, n = k + 1 := ⟨n - 1, by omega⟩
    have es : nI (p + 1) = nI p + 1 := by rw [nI_succ]
    have hlt : ¬ (7 : Int32) < nI p := fun e => absurd ((nI_lt_iff (a := 7) (b := p) (by omega) (by omega)).mp e) (by omega)
    have skip : ∀ σ', ¬ okN D t s ρ a day L p = true → RlB D r σ' → FldB t s A L0 σ' → StB pre Dy Tv m σ' → (∀ c, ¬ (95 ≤ c ∧ c ≤ 97) → σ' c = σ c) → ∃ q w, (p ≤ q ∧ q ≤ 8) ∧ (∀ K, j_X10_findOrder_182 N K (l_X10_findOrder_150 N K n) kI anyI (nI m) v5 L (nI a) (nI day) (nI p) σ' = j_X10_findOrder_188 N K kI anyI (nI m) v5 L (nI q) w) ∧
        (∀ REC b, srF D t s REC ρ a day tr L m pre (c + 1) p b = srF D t s REC ρ a day tr L m pre (8 - q) q b) ∧ (q < 8 → okN D t s ρ a day L q = true ∧ w 95 m = nI q ∧ w 96 m = nI (kpN D t ρ a day q) ∧ w 97 m = nI (tr + D 7 (5 * a + twN D t q))) ∧
        StB pre Dy Tv m w ∧ ∀ c, ¬ (95 ≤ c ∧ c ≤ 97) → w c = σ c := by
      intro σ' hno h' hF' hS' hc'
      obtain ⟨q, w, i1, i2, i3, i4, i5, i6⟩ := ih n (p + 1) σ' (by omega) (by omega) h' hF' hS'
      rw [es] at i2
      refine ⟨q, w, ⟨by omega, i1.2⟩, i2, fun REC b => ?_, i4, i5, fun c hc => (i6 c hc).trans (hc' c hc)⟩
      rw [srF, if_neg hno]
      exact i3 REC b
    have e1 : ¬ b01 true = 0 := one_ne
    have e2 : b01 false = 0 := rfl
    cases hb : bit L p
    · obtain ⟨q, w, i1, i2, i3⟩ := skip σ (fun x => by have := (okN_iff.mp x).1; rw [hb] at this; cases this) h hF hS (fun _ _ => rfl)
      refine ⟨q, w, i1, fun K => ?_, i3⟩
      rw [l_X10_findOrder_150, if_neg hlt, b_has L (g := p) (by omega), hb, if_pos e2]
      exact i2 K
    · have hg := gvM_le h.z hv (by omega) hb
      obtain ⟨⟨h1, h2, h3⟩, h4, h5, ⟨h6a, h6b, h6c, h6d, h6e⟩, h7, h8⟩ := hv
      obtain ⟨w1, p1, p2, p3, p4⟩ := b_put (N := N) h h2 hF hA h3 (q := p) (B := B) (by omega) hb hm (fun i hi => (h4 i hi).1) hS h7 h6a h6b hg (by omega) (by omega) (fun e => (h8.1 e).2.2) (fun e => (h8.2 e).2.2.symm) hN
      have hfr : FrB σ w1 := ⟨fun c hc => p4 c (by omega), fun i _ => by rw [p4 79 (by omega)]⟩
      have hS1 : StB pre Dy Tv m w1 := fun i hi => by
        rw [(p3 i (by omega)).1, (p3 i (by omega)).2.1, (p3 i (by omega)).2.2]
        exact hS i hi
      cases hok : okN D t s ρ a day L p
      · obtain ⟨q, w, i1, i2, i3⟩ := skip w1 (fun x => by rw [hok] at x; cases x) (hfr.b h) (hfr.f hF) hS1 p4
        refine ⟨q, w, i1, fun K => ?_, i3⟩
        rw [l_X10_findOrder_150, if_neg hlt, b_has L (g := p) (by omega), hb, if_neg e1, p1, bd_some, hok, if_pos e2]
        exact i2 K
      · have e8 : 8 - p = c + 1 := by omega
        refine ⟨p, w1, ⟨by omega, by omega⟩, fun K => ?_, fun REC b => ?_, fun _ => ⟨hok, p2 hok⟩, hS1, p4⟩
        · rw [l_X10_findOrder_150, if_neg hlt, b_has L (g := p) (by omega), hb, if_neg e1, p1, bd_some, hok, if_neg e1]
        · rw [e8]
theorem b_step {σ : St} (h : RlB D r σ) (hv : LvOk D r t s A k L0 ρ a day tr L m pre Dy Tv B) (hF : FldB t s A L0 σ) (hS : StB pre Dy Tv m σ) (hk : k < nK D) (hm : m < 8) (K : Int32 → Int32 → Int32 → Int32 → Int32 → St → Option (Int32 × St)) (anyI v5 : Int32) :
    j_X10_findOrder_88 N K (nI k) anyI (nI m) v5 L σ = l_X10_findOrder_150 N K N (nI k) anyI (nI m) v5 L (nI a) (nI day) v5 σ := by
  obtain ⟨⟨h1, h2, h3⟩, h4, h5, h6, h7, h8⟩ := hv
  have h3k := h.ho.k3
  unfold j_X10_findOrder_88
  by_cases m0 : m = 0
  · have em : nI m = 0 := by
      rw [m0]
      rfl
    obtain ⟨x1, x2, x3⟩ := h8.1 m0
    unfold j_X10_findOrder_118 j_X10_findOrder_144
    rw [if_pos em, if_pos em, show (28 : Int32) + nI k = nI (28 + k) from nI_add 28 k, b_cka (x := 28 + k) _ (by omega) (by decide), nI_clamp (n := 28 + k) (by omega), b_town h hk, b_today h, x1, x2]
  · have em : ¬ nI m = 0 := fun e => m0 ((nI_eq (a := m) (b := 0) (by omega) (by omega)).mp e)
    have e1 : nI m - 1 = nI (m - 1) := nI_sub (b := 1) (by omega)
    obtain ⟨x1, x2, x3⟩ := h8.2 m0
    obtain ⟨y1, y2, y3⟩ := h4 (m - 1) (by omega)
    obtain ⟨z1, z2, z3⟩ := hS (m - 1) (by omega)
    rw [if_neg em, e1, b_cka (x := m - 1) (n := 9) _ (by omega) (by decide), nI_clamp (n := m - 1) (by omega), z1, b_townBy h h2 hF y1 y2, bd_some]
    unfold j_X10_findOrder_118 j_X10_findOrder_144
    rw [if_neg em, e1, b_cka (x := m - 1) (n := 9) _ (by omega) (by decide), nI_clamp (n := m - 1) (by omega), z2, x1, x2]
theorem nI_m1 {x : Nat} (h : 1 ≤ x) : nI x + (-1) = nI (x - 1) := by
  have e : nI x = nI (x - 1) + 1 := by
    rw [← nI_succ]
    congr 1
    omega
  rw [e, Int32.add_assoc, show (1 : Int32) + (-1) = 0 by decide, Int32.add_zero]
theorem srF_stop {b : BS} (h : stopB any b) {f c p : Nat} (hp : p + c ≤ 8) : srF D t s (srch D t s any f) ρ a day tr L m pre c p b = b := by
  obtain ⟨h1, h2⟩ := h
  cases b with
  | none => cases h2
  | some x => exact srF_same (fun q _ _ => srch_p1 f _ _ _ _ _ _ _ (Or.inl h1)) c p hp
end LEV
