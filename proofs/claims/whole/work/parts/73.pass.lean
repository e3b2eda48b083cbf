/-! a day passes: falls, one by one, on both sides -/
def fallV (D : LD) (r : RD) (p : Nat) : Bool := decide (r 1 p = 0) && (decide (ripV D r p ≠ 0) && decide (ripV D r p - 1 + D 4 p ≤ r 0 0))
def paR (D : LD) (r : RD) : Nat → RD
  | 0 => r
  | p + 1 => if fallV D (paR D r p) p = true then loR D (paR D r p) p 2 (D 5 p) else paR D r p
def pdR (D : LD) (r : RD) : RD := rset (paR D r (nP D)) 0 0 (r 0 0 + 1)
section PASS
variable {D : LD} {r : RD} {N : Nat}
theorem goR_ok {k b : Nat} (hI : RowIn D (goR D r k b)) (hO : RowOk D r) : RowOk D (goR D r k b) := by
  refine ⟨hI, rowK_set (by decide) (by decide) (by decide) (rowK_set (by decide) (by decide) (by decide) hO.2.1), rowG_set (by decide) (rowG_set (by decide) hO.2.2.1), ?_⟩
  have h := hO.2.2.2
  unfold RowF at h ⊢
  rw [opn_eq (r := r) (r' := goR D r k b) (nP D) (fun q _ => rfl)]
  exact h
theorem swR_ok {p q : Nat} (hI : RowIn D (swR r p q)) (hO : RowOk D r) : RowOk D (swR r p q) := by
  refine ⟨hI, rowK_set (by decide) (by decide) (by decide) (rowK_set (by decide) (by decide) (by decide) hO.2.1), rowG_set (by decide) (rowG_set (by decide) hO.2.2.1), ?_⟩
  have h := hO.2.2.2
  unfold RowF at h ⊢
  rw [opn_eq (r := r) (r' := swR r p q) (nP D) (fun q _ => rfl)]
  exact h
theorem kpR_ok {p : Nat} (ho : LandOk D) (hp : p < nP D) (hc : canV D r p = true) (hO : RowOk D r) : RowOk D (kpR r p) := by
  refine ⟨kpR_in ⟨ho, hO.1⟩, kpR_K ⟨ho, hO.1⟩ hp hO.2.1, kpR_G ho hp hc hO.2.2.1, ?_⟩
  have h := hO.2.2.2
  unfold RowF at h ⊢
  have h1 := opn_le (D := D) (r := r) (r' := kpR r p) (nP D) (fun q _ e => by
    unfold kpR at e
    rw [rset_ne (by decide)] at e
    by_cases e2 : q = p
    · rw [e2, rset_eq] at e
      cases e
    · rw [rset_np e2] at e
      exact e)
  have e : ∀ f, kpR r p 6 f = r 6 f := fun f => by
    unfold kpR
    rw [rset_ne (by decide), rset_ne (by decide)]
  rw [e, e, e]
  omega
theorem fallV_iff {p : Nat} : fallV D r p = true ↔ r 1 p = 0 ∧ ripV D r p ≠ 0 ∧ ripV D r p - 1 + D 4 p ≤ r 0 0 := by
  unfold fallV
  rw [Bool.and_eq_true, Bool.and_eq_true, decide_eq_true_eq, decide_eq_true_eq, decide_eq_true_eq]
theorem paR_ok (ho : LandOk D) (hO : RowOk D r) : ∀ (n : Nat), n ≤ nP D → RowOk D (paR D r n) ∧ paR D r n 0 0 = r 0 0 ∧ ∀ q, q < n → paR D r n 1 q = 0 → ripV D (paR D r n) q ≠ 0 → r 0 0 < ripV D (paR D r n) q - 1 + D 4 q
  | 0, _ => ⟨hO, rfl, fun q hq => absurd hq (Nat.not_lt_zero _)⟩
  | n + 1, hn => by
    obtain ⟨i1, i2, i3⟩ := paR_ok ho hO n (by omega)
    have e : paR D r (n + 1) = if fallV D (paR D r n) n = true then loR D (paR D r n) n 2 (D 5 n) else paR D r n := rfl
    rw [e]
    by_cases c : fallV D (paR D r n) n = true
    · rw [if_pos c]
      obtain ⟨c1, c2, c3⟩ := fallV_iff.mp c
      have hz : gvn D (paR D r n) n ≠ 0 := fun x => c2 ((gvn_rip D _).mp x)
      refine ⟨loR_ok ho i1 (by omega) c1 (Or.inr ⟨rfl, hz⟩) (Nat.le_refl _), ?_, fun q hq e1 e2 => ?_⟩
      · rw [loR_o (by decide) (by decide) (by decide)]
        exact i2
      · rw [ripV_lo c1 (Or.inl rfl)] at e2 ⊢
        obtain ⟨f1, f2, f3⟩ := loR_open (Or.inl rfl) e1
        exact i3 q (by omega) f1 e2
    · rw [if_neg c]
      refine ⟨i1, i2, fun q hq e1 e2 => ?_⟩
      by_cases e3 : q = n
      · subst e3
        rw [fallV_iff] at c
        by_cases c4 : ripV D (paR D r q) q - 1 + D 4 q ≤ r 0 0
        · exact absurd ⟨e1, e2, by rw [i2]; exact c4⟩ c
        · omega
      · exact i3 q (by omega) e1 e2
theorem pdR_ok (ho : LandOk D) (hO : RowOk D r) (hd : r 0 0 < 9200) : RowOk D (pdR D r) := by
  obtain ⟨i1, i2, i3⟩ := paR_ok ho hO (nP D) (Nat.le_refl _)
  have hh := i1.2.2.2
  refine ⟨⟨?_, fun p hp => i1.1.2.1 p hp, fun k hk => i1.1.2.2.1 k hk, fun f hf => i1.1.2.2.2 f hf⟩, fun p hp e1 e2 => ?_, rowG_set (by decide) i1.2.2.1, ?_⟩
  · unfold pdR
    rw [rset_eq]
    omega
  · unfold pdR at e1 e2 ⊢
    rw [ripV_set (by decide) (by decide)] at e2 ⊢
    rw [rset_eq]
    rw [rset_ne (by decide)] at e1
    have := i3 p hp e1 e2
    omega
  · unfold RowF at hh ⊢
    rw [opn_eq (r := paR D r (nP D)) (r' := pdR D r) (nP D) (fun q _ => rfl)]
    exact hh
theorem a_pass_loop (ho : LandOk D) (hO : RowOk D r) (hN : 7000 ≤ N) : ∀ (c n p : Nat) (σ : St), LandA D σ → RowA D (paR D r p) (σ 24) → p + c = nP D → c < n →
    ∃ w, l_X1_pass_2 N n (nI p) σ = some ((), w) ∧ RowA D (pdR D r) (w 24) ∧ ∀ a, ¬ a = 24 → w a = σ a
  | c, 0, p, _, _, _, _, hn => absurd hn (Nat.not_lt_zero _)
  | 0, n + 1, p, σ, ha, hr, hp, _ => by
    have h7 := ho.p7
    have e : p = nP D := by omega
    obtain ⟨i1, i2, -⟩ := paR_ok ho hO p (by omega)
    have ht : p_X1_today_23 σ = nI (paR D r p 0 0) := a_today hr
    refine ⟨st σ 24 0 (nI (r 0 0 + 1)), ?_, ?_, fun a ha => st_cell ha⟩
    · have es : nI (r 0 0 + 1) = nI (r 0 0) + 1 := by rw [nI_succ]
      rw [l_X1_pass_2, ha.1.2.2.2, if_pos (nI_le (by omega) (by omega)), ht, i2, ← es]
      unfold bt
      rw [show put_ σ 24 31 0 (nI (r 0 0 + 1)) = st σ 24 0 (nI (r 0 0 + 1)) from put_nI (j := 0) (by decide) (by decide)]
    · unfold pdR
      rw [e] at hr
      exact rowA_0 ho hr (fun i => st_get _ _ _ _ _)
  | c + 1, n + 1, p, σ, ha, hr, hp, hn => by
    have h7 := ho.p7
    have hlt : p < nP D := by omega
    have hq := ho.pr hlt
    obtain ⟨i1, i2, -⟩ := paR_ok ho hO p (by omega)
    have h : RlA D (paR D r p) σ := ⟨ho, ha, hr, i1.1⟩
    have hrv := ripV_le h.z hlt
    have hd := i1.1.1
    have es : nI (p + 1) = nI p + 1 := by rw [nI_succ]
    have en : paR D r (p + 1) = if fallV D (paR D r p) p = true then loR D (paR D r p) p 2 (D 5 p) else paR D r p := rfl
    have skip : ¬ fallV D (paR D r p) p = true → ∃ w, j_X1_pass_69 N (l_X1_pass_2 N n) (nI p) σ = some ((), w) ∧ RowA D (pdR D r) (w 24) ∧ ∀ a, ¬ a = 24 → w a = σ a := by
      intro hf
      rw [if_neg hf] at en
      have := a_pass_loop ho hO hN c n (p + 1) σ ha (by rw [en]; exact hr) (by omega) (by omega)
      rw [es] at this
      exact this
    rw [l_X1_pass_2, ha.1.2.2.2, if_neg (nI_ge hlt (by omega)), a_ripeOn h hlt, bd_some, a_isOpen h hlt]
    have e1 : ¬ b01 true = 0 := one_ne
    have e2 : b01 false = 0 := rfl
    by_cases o1 : paR D r p 1 p = 0
    · rw [decide_eq_true o1, if_neg e1]
      by_cases hz : ripV D (paR D r p) p = 0
      · rw [if_pos ((oI_neg (by omega)).mpr hz)]
        exact skip (fun x => (fallV_iff.mp x).2.1 hz)
      · have ht : p_X1_today_23 σ = nI (paR D r p 0 0) := a_today hr
        rw [if_neg (fun e => hz ((oI_neg (by omega)).mp e)), oI_pos hz, ht, at_nI (by omega) (by decide), (ha.2.2.2.1 p hlt).2.2.2.1, nI_add, at_nI (by omega) (by decide), (ha.2.2.2.1 p hlt).2.2.2.2.1]
        by_cases h2 : paR D r p 0 0 < ripV D (paR D r p) p - 1 + D 4 p
        · rw [if_pos ((nI_lt_iff (by omega) (by omega)).mpr h2)]
          exact skip (fun x => by have := (fallV_iff.mp x).2.2; omega)
        · have hf : fallV D (paR D r p) p = true := fallV_iff.mpr ⟨o1, hz, by omega⟩
          rw [if_neg (by rw [nI_lt_iff (by omega) (by omega)]; exact h2)]
          rw [if_pos hf] at en
          obtain ⟨w, a1, a2, a3⟩ := a_lose (N := N) (m := 2) (v := D 5 p) h i1.2.2.1 hlt o1 (Or.inl rfl) hN
          obtain ⟨w2, c1, c2, c3⟩ := a_pass_loop ho hO hN c n (p + 1) w (LandA_24 a3 ha) (by rw [en]; exact a2) (by omega) (by omega)
          refine ⟨w2, ?_, c2, fun a ha => (c3 a ha).trans (a3 a ha)⟩
          rw [show o_X1_lose N (nI p) 2 (nI (D 5 p)) σ = _ from a1, bd_some]
          unfold j_X1_pass_69 bt
          rw [← es]
          exact c1
    · rw [decide_eq_false o1, if_pos e2]
      exact skip (fun x => o1 (fallV_iff.mp x).1)
theorem a_pass {σ : St} (h : RlA D r σ) (hO : RowOk D r) (hN : 7000 ≤ N) : ∃ w, o_X1_pass N σ = some ((), w) ∧ RowA D (pdR D r) (w 24) ∧ ∀ a, ¬ a = 24 → w a = σ a := by
  have h7 := h.ho.p7
  exact a_pass_loop h.ho hO hN (nP D) N 0 σ h.ha h.ra (by omega) (by omega)
theorem b_pass_loop (ho : LandOk D) (hO : RowOk D r) (hN : 7000 ≤ N) : ∀ (c n p : Nat) (τ : St), LandB D τ → RowB D (paR D r p) (τ 80) 0 → p + c = nP D → c < n →
    ∃ w, l_X10_passDay_6 N n (nI p) τ = some ((), w) ∧ RowB D (pdR D r) (w 80) 0 ∧ (∀ a, ¬ a = 80 → w a = τ a) ∧ ∀ i, 38 ≤ i → w 80 i = τ 80 i
  | c, 0, p, _, _, _, _, hn => absurd hn (Nat.not_lt_zero _)
  | 0, n + 1, p, τ, hb, hr, hp, _ => by
    have h7 := ho.p7
    have e : p = nP D := by omega
    obtain ⟨i1, i2, -⟩ := paR_ok ho hO p (by omega)
    have h : RlB D (paR D r p) τ := ⟨ho, hb, hr, i1.1⟩
    have c37 : (37 : Int32).toNatClampNeg = 37 := rfl
    have ht : τ 80 37 = nI (paR D r p 0 0) := b_today h
    refine ⟨st τ 80 37 (nI (r 0 0 + 1)), ?_, ?_, fun a ha => st_cell ha, fun i hi => st_place (by omega)⟩
    · have es : nI (r 0 0 + 1) = nI (r 0 0) + 1 := by rw [nI_succ]
      rw [l_X10_passDay_6, hb.1.2.2.2, if_pos (nI_le (by omega) (by omega)), c37, ht, i2, ← es]
      rfl
    · unfold pdR
      rw [e] at hr
      exact rowB_0 ho hr (fun i => by rw [st_get, Nat.zero_add])
  | c + 1, n + 1, p, τ, hb, hr, hp, hn => by
    have h7 := ho.p7
    have hlt : p < nP D := by omega
    have hq := ho.pr hlt
    obtain ⟨i1, i2, -⟩ := paR_ok ho hO p (by omega)
    have h : RlB D (paR D r p) τ := ⟨ho, hb, hr, i1.1⟩
    have hrv := ripV_le h.z hlt
    have hg := gvn_le ho i1.1 hlt
    have hd := i1.1.1
    have es : nI (p + 1) = nI p + 1 := by rw [nI_succ]
    have en : paR D r (p + 1) = if fallV D (paR D r p) p = true then loR D (paR D r p) p 2 (D 5 p) else paR D r p := rfl
    have skip : ¬ fallV D (paR D r p) p = true → ∃ w, j_X10_passDay_97 N (l_X10_passDay_6 N n) (nI p) τ = some ((), w) ∧ RowB D (pdR D r) (w 80) 0 ∧ (∀ a, ¬ a = 80 → w a = τ a) ∧ ∀ i, 38 ≤ i → w 80 i = τ 80 i := by
      intro hf
      rw [if_neg hf] at en
      have := b_pass_loop ho hO hN c n (p + 1) τ hb (by rw [en]; exact hr) (by omega) (by omega)
      rw [es] at this
      exact this
    have b21 : τ 80 (21 + p) = oI (gvn D (paR D r p) p) := by
      have e := (hr.2.1 p hlt).2.2.2
      rw [show 0 + 21 + p = 21 + p from rfl] at e
      exact e
    have c37 : (37 : Int32).toNatClampNeg = 37 := rfl
    have t0 : τ 80 37 = nI (paR D r p 0 0) := b_today h
    rw [l_X10_passDay_6, hb.1.2.2.2, if_neg (nI_ge hlt (by omega)), b_cka (x := p) (n := 1360) _ (by omega) (by decide), w_nI (c := τ 80) (x := p) (by omega), b_how hr hlt]
    by_cases o1 : paR D r p 1 p = 0
    · rw [if_pos ((open_nI h.z hlt).mpr o1), show (21 : Int32) + nI p = nI (21 + p) from nI_add 21 p, b_cka (x := 21 + p) _ (by omega) (by decide), w_nI (c := τ 80) (x := 21 + p) (by omega), b21,
        show o_X10_ripe N 0 (nI p) τ = some (oI (ripV D (paR D r p) p), τ) from b_ripe ho hb i1.1 (x := 0) (by omega) hr hlt hN, bd_some]
      by_cases hz : ripV D (paR D r p) p = 0
      · have hg0 : gvn D (paR D r p) p = 0 := (gvn_rip D _).mpr hz
        have hneg : oI (gvn D (paR D r p) p) < 0 := by
          rw [hg0]
          decide
        rw [if_pos hneg]
        exact skip (fun x => (fallV_iff.mp x).2.1 hz)
      · have hg0 : gvn D (paR D r p) p ≠ 0 := fun e => hz ((gvn_rip D _).mp e)
        have hnn : ¬ oI (gvn D (paR D r p) p) < 0 := by
          rw [oI_pos hg0]
          exact nI_pos (by omega)
        have hle := i1.2.1 p hlt o1 hz
        rw [if_neg hnn, oI_pos hz, b_cka (x := p) (n := 14) _ (by omega) (by decide), w_nI (c := τ 89) (x := p) (by omega), (hb.2.2.2.1 p hlt).2.2.2.1, nI_add, c37, t0]
        by_cases h2 : paR D r p 0 0 < ripV D (paR D r p) p - 1 + D 4 p
        · rw [if_neg (fun e => by have := (nI_eq (by omega) (by omega)).mp e; omega)]
          exact skip (fun x => by have := (fallV_iff.mp x).2.2; omega)
        · have hf : fallV D (paR D r p) p = true := fallV_iff.mpr ⟨o1, hz, by omega⟩
          have heq : ripV D (paR D r p) p - 1 + D 4 p = paR D r p 0 0 := by omega
          rw [if_pos (by rw [heq])]
          rw [if_pos hf] at en
          obtain ⟨w1, w, b1, b2, b3, b4, b5⟩ := b_lose (N := N) (m := 2) (v := D 5 p) h hlt o1 (Or.inl rfl) hN
          obtain ⟨w2, d1, d2, d3, d4⟩ := b_pass_loop ho hO hN c n (p + 1) w (LandB_80 b4 hb) (by rw [en]; exact b3) (by omega) (by omega)
          refine ⟨w2, ?_, d2, fun a ha => (d3 a ha).trans (b4 a ha), fun i hi => (d4 i hi).trans (b5 i hi)⟩
          have h37 : st τ 80 p 2 80 37 = nI (paR D r p 0 0) := by
            rw [st_place (by omega)]
            exact t0
          have h90 : st (st τ 80 p 2) 80 (7 + p) (nI (paR D r p 0 0)) 90 p = nI (D 5 p) := by
            rw [st_cell (by decide), st_cell (by decide)]
            exact (hb.2.2.2.1 p hlt).2.2.2.2.1
          unfold bt
          dsimp only
          rw [b_cka (x := p) (n := 1360) _ (by omega) (by decide), show (7 : Int32) + nI p = nI (7 + p) from nI_add 7 p, b_cka (x := 7 + p) _ (by omega) (by decide), b_cka (x := p) (n := 14) _ (by omega) (by decide),
            nI_clamp (n := p) (by omega), nI_clamp (n := 7 + p) (by omega), h37, h90,
            show o_X10_fallOn N (nI p) (nI (D 5 p)) (st (st τ 80 p 2) 80 (7 + p) (nI (paR D r p 0 0))) = _ from b1, bd_some, b2, bd_some]
          unfold j_X10_passDay_97 bt
          rw [← es]
          exact d1
    · rw [if_neg (fun e => o1 ((open_nI h.z hlt).mp e))]
      exact skip (fun x => o1 (fallV_iff.mp x).1)
end PASS
