/-! the reference's search: the levels put together -/
section LEV3
variable {D : LD} {r : RD} {t s A : Nat} {any : Bool} {N Z k : Nat} {L0 : Int32}
theorem b_lev (hA : 1 ≤ A ∧ A ≤ 60) (hk : k < nK D) (hZ : 1 ≤ Z ∧ Z ≤ 8) (hN : 7000 ≤ N) : ∀ (f : Nat), LevP D r t s A any N Z k L0 f := by
  intro f
  induction f with
  | zero =>
    intro ρ pre Dy Tv a day tr m B L hv hm hf h1
    omega
  | succ f ihf =>
    intro ρ pre Dy Tv a day tr m B L hv hmZ hf h1 C
    induction C with
    | zero =>
      intro c p b σ hc hp h hF hS hbest
      have hc0 : c = 0 := by omega
      subst hc0
      have hp8 : p = 8 := by omega
      subst hp8
      by_cases hst : stopB any b
      · refine ⟨0, σ, by omega, fun n => ?_, hbest, hS, FrB.rf⟩
        rw [Nat.add_zero, (b_head (N := N) hbest hZ n (m := m) (by omega) (nI 8) L (nI k)).1 hst]
        unfold PopV
        by_cases m0 : m = 0
        · rw [if_pos m0]
        · rw [if_neg m0, (b_head (N := N) hbest hZ n (m := m - 1) (by omega) _ _ (nI k)).1 hst]
      · refine ⟨1, σ, by omega, fun n => ?_, hbest, hS, FrB.rf⟩
        rw [(b_head (N := N) hbest hZ (n + 1) (m := m) (by omega) (nI 8) L (nI k)).2 hst, b_step h hv hF hS hk (by omega)]
        obtain ⟨N', rfl⟩ : ∃ x, N = x + 1 := ⟨N - 1, by omega⟩
        rw [l_X10_findOrder_150, if_pos (show (7 : Int32) < nI 8 from (nI_lt_iff (a := 7) (b := 8) (by omega) (by omega)).mpr (by omega))]
        exact b_pop n _ _ _ (by omega) (fun m0 => (hS (m - 1) (by omega)).1)
    | succ C ihC =>
      intro c p b σ hc hp h hF hS hbest
      by_cases hst : stopB any b
      · refine ⟨0, σ, by omega, fun n => ?_, ?_, hS, FrB.rf⟩
        · rw [Nat.add_zero, (b_head (N := N) hbest hZ n (m := m) (by omega) (nI p) L (nI k)).1 hst]
          unfold PopV
          by_cases m0 : m = 0
          · rw [if_pos m0]
          · rw [if_neg m0, (b_head (N := N) hbest hZ n (m := m - 1) (by omega) _ _ (nI k)).1 hst]
        · rw [srF_stop hst (by omega)]
          exact hbest
      · have hm7 : m < 8 := by omega
        obtain ⟨q, w1, ⟨i1, i2⟩, i3, i4, i5, i6, i7⟩ := b_scan (N := N) hA hv hm7 hN (nI k) (b01 any) (nI p) c N p σ hp (by omega) h hF hS
        have hfr1 : FrB σ w1 := ⟨fun c hc => i7 c (by omega), fun i _ => by rw [i7 79 (by omega)]⟩
        have hbest1 : BestB Z b w1 := BestB_of hbest (fun i => by rw [i7 79 (by omega)]) (i7 98 (by omega))
        have start : ∀ x, l_X10_findOrder_63 N (x + 1) (nI k) (b01 any) (nI m) (nI p) L σ = j_X10_findOrder_188 N (l_X10_findOrder_63 N x) (nI k) (b01 any) (nI m) (nI p) L (nI q) w1 := fun x => by
          rw [(b_head (N := N) hbest hZ x (m := m) (by omega) (nI p) L (nI k)).2 hst, b_step h hv hF hS hk (by omega)]
          exact i3 _
        by_cases q8 : q = 8
        · refine ⟨1, w1, by omega, fun n => ?_, ?_, i6, hfr1⟩
          · rw [start (n + 1), q8]
            exact b_pop n _ _ _ (by omega) (fun m0 => (i6 (m - 1) (by omega)).1)
          · rw [i4, q8]
            exact hbest1
        · have hq : q < 8 := by omega
          obtain ⟨k1, k2, k3, k4⟩ := i5 hq
          have hbq := (okN_iff.mp k1).1
          have hpush := LvOk_push h.z hA hv hq k1
          have hpr := pc_rmv hq hbq
          have hq7 : nI q ≤ (7 : Int32) := (nI_le_iff (a := q) (b := 7) (by omega) (by omega)).mpr (by omega)
          have esm : nI (m + 1) = nI m + 1 := by rw [nI_succ]
          have esq : nI (q + 1) = nI q + 1 := by rw [nI_succ]
          have z38 : w1 79 38 = nI Z := hbest1.1
          have e8 : 8 - q = (8 - (q + 1)) + 1 := by omega
          have sM : ∀ (f : Nat → Nat) (v : Nat), setN f m v m = v := fun f v => if_pos rfl
          have hS2 : StB (setN pre m q) (setN Dy m (kpN D t ρ a day q)) (setN Tv m (tr + D 7 (5 * a + twN D t q))) (m + 1) w1 := by
            intro i hi
            unfold setN
            by_cases e : i = m
            · rw [if_pos e, if_pos e, if_pos e, e]
              exact ⟨k2, k3, k4⟩
            · rw [if_neg e, if_neg e, if_neg e]
              exact i6 i (by omega)
          obtain ⟨hvp, hvq, hvr, ⟨v1, v2, v3, v4, v5⟩, hvs⟩ := hv
          have dq := h.ho.di (i := 5 * a + twN D t q) (by
            have := twN_lt h.ho hvp.2.1 hq (hvp.2.2 q hq hbq)
            have := h.ho.t5
            omega)
          have d100 := (okN_iff.mp k1).2.2.1
          by_cases hlast : pc (rmv L q) = 0
          · have hmZ1 : m + 1 = Z := by omega
            obtain ⟨w2, l1, l2, l3, l4⟩ := b_look (N := N) (any := any) hbest1 hZ hst (x := tr + D 7 (5 * a + twN D t q)) (l := setN pre m q) (by omega) (by rw [← hmZ1, Nat.add_sub_cancel]; exact k4) (fun i hi => (hS2 i (by omega)).1) hN
            have hfr2 : FrB σ w2 := hfr1.tr ⟨fun c hc => l3 c (by omega), l4⟩
            have hS3 : StB pre Dy Tv m w2 := fun i hi => by
              rw [l3 95 (by omega), l3 96 (by omega), l3 97 (by omega)]
              exact i6 i hi
            obtain ⟨u, w, j1, j2, j3, j4, j5⟩ := ihC (8 - (q + 1)) (q + 1) _ w2 (by omega) (by omega) (hfr2.b h) (hfr2.f hF) hS3 l2
            have hmul : (8 - (q + 1)) * (2 + UB (f + 1 - 1)) + (2 + UB (f + 1 - 1)) ≤ c * (2 + UB (f + 1 - 1)) := by
              have := Nat.mul_le_mul_right (2 + UB (f + 1 - 1)) (show 8 - (q + 1) + 1 ≤ c by omega)
              rw [Nat.add_mul, Nat.one_mul] at this
              exact this
            refine ⟨u + 1, w, by omega, fun n => ?_, ?_, j4, hfr2.tr j5⟩
            · rw [← Nat.add_assoc, start (n + 1 + u), ← j2 n]
              exact b_found (N := N) (Z := Z) _ _ _ _ hq hbq hm7 z38 hZ.2 hmZ1 l1 (by rw [l3 95 (by omega)]; exact k2)
            · rw [i4, e8, srF, if_pos k1, srch, if_pos ((pc_0 (S8_rmv (by omega) hvp.1)).mpr hlast)]
              exact j3
          · have hmZ1 : ¬ m + 1 = Z := by omega
            obtain ⟨u1, w2, y1, y2, y3, y4, y5⟩ := ihf _ _ _ _ _ _ _ _ _ _ hpush (by omega) (by omega) (by omega) 8 8 0 b w1 (by omega) (by omega) (hfr1.b h) (hfr1.f hF) hS2 hbest1
            have hf1 : 1 ≤ f := by omega
            have hfr2 : FrB σ w2 := hfr1.tr y5
            have hS3 : StB pre Dy Tv m w2 := fun i hi => by
              have := y4 i (by omega)
              unfold setN at this
              rw [if_neg (by omega), if_neg (by omega), if_neg (by omega)] at this
              exact this
            obtain ⟨u, w, j1, j2, j3, j4, j5⟩ := ihC (8 - (q + 1)) (q + 1) _ w2 (by omega) (by omega) (hfr2.b h) (hfr2.f hF) hS3 y3
            have hmul : (8 - (q + 1)) * (2 + UB (f + 1 - 1)) + (2 + UB (f + 1 - 1)) ≤ c * (2 + UB (f + 1 - 1)) := by
              have := Nat.mul_le_mul_right (2 + UB (f + 1 - 1)) (show 8 - (q + 1) + 1 ≤ c by omega)
              rw [Nat.add_mul, Nat.one_mul] at this
              exact this
            have hUB : UB (f + 1 - 1) = 8 * (2 + UB (f - 1)) + 1 := by
              rw [Nat.add_sub_cancel]
              obtain ⟨g, rfl⟩ : ∃ g, f = g + 1 := ⟨f - 1, by omega⟩
              rfl
            refine ⟨u + u1 + 1, w, by omega, fun n => ?_, ?_, j4, hfr2.tr j5⟩
            · rw [← Nat.add_assoc, start, ← j2 n]
              have y2n := y2 (n + u)
              rw [show n + u + 1 + u1 = n + 1 + (u + u1) by omega] at y2n
              rw [b_deep (N := N) (Z := Z) _ _ _ _ hq hm7 z38 hZ.2 hmZ1]
              refine y2n.trans ?_
              unfold PopV
              rw [if_neg (Nat.succ_ne_zero m), Nat.add_sub_cancel, sM, rmv_back (by omega) hbq, show n + u + 1 = n + 1 + u by omega]
            · rw [i4, e8, srF, if_pos k1, srch, if_neg (fun e => hlast ((pc_0 (S8_rmv (by omega) hvp.1)).mp e))]
              exact j3
end LEV3
