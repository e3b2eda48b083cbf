/-! the class's search, level by level -/
def ExtP (D : LD) (t s : Nat) (any : Bool) (N Z f : Nat) : Prop := ∀ (ρ : Nat → Nat) (a day tr : Nat) (L : Int32) (m : Nat) (pre : Nat → Nat) (b : BS) (B : Nat) (σ : St),
  m + pc L = Z → pc L + 1 ≤ f → S8 L → ItOk D t s L → InvN D ρ L → a < nT D → BdN ρ L B → day ≤ B → B + 7000 * f ≤ 200000 → tr + 300 * f ≤ 4000 → SrA D t s ρ L σ → (∀ i, i < m → σ 67 i = nI (pre i)) → BestA any Z b σ →
  ∃ w, oe_X8_extend N f (nI m) (nI a) (nI day) (nI tr) L σ = some ((), w) ∧ BestA any Z (srch D t s any f ρ a day tr L m pre b) w ∧ (∀ p, w 66 p = σ 66 p) ∧ (∀ i, i < m → w 67 i = σ 67 i) ∧ (∀ c, ¬ (c = 63 ∨ c = 66 ∨ c = 67 ∨ c = 68) → w c = σ c)
section EXT2
variable {D : LD} {t s : Nat} {any : Bool} {N Z f : Nat}
theorem max_nI {a b : Nat} (ha : a < 2 ^ 31) (hb : b < 2 ^ 31) (σ : St) : p_J9_max_7cf53 (nI a) (nI b) σ = nI (max a b) := by
  unfold p_J9_max_7cf53
  by_cases h : a < b
  · rw [if_pos ((nI_lt_iff ha hb).mpr h)]
    congr 1
    omega
  · rw [if_neg (by rw [nI_lt_iff ha hb]; exact h)]
    congr 1
    omega
theorem BestA_of {b : BS} {σ w : St} (h : BestA any Z b σ) (h63 : w 63 = σ 63) (h68 : w 68 = σ 68) : BestA any Z b w := by
  unfold BestA at h ⊢
  rw [h63, h68]
  exact h
theorem a_ext_loop (ho : LandOk D) (hZ : Z ≤ 8) (hN : 7000 ≤ N) (hR : ExtP D t s any N Z f) {ρ : Nat → Nat} {a day tr : Nat} {L : Int32} {m : Nat} {pre : Nat → Nat} {B : Nat}
    (hm : m + pc L = Z) (hf : pc L ≤ f) (h8 : S8 L) (hi : ItOk D t s L) (hv : InvN D ρ L) (ha : a < nT D) (hB : BdN ρ L B) (hd : day ≤ B) (hb : B + 7000 * (f + 1) ≤ 200000) (ht : tr + 300 * (f + 1) ≤ 4000)
    (hno : ∀ q, q < 8 → bit L q = true → D 7 (5 * a + twN D t q) ≠ 1000 ∧ (ρ q ≠ 0 → day + D 7 (5 * a + twN D t q) ≤ ρ q - 1 + slN D s q)) :
    ∀ (c n p : Nat) (b : BS) (σ : St), p + c = 8 → c < n → SrA D t s ρ L σ → (∀ i, i < m → σ 67 i = nI (pre i)) → BestA any Z b σ →
    ∃ w, l_X8_extend_44 N (oe_X8_extend N f) n (nI m) (nI a) (nI day) (nI tr) L (nI p) σ = some ((), w) ∧ BestA any Z (srF D t s (srch D t s any f) ρ a day tr L m pre c p b) w ∧ (∀ p, w 66 p = σ 66 p) ∧ (∀ i, i < m → w 67 i = σ 67 i) ∧ (∀ c, ¬ (c = 63 ∨ c = 66 ∨ c = 67 ∨ c = 68) → w c = σ c) := by
  intro c
  induction c with
  | zero =>
    intro n p b σ hp hn hS hpre hbest
    obtain ⟨n, rfl⟩ : ∃ k, n = k + 1 := ⟨n - 1, by omega⟩
    have e : p = 8 := by omega
    subst e
    refine ⟨σ, ?_, hbest, fun _ => rfl, fun _ _ => rfl, fun _ _ => rfl⟩
    rw [l_X8_extend_44, if_pos (show (8 : Int32) ≤ nI 8 from nI_le (a := 8) (by omega) (by omega))]
  | succ c ih =>
    intro n p b σ hp hn hS hpre hbest
    obtain ⟨n, rfl⟩ : ∃ k, n = k + 1 := ⟨n - 1, by omega⟩
    have es : nI (p + 1) = nI p + 1 := by rw [nI_succ]
    have h5 := ho.t5
    have h7 := ho.p7
    have hlt : ¬ (8 : Int32) ≤ nI p := fun e => absurd ((nI_le_iff (a := 8) (b := p) (by omega) (by omega)).mp e) (by omega)
    have e1 : ¬ b01 true = 0 := one_ne
    have e2 : b01 false = 0 := rfl
    have skip : ¬ okN D t s ρ a day L p = true → ∃ w, j_X8_extend_173 N (oe_X8_extend N f) (l_X8_extend_44 N (oe_X8_extend N f) n) (nI m) (nI a) (nI day) (nI tr) L (nI p) σ = some ((), w) ∧ BestA any Z (srF D t s (srch D t s any f) ρ a day tr L m pre (c + 1) p b) w ∧ (∀ p, w 66 p = σ 66 p) ∧ (∀ i, i < m → w 67 i = σ 67 i) ∧ (∀ c, ¬ (c = 63 ∨ c = 66 ∨ c = 67 ∨ c = 68) → w c = σ c) := by
      intro hno2
      obtain ⟨w, z⟩ := ih n (p + 1) b σ (by omega) (by omega) hS hpre hbest
      rw [es] at z
      rw [srF, if_neg hno2]
      exact ⟨w, z⟩
    rw [l_X8_extend_44, if_neg hlt, a_hasb L (g := p) (by omega)]
    cases hbp : bit L p
    · rw [if_pos e2]
      exact skip (fun x => by have := (okN_iff.mp x).1; rw [hbp] at this; cases this)
    · obtain ⟨c64, c65, c66⟩ := hS.2 p (by omega) hbp
      have tp := twN_lt ho hi (by omega) hbp
      have sp := slN_le ho hi (by omega) hbp
      have rp := hB p (by omega) hbp
      have dp := ho.di (i := 5 * a + twN D t p) (by omega)
      obtain ⟨n1, n2⟩ := hno p (by omega) hbp
      rw [if_neg e1, at_nI (j := p) (n := 8) (by omega) (by decide), c66]
      by_cases hr : ρ p = 0
      · rw [if_pos ((oI_neg (by omega)).mpr hr)]
        exact skip (fun x => (okN_iff.mp x).2.1 hr)
      · have n3 := n2 hr
        have hkp : kpN D t ρ a day p = max (day + D 7 (5 * a + twN D t p)) (ρ p - 1) := rfl
        have hok : okN D t s ρ a day L p = true := okN_iff.mpr ⟨hbp, hr, n1, by rw [hkp]; omega⟩
        have hkB : kpN D t ρ a day p ≤ B + 288 := by rw [hkp]; omega
        have ed : dI (D 7 (5 * a + twN D t p)) = nI (D 7 (5 * a + twN D t p)) := if_neg n1
        have hm8 : m < 8 := by
          have := pc_rmv (L := L) (p := p) (by omega) hbp
          omega
        have hpr := pc_rmv (L := L) (p := p) (by omega) hbp
        rw [if_neg (fun e => hr ((oI_neg (by omega)).mp e)), oI_pos hr]
        unfold bt
        dsimp only
        rw [at_nI (j := p) (n := 8) (by omega) (by decide), c64, a_dist ho hS.1 ha tp, ed, nI_add, max_nI (by omega) (by omega), ← hkp, nI_add, put_nI hm8 (by decide)]
        have hw0 : ∀ a, ¬ a = 67 → st σ 67 m (nI p) a = σ a := fun a ha => st_cell ha
        have ha0 : LandA D (st σ 67 m (nI p)) := LandA_of (fun a ha => hw0 a (by omega)) hS.1
        have rmE : L &&& ((1 <<< (nI p &&& 31)) ^^^ (-1)) = rmv L p := rfl
        generalize hkg : kpN D t ρ a day p = kp at hkB
        obtain ⟨w1, x1, x2, x3⟩ := a_ripen_loop (N := N) (L := rmv L p) ho (p := p) (by omega) (nI kp) (fun q => nI (rip D kp (D 3 q))) (fun q τ hq hτ => Or.inr ⟨nI_neg1 (by omega), a_ripe ho hτ (ho.pr hq).2.1.2 (by omega)⟩) (nP D) N (p + 1) _ ha0 (by omega) (by omega) (by omega)
        have er1 : o_X8_ripen N (nI p) (rmv L p) (nI kp) (st σ 67 m (nI p)) = some ((), w1) := by
          unfold o_X8_ripen bt
          dsimp only
          rw [← es]
          exact x1
        have hcell1 : ∀ a, ¬ a = 66 → ¬ a = 67 → w1 a = σ a := fun a h1 h2 => (x3 a h1).trans (hw0 a h2)
        have hS1 : SrA D t s (rhoK D ρ p kp) (rmv L p) w1 := by
          refine ⟨LandA_of (fun a ha => hcell1 a (by omega) (by omega)) hS.1, fun q hq hbq => ?_⟩
          obtain ⟨q1, q2⟩ := rmv_of (by omega) (by omega) hbq
          obtain ⟨d64, d65, d66⟩ := hS.2 q hq q1
          rw [hcell1 64 (by decide) (by decide), hcell1 65 (by decide) (by decide), x2 q, hw0 66 (by decide)]
          refine ⟨d64, d65, ?_⟩
          unfold rhoK
          by_cases cc : q < nP D ∧ D 6 q = p
          · have hg := (ho.pr cc.1).2.2.2.2.1
            rw [if_pos ⟨by omega, cc.1, hbq, cc.2⟩, if_pos cc]
            rfl
          · rw [if_neg (fun x => cc ⟨x.2.1, x.2.2.2⟩), if_neg cc]
            exact d66
        have hB1 : BdN (rhoK D ρ p kp) (rmv L p) (B + 7000) := by
          intro q hq hbq
          obtain ⟨q1, q2⟩ := rmv_of (by omega) (by omega) hbq
          have hq2 := hB q hq q1
          unfold rhoK
          by_cases cc : q < nP D ∧ D 6 q = p
          · rw [if_pos cc]
            have := rip_le ho (d := kp) (a := D 3 q) (ho.pr cc.1).2.1.2
            omega
          · rw [if_neg cc]
            omega
        have hpre1 : ∀ i, i < m + 1 → w1 67 i = nI (setN pre m p i) := by
          intro i hi2
          rw [x3 67 (by decide), st_get]
          unfold setN
          by_cases e : i = m
          · rw [if_pos e, if_pos e]
          · rw [if_neg e, if_neg e]
            exact hpre i (by omega)
        have hbest1 : BestA any Z b w1 := BestA_of hbest (hcell1 63 (by decide) (by decide)) (hcell1 68 (by decide) (by decide))
        obtain ⟨w2, y1, y2, y3, y4, y5⟩ := hR (rhoK D ρ p kp) (twN D t p) kp (tr + D 7 (5 * a + twN D t p)) (rmv L p) (m + 1) (setN pre m p) b (B + 7000) w1 (by omega) (by omega) (S8_rmv (by omega) h8) (ItOk_rmv (by omega) hi) (InvN_rmv ho (by omega) hv) tp hB1 (by omega) (by omega) (by omega) hS1 hpre1 hbest1
        have esm : nI (m + 1) = nI m + 1 := by rw [nI_succ]
        rw [esm] at y1
        have ha2 : LandA D w2 := LandA_of (fun a ha => (y5 a (by omega)).trans (hcell1 a (by omega) (by omega))) hS.1
        obtain ⟨w3, z1, z2, z3⟩ := a_ripen_loop (N := N) (L := rmv L p) ho (p := p) (by omega) (-1) (fun _ => -1) (fun q τ hq hτ => Or.inl ⟨rfl, rfl⟩) (nP D) N (p + 1) w2 ha2 (by omega) (by omega) (by omega)
        have er2 : o_X8_ripen N (nI p) (rmv L p) (-1) w2 = some ((), w3) := by
          unfold o_X8_ripen bt
          dsimp only
          rw [← es]
          exact z1
        have h66 : ∀ q, w3 66 q = σ 66 q := by
          intro q
          rw [z2 q]
          by_cases cc : p + 1 ≤ q ∧ q < nP D ∧ bit (rmv L p) q = true ∧ D 6 q = p
          · obtain ⟨q1, q2⟩ := rmv_of (by omega) (by omega) cc.2.2.1
            rw [if_pos cc, (hS.2 q (by omega) q1).2.2, hv q cc.2.1 q1 (by omega) (by rw [cc.2.2.2]; exact hbp)]
            rfl
          · rw [if_neg cc, y3 q, x2 q, if_neg cc, hw0 66 (by decide)]
        have hcell3 : ∀ a, ¬ (a = 63 ∨ a = 66 ∨ a = 67 ∨ a = 68) → w3 a = σ a := fun a ha => ((z3 a (by omega)).trans (y5 a ha)).trans (hcell1 a (by omega) (by omega))
        have h67 : ∀ i, i < m → w3 67 i = σ 67 i := by
          intro i hi2
          rw [z3 67 (by decide), y4 i (by omega), x3 67 (by decide), st_place (by omega)]
        have hS3 : SrA D t s ρ L w3 := by
          refine ⟨LandA_of (fun a ha => hcell3 a (by omega)) hS.1, fun q hq hbq => ?_⟩
          rw [hcell3 64 (by decide), hcell3 65 (by decide), h66 q]
          exact hS.2 q hq hbq
        have hbest3 : BestA any Z (srch D t s any f (rhoK D ρ p kp) (twN D t p) kp (tr + D 7 (5 * a + twN D t p)) (rmv L p) (m + 1) (setN pre m p) b) w3 := BestA_of y2 (z3 63 (by decide)) (z3 68 (by decide))
        obtain ⟨w, u1, u2, u3, u4, u5⟩ := ih n (p + 1) _ w3 (by omega) (by omega) hS3 (fun i hi2 => (h67 i hi2).trans (hpre i hi2)) hbest3
        refine ⟨w, ?_, ?_, fun q => (u3 q).trans (h66 q), fun i hi2 => (u4 i hi2).trans (h67 i hi2), fun a ha => (u5 a ha).trans (hcell3 a ha)⟩
        · rw [rmE, er1, bd_some, y1, bd_some, er2, bd_some]
          unfold j_X8_extend_173 bt
          rw [← es]
          exact u1
        · rw [srF, if_pos hok, hkg]
          exact u2
theorem a_extend (ho : LandOk D) (hZ : Z ≤ 8) (hN : 7000 ≤ N) : ∀ (f : Nat), ExtP D t s any N Z f := by
  intro f
  induction f with
  | zero =>
    intro ρ a day tr L m pre b B σ _ hf
    omega
  | succ f ih =>
    intro ρ a day tr L m pre b B σ hm hf h8 hi hv ha hB hd hb ht hS hpre hbest
    have h5 := ho.t5
    have hm8 : ¬ (8 : Int32) < nI m := fun e => absurd ((nI_lt_iff (a := 8) (b := m) (by omega) (by omega)).mp e) (by omega)
    show ∃ w, ob_X8_extend N (oe_X8_extend N f) (nI m) (nI a) (nI day) (nI tr) L σ = some ((), w) ∧ _
    unfold ob_X8_extend
    rw [if_neg hm8]
    rcases a_better hbest (tr := tr) (by omega) with ⟨c1, x, c2, c3⟩ | ⟨c1, c2⟩
    · rw [c1, if_neg one_ne]
      refine ⟨σ, rfl, ?_, fun _ => rfl, fun _ _ => rfl, fun _ _ => rfl⟩
      rw [c2, srch_p1 _ _ _ _ _ _ _ _ c3, ← c2]
      exact hbest
    · have e0 : (0 : Int32) = 0 := rfl
      rw [c1, if_pos e0]
      by_cases hL : L = 0
      · have hp0 := (pc_0 h8).mp hL
        have hmZ : m = Z := by omega
        rw [if_pos hL]
        refine ⟨_, rfl, ?_, fun q => ?_, fun i hi2 => ?_, fun c hc => ?_⟩
        · rw [srch, if_pos hL, c2]
          have e67 : ∀ i, i < Z → t_X8_takeAsBest (nI m) (nI tr) σ 68 i = nI (pre i) := by
            intro i hi2
            show cp_ (st (st σ 63 8 (nI tr)) 63 7 (nI m)) 67 68 (min 8 8) 68 i = _
            rw [cp_to]
            dsimp only
            rw [if_pos (by omega), st_cell (by decide), st_cell (by decide)]
            exact hpre i (by omega)
          have e63 : ∀ i, t_X8_takeAsBest (nI m) (nI tr) σ 63 i = if i = 7 then nI m else if i = 8 then nI tr else σ 63 i := by
            intro i
            show cp_ (st (st σ 63 8 (nI tr)) 63 7 (nI m)) 67 68 (min 8 8) 63 i = _
            rw [cp_ne (by decide), st_get, st_get]
          refine ⟨?_, ?_, by dsimp only; omega, ?_, e67⟩
          · rw [e63, if_neg (by decide), if_neg (by decide)]
            exact hbest.1
          · rw [e63, if_neg (by decide), if_pos rfl]
          · rw [e63, if_pos rfl, hmZ]
        · show cp_ (st (st σ 63 8 (nI tr)) 63 7 (nI m)) 67 68 (min 8 8) 66 q = _
          rw [cp_ne (by decide), st_cell (by decide), st_cell (by decide)]
        · show cp_ (st (st σ 63 8 (nI tr)) 63 7 (nI m)) 67 68 (min 8 8) 67 i = _
          rw [cp_ne (by decide), st_cell (by decide), st_cell (by decide)]
        · show cp_ (st (st σ 63 8 (nI tr)) 63 7 (nI m)) 67 68 (min 8 8) c = _
          rw [cp_ne (by omega), st_cell (by omega), st_cell (by omega)]
      · rw [if_neg hL]
        have hmis : o_X8_misses N (nI a) (nI day) L σ = l_X8_misses_3 N N (nI a) (nI day) L (nI 0) σ := rfl
        rcases a_misses_loop (N := N) (day := day) ho hi hB ha (by omega) hS 8 N 0 (by omega) (by omega) with ⟨i1, q, q1, q2, q3⟩ | ⟨i1, i2⟩
        · rw [hmis, i1, bd_some, if_neg one_ne]
          refine ⟨σ, rfl, ?_, fun _ => rfl, fun _ _ => rfl, fun _ _ => rfl⟩
          rw [srch_p2 ho (f + 1) ρ a day tr L m pre q ha hi hv q1 q2 q3]
          exact hbest
        · rw [hmis, i1, bd_some, if_pos e0]
          obtain ⟨w, z⟩ := a_ext_loop (N := N) ho hZ hN ih hm (by omega) h8 hi hv ha hB hd hb ht (fun q hq => i2 q (by omega) hq) 8 N 0 b σ (by omega) (by omega) hS hpre hbest
          rw [srch, if_neg hL]
          exact ⟨w, z⟩
end EXT2
