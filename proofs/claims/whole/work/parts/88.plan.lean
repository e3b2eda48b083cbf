/-! findOrder; plan -/
def encB (b : BS) : Int32 := match b with
  | none => 99999999
  | some x => nI x.1
/-- what trying may change: on the class's side; on the reference's -/
def FrC (σ w : St) : Prop := ∀ c, ¬ (63 ≤ c ∧ c ≤ 73) → w c = σ c
def FrM (σ w : St) : Prop := (∀ c, ¬ (c = 79 ∨ 94 ≤ c ∧ c ≤ 101) → w c = σ c) ∧ ∀ i, i < 29 ∨ 39 ≤ i → w 79 i = σ 79 i
theorem FrM.rf {σ : St} : FrM σ σ := ⟨fun _ _ => rfl, fun _ _ => rfl⟩
theorem FrM.tr {a b c : St} (h : FrM a b) (g : FrM b c) : FrM a c := ⟨fun x hx => (g.1 x hx).trans (h.1 x hx), fun x hx => (g.2 x hx).trans (h.2 x hx)⟩
theorem FrM.b {D : LD} {r : RD} {σ w : St} (h : FrM σ w) (g : RlB D r σ) : RlB D r w := ⟨g.ho, LandB_of (fun i hi => h.2 i (by omega)) (fun a h1 h2 => h.1 a (by omega)) g.hb, by rw [h.1 80 (by omega)]; exact g.rb, g.ri⟩
theorem FrC.rf {σ : St} : FrC σ σ := fun _ _ => rfl
theorem FrC.tr {a b c : St} (h : FrC a b) (g : FrC b c) : FrC a c := fun x hx => (g x hx).trans (h x hx)
theorem FrC.a {D : LD} {r : RD} {σ w : St} (h : FrC σ w) (g : RlA D r σ) : RlA D r w := ⟨g.ho, LandA_of (fun a ha => h a (by omega)) g.ha, by rw [h 24 (by omega)]; exact g.ra, g.ri⟩
/-- what findOrder may change -/
def FrO (σ w : St) : Prop := (∀ c, ¬ (c = 79 ∨ 95 ≤ c ∧ c ≤ 98) → w c = σ c) ∧ ∀ i, ¬ (i = 37 ∨ i = 38) → w 79 i = σ 79 i
theorem FrO.m {σ w : St} (h : FrO σ w) : FrM σ w := ⟨fun c hc => h.1 c (by omega), fun i hi => h.2 i (by omega)⟩
section FIND
variable {D : LD} {r : RD} {t s A T : Nat} {any : Bool} {N k : Nat} {L : Int32}
theorem shr_one (L : Int32) {p : Nat} (hp : p < 32) : (L >>> (nI p &&& 31)) &&& 1 = nI ((bit L p).toNat) := by
  rw [shl_and hp]
  have e := shr_bit L (q := 0) hp (by omega)
  rw [Nat.zero_add] at e
  cases h : bit L p
  · exact (and_0 _).mpr (by rw [e, h])
  · exact (and_1 _).mpr (by rw [e, h])
theorem b_pc_loop (kI anyI : Int32) : ∀ (c n p : Nat) (σ : St), p + c = 8 → σ 79 38 = nI (cnt (bit L) p) → c < n →
    ∃ w, l_X10_findOrder_14 N n kI L anyI (nI p) σ = (if (w 79 38) = 0 then (bt (st w 79 37 0) fun σ3 => j_X10_findOrder_54 N kI L anyI σ3) else (j_X10_findOrder_54 N kI L anyI w)) ∧ w 79 38 = nI (pc L) ∧ (∀ i, ¬ i = 38 → w 79 i = σ 79 i) ∧ ∀ a, ¬ a = 79 → w a = σ a := by
  intro c
  induction c with
  | zero =>
    intro n p σ hp h38 hn
    obtain ⟨n, rfl⟩ : ∃ k, n = k + 1 := ⟨n - 1, by omega⟩
    have e : p = 8 := by omega
    subst e
    refine ⟨σ, ?_, h38, fun _ _ => rfl, fun _ _ => rfl⟩
    rw [l_X10_findOrder_14, if_pos (show (7 : Int32) < nI 8 from (nI_lt_iff (a := 7) (b := 8) (by omega) (by omega)).mpr (by omega))]
  | succ c ih =>
    intro n p σ hp h38 hn
    obtain ⟨n, rfl⟩ : ∃ k, n = k + 1 := ⟨n - 1, by omega⟩
    have es : nI (p + 1) = nI p + 1 := by rw [nI_succ]
    have hlt : ¬ (7 : Int32) < nI p := fun e => absurd ((nI_lt_iff (a := 7) (b := p) (by omega) (by omega)).mp e) (by omega)
    obtain ⟨w, e1, e2, e3, e4⟩ := ih n (p + 1) (st σ 79 38 (nI (cnt (bit L) p + (bit L p).toNat))) (by omega) st_same (by omega)
    refine ⟨w, ?_, e2, fun i hi => (e3 i hi).trans (st_place hi), fun a ha => (e4 a ha).trans (st_cell ha)⟩
    rw [l_X10_findOrder_14, if_neg hlt, shr_one L (by omega), h38, nI_add, bt_eq, bt_eq, ← es]
    exact e1
theorem b_find {τ : St} (h : RlB D r τ) (hS : SetOk D r t s T L) (hF : FldB t s A L τ) (hA : 1 ≤ A ∧ A ≤ 60) (hT : bit L 7 = true → T = rip D (r 0 0) A + 1) (hk : k < nK D) (hN : 7000 ≤ N) (hU : UB 9 + 2 ≤ N) :
    ∃ w, o_X10_findOrder N (nI k) L (b01 any) τ = some (encB (bestO D r t s T any k L), w) ∧ BestB (pc L) (bestO D r t s T any k L) w ∧ FrO τ w := by
  have hpl := pc_le L
  have hd := h.ri.1
  have ht := (h.ri.2.2.1 k hk).1
  obtain ⟨w1, e1, e2, e3, e4⟩ := b_pc_loop (N := N) (L := L) (nI k) (b01 any) 8 N 0 (st (st τ 79 37 99999999) 79 38 0) (by omega) st_same (by omega)
  have hO : o_X10_findOrder N (nI k) L (b01 any) τ = _ := e1
  have h37 : w1 79 37 = 99999999 := by
    rw [e3 37 (by decide), st_place (by decide), st_same]
  have hfr1 : FrO τ w1 := ⟨fun c hc => by rw [e4 c (by omega), st_cell (by omega), st_cell (by omega)], fun i hi => by rw [e3 i (by omega), st_place (by omega), st_place (by omega)]⟩
  by_cases hz : pc L = 0
  · have hL := (pc_0 hS.1).mpr hz
    have e0 : w1 79 38 = 0 := by
      rw [e2, hz]
      rfl
    have hb : bestO D r t s T any k L = some (0, fun _ => 0) := by
      unfold bestO
      rw [srch, if_pos hL]
      rfl
    rw [hb]
    refine ⟨st w1 79 37 0, ?_, ⟨by rw [st_place (by decide)]; exact e2, st_same, by decide, fun i hi => by omega⟩, fun c hc => ?_, fun i hi => ?_⟩
    · rw [hO, if_pos e0, bt_eq]
      unfold j_X10_findOrder_54
      obtain ⟨n, rfl⟩ : ∃ x, N = x + 1 := ⟨N - 1, by omega⟩
      have e38 : st w1 79 37 0 79 38 ≤ 0 := by
        rw [st_place (by decide), e0]
        decide
      rw [l_X10_findOrder_63, if_neg (by decide), if_pos e38]
      unfold j_X10_findOrder_292
      rw [st_same]
      rfl
    · rw [st_cell (by omega)]
      exact hfr1.1 c hc
    · rw [st_place (by omega)]
      exact hfr1.2 i hi
  · have e0 : ¬ w1 79 38 = 0 := by
      rw [e2]
      exact fun e => hz ((nI_eq (a := pc L) (b := 0) (by omega) (by omega)).mp e)
    have hb1 : BestB (pc L) none w1 := ⟨e2, h37⟩
    have hg1 : RlB D r w1 := hfr1.m.b h
    have hf1 : FldB t s A L w1 := fun e => by
      rw [hfr1.2 29 (by decide), hfr1.2 30 (by decide), hfr1.2 31 (by decide)]
      exact hF e
    have hlv : LvOk D r t s A k L (rho0 D r T) (r 4 k) (r 0 0) 0 L 0 (fun _ => 0) (fun _ => 0) (fun _ => 0) 20000 := by
      refine ⟨⟨hS.1, hS.2.1, fun q _ x => x⟩, fun i hi => by omega, hS.2.2.2, ⟨ht, by omega, by omega, by omega, by omega⟩, fun q hq hb => ?_, fun _ => ⟨rfl, rfl, rfl⟩, fun x => absurd rfl x⟩
      unfold rho0 gvM ageN
      by_cases e7 : q = 7
      · rw [e7] at hb
        rw [if_pos e7, if_pos e7, if_pos e7, if_neg (by omega), Nat.add_sub_cancel]
        exact hT hb
      · rw [if_neg e7, if_neg e7, if_neg e7]
        unfold ripV
        by_cases g0 : gvn D r q = 0
        · rw [if_pos g0, if_pos g0]
          rfl
        · rw [if_neg g0, if_neg g0, if_neg g0]
    obtain ⟨u, w, y1, y2, y3, -, y5⟩ := b_lev (D := D) (r := r) (t := t) (s := s) (A := A) (any := any) (N := N) (Z := pc L) (k := k) (L0 := L) hA hk ⟨by omega, hpl⟩ hN 9 (rho0 D r T) (fun _ => 0) (fun _ => 0) (fun _ => 0) (r 4 k) (r 0 0) 0 0 20000 L hlv (by omega) (by omega) (by omega) 8 8 0 none w1 (by omega) (by omega) hg1 hf1 (fun i hi => by omega) hb1
    have hub : UB 9 = 8 * (2 + UB (9 - 1)) + 1 := rfl
    have hbest : bestO D r t s T any k L = srF D t s (srch D t s any 9) (rho0 D r T) (r 4 k) (r 0 0) 0 L 0 (fun _ => 0) 8 0 none := by
      unfold bestO
      rw [srch, if_neg (fun e => hz ((pc_0 hS.1).mp e))]
    have y2n := y2 (N - 1 - u)
    rw [show N - 1 - u + 1 + u = N by omega] at y2n
    rw [hbest]
    refine ⟨w, ?_, y3, fun c hc => (y5.1 c hc).trans (hfr1.1 c hc), fun i hi => (y5.2 i (by omega)).trans (hfr1.2 i hi)⟩
    rw [hO, if_neg e0]
    unfold j_X10_findOrder_54
    refine (show l_X10_findOrder_63 N N (nI k) (b01 any) 0 0 L w1 = PopV N (N - 1 - u) (nI k) (b01 any) 0 (fun _ => 0) L w from y2n).trans ?_
    unfold PopV
    rw [if_pos rfl]
    have hh := y3.2
    generalize srF D t s (srch D t s any 9) (rho0 D r T) (r 4 k) (r 0 0) 0 L 0 (fun _ => 0) 8 0 none = b at hh
    cases b with
    | none =>
      dsimp only at hh
      rw [hh]
      rfl
    | some x =>
      dsimp only at hh
      rw [hh.1]
      rfl
end FIND
