/-! the law's loop -/
section LAW
variable {N : Nat}
def HandsS (N : Nat) : Prop := ∀ σ, WR σ → ∀ a1, StepR (o_X9_hands N a1 σ) (o_X10_hands N a1)
def ShareS (N : Nat) : Prop := ∀ σ, WR σ → ∀ a1, StepR (o_X9_share N a1 σ) (o_X10_share N a1)
theorem law_len {L j : Nat} (hL : L ≤ 2048) (hj : j ≤ 4096) : (Int32.ofNat L) - 4 < nI j ↔ L < j + 4 := by
  show nI L - 4 < nI j ↔ _
  by_cases c : 4 ≤ L
  · rw [show nI L - 4 = nI (L - 4) from nI_sub (b := 4) c, nI_lt_iff (by omega) (by omega)]
    omega
  · have h1 : nI L - 4 < 0 := by
      rcases (by omega : L = 0 ∨ L = 1 ∨ L = 2 ∨ L = 3) with e | e | e | e <;> subst e <;> decide
    have h2 : (0 : Int32) ≤ nI j := Int32.not_lt.mp (nI_pos (by omega))
    exact ⟨fun _ => by omega, fun _ => Int32.lt_of_lt_of_le h1 h2⟩
theorem law_step (hU : UB 9 + 20000 ≤ N) (hH : HandsS N) (hS : ShareS N) {L : Nat} {xs : Nat → Int32} (hL : L ≤ 2048) {n j : Nat} {σ : St} (hW : WR σ) (hj : j + 4 ≤ L)
    (next : ∀ w, WR w → ∃ z, l_L_law_18 N L xs n (nI (j + 4)) w = some (1, z)) : ∃ z, l_L_law_18 N L xs (n + 1) (nI j) σ = some (1, z) := by
  have hN2 : 20000 ≤ N := Nat.le_trans (Nat.le_add_left _ _) hU
  have hU2 : UB 9 + 2 ≤ N := Nat.le_trans (Nat.add_le_add_left (show 2 ≤ 20000 by decide) _) hU
  clear hU
  have hN : 7000 ≤ N := Nat.le_trans (by decide) hN2
  have k0 : ∀ {r : Option (Int32 × St)}, ckA (nI j) L r = r := fun {r} => b_cka (x := j) (n := L) r (by omega) (by omega)
  have e1 : nI j + 1 = nI (j + 1) := nI_add j 1
  have e2 : nI j + 2 = nI (j + 2) := nI_add j 2
  have e3 : nI j + 3 = nI (j + 3) := nI_add j 3
  have e4 : nI j + 4 = nI (j + 4) := nI_add j 4
  have k1 : ∀ {r : Option (Int32 × St)}, ckA (nI (j + 1)) L r = r := fun {r} => b_cka (x := j + 1) (n := L) r (by omega) (by omega)
  have k2 : ∀ {r : Option (Int32 × St)}, ckA (nI (j + 2)) L r = r := fun {r} => b_cka (x := j + 2) (n := L) r (by omega) (by omega)
  have k3 : ∀ {r : Option (Int32 × St)}, ckA (nI (j + 3)) L r = r := fun {r} => b_cka (x := j + 3) (n := L) r (by omega) (by omega)
  have go : ∀ w, WR w → ∃ z, j_L_law_958 N L xs (l_L_law_18 N L xs n) (nI j) w = some (1, z) := fun w hw => by
    unfold j_L_law_958
    rw [bt_eq, e4]
    exact next w hw
  have hlt : ¬ (Int32.ofNat L) - 4 < nI j := fun e => by
    have := (law_len hL (by omega)).mp e
    omega
  rw [l_L_law_18, if_neg hlt, k0, e1, e2, e3]
  generalize xs (nI j).toNatClampNeg &&& 31 = c
  generalize xs (nI (j + 1)).toNatClampNeg = a1
  generalize xs (nI (j + 2)).toNatClampNeg = a2
  generalize xs (nI (j + 3)).toNatClampNeg = a3
  by_cases c0 : c = 0
  · rw [if_pos c0]
    obtain ⟨v, w1, w2, z1, z2, z3⟩ := s_feed (N := N) hW a1
    have f := Option.some.inj z1
    have f1 : (t_X9_feed a1 σ).1 = v := congrArg Prod.fst f
    have f2 : (t_X9_feed a1 σ).2 = w1 := congrArg Prod.snd f
    rw [k1, bt_eq, k1, f1, f2, z2, bd_some, if_pos rfl]
    exact go w2 z3
  rw [if_neg c0]
  by_cases c1 : c = 1
  · rw [if_pos c1]
    obtain ⟨v, w1, w2, z1, z2, z3⟩ := s_land (N := N) hN hW
    rw [z1, bd_some, z2, bd_some, if_pos rfl]
    exact go w2 z3
  rw [if_neg c1]
  by_cases c2 : c = 2
  · rw [if_pos c2]
    obtain ⟨Q, hO, hA, hB⟩ := hW
    have e : p_X9_fault σ = p_X10_fault σ := hA.2.2.1.2.trans hB.2.2.1.2.symm
    rw [if_pos e]
    exact go σ ⟨Q, hO, hA, hB⟩
  rw [if_neg c2]
  by_cases c3 : c = 3
  · rw [if_pos c3]
    obtain ⟨v, w1, w2, z1, z2, z3⟩ := s_told (N := N) hN hW a1
    rw [k1, z1, bd_some, k1, z2, bd_some, if_pos rfl]
    exact go w2 z3
  rw [if_neg c3]
  by_cases c4 : c = 4
  · rw [if_pos c4]
    obtain ⟨Q, hO, hA, hB⟩ := hW
    rw [k1, k2, k1, k2, e_far (N := N) (WD.rl0 hO hA hB) a1 a2, bd_some, if_pos rfl]
    exact go σ ⟨Q, hO, hA, hB⟩
  rw [if_neg c4]
  by_cases c5 : c = 5
  · rw [if_pos c5]
    obtain ⟨v, w1, w2, z1, z2, z3⟩ := s_keeper (N := N) hN hW a1 a2
    rw [k1, k2, z1, bd_some, k1, k2, z2, bd_some, if_pos rfl]
    exact go w2 z3
  rw [if_neg c5]
  by_cases c6 : c = 6
  · rw [if_pos c6]
    obtain ⟨v, w1, w2, z1, z2, z3⟩ := s_promise (N := N) hN hW a1 a2
    rw [k1, k2, z1, bd_some, k1, k2, z2, bd_some, if_pos rfl]
    exact go w2 z3
  rw [if_neg c6]
  by_cases c7 : c = 7
  · rw [if_pos c7]
    obtain ⟨Q, hO, hA, hB⟩ := hW
    rw [k1, k1, e_fell (N := N) (WD.rl0 hO hA hB) a1, bd_some, if_pos rfl]
    exact go σ ⟨Q, hO, hA, hB⟩
  rw [if_neg c7]
  by_cases c8 : c = 8
  · rw [if_pos c8]
    obtain ⟨v, w1, w2, z1, z2, z3⟩ := s_go (N := N) hW a1 a2
    have f := Option.some.inj z1
    have f1 : (t_X9_go a1 a2 σ).1 = v := congrArg Prod.fst f
    have f2 : (t_X9_go a1 a2 σ).2 = w1 := congrArg Prod.snd f
    rw [k1, k2, bt_eq, k1, k2, f1, f2, z2, bd_some, if_pos rfl]
    exact go w2 z3
  rw [if_neg c8]
  by_cases c9 : c = 9
  · rw [if_pos c9]
    obtain ⟨v, w1, w2, z1, z2, z3⟩ := s_day (N := N) hN hW a1
    rw [k1, z1, bd_some, k1, z2, bd_some, if_pos rfl]
    exact go w2 z3
  rw [if_neg c9]
  by_cases c10 : c = 10
  · rw [if_pos c10]
    obtain ⟨v, w1, w2, z1, z2, z3⟩ := s_keep (N := N) hN hW a1
    rw [k1, z1, bd_some, k1, z2, bd_some, if_pos rfl]
    exact go w2 z3
  rw [if_neg c10]
  by_cases c11 : c = 11
  · rw [if_pos c11]
    obtain ⟨v, w1, w2, z1, z2, z3⟩ := s_takeDown (N := N) hN hW a1
    rw [k1, z1, bd_some, k1, z2, bd_some, if_pos rfl]
    exact go w2 z3
  rw [if_neg c11]
  by_cases c12 : c = 12
  · rw [if_pos c12]
    obtain ⟨v, w1, w2, z1, z2, z3⟩ := s_swap (N := N) hW a1 a2
    have f := Option.some.inj z1
    have f1 : (t_X9_swap a1 a2 σ).1 = v := congrArg Prod.fst f
    have f2 : (t_X9_swap a1 a2 σ).2 = w1 := congrArg Prod.snd f
    rw [k1, k2, bt_eq, k1, k2, f1, f2, z2, bd_some, if_pos rfl]
    exact go w2 z3
  rw [if_neg c12]
  by_cases c13 : c = 13
  · rw [if_pos c13]
    obtain ⟨v, w1, w2, z1, z2, z3⟩ := s_drift (N := N) hN hW a1
    rw [k1, z1, bd_some, k1, z2, bd_some, if_pos rfl]
    exact go w2 z3
  rw [if_neg c13]
  by_cases c14 : c = 14
  · rw [if_pos c14]
    obtain ⟨v, w1, w2, z1, z2, z3⟩ := s_undo (N := N) hN hW a1
    rw [k1, z1, bd_some, k1, z2, bd_some, if_pos rfl]
    exact go w2 z3
  rw [if_neg c14]
  by_cases c15 : c = 15
  · rw [if_pos c15]
    obtain ⟨v, w1, w2, z1, z2, z3⟩ := s_plan (N := N) hN hU2 hW a1 a2
    rw [k1, k2, z1, bd_some, k1, k2, z2, bd_some, if_pos rfl]
    exact go w2 z3
  rw [if_neg c15]
  by_cases c16 : c = 16
  · rw [if_pos c16]
    obtain ⟨v, w1, w2, z1, z2, z3⟩ := s_clash (N := N) hN hU2 hW a1 a2
    rw [k1, k2, z1, bd_some, k1, k2, z2, bd_some, if_pos rfl]
    exact go w2 z3
  rw [if_neg c16]
  by_cases c17 : c = 17
  · rw [if_pos c17]
    obtain ⟨v, w1, w2, z1, z2, z3⟩ := s_still (N := N) hN hU2 hW a1 a2 a3
    rw [k1, k2, k3, z1, bd_some, k1, k2, k3, z2, bd_some, if_pos rfl]
    exact go w2 z3
  rw [if_neg c17]
  by_cases c18 : c = 18
  · rw [if_pos c18]
    obtain ⟨v, w1, w2, z1, z2, z3⟩ := hH σ hW a1
    rw [k1, z1, bd_some, k1, z2, bd_some, if_pos rfl]
    exact go w2 z3
  rw [if_neg c18]
  by_cases c19 : c = 19
  · rw [if_pos c19]
    obtain ⟨v, w1, w2, z1, z2, z3⟩ := s_calendar (N := N) hN hW a1 a2
    rw [k1, k2, z1, bd_some, k1, k2, z2, bd_some, if_pos rfl]
    exact go w2 z3
  rw [if_neg c19]
  by_cases c20 : c = 20
  · rw [if_pos c20]
    obtain ⟨v, w1, w2, z1, z2, z3⟩ := s_busiest (N := N) hN hW a1
    rw [k1, z1, bd_some, k1, z2, bd_some, if_pos rfl]
    exact go w2 z3
  rw [if_neg c20]
  by_cases c21 : c = 21
  · rw [if_pos c21]
    obtain ⟨v, w1, w2, z1, z2, z3⟩ := s_lives (N := N) hN2 hW a1 a2
    rw [k1, k2, z1, bd_some, k1, k2, z2, bd_some, if_pos rfl]
    exact go w2 z3
  rw [if_neg c21]
  by_cases c22 : c = 22
  · rw [if_pos c22]
    obtain ⟨v, w1, w2, z1, z2, z3⟩ := hS σ hW a1
    rw [k1, z1, bd_some, k1, z2, bd_some, if_pos rfl]
    exact go w2 z3
  rw [if_neg c22]
  by_cases c23 : c = 23
  · rw [if_pos c23]
    obtain ⟨v, w1, w2, z1, z2, z3⟩ := s_let (N := N) hN hW a1 a2 a3
    rw [k1, k2, k3, z1, bd_some, k1, k2, k3, z2, bd_some, if_pos rfl]
    exact go w2 z3
  rw [if_neg c23]
  by_cases c24 : c = 24
  · rw [if_pos c24]
    obtain ⟨v, w1, w2, z1, z2, z3⟩ := s_write (N := N) hW a1 a2
    have f := Option.some.inj z1
    have f1 : (t_X9_write a1 a2 σ).1 = v := congrArg Prod.fst f
    have f2 : (t_X9_write a1 a2 σ).2 = w1 := congrArg Prod.snd f
    rw [k1, k2, bt_eq, k1, k2, f1, f2, z2, bd_some, if_pos rfl]
    exact go w2 z3
  rw [if_neg c24]
  by_cases c25 : c = 25
  · rw [if_pos c25]
    obtain ⟨v, w1, w2, z1, z2, z3⟩ := s_judge (N := N) hN hW
    rw [z1, bd_some, z2, bd_some, if_pos rfl]
    exact go w2 z3
  rw [if_neg c25]
  by_cases c26 : c = 26
  · rw [if_pos c26]
    obtain ⟨v, w1, w2, z1, z2, z3⟩ := s_tear hW
    have f := Option.some.inj z1
    have f1 : (t_X9_tear σ).1 = v := congrArg Prod.fst f
    have f2 : (t_X9_tear σ).2 = w1 := congrArg Prod.snd f
    have g := Option.some.inj z2
    have g1 : (t_X10_tear w1).1 = v := congrArg Prod.fst g
    have g2 : (t_X10_tear w1).2 = w2 := congrArg Prod.snd g
    rw [bt_eq, f2, bt_eq, f1, g1, g2, if_pos rfl]
    exact go w2 z3
  rw [if_neg c26]
  by_cases c27 : c = 27
  · rw [if_pos c27]
    obtain ⟨v, w1, w2, z1, z2, z3⟩ := s_seed hW a1
    have f := Option.some.inj z1
    have f1 : (t_X9_seed a1 σ).1 = v := congrArg Prod.fst f
    have f2 : (t_X9_seed a1 σ).2 = w1 := congrArg Prod.snd f
    have g := Option.some.inj z2
    have g1 : (t_X10_seed a1 w1).1 = v := congrArg Prod.fst g
    have g2 : (t_X10_seed a1 w1).2 = w2 := congrArg Prod.snd g
    rw [k1, bt_eq, k1, f2, bt_eq, f1, g1, g2, if_pos rfl]
    exact go w2 z3
  rw [if_neg c27]
  by_cases c28 : c = 28
  · rw [if_pos c28]
    obtain ⟨v, w1, w2, z1, z2, z3⟩ := s_image (N := N) hN hW a1
    have f := Option.some.inj z1
    have f1 : (t_X9_image a1 σ).1 = v := congrArg Prod.fst f
    have f2 : (t_X9_image a1 σ).2 = w1 := congrArg Prod.snd f
    rw [k1, bt_eq, k1, f1, f2, z2, bd_some, if_pos rfl]
    exact go w2 z3
  rw [if_neg c28]
  by_cases c29 : c = 29
  · rw [if_pos c29]
    obtain ⟨v, w1, w2, z1, z2, z3⟩ := s_goBack (N := N) hN hW a1
    have f := Option.some.inj z1
    have f1 : (t_X9_goBack a1 σ).1 = v := congrArg Prod.fst f
    have f2 : (t_X9_goBack a1 σ).2 = w1 := congrArg Prod.snd f
    rw [k1, bt_eq, k1, f1, f2, z2, bd_some, if_pos rfl]
    exact go w2 z3
  rw [if_neg c29]
  exact go σ hW
theorem law_all (hU : UB 9 + 20000 ≤ N) (hH : HandsS N) (hS : ShareS N) {L : Nat} {xs : Nat → Int32} (hL : L ≤ 2048) : ∀ (c n j : Nat) (σ : St), WR σ → L ≤ j + 4 * c → j ≤ L → c < n → ∃ z, l_L_law_18 N L xs n (nI j) σ = some (1, z) := by
  intro c
  induction c with
  | zero =>
    intro n j σ hW hc hj hn
    obtain ⟨n, rfl⟩ : ∃ k, n = k + 1 := ⟨n - 1, by omega⟩
    rw [l_L_law_18, if_pos ((law_len hL (by omega)).mpr (by omega))]
    exact ⟨σ, rfl⟩
  | succ c ih =>
    intro n j σ hW hc hj hn
    obtain ⟨n, rfl⟩ : ∃ k, n = k + 1 := ⟨n - 1, by omega⟩
    by_cases e : j + 4 ≤ L
    · exact law_step hU hH hS hL hW e fun w hw => ih n (j + 4) w hw (by omega) e (by omega)
    · rw [l_L_law_18, if_pos ((law_len hL (by omega)).mpr (by omega))]
      exact ⟨σ, rfl⟩
end LAW
