/-! busiest, lives, let -/
section SMALL2
variable {D : LD} {r : RD} {N : Nat}
theorem le1_of {a1 : Int32} (h : ¬ a1 < 0) (h2 : ¬ a1 < 2) : ¬ a1 ≤ (1 : Int32) := by
  rcases int_cases a1 with x | ⟨m, hm, rfl⟩
  · exact absurd x h
  · intro e
    have := (nI_le_iff (a := m) (b := 1) hm (by omega)).mp e
    exact h2 ((nI_lt_iff (a := m) (b := 2) hm (by omega)).mpr (by omega))
theorem e_busiest {σ τ : St} (h : RlA D r σ) (g : RlB D r τ) (hN : 7000 ≤ N) (a1 : Int32) : ∃ v, o_X9_busiest N a1 σ = some (v, σ) ∧ o_X10_busiest N a1 τ = some (v, τ) := by
  have h5 := h.ho.t5
  have h7 := h.ho.p7
  have hd := h.ri.1
  have e0 : (0 : Int32) = 0 := rfl
  have t0 := b_today g
  unfold o_X9_busiest o_X10_busiest
  rw [h.ha.1.1, g.hb.1.1]
  rcases two_cases a1 with ⟨i, hi, rfl⟩ | ho2
  · have e3 : nI i ≤ (1 : Int32) := (nI_le_iff (a := i) (b := 1) (by omega) (by omega)).mpr (by omega)
    rw [im_in hi, if_neg one_ne, if_neg (nI_pos (by omega)), if_pos e3]
    by_cases hz : nI (nT D) = 0
    · rw [if_pos hz, if_pos hz]
      exact ⟨_, rfl, rfl⟩
    · rw [if_neg hz, if_neg hz, bt_eq, a_today h.ra]
      obtain ⟨N', rfl⟩ : ∃ x, N = x + 1 := ⟨N - 1, by omega⟩
      have hle : ¬ (200 : Int32) ≤ 0 := by decide
      have ea : o_X9_dueOfAll (N' + 1) (nI (r 0 0)) σ = some (nI (cnt (dueQ D r (r 0 0)) (nP D)), σ) := by
        have := a_all_loop (N := N' + 1) h hN (d := r 0 0) (by omega) (nK D) (N' + 1) 0 (by omega) (by have := h.ho.k3; omega)
        rw [dueS_all h.z] at this
        exact this
      have eb : o_X10_mayKeepOn (N' + 1) (-1) (nI (r 0 0)) τ = some (nI (cnt (dueQ D r (r 0 0)) (nP D)), τ) := b_all_loop (N := N' + 1) g (d := r 0 0) (by omega) hN (nP D) (N' + 1) 0 (by omega) (by omega)
      have hc := cnt_le (dueQ D r (r 0 0)) (nP D)
      have ez : nI (r 0 0) + 0 = nI (r 0 0) := Int32.add_zero _
      rw [l_X9_busiest_38, if_neg hle, l_X10_busiest_30, if_neg hle, a_today h.ra, t0, ez, ea, bd_some, eb, bd_some, a_today h.ra, t0, ez]
      have hneg : ¬ nI (cnt (dueQ D r (r 0 0)) (nP D)) ≤ (-1 : Int32) := fun e => nI_pos (n := cnt (dueQ D r (r 0 0)) (nP D)) (by omega) (Int32.lt_of_le_of_lt e (by decide))
      rw [if_neg hneg]
      have busy := fun most hm => e_busy_loop (N := N' + 1) h g hN (nI i) 199 N' 1 most (r 0 0) (by omega) hm (by omega)
      unfold j_X9_busiest_82 j_X10_busiest_75
      generalize cnt (dueQ D r (r 0 0)) (nP D) = x at hc
      by_cases c1 : x ≤ 0
      · have hx : x = 0 := by omega
        subst hx
        rw [if_pos (show nI 0 ≤ (0 : Int32) by decide), bt_eq, bt_eq, bt_eq]
        exact busy 0 (by omega)
      · have hx0 : ¬ nI x ≤ (0 : Int32) := fun e => c1 ((nI_le_iff (a := x) (b := 0) (by omega) (by omega)).mp e)
        rw [if_neg hx0, bt_eq, bt_eq, bt_eq, bt_eq]
        exact busy x (by omega)
  · rw [im_out ho2, if_pos e0]
    rcases ho2 with c | ⟨c1, c2⟩
    · rw [if_pos c]
      exact ⟨_, rfl, rfl⟩
    · rw [if_neg c1, if_neg (le1_of c1 c2)]
      exact ⟨_, rfl, rfl⟩
theorem e_lives_loop {σ τ : St} (g : RlB D r τ) {p : Nat} (hp : p < nP D) (hz : ripV D r p ≠ 0) (hN : 7000 ≤ N) {q : Nat} (hq : q ≤ 1000) : ∀ (c n d o : Nat), (ripV D r p - 1) - d ≤ c → o ≤ 1000000000 → d ≤ 20000 → c < n →
    ∃ v, l_X9_lives_69 N n (nI q) (nI (ripV D r p - 1)) (nL o) (nI d) σ = some (v, σ) ∧ l_X10_lives_62 N n (nI p) (nI q) (nL o) (nI d) τ = some (v, τ) := by
  intro c
  have hr := ripV_le g.z hp
  have hrip : o_X10_ripe N 0 (nI p) τ = some (oI (ripV D r p), τ) := b_ripe g.ho g.hb g.ri (x := 0) (by omega) g.rb hp hN
  have eq : (1000 : Int32) - nI q = nI (1000 - q) := by
    show nI 1000 - nI q = _
    exact nI_sub hq
  induction c with
  | zero =>
    intro n d o hc ho hd hn
    obtain ⟨n, rfl⟩ : ∃ k, n = k + 1 := ⟨n - 1, by omega⟩
    rw [l_X9_lives_69, if_pos (nI_le (by omega) (by omega)), l_X10_lives_62, hrip, bd_some, oI_pos hz, if_pos (nI_le (by omega) (by omega))]
    exact ⟨_, rfl, rfl⟩
  | succ c ih =>
    intro n d o hc ho hd hn
    obtain ⟨n, rfl⟩ : ∃ k, n = k + 1 := ⟨n - 1, by omega⟩
    by_cases hle : ripV D r p - 1 ≤ d
    · rw [l_X9_lives_69, if_pos (nI_le (by omega) (by omega)), l_X10_lives_62, hrip, bd_some, oI_pos hz, if_pos (nI_le (by omega) (by omega))]
      exact ⟨_, rfl, rfl⟩
    · have hn1 : ¬ nI (ripV D r p - 1) ≤ nI d := by
        rw [nI_le_iff (by omega) (by omega)]
        exact hle
      have hm : o * (1000 - q) ≤ 1000000000 * 1000 := Nat.mul_le_mul ho (by omega)
      have ed : nL o * (nI (1000 - q)).toInt64 / 1000 = nL (o * (1000 - q) / 1000) := by
        rw [nL_of (by omega), nL_mul]
        exact nL_div (b := 1000) (by omega) (by omega)
      have hdv : o * (1000 - q) / 1000 ≤ 1000000000 := Nat.div_le_of_le_mul (by omega)
      rw [l_X9_lives_69, if_neg hn1, l_X10_lives_62, hrip, bd_some, oI_pos hz, if_neg hn1, bt_eq, bt_eq, bt_eq, bt_eq, eq, ed, ← p1_sub]
      exact ih n (d + 1) _ (by omega) hdv (by omega) (by omega)
theorem e_lives {σ τ : St} (h : RlA D r σ) (g : RlB D r τ) (hN : 20000 ≤ N) (a1 a2 : Int32) : ∃ v, o_X9_lives N a1 a2 σ = some (v, σ) ∧ o_X10_lives N a1 a2 τ = some (v, τ) := by
  have h7 := h.ho.p7
  have e0 : (0 : Int32) = 0 := rfl
  have e1 : ¬ b01 true = 0 := one_ne
  have e2 : b01 false = 0 := rfl
  have hd := h.ri.1
  unfold o_X9_lives o_X10_lives
  rcases a_has (n := nP D) (by omega) a1 with ⟨p, hp, rfl⟩ | hx
  · have hr := ripV_le h.z hp
    have hg := gvn_le h.ho h.ri hp
    have b21 : τ 80 (21 + p) = oI (gvn D r p) := by
      have e := (g.rb.2.1 p hp).2.2.2
      rw [show 0 + 21 + p = 21 + p from rfl] at e
      exact e
    rw [a_hasPromise_in h.ha h.ho hp, if_neg one_ne, b_isPromise_in g.hb g.ho hp, bd_some, if_neg one_ne]
    rcases a_has (n := 1001) (by omega) a2 with ⟨q, hq, rfl⟩ | hx
    · have ein : p_X10_in (nI q).toInt64 0 1000 τ = 1 := b_in_lt hq (by omega) τ
      have e3 : nI q ≤ (1000 : Int32) := (nI_le_iff (a := q) (b := 1000) (by omega) (by omega)).mpr (by omega)
      rw [ein, if_neg one_ne, if_neg (nI_pos (by omega)), if_pos e3, a_ripeOn h hp, bd_some, a_isOpen h hp, b_cka (x := p) (n := 1360) _ (by omega) (by decide), w_nI (c := τ 80) (x := p) (by omega), b_how g.rb hp,
        show (21 : Int32) + nI p = nI (21 + p) from nI_add 21 p, b_cka (x := 21 + p) _ (by omega) (by decide), w_nI (c := τ 80) (x := 21 + p) (by omega), b21, b_today g, a_today h.ra]
      by_cases o1 : r 1 p = 0
      · rw [if_pos ((open_nI h.z hp).mpr o1), decide_eq_true o1, if_neg e1]
        by_cases hz : ripV D r p = 0
        · have hg0 : gvn D r p = 0 := (gvn_rip D r).mpr hz
          have hneg : ¬ (0 : Int32) ≤ oI (gvn D r p) := by
            rw [hg0]
            decide
          rw [if_pos ((oI_neg (by omega)).mpr hz), if_neg hneg]
          exact ⟨_, rfl, rfl⟩
        · have hg0 : gvn D r p ≠ 0 := fun e => hz ((gvn_rip D r).mp e)
          have hnn : (0 : Int32) ≤ oI (gvn D r p) := by
            rw [oI_pos hg0]
            exact nI_le (a := 0) (by omega) (by omega)
          rw [if_neg (fun e => hz ((oI_neg (by omega)).mp e)), if_pos hnn, bt_eq, bt_eq, oI_pos hz]
          exact e_lives_loop (N := N) g hp hz (by omega) (q := q) (by omega) (ripV D r p - 1 - r 0 0) N (r 0 0) 1000000000 (by omega) (by omega) (by omega) (by omega)
      · rw [if_neg (fun e => o1 ((open_nI h.z hp).mp e)), decide_eq_false o1, if_pos e2]
        exact ⟨_, rfl, rfl⟩
    · have ein : p_X10_in a2.toInt64 0 1000 τ = 0 := b_in_out (n := 1001) hx (by omega) τ
      rw [ein, if_pos e0]
      by_cases c : a2 < 0
      · rw [if_pos c]
        exact ⟨_, rfl, rfl⟩
      · have c3 : ¬ a2 ≤ (1000 : Int32) := by
          rcases int_cases a2 with x | ⟨m, hm, rfl⟩
          · exact absurd x c
          · intro e
            have h1 := (nI_le_iff (a := m) (b := 1000) hm (by omega)).mp e
            have h2 := (nI_le_iff (a := 1001) (b := m) (by omega) hm).mp (hx.resolve_left c)
            omega
        rw [if_neg c, if_neg c3]
        exact ⟨_, rfl, rfl⟩
  · rw [a_hasPromise_out h.ha hx, if_pos e0, b_isPromise_out g.hb g.ho hx, bd_some, if_pos e0]
    exact ⟨_, rfl, rfl⟩
end SMALL2
