section SHARE6
variable {D : LD} {r : RD} {N : Nat}
theorem gV_got {F V T : Nat} (hT : 0 < T) : ∀ i, i ≤ nK D → gV D r F V T i = gotF D r F V T i
  | 0, _ => rfl
  | i + 1, h => by
    rw [gV, gotF, gV_got hT i (by omega), aV]
    by_cases e : D 1 i = F
    · rw [if_pos ⟨⟨by omega, e⟩, hT⟩, if_pos e]
    · rw [if_neg (fun z => e z.1.2), if_neg e]
theorem gV_end {F V T : Nat} : ∀ j, nK D ≤ j → gV D r F V T j = gV D r F V T (nK D) := by
  intro j hj
  induction hj with
  | refl => rfl
  | step h ih =>
    rename_i m
    show gV D r F V T m + aV D r F V T m = _
    rw [ih, aV, if_neg (fun z => absurd z.1.1 (by have : nK D ≤ m := h; omega))]
    rfl
theorem gV_0 {F V : Nat} : ∀ j, gV D r F V 0 j = 0
  | 0 => rfl
  | j + 1 => by
    rw [gV, gV_0 j, aV, if_neg (fun z => absurd z.2 (Nat.lt_irrefl 0))]
theorem b_share {τ : St} (g : RlB D r τ) (hN : 7000 ≤ N) {k : Nat} (hk : k < nK D) : ∃ w, o_X10_share N (nI k) τ = some (nI (shrV D r k), w) ∧ FrS τ w := by
  have h3 := g.ho.k3
  have hF := fam_lt g.ho hk
  have hV : r 6 (D 1 k) ≤ 63 := g.ri.2.2.2 _ hF
  have hT := totF_le (r := r) g.ho (F := D 1 k) (nK D)
  obtain ⟨f, f1, f2, f3, f4, f5⟩ := fst_in (D := D) (F := D 1 k) (nK D) 0 k (Nat.zero_le _) (by omega) rfl
  unfold o_X10_share shrV o_X10_findShares
  generalize hTT : totF D r (D 1 k) (nK D) = T at hT ⊢
  generalize hVV : r 6 (D 1 k) = V at hV ⊢
  have hgot : 0 < T → gotF D r (D 1 k) V T (nK D) ≤ V := fun h => by
    have := got_le (D := D) (r := r) (F := D 1 k) (V := V) (by rw [hTT]; exact h)
    rw [hTT] at this
    exact this
  have hg : gV D r (D 1 k) V T 3 ≤ V := by
    by_cases c : 0 < T
    · rw [gV_end 3 h3, gV_got c _ (Nat.le_refl _)]
      exact hgot c
    · have e : T = 0 := by omega
      rw [e, gV_0]
      exact Nat.zero_le _
  have s1 := b_fs12 (N := N) g hN hF (nK D) N (Nat.le_refl _) (by omega)
  have v34 : τ 80 (34 + D 1 k) = nI V := by
    have := g.rb.2.2.2 (D 1 k) hF
    rw [show 0 + 34 + D 1 k = 34 + D 1 k by omega, hVV] at this
    exact this
  rw [Nat.sub_self, Nat.sub_self, f4, v34, hTT] at s1
  have s1' : l_X10_findShares_12 N N (nI (D 1 k)) 0 (-1) (nI (nK D) - 1) τ = _ := s1
  obtain ⟨w, y1, y2, y3, y4⟩ := b_fs79 (N := N) g hN (v3 := nI f) hF hVV hV (T := T) (by omega) hg 3 N 0 τ (by omega) (by omega) (fun _ _ _ => rfl)
  have y1' : l_X10_findShares_79 N N (nI (D 1 k)) (nI T) (nI f) (nI V) 0 τ = _ := y1
  obtain ⟨n, hn⟩ : ∃ x, N - 3 = x + 1 := ⟨N - 4, by omega⟩
  have gw := g.frs y2
  have nf : ¬ nI f < 0 := nI_pos (by omega)
  rw [b_isKeeper_in g.hb g.ho hk, bd_some, if_neg one_ne, b_cka (x := k) (n := 6) _ (by omega) (by decide), nI_clamp (n := k) (by omega), (g.hb.2.2.1 k hk).1, g.hb.1.2.2.1, bt_eq, s1', y1', hn, l_X10_findShares_79, if_pos (show (3 : Int32) ≤ nI 3 by decide)]
  have a100 : ∀ j, j < 3 → w 100 j = nI (aV D r (D 1 k) V T j) := fun j hj => by rw [y3, if_pos ⟨Nat.zero_le _, hj⟩]
  have fin : ∀ (o : Option (Unit × St)) (w' : St) (z : Nat), o = some ((), w') → FrS τ w' → w' 100 k = nI z → ∃ u, (bd o fun u6 σ7 => ckA (nI k) 3 (some (σ7 100 k, σ7))) = some (nI z, u) ∧ FrS τ u := by
    intro o w' z h1 h2 h3'
    rw [h1, bd_some, b_cka (x := k) (n := 3) _ (by omega) (by decide), h3']
    exact ⟨w', rfl, h2⟩
  by_cases c : 0 < T
  · have nz : ¬ nI T = 0 := fun z => absurd ((nI_eq (a := T) (b := 0) (by omega) (by omega)).mp z) (by omega)
    have hL : V - gV D r (D 1 k) V T 3 ≤ cnt (fun i => decide (0 < xV D r (D 1 k) V T i)) (nK D) := by
      have := left_le (D := D) (r := r) (F := D 1 k) (V := V) (by rw [hTT]; exact c)
      rw [hTT] at this
      rw [gV_end 3 h3, gV_got c _ (Nat.le_refl _)]
      refine Nat.le_trans this (Nat.le_of_eq (cnt_congr _ fun q hq => ?_))
      unfold xV
      by_cases e : D 1 q = D 1 k
      · rw [if_pos ⟨⟨hq, e⟩, c⟩, decide_eq_true e, decide_eq_true (Nat.succ_pos _)]
      · rw [if_neg (fun z => e z.1.2), decide_eq_false e]
        rfl
    have hR : RsT (nK D) (xV D r (D 1 k) V T) w := by
      refine ⟨⟨gw.hb.1.2.2.1, h3⟩, fun i hi => ⟨by rw [y4, if_pos ⟨Nat.zero_le _, by omega⟩], ?_⟩⟩
      unfold xV
      have := Nat.mod_lt (V * szK D r i) c
      split <;> omega
    obtain ⟨w2, d1, d2, d3⟩ := b_deal (N := N) hN (V - gV D r (D 1 k) V T 3) N (xV D r (D 1 k) V T) w hR hL (by omega) (fun j hj => if_neg (fun z => f5 j (Nat.zero_le _) hj z.1.2)) (by omega)
    rw [if_neg nz, if_pos c]
    refine fin _ w2 _ d1 (fun c h1 h2 => (d3 c h1 h2).trans (y2 c h1 h2)) ?_
    rw [d2 k hk, a100 k (by omega), gV_end 3 h3, gV_got c _ (Nat.le_refl _)]
    have hyes : (k < nK D ∧ D 1 k = D 1 k) ∧ 0 < T := ⟨⟨hk, rfl⟩, c⟩
    have ha : aV D r (D 1 k) V T k = V * szK D r k / T := if_pos hyes
    have hx : xV D r (D 1 k) V T k = V * szK D r k % T + 1 := if_pos hyes
    have hc : cnt (ahX (xV D r (D 1 k) V T) k) (nK D) = cnt (ahdQ D r (D 1 k) V T k) (nK D) := by
      refine cnt_congr _ fun q hq => ?_
      unfold ahX ahdQ
      rw [hx]
      by_cases e : D 1 q = D 1 k
      · have hx2 : xV D r (D 1 k) V T q = V * szK D r q % T + 1 := if_pos ⟨⟨hq, e⟩, c⟩
        rw [hx2]
        simp [e]
      · have hx2 : xV D r (D 1 k) V T q = 0 := if_neg (fun z => e z.1.2)
        rw [hx2]
        simp [e]
    rw [ha, hc]
    by_cases c3 : cnt (ahdQ D r (D 1 k) V T k) (nK D) < V - gotF D r (D 1 k) V T (nK D)
    · rw [if_pos ⟨by omega, c3⟩, if_neg (by omega)]
      exact nI_add _ 1
    · rw [if_neg (fun z => c3 z.2), if_pos (by omega), Int32.add_zero, Nat.add_zero]
  · have hT0 : T = 0 := by omega
    have ck3 : ∀ {o : Option (Unit × St)}, ckA (nI f) 3 o = o := fun {o} => b_cka (x := f) (n := 3) o (by omega) (by decide)
    have hg0 : V - gV D r (D 1 k) V T 3 = V := by
      rw [hT0, gV_0]
      rfl
    obtain ⟨m, rfl⟩ : ∃ x, N = x + 1 := ⟨N - 1, by omega⟩
    rw [if_pos (by rw [hT0]; rfl), if_neg nf, ck3, bt_eq, nI_clamp (n := f) (by omega), hg0, l_X10_findShares_221, if_pos (show (0 : Int32) ≤ 0 by decide), if_neg c, f4]
    refine fin _ _ _ rfl (fun c h1 h2 => (st_cell h1).trans (y2 c h1 h2)) ?_
    rw [st_get]
    by_cases e : k = f
    · rw [if_pos e, if_pos (by rw [e])]
    · have ha : aV D r (D 1 k) V T k = 0 := if_neg (fun z => c z.2)
      rw [if_neg e, if_neg (fun z => e ((nI_eq (by omega) (by omega)).mp z).symm), a100 k (by omega), ha]
theorem e_share {σ τ : St} (h : RlA D r σ) (g : RlB D r τ) (hN : 7000 ≤ N) (a1 : Int32) : ∃ v w, o_X9_share N a1 σ = some (v, σ) ∧ o_X10_share N a1 τ = some (v, w) ∧ FrM τ w := by
  have h3 := h.ho.k3
  have e0 : (0 : Int32) = 0 := rfl
  rcases a_has (n := nK D) (by omega) a1 with ⟨k, hk, rfl⟩ | hx
  · obtain ⟨w, z1, z2⟩ := b_share g hN hk
    exact ⟨_, w, a_share h hN hk, z1, fun c hc => z2 c (by omega) (by omega), fun i _ => by rw [z2 79 (by omega) (by omega)]⟩
  · unfold o_X9_share o_X10_share
    rw [a_hasKeeper_out h.ha hx, if_pos e0, b_isKeeper_out g.hb g.ho hx, bd_some, if_pos e0]
    exact ⟨_, τ, rfl, rfl, FrM.rf'⟩
theorem s_share (hN : 7000 ≤ N) : ShareS N := by
  intro σ hW a1
  obtain ⟨Q, hO, hA, hB⟩ := hW
  refine mkStep hO hB (fun τ hτ => ?_) (fun v w e => (fr_X9_share e).hi rfl) (fun τ v w e => (fr_X10_share e).lo rfl)
  obtain ⟨v, w, z1, z2, z4⟩ := e_share (N := N) (WD.rlA hO hA) (WD.rlB hO hτ) hN a1
  obtain ⟨Q', q⟩ := WD.ask hO hA hτ FrC.rf' z4
  exact ⟨v, _, w, Q', z1, z2, q⟩
end SHARE6
