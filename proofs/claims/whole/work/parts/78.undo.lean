/-! undo, images -/
def ImA (D : LD) (kp : Nat → Bool) (I : Nat → RD) (sd : Nat → Nat) (σ : St) : Prop := ∀ q, q < 2 → bit (σ 57 2) q = kp q ∧ (kp q = true → RowA D (I q) (σ (59 + q)) ∧ σ 61 q = nI (sd q))
def ImB (D : LD) (kp : Nat → Bool) (I : Nat → RD) (sd : Nat → Nat) (τ : St) : Prop := ∀ q, q < 2 → τ 81 q = b01 (kp q) ∧ (kp q = true → RowB D (I q) (τ 80) (80 + 40 * q) ∧ τ 80 (80 + 40 * q + 38) = nI (sd q))
def ImOk (D : LD) (kp : Nat → Bool) (I : Nat → RD) (sd : Nat → Nat) : Prop := ∀ q, q < 2 → kp q = true → RowOk D (I q) ∧ sd q < 2 ^ 31
section UNDO
variable {D : LD} {N : Nat}
theorem undo_in (x : Int32) (σ : St) : p_X10_in x.toInt64 1 30 σ = if x < 1 ∨ 30 < x then 0 else 1 := b_in x 1 30 σ
theorem cpO_some (σ : St) (a b n m : Nat) : cpO_ σ (some a) (some b) n m = cp_ σ a b (min n m) := rfl
theorem e_undo {s : DS} {σ τ : St} (ho : LandOk D) (h : DsOk D s) (hA : DsA D s σ) (hB : DsB D s τ) (hN : 7000 ≤ N) (a1 : Int32) :
    ∃ v s' wA w, o_X9_undo N a1 σ = some (v, wA) ∧ DsA D s' wA ∧ o_X10_undo N a1 τ = some (v, w) ∧ DsB D s' w ∧ DsOk D s' ∧ w 80 38 = τ 80 38 ∧ (∀ i, ¬ i = 28 → w 79 i = τ 79 i) ∧ ∀ i, 40 ≤ i → w 80 i = τ 80 i := by
  obtain ⟨l1, r1, x, x1, x2, x3, x4⟩ := hA
  obtain ⟨l2, r2, y1, y2⟩ := hB
  have hn := h.2.1
  have same : ∀ v, (some (v, σ) : Option (Int32 × St)) = some (v, σ) := fun _ => rfl
  have e0 : (0 : Int32) = 0 := rfl
  unfold o_X9_undo o_X10_undo
  rw [undo_in]
  by_cases c1 : a1 < 1
  · rw [if_pos c1, if_pos (Or.inl c1), if_pos e0]
    exact ⟨_, s, σ, τ, rfl, ⟨l1, r1, x, x1, x2, x3, x4⟩, rfl, ⟨l2, r2, y1, y2⟩, h, rfl, fun _ _ => rfl, fun _ _ => rfl⟩
  rw [if_neg c1]
  by_cases c2 : a1 ≤ 30
  · have hno : ¬ (a1 < 1 ∨ 30 < a1) := fun z => z.elim c1 (fun q => absurd c2 (Int32.not_le.mpr q))
    rw [if_pos c2, if_neg hno, if_neg one_ne, y1]
    have hm : ∃ m, a1 = nI m ∧ 1 ≤ m ∧ m ≤ 30 := by
      rcases int_cases a1 with z | ⟨m, hm, rfl⟩
      · exact absurd (Int32.lt_trans z (by decide)) c1
      · refine ⟨m, rfl, ?_, (nI_le_iff (a := m) (b := 30) hm (by omega)).mp c2⟩
        by_cases hc : 1 ≤ m
        · exact hc
        · exact absurd ((nI_lt_iff (a := m) (b := 1) hm (by omega)).mpr (by omega)) c1
    obtain ⟨m, rfl, m1, m2⟩ := hm
    unfold o_X6_takeBack
    rw [if_neg c1, x3]
    by_cases c3 : m ≤ s.2.1
    · have hle : nI m ≤ nI s.2.1 := nI_le c3 (by omega)
      have ef : o_J9_floorMod_7cf53 N (nI x - nI m) 30 σ = some (nI ((x + 99 * 30 - m) % 30), σ) := fmod_nI (F := m) (b := 30) (by omega) (by omega) (by omega) (by omega) N σ
      rw [if_pos hle, if_pos hle, x2, ef, bd_some]
      have ex : (x + 99 * 30 - m) % 30 = (x + 30 - s.2.1 + (s.2.1 - m)) % 30 := by omega
      have hx : (x + 99 * 30 - m) % 30 < 30 := by omega
      unfold bt
      have g2 : st σ 25 1 (nI ((x + 99 * 30 - m) % 30)) 25 2 = nI s.2.1 := by
        rw [st_place (by decide)]
        exact x3
      have g1 : st (st σ 25 1 (nI ((x + 99 * 30 - m) % 30))) 25 2 (nI (s.2.1 - m)) 25 1 = nI ((x + 99 * 30 - m) % 30) := by
        rw [st_place (by decide), st_same]
      try dsimp only
      rw [g2, nI_sub c3, g1, rwA_in hx (by decide), cpO_some, bd_some, if_neg one_ne]
      have ey : (160 : Int32) + 40 * nI (s.2.1 - m) = nI (160 + 40 * (s.2.1 - m)) := by
        show nI 160 + nI 40 * nI _ = _
        rw [nI_mul, nI_add]
      have t28 : st τ 79 28 (nI (s.2.1 - m)) 79 28 = nI (s.2.1 - m) := st_same
      obtain ⟨w1, k1, k2, k3⟩ := b_copy (N := N) (x := 160 + 40 * (s.2.1 - m)) (y := 0) (by omega) (by omega) (by omega) hN (st τ 79 28 (nI (s.2.1 - m)))
      rw [t28, ey, show o_X10_copy N (nI (160 + 40 * (s.2.1 - m))) 0 (st τ 79 28 (nI (s.2.1 - m))) = _ from k1, bd_some]
      have hr := h.2.2 (s.2.1 - m) (by omega)
      have ra := x4 (s.2.1 - m) (by omega)
      have rb := y2 (s.2.1 - m) (by omega)
      rw [← ex] at ra
      have rA : RowA D (s.2.2 (s.2.1 - m)) (cp_ (st (st σ 25 1 (nI ((x + 99 * 30 - m) % 30))) 25 2 (nI (s.2.1 - m))) (27 + (x + 99 * 30 - m) % 30) 24 (min 31 31) 24) := by
        rw [cp_to]
        refine rowA_mv ho (fun j hj => ?_) ra
        try dsimp only
        rw [if_pos (by omega), st_cell (by omega), st_cell (by omega)]
      have rB : RowB D (s.2.2 (s.2.1 - m)) (st w1 80 38 (st τ 79 28 (nI (s.2.1 - m)) 80 38) 80) 0 := by
        refine rowB_mv ho (fun j hj => ?_) rb
        rw [st_place (by omega), k2, if_pos (by omega), st_cell (by decide)]
        exact congrArg (τ 80) (by omega)
      have tA : p_X1_today_23 (cp_ (st (st σ 25 1 (nI ((x + 99 * 30 - m) % 30))) 25 2 (nI (s.2.1 - m))) (27 + (x + 99 * 30 - m) % 30) 24 (min 31 31)) = nI (s.2.2 (s.2.1 - m) 0 0) := a_today rA
      have c37 : (37 : Int32).toNatClampNeg = 37 := rfl
      have c38 : (38 : Int32).toNatClampNeg = 38 := rfl
      have tB : st w1 80 38 (st τ 79 28 (nI (s.2.1 - m)) 80 38) 80 37 = nI (s.2.2 (s.2.1 - m) 0 0) := by
        have e := rB.1
        rw [Nat.zero_add] at e
        exact e
      rw [tA, c37, c38, tB]
      have cell : ∀ a, ¬ a = 24 → ¬ a = 25 → cp_ (st (st σ 25 1 (nI ((x + 99 * 30 - m) % 30))) 25 2 (nI (s.2.1 - m))) (27 + (x + 99 * 30 - m) % 30) 24 (min 31 31) a = σ a := fun a h1 h2 => by
        rw [cp_ne h1, st_cell h2, st_cell h2]
      refine ⟨_, (s.2.2 (s.2.1 - m), s.2.1 - m, s.2.2), _, _, rfl, ⟨LandA_of (fun a ha => cell a (by omega) (by omega)) l1, rA, (x + 99 * 30 - m) % 30, hx, ?_, ?_, fun i hi => ?_⟩, rfl,
        ⟨LandB_of (fun i hi => ?_) (fun a h1 h2 => ?_) l2, rB, ?_, fun i hi => ?_⟩, ⟨hr, by show s.2.1 - m ≤ 30; omega, fun i hi => h.2.2 i (by have : i < s.2.1 - m := hi; omega)⟩, ?_, fun i hi => ?_, fun i hi => ?_⟩
      · rw [cp_ne (by decide)]
        exact g1
      · rw [cp_ne (by decide), st_same]
      · have hi2 : i < s.2.1 - m := hi
        rw [cell _ (by omega) (by omega)]
        have := x4 i (by omega)
        have e : (x + 30 - s.2.1 + i) % 30 = ((x + 99 * 30 - m) % 30 + 30 - (s.2.1 - m) + i) % 30 := by omega
        rw [e] at this
        exact this
      · rw [st_cell (by decide), k3 79 (by decide), st_place (by omega)]
      · rw [st_cell (by omega), k3 a (by omega), st_cell (by omega)]
      · rw [st_cell (by decide), k3 79 (by decide)]
        exact t28
      · have hi2 : i < s.2.1 - m := hi
        refine rowB_mv ho (fun j hj => ?_) (y2 i (by omega))
        rw [st_place (by omega), k2, if_neg (by omega), st_cell (by decide)]
      · rw [st_same, st_cell (by decide)]
      · rw [st_cell (by decide), k3 79 (by decide), st_place hi]
      · rw [st_place (by omega), k2, if_neg (by omega), st_cell (by decide)]
    · have hnle : ¬ nI m ≤ nI s.2.1 := fun e => c3 ((nI_le_iff (by omega) (by omega)).mp e)
      rw [if_neg hnle, if_neg hnle, bd_some, if_pos e0]
      exact ⟨_, s, σ, τ, rfl, ⟨l1, r1, x, x1, x2, x3, x4⟩, rfl, ⟨l2, r2, y1, y2⟩, h, rfl, fun _ _ => rfl, fun _ _ => rfl⟩
  · rw [if_neg c2, if_pos (Or.inr (Int32.not_le.mp c2)), if_pos e0]
    exact ⟨_, s, σ, τ, rfl, ⟨l1, r1, x, x1, x2, x3, x4⟩, rfl, ⟨l2, r2, y1, y2⟩, h, rfl, fun _ _ => rfl, fun _ _ => rfl⟩
end UNDO
section IMAGE
variable {D : LD} {N : Nat} {kp : Nat → Bool} {I : Nat → RD} {sd : Nat → Nat}
def upB (kp : Nat → Bool) (i : Nat) : Nat → Bool := fun q => if q = i then true else kp q
def upR (I : Nat → RD) (i : Nat) (r : RD) : Nat → RD := fun q => if q = i then r else I q
def upN (sd : Nat → Nat) (i s : Nat) : Nat → Nat := fun q => if q = i then s else sd q
theorem two_cases (a1 : Int32) : (∃ i, i < 2 ∧ a1 = nI i) ∨ a1 < 0 ∨ ¬ a1 < 0 ∧ ¬ a1 < 2 := by
  rcases int_cases a1 with h | ⟨i, hi, rfl⟩
  · exact Or.inr (Or.inl h)
  · by_cases c : i < 2
    · exact Or.inl ⟨i, c, rfl⟩
    · exact Or.inr (Or.inr ⟨nI_pos hi, fun e => c ((nI_lt_iff (a := i) (b := 2) hi (by omega)).mp e)⟩)
theorem im_in {i : Nat} (hi : i < 2) (τ : St) : p_X10_in (nI i).toInt64 0 1 τ = 1 := b_in_lt hi (by omega) τ
theorem im_out {a1 : Int32} (h : a1 < 0 ∨ ¬ a1 < 0 ∧ ¬ a1 < 2) (τ : St) : p_X10_in a1.toInt64 0 1 τ = 0 := b_in_out (n := 2) (h.imp id fun q => Int32.not_lt.mp q.2) (by omega) τ
theorem e_image {S : DT} {σ τ : St} (ho : LandOk D) (h : DrOk D S) (hA : DrA D S σ) (hB : DrB D S τ) (iA : ImA D kp I sd σ) (iB : ImB D kp I sd τ) (iO : ImOk D kp I sd) (hN : 7000 ≤ N) (a1 : Int32) :
    ∃ v S' kp' I' sd' w, (t_X9_image a1 σ).1 = v ∧ DrA D S' (t_X9_image a1 σ).2 ∧ ImA D kp' I' sd' (t_X9_image a1 σ).2 ∧ o_X10_image N a1 τ = some (v, w) ∧ DrB D S' w ∧ ImB D kp' I' sd' w ∧ DrOk D S' ∧ ImOk D kp' I' sd' ∧ ∀ i, ¬ i = 28 → w 79 i = τ 79 i := by
  rcases two_cases a1 with ⟨i, hi, rfl⟩ | ho2
  · obtain ⟨⟨l1, r1, x, x1, x2, x3, x4⟩, s1⟩ := hA
    obtain ⟨⟨l2, r2, y1, y2⟩, s2⟩ := hB
    have e2 : nI i < (2 : Int32) := (nI_lt_iff (a := i) (b := 2) (by omega) (by omega)).mpr hi
    have eC : t_X9_image (nI i) σ = ((1 : Int32), st (st (st (cp_ σ 24 (59 + i) 31) 61 i (nI S.2)) 57 2 (σ 57 2 ||| 1 <<< (nI i &&& 31))) 25 2 0) := by
      have p1 : cp_ σ 24 (59 + i) 31 62 0 = nI S.2 := by
        rw [cp_ne (by omega)]
        exact s1
      have p2 : st (cp_ σ 24 (59 + i) 31) 61 i (nI S.2) 57 2 = σ 57 2 := by
        rw [st_cell (by decide), cp_ne (by omega)]
      unfold t_X9_image t_X4_take t_X6_forget bt
      rw [if_neg (nI_pos (by omega)), if_pos e2, rwA_in hi (by decide), cpO_some]
      show ((1 : Int32), st (st (put_ (cp_ σ 24 (59 + i) 31) 61 2 (nI i) (cp_ σ 24 (59 + i) 31 62 0)) 57 2 (put_ (cp_ σ 24 (59 + i) 31) 61 2 (nI i) (cp_ σ 24 (59 + i) 31 62 0) 57 2 ||| 1 <<< (nI i &&& 31))) 25 2 0) = _
      rw [p1, put_nI hi (by decide), p2]
    obtain ⟨w1, k1, k2, k3⟩ := b_copy (N := N) (x := 0) (y := 80 + 40 * i) (by omega) (by omega) (by omega) hN τ
    have ey : (80 : Int32) + 40 * nI i = nI (80 + 40 * i) := by
      show nI 80 + nI 40 * nI _ = _
      rw [nI_mul, nI_add]
    have eM : o_X10_image N (nI i) τ = some (1, st (st w1 81 i 1) 79 28 0) := by
      unfold o_X10_image bt
      rw [im_in hi, if_neg one_ne, ey, show o_X10_copy N 0 (nI (80 + 40 * i)) τ = _ from k1, bd_some, b_cka (x := i) (n := 2) _ (by omega) (by decide), nI_clamp (by omega)]
      rfl
    rw [eC]
    dsimp only
    have cell : ∀ a, ¬ a = 59 + i → ¬ a = 61 → ¬ a = 57 → ¬ a = 25 → st (st (st (cp_ σ 24 (59 + i) 31) 61 i (nI S.2)) 57 2 (σ 57 2 ||| 1 <<< (nI i &&& 31))) 25 2 0 a = σ a := fun a h1 h2 h3 h4 => by
      rw [st_cell h4, st_cell h3, st_cell h2, cp_ne h1]
    refine ⟨1, ((S.1.1, 0, S.1.2.2), S.2), upB kp i, upR I i S.1.1, upN sd i S.2, _, rfl, ⟨⟨LandA_of (fun a ha => cell a (by omega) (by omega) (by omega) (by omega)) l1, ?_, x, x1, ?_, st_same, fun j hj => absurd hj (Nat.not_lt_zero _)⟩, ?_⟩, fun q hq => ⟨?_, fun hk => ⟨?_, ?_⟩⟩, eM,
      ⟨⟨LandB_of (fun j hj => ?_) (fun a h1 h2 => ?_) l2, ?_, st_same, fun j hj => absurd hj (Nat.not_lt_zero _)⟩, ?_⟩, fun q hq => ⟨?_, fun hk => ⟨?_, ?_⟩⟩, ⟨⟨h.1.1, Nat.zero_le _, fun j hj => absurd hj (Nat.not_lt_zero _)⟩, h.2⟩, fun q hq hk => ?_, fun j hj => ?_⟩
    · show RowA D S.1.1 (st (st (st (cp_ σ 24 (59 + i) 31) 61 i (nI S.2)) 57 2 _) 25 2 0 24)
      rw [cell 24 (by omega) (by omega) (by omega) (by omega)]
      exact r1
    · show st (st (st (cp_ σ 24 (59 + i) 31) 61 i (nI S.2)) 57 2 _) 25 2 0 25 1 = _
      rw [st_place (by decide), st_cell (by decide), st_cell (by decide), cp_ne (by omega)]
      exact x2
    · show st (st (st (cp_ σ 24 (59 + i) 31) 61 i (nI S.2)) 57 2 _) 25 2 0 62 0 = _
      rw [cell 62 (by omega) (by omega) (by omega) (by omega)]
      exact s1
    · show bit (st (st (st (cp_ σ 24 (59 + i) 31) 61 i (nI S.2)) 57 2 (σ 57 2 ||| 1 <<< (nI i &&& 31))) 25 2 0 57 2) q = _
      rw [st_cell (by decide), st_same, bit_or, (iA q hq).1, bit_one (by omega) (by omega)]
      unfold upB
      by_cases e : q = i
      · rw [if_pos e, decide_eq_true e.symm, Bool.or_true]
      · rw [if_neg e, decide_eq_false (fun z => e z.symm), Bool.or_false]
    · show RowA D (upR I i S.1.1 q) (st (st (st (cp_ σ 24 (59 + i) 31) 61 i (nI S.2)) 57 2 (σ 57 2 ||| 1 <<< (nI i &&& 31))) 25 2 0 (59 + q))
      rw [st_cell (by omega), st_cell (by omega), st_cell (by omega)]
      unfold upR
      by_cases e : q = i
      · rw [if_pos e, e, cp_to]
        exact rowA_mv ho (fun j hj => if_pos hj) r1
      · rw [if_neg e, cp_ne (by omega)]
        unfold upB at hk
        rw [if_neg e] at hk
        exact ((iA q hq).2 hk).1
    · show st (st (st (cp_ σ 24 (59 + i) 31) 61 i (nI S.2)) 57 2 (σ 57 2 ||| 1 <<< (nI i &&& 31))) 25 2 0 61 q = _
      rw [st_cell (by decide), st_cell (by decide), st_get]
      unfold upN
      by_cases e : q = i
      · rw [if_pos e, if_pos e]
      · rw [if_neg e, if_neg e, cp_ne (by omega)]
        unfold upB at hk
        rw [if_neg e] at hk
        exact ((iA q hq).2 hk).2
    · rw [st_place (by omega), st_cell (by decide), k3 79 (by decide)]
    · rw [st_cell (by omega), st_cell (by omega), k3 a (by omega)]
    · rw [st_cell (by decide), st_cell (by decide)]
      exact rowB_mv ho (fun j hj => by rw [k2, if_neg (by omega)]) r2
    · show st (st w1 81 i 1) 79 28 0 80 38 = _
      rw [st_cell (by decide), st_cell (by decide), k2, if_neg (by omega)]
      exact s2
    · rw [st_cell (by decide), st_get]
      unfold upB
      by_cases e : q = i
      · rw [if_pos e, if_pos e]
        rfl
      · rw [if_neg e, if_neg e, k3 81 (by decide)]
        exact (iB q hq).1
    · rw [st_cell (by decide), st_cell (by decide)]
      unfold upR
      by_cases e : q = i
      · rw [if_pos e, e]
        refine rowB_mv ho (fun j hj => ?_) r2
        rw [k2, if_pos (by omega)]
        exact congrArg (τ 80) (by omega)
      · rw [if_neg e]
        unfold upB at hk
        rw [if_neg e] at hk
        exact rowB_mv ho (fun j hj => by rw [k2, if_neg (by omega)]) ((iB q hq).2 hk).1
    · rw [st_cell (by decide), st_cell (by decide), k2]
      unfold upN
      by_cases e : q = i
      · rw [if_pos e, e, if_pos (by omega), show 80 + 40 * i + 38 - (80 + 40 * i) + 0 = 38 by omega]
        exact s2
      · rw [if_neg e, if_neg (by omega)]
        unfold upB at hk
        rw [if_neg e] at hk
        exact ((iB q hq).2 hk).2
    · unfold upR upN
      by_cases e : q = i
      · rw [if_pos e, if_pos e]
        exact ⟨h.1.1, h.2⟩
      · rw [if_neg e, if_neg e]
        unfold upB at hk
        rw [if_neg e] at hk
        exact iO q hq hk
    · rw [st_place hj, st_cell (by decide), k3 79 (by decide)]
  · have eC : t_X9_image a1 σ = ((-1000000001 : Int32), σ) := by
      unfold t_X9_image
      rcases ho2 with c | ⟨c1, c2⟩
      · rw [if_pos c]
      · rw [if_neg c1, if_neg c2]
    have e0 : (0 : Int32) = 0 := rfl
    have eM : o_X10_image N a1 τ = some (-1000000001, τ) := by
      unfold o_X10_image
      rw [im_out ho2, if_pos e0]
    rw [eC]
    exact ⟨_, S, kp, I, sd, τ, rfl, hA, iA, eM, hB, iB, h, iO, fun _ _ => rfl⟩
theorem e_goBack {S : DT} {σ τ : St} (ho : LandOk D) (h : DrOk D S) (hA : DrA D S σ) (hB : DrB D S τ) (iA : ImA D kp I sd σ) (iB : ImB D kp I sd τ) (iO : ImOk D kp I sd) (hN : 7000 ≤ N) (a1 : Int32) :
    ∃ v S' w, (t_X9_goBack a1 σ).1 = v ∧ DrA D S' (t_X9_goBack a1 σ).2 ∧ ImA D kp I sd (t_X9_goBack a1 σ).2 ∧ o_X10_goBack N a1 τ = some (v, w) ∧ DrB D S' w ∧ ImB D kp I sd w ∧ DrOk D S' ∧ ∀ i, ¬ i = 28 → w 79 i = τ 79 i := by
  rcases two_cases a1 with ⟨i, hi, rfl⟩ | ho2
  · have e2 : nI i < (2 : Int32) := (nI_lt_iff (a := i) (b := 2) (by omega) (by omega)).mpr hi
    have e0 : (0 : Int32) = 0 := rfl
    have e1 : ¬ b01 true = 0 := one_ne
    have e00 : b01 false = 0 := rfl
    have hb := a_hasb (σ 57 2) (g := i) (by omega) σ
    rw [(iA i hi).1] at hb
    by_cases hk : kp i = true
    · obtain ⟨⟨l1, r1, x, x1, x2, x3, x4⟩, s1⟩ := hA
      obtain ⟨⟨l2, r2, y1, y2⟩, s2⟩ := hB
      obtain ⟨ja, ja2⟩ := (iA i hi).2 hk
      obtain ⟨jb, jb2⟩ := (iB i hi).2 hk
      obtain ⟨jo, jo2⟩ := iO i hi hk
      have eC : t_X9_goBack (nI i) σ = ((1 : Int32), st (st (cp_ σ (59 + i) 24 31) 62 0 (nI (sd i))) 25 2 0) := by
        have p1 : at_ (cp_ σ (59 + i) 24 31) 61 2 (nI i) = nI (sd i) := by
          rw [at_nI hi (by decide), cp_ne (by decide)]
          exact ja2
        unfold t_X9_goBack t_X4_giveBack t_X6_forget bt
        rw [if_neg (nI_pos (by omega)), if_pos e2, hb, hk, if_neg e1, rwA_in hi (by decide), cpO_some]
        show (if (1 : Int32) = 0 then _ else ((1 : Int32), st (st (cp_ σ (59 + i) 24 31) 62 0 (at_ (cp_ σ (59 + i) 24 31) 61 2 (nI i))) 25 2 0)) = _
        rw [if_neg one_ne, p1]
      obtain ⟨w1, k1, k2, k3⟩ := b_copy (N := N) (x := 80 + 40 * i) (y := 0) (by omega) (by omega) (by omega) hN τ
      have ey : (80 : Int32) + 40 * nI i = nI (80 + 40 * i) := by
        show nI 80 + nI 40 * nI _ = _
        rw [nI_mul, nI_add]
      have eM : o_X10_goBack N (nI i) τ = some (1, st w1 79 28 0) := by
        unfold o_X10_goBack bt
        rw [im_in hi, if_neg one_ne, b_cka (x := i) (n := 2) _ (by omega) (by decide), nI_clamp (by omega), (iB i hi).1, hk, if_neg e1, ey, show o_X10_copy N (nI (80 + 40 * i)) 0 τ = _ from k1, bd_some]
      rw [eC]
      dsimp only
      have cell : ∀ a, ¬ a = 24 → ¬ a = 62 → ¬ a = 25 → st (st (cp_ σ (59 + i) 24 31) 62 0 (nI (sd i))) 25 2 0 a = σ a := fun a h1 h2 h3 => by
        rw [st_cell h3, st_cell h2, cp_ne h1]
      refine ⟨1, ((I i, 0, S.1.2.2), sd i), _, rfl, ⟨⟨LandA_of (fun a ha => cell a (by omega) (by omega) (by omega)) l1, ?_, x, x1, ?_, st_same, fun j hj => absurd hj (Nat.not_lt_zero _)⟩, ?_⟩, fun q hq => ⟨?_, fun hk => ⟨?_, ?_⟩⟩, eM,
        ⟨⟨LandB_of (fun j hj => ?_) (fun a h1 h2 => ?_) l2, ?_, st_same, fun j hj => absurd hj (Nat.not_lt_zero _)⟩, ?_⟩, fun q hq => ⟨?_, fun hk => ⟨?_, ?_⟩⟩, ⟨⟨jo, Nat.zero_le _, fun j hj => absurd hj (Nat.not_lt_zero _)⟩, jo2⟩, fun j hj => ?_⟩
      · show RowA D (I i) (st (st (cp_ σ (59 + i) 24 31) 62 0 (nI (sd i))) 25 2 0 24)
        rw [st_cell (by decide), st_cell (by decide), cp_to]
        exact rowA_mv ho (fun j hj => if_pos hj) ja
      · show st (st (cp_ σ (59 + i) 24 31) 62 0 (nI (sd i))) 25 2 0 25 1 = _
        rw [st_place (by decide), st_cell (by decide), cp_ne (by decide)]
        exact x2
      · show st (st (cp_ σ (59 + i) 24 31) 62 0 (nI (sd i))) 25 2 0 62 0 = _
        rw [st_cell (by decide), st_same]
      · show bit (st (st (cp_ σ (59 + i) 24 31) 62 0 (nI (sd i))) 25 2 0 57 2) q = _
        rw [cell 57 (by decide) (by decide) (by decide)]
        exact (iA q hq).1
      · show RowA D (I q) (st (st (cp_ σ (59 + i) 24 31) 62 0 (nI (sd i))) 25 2 0 (59 + q))
        rw [cell _ (by omega) (by omega) (by omega)]
        exact ((iA q hq).2 hk).1
      · show st (st (cp_ σ (59 + i) 24 31) 62 0 (nI (sd i))) 25 2 0 61 q = _
        rw [cell 61 (by decide) (by decide) (by decide)]
        exact ((iA q hq).2 hk).2
      · rw [st_place (by omega), k3 79 (by decide)]
      · rw [st_cell (by omega), k3 a (by omega)]
      · rw [st_cell (by decide)]
        refine rowB_mv ho (fun j hj => ?_) jb
        rw [k2, if_pos (by omega)]
        exact congrArg (τ 80) (by omega)
      · show st w1 79 28 0 80 38 = _
        rw [st_cell (by decide), k2, if_pos (by omega), show 38 - 0 + (80 + 40 * i) = 80 + 40 * i + 38 by omega]
        exact jb2
      · rw [st_cell (by decide), k3 81 (by decide)]
        exact (iB q hq).1
      · rw [st_cell (by decide)]
        exact rowB_mv ho (fun j hj => by rw [k2, if_neg (by omega)]) ((iB q hq).2 hk).1
      · rw [st_cell (by decide), k2, if_neg (by omega)]
        exact ((iB q hq).2 hk).2
      · rw [st_place hj, k3 79 (by decide)]
    · have hk2 : kp i = false := by simpa using hk
      have eC : t_X9_goBack (nI i) σ = ((-1000000003 : Int32), σ) := by
        unfold t_X9_goBack t_X4_giveBack bt
        rw [if_neg (nI_pos (by omega)), if_pos e2, hb, hk2, if_pos e00]
        rfl
      have eM : o_X10_goBack N (nI i) τ = some (-1000000003, τ) := by
        unfold o_X10_goBack
        rw [im_in hi, if_neg one_ne, b_cka (x := i) (n := 2) _ (by omega) (by decide), nI_clamp (by omega), (iB i hi).1, hk2, if_pos e00]
      rw [eC]
      exact ⟨_, S, τ, rfl, hA, iA, eM, hB, iB, h, fun _ _ => rfl⟩
  · have eC : t_X9_goBack a1 σ = ((-1000000001 : Int32), σ) := by
      unfold t_X9_goBack
      rcases ho2 with c | ⟨c1, c2⟩
      · rw [if_pos c]
      · rw [if_neg c1, if_neg c2]
    have e0 : (0 : Int32) = 0 := rfl
    have eM : o_X10_goBack N a1 τ = some (-1000000001, τ) := by
      unfold o_X10_goBack
      rw [im_out ho2, if_pos e0]
    rw [eC]
    exact ⟨_, S, τ, rfl, hA, iA, eM, hB, iB, h, fun _ _ => rfl⟩
end IMAGE
