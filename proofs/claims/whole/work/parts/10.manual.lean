/-! the four static helpers of the class, for any row -/
theorem e_at {k n : Nat} {rs : List (Option (Option Nat))} (hk : SH[k]? = some (0, n, rs)) (hn : n < 2 ^ 31) (a1 : Int32) (σ : St) (v : Int32) (h : at_ σ k n a1 = v) : Ev md_X9_at 0 0 [some (vR k), some (vI a1)] [] SH σ (some (vI v), SH, σ) := by
  unfold at_ at h
  refine Ev.aload_n (pc := 0) dX9_at_0 rfl rfl ?_
  refine Ev.ifnull_f (pc := 1) dX9_at_1 ?_
  refine Ev.iload_n (pc := 4) dX9_at_4 rfl rfl ?_
  by_cases c1 : a1 < 0
  · replace h := (if_pos c1).symm.trans h
    refine Ev.if_lt_t (pc := 5) (tgt := 14) dX9_at_5 rfl c1 ?_
    refine Ev.iconst (pc := 14) (v := 0) dX9_at_14 ki_0 ?_
    refine Ev.goto (pc := 15) (tgt := 21) dX9_at_15 rfl ?_
    subst h
    exact Ev.ret_i (pc := 21) dX9_at_21 rfl rfl
  · replace h := (if_neg c1).symm.trans h
    refine Ev.if_lt_f (pc := 5) dX9_at_5 ⟨14, rfl⟩ c1 ?_
    refine Ev.iload_n (pc := 8) dX9_at_8 rfl rfl ?_
    refine Ev.aload_n (pc := 9) dX9_at_9 rfl rfl ?_
    refine Ev.alen (pc := 10) (v := Int32.ofNat n) dX9_at_10 hk rfl ?_
    by_cases c2 : Int32.ofNat n ≤ a1
    · replace h := (if_pos c2).symm.trans h
      refine Ev.icmp_lt_f (pc := 11) dX9_at_11 ⟨18, rfl⟩ (fun q => absurd c2 (by rw [Int32.le_iff_toInt_le]; rw [Int32.lt_iff_toInt_lt] at q; omega)) ?_
      refine Ev.iconst (pc := 14) (v := 0) dX9_at_14 ki_0 ?_
      refine Ev.goto (pc := 15) (tgt := 21) dX9_at_15 rfl ?_
      subst h
      exact Ev.ret_i (pc := 21) dX9_at_21 rfl rfl
    · replace h := (if_neg c2).symm.trans h
      refine Ev.icmp_lt_t (pc := 11) (tgt := 18) dX9_at_11 rfl (by rw [Int32.le_iff_toInt_le] at c2; rw [Int32.lt_iff_toInt_lt]; omega) ?_
      refine Ev.aload_n (pc := 18) dX9_at_18 rfl rfl ?_
      refine Ev.iload_n (pc := 19) dX9_at_19 rfl rfl ?_
      refine Ev.iald (pc := 20) dX9_at_20 hk (in_of hn c1 c2) ?_
      subst h
      exact Ev.ret_i (pc := 21) dX9_at_21 rfl rfl
theorem r_at {k n : Nat} {rs : List (Option (Option Nat))} (hk : SH[k]? = some (0, n, rs)) (hn : n < 2 ^ 31) (a1 : Int32) (σ : St) : Rn md_X9_at 0 [vR k, vI a1] SH σ (some (vI (at_ σ k n a1)), SH, σ) := Rn.of ce_X9_at.1 (Nat.le_of_ble_eq_true rfl) (e_at hk hn _ _ _ rfl)
theorem e_put {k n : Nat} {rs : List (Option (Option Nat))} (hk : SH[k]? = some (0, n, rs)) (hn : n < 2 ^ 31) (a1 a2 : Int32) (σ : St) (q : St) (h : put_ σ k n a1 a2 = q) : Ev md_X9_put 0 0 [some (vR k), some (vI a1), some (vI a2)] [] SH σ (none, SH, q) := by
  unfold put_ at h
  refine Ev.aload_n (pc := 0) dX9_put_0 rfl rfl ?_
  refine Ev.ifnull_f (pc := 1) dX9_put_1 ?_
  refine Ev.iload_n (pc := 4) dX9_put_4 rfl rfl ?_
  by_cases c1 : a1 < 0
  · replace h := (if_pos c1).symm.trans h
    refine Ev.if_lt_t (pc := 5) (tgt := 18) dX9_put_5 rfl c1 ?_
    subst h
    exact Ev.ret_v (pc := 18) dX9_put_18 rfl
  · replace h := (if_neg c1).symm.trans h
    refine Ev.if_lt_f (pc := 5) dX9_put_5 ⟨18, rfl⟩ c1 ?_
    refine Ev.iload_n (pc := 8) dX9_put_8 rfl rfl ?_
    refine Ev.aload_n (pc := 9) dX9_put_9 rfl rfl ?_
    refine Ev.alen (pc := 10) (v := Int32.ofNat n) dX9_put_10 hk rfl ?_
    by_cases c2 : Int32.ofNat n ≤ a1
    · replace h := (if_pos c2).symm.trans h
      refine Ev.icmp_ge_t (pc := 11) (tgt := 18) dX9_put_11 rfl c2 ?_
      subst h
      exact Ev.ret_v (pc := 18) dX9_put_18 rfl
    · replace h := (if_neg c2).symm.trans h
      refine Ev.icmp_ge_f (pc := 11) dX9_put_11 ⟨18, rfl⟩ c2 ?_
      refine Ev.aload_n (pc := 14) dX9_put_14 rfl rfl ?_
      refine Ev.iload_n (pc := 15) dX9_put_15 rfl rfl ?_
      refine Ev.iload_n (pc := 16) dX9_put_16 rfl rfl ?_
      refine Ev.iast (pc := 17) dX9_put_17 hk (in_of hn c1 c2) ?_
      subst h
      exact Ev.ret_v (pc := 18) dX9_put_18 rfl
theorem r_put {k n : Nat} {rs : List (Option (Option Nat))} (hk : SH[k]? = some (0, n, rs)) (hn : n < 2 ^ 31) (a1 a2 : Int32) (σ : St) : Rn md_X9_put 0 [vR k, vI a1, vI a2] SH σ (none, SH, put_ σ k n a1 a2) := Rn.of ce_X9_put.1 (Nat.le_of_ble_eq_true rfl) (e_put hk hn _ _ _ _ rfl)
theorem e_rowAt {k n b : Nat} {rs : List (Option (Option Nat))} (hk : SH[k]? = some (2, n, rs)) (hrs : ∀ j, j < n → rs[j]? = some (some (some (b + j)))) (hn : n < 2 ^ 31) (a1 : Int32) (σ : St) (v : Option Nat) (h : rwA_ b n a1 = v) : Ev md_X9_rowAt 0 0 [some (vR k), some (vI a1)] [] SH σ (some (.inr (.inr v)), SH, σ) := by
  unfold rwA_ at h
  refine Ev.aload_n (pc := 0) dX9_rowAt_0 rfl rfl ?_
  refine Ev.ifnull_f (pc := 1) dX9_rowAt_1 ?_
  refine Ev.iload_n (pc := 4) dX9_rowAt_4 rfl rfl ?_
  by_cases c1 : a1 < 0
  · replace h := (if_pos c1).symm.trans h
    refine Ev.if_lt_t (pc := 5) (tgt := 14) dX9_rowAt_5 rfl c1 ?_
    refine Ev.null (pc := 14) dX9_rowAt_14 ?_
    refine Ev.goto (pc := 15) (tgt := 21) dX9_rowAt_15 rfl ?_
    subst h
    exact Ev.ret_a (pc := 21) dX9_rowAt_21 rfl
  · replace h := (if_neg c1).symm.trans h
    refine Ev.if_lt_f (pc := 5) dX9_rowAt_5 ⟨14, rfl⟩ c1 ?_
    refine Ev.iload_n (pc := 8) dX9_rowAt_8 rfl rfl ?_
    refine Ev.aload_n (pc := 9) dX9_rowAt_9 rfl rfl ?_
    refine Ev.alenQ (pc := 10) (v := Int32.ofNat n) dX9_rowAt_10 hk rfl ?_
    by_cases c2 : Int32.ofNat n ≤ a1
    · replace h := (if_pos c2).symm.trans h
      refine Ev.icmp_lt_f (pc := 11) dX9_rowAt_11 ⟨18, rfl⟩ (fun q => absurd c2 (by rw [Int32.le_iff_toInt_le]; rw [Int32.lt_iff_toInt_lt] at q; omega)) ?_
      refine Ev.null (pc := 14) dX9_rowAt_14 ?_
      refine Ev.goto (pc := 15) (tgt := 21) dX9_rowAt_15 rfl ?_
      subst h
      exact Ev.ret_a (pc := 21) dX9_rowAt_21 rfl
    · replace h := (if_neg c2).symm.trans h
      refine Ev.icmp_lt_t (pc := 11) (tgt := 18) dX9_rowAt_11 rfl (by rw [Int32.le_iff_toInt_le] at c2; rw [Int32.lt_iff_toInt_lt]; omega) ?_
      refine Ev.aload_n (pc := 18) dX9_rowAt_18 rfl rfl ?_
      refine Ev.iload_n (pc := 19) dX9_rowAt_19 rfl rfl ?_
      have hin := in_of hn c1 c2
      refine Ev.aald (pc := 20) dX9_rowAt_20 hk hin ?_
      rw [hrs _ (Nat.not_le.mp fun q => hin (Or.inr q))]
      subst h
      exact Ev.ret_a (pc := 21) dX9_rowAt_21 rfl
theorem r_rowAt {k n b : Nat} {rs : List (Option (Option Nat))} (hk : SH[k]? = some (2, n, rs)) (hrs : ∀ j, j < n → rs[j]? = some (some (some (b + j)))) (hn : n < 2 ^ 31) (a1 : Int32) (σ : St) : Rn md_X9_rowAt 0 [vR k, vI a1] SH σ (some (.inr (.inr (rwA_ b n a1))), SH, σ) := Rn.of ce_X9_rowAt.1 (Nat.le_of_ble_eq_true rfl) (e_rowAt hk hrs hn _ _ _ rfl)
theorem hr_26 : ∀ j, j < 30 → ([some (some 27), some (some 28), some (some 29), some (some 30), some (some 31), some (some 32), some (some 33), some (some 34), some (some 35), some (some 36), some (some 37), some (some 38), some (some 39), some (some 40), some (some 41), some (some 42), some (some 43), some (some 44), some (some 45), some (some 46), some (some 47), some (some 48), some (some 49), some (some 50), some (some 51), some (some 52), some (some 53), some (some 54), some (some 55), some (some 56)] : List (Option (Option Nat)))[j]? = some (some (some (27 + j))) := by decide
theorem hr_58 : ∀ j, j < 2 → ([some (some 59), some (some 60)] : List (Option (Option Nat)))[j]? = some (some (some (59 + j))) := by decide
theorem hc_of {b n : Nat} (h : (SH.drop b).take n = List.replicate n (0, 31, [])) : ∀ j, j < n → SH[b + j]? = some (0, 31, []) := by
  intro j hj
  have h1 : ((SH.drop b).take n)[j]? = some (0, 31, []) := by
    rw [h, List.getElem?_replicate, if_pos hj]
  rw [List.getElem?_take_of_lt hj, List.getElem?_drop] at h1
  exact h1
theorem hc_27 : ∀ j, j < 30 → SH[27 + j]? = some (0, 31, []) := hc_of rfl
theorem hc_59 : ∀ j, j < 2 → SH[59 + j]? = some (0, 31, []) := hc_of rfl
theorem hq_of {b n : Nat} (hn : n < 2 ^ 31) (hc : ∀ j, j < n → SH[b + j]? = some (0, 31, [])) (i : Int32) : ∀ q, rwA_ b n i = some q → ∃ rs, SH[q]? = some (0, 31, rs) := by
  intro q h
  unfold rwA_ at h
  by_cases c1 : i < 0
  · rw [if_pos c1] at h
    cases h
  rw [if_neg c1] at h
  by_cases c2 : Int32.ofNat n ≤ i
  · rw [if_pos c2] at h
    cases h
  rw [if_neg c2] at h
  cases h
  have hin := in_of hn c1 c2
  exact ⟨_, hc _ (Nat.not_le.mp fun q => hin (Or.inr q))⟩
theorem hq_26 (i : Int32) : ∀ q, rwA_ 27 30 i = some q → ∃ rs, SH[q]? = some (0, 31, rs) := hq_of (by decide) hc_27 i
theorem hq_58 (i : Int32) : ∀ q, rwA_ 59 2 i = some q → ∃ rs, SH[q]? = some (0, 31, rs) := hq_of (by decide) hc_59 i
theorem cp_read (σ : St) (a b i : Nat) : cp_ σ a b i a i = σ a i := by
  unfold cp_
  by_cases h : a = b
  · subst h
    simp
  · simp [h]
theorem cp_step (σ : St) (a b i : Nat) : st (cp_ σ a b i) b i (σ a i) = cp_ σ a b (i + 1) := by
  funext k j
  unfold st cp_
  by_cases hk : k = b
  · subst hk
    simp only [if_true, upd]
    by_cases hj : j = i
    · subst hj
      simp
    · by_cases h2 : j < i
      · simp [hj, h2, Nat.lt_succ_of_lt h2]
      · simp [hj, h2, show ¬ j < i + 1 by omega]
  · simp [hk]
theorem cp_0 (σ : St) (a b : Nat) : cp_ σ a b 0 = σ := by
  funext k j
  unfold cp_
  by_cases hk : k = b
  · subst hk
    simp
  · simp [hk]
theorem copy_loop {a b n m : Nat} {ra rb : List (Option (Option Nat))} (ha : SH[a]? = some (0, n, ra)) (hb : SH[b]? = some (0, m, rb)) (hn : n < 2 ^ 31) (hm : m < 2 ^ 31) (σ : St) : ∀ (f i : Nat), i ≤ min n m → min n m - i < f → Ev md_X9_copy 0 11 [some (vR a), some (vR b), some (vI (nI i))] [] SH (cp_ σ a b i) (none, SH, cp_ σ a b (min n m))
  | 0, i, _, hf => absurd hf (Nat.not_lt_zero _)
  | f + 1, i, hi, hf => by
    have hi31 : i < 2 ^ 31 := by omega
    refine Ev.iload_n (pc := 11) dX9_copy_11 rfl rfl ?_
    refine Ev.aload_n (pc := 12) dX9_copy_12 rfl rfl ?_
    refine Ev.alen (pc := 13) (v := nI n) dX9_copy_13 ha rfl ?_
    by_cases c1 : n ≤ i
    · refine Ev.icmp_ge_t (pc := 14) (tgt := 35) dX9_copy_14 rfl (nI_le c1 hi31) ?_
      have e : min n m = i := by omega
      rw [e]
      exact Ev.ret_v (pc := 35) dX9_copy_35 rfl
    refine Ev.icmp_ge_f (pc := 14) dX9_copy_14 ⟨35, rfl⟩ (nI_ge (by omega) hn) ?_
    refine Ev.iload_n (pc := 17) dX9_copy_17 rfl rfl ?_
    refine Ev.aload_n (pc := 18) dX9_copy_18 rfl rfl ?_
    refine Ev.alen (pc := 19) (v := nI m) dX9_copy_19 hb rfl ?_
    by_cases c2 : m ≤ i
    · refine Ev.icmp_ge_t (pc := 20) (tgt := 35) dX9_copy_20 rfl (nI_le c2 hi31) ?_
      have e : min n m = i := by omega
      rw [e]
      exact Ev.ret_v (pc := 35) dX9_copy_35 rfl
    refine Ev.icmp_ge_f (pc := 20) dX9_copy_20 ⟨35, rfl⟩ (nI_ge (by omega) hm) ?_
    refine Ev.aload_n (pc := 23) dX9_copy_23 rfl rfl ?_
    refine Ev.iload_n (pc := 24) dX9_copy_24 rfl rfl ?_
    refine Ev.aload_n (pc := 25) dX9_copy_25 rfl rfl ?_
    refine Ev.iload_n (pc := 26) dX9_copy_26 rfl rfl ?_
    refine Ev.iald (pc := 27) dX9_copy_27 ha (nI_in (by omega) hn) ?_
    rw [nI_clamp hi31, cp_read]
    refine Ev.iast (pc := 28) dX9_copy_28 hb (nI_in (by omega) hm) ?_
    rw [nI_clamp hi31, cp_step]
    refine Ev.iinc (pc := 29) (v := nI (i + 1)) (lv' := [some (vR a), some (vR b), some (vI (nI (i + 1)))]) dX9_copy_29 rfl (by rw [nI_succ, ki_1]) (by decide) rfl rfl ?_
    refine Ev.goto (pc := 32) (tgt := 11) dX9_copy_32 rfl ?_
    exact copy_loop ha hb hn hm σ f (i + 1) (by omega) (by omega)
theorem e_copy {a b : Option Nat} {n m : Nat} (ha : ∀ q, a = some q → ∃ rs, SH[q]? = some (0, n, rs)) (hb : ∀ q, b = some q → ∃ rs, SH[q]? = some (0, m, rs)) (hn : n < 2 ^ 31) (hm : m < 2 ^ 31) (σ : St) : Ev md_X9_copy 0 0 [some (.inr (.inr a)), some (.inr (.inr b)), none] [] SH σ (none, SH, cpO_ σ a b n m) := by
  refine Ev.aload_n (pc := 0) dX9_copy_0 rfl rfl ?_
  cases a with
  | none =>
    refine Ev.ifnull_t (pc := 1) (tgt := 8) dX9_copy_1 rfl ?_
    exact Ev.ret_v (pc := 8) dX9_copy_8 rfl
  | some a =>
    refine Ev.ifnull_f (pc := 1) dX9_copy_1 ?_
    refine Ev.aload_n (pc := 4) dX9_copy_4 rfl rfl ?_
    cases b with
    | none =>
      refine Ev.ifnonnull_f (pc := 5) dX9_copy_5 ?_
      exact Ev.ret_v (pc := 8) dX9_copy_8 rfl
    | some b =>
      obtain ⟨ra, ha⟩ := ha a rfl
      obtain ⟨rb, hb⟩ := hb b rfl
      refine Ev.ifnonnull_t (pc := 5) (tgt := 9) dX9_copy_5 rfl ?_
      refine Ev.iconst (pc := 9) (v := 0) dX9_copy_9 ki_0 ?_
      refine Ev.istore_n (pc := 10) (lv' := [some (vR a), some (vR b), some (vI 0)]) dX9_copy_10 rfl (by decide) rfl rfl ?_
      have := copy_loop ha hb hn hm σ (min n m + 1) 0 (Nat.zero_le _) (by omega)
      rw [cp_0] at this
      exact this
theorem r_copy {a b : Option Nat} {n m : Nat} (ha : ∀ q, a = some q → ∃ rs, SH[q]? = some (0, n, rs)) (hb : ∀ q, b = some q → ∃ rs, SH[q]? = some (0, m, rs)) (hn : n < 2 ^ 31) (hm : m < 2 ^ 31) (σ : St) : Rn md_X9_copy 0 [.inr (.inr a), .inr (.inr b)] SH σ (none, SH, cpO_ σ a b n m) := Rn.of ce_X9_copy.1 (Nat.le_of_ble_eq_true rfl) (e_copy ha hb hn hm _)
