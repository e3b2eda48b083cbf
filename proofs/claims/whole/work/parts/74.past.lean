/-! rows copied; the days that can be undone -/
theorem rowB_mv {D : LD} {r : RD} (ho : LandOk D) {c c' : Nat → Int32} {x y : Nat} (hc : ∀ i, i < 38 → c' (y + i) = c (x + i)) (hr : RowB D r c x) : RowB D r c' y := by
  have h7 := ho.p7
  have h3 := ho.k3
  refine ⟨?_, fun q hq => ⟨?_, ?_, ?_, ?_⟩, fun k hk => ⟨?_, ?_⟩, fun f hf => ?_⟩
  · rw [hc 37 (by omega)]
    exact hr.1
  · rw [hc q (by omega)]
    exact (hr.2.1 q hq).1
  · rw [Nat.add_assoc, hc (7 + q) (by omega), ← Nat.add_assoc]
    exact (hr.2.1 q hq).2.1
  · rw [Nat.add_assoc, hc (14 + q) (by omega), ← Nat.add_assoc]
    exact (hr.2.1 q hq).2.2.1
  · rw [Nat.add_assoc, hc (21 + q) (by omega), ← Nat.add_assoc]
    exact (hr.2.1 q hq).2.2.2
  · rw [Nat.add_assoc, hc (28 + k) (by omega), ← Nat.add_assoc]
    exact (hr.2.2.1 k hk).1
  · rw [Nat.add_assoc, hc (31 + k) (by omega), ← Nat.add_assoc]
    exact (hr.2.2.1 k hk).2
  · rw [Nat.add_assoc, hc (34 + f) (by omega), ← Nat.add_assoc]
    exact hr.2.2.2 f hf
theorem rowA_mv {D : LD} {r : RD} (ho : LandOk D) {c c' : Nat → Int32} (hc : ∀ i, i < 31 → c' i = c i) (hr : RowA D r c) : RowA D r c' := by
  have h7 := ho.p7
  have h3 := ho.k3
  refine ⟨?_, fun q hq => ⟨?_, ?_, ?_⟩, fun k hk => ⟨?_, ?_⟩, fun f hf => ?_⟩
  · rw [hc 0 (by omega)]
    exact hr.1
  · rw [hc (1 + q) (by omega)]
    exact (hr.2.1 q hq).1
  · rw [hc (8 + q) (by omega)]
    exact (hr.2.1 q hq).2.1
  · rw [hc (15 + q) (by omega)]
    exact (hr.2.1 q hq).2.2
  · rw [hc (22 + k) (by omega)]
    exact (hr.2.2.1 k hk).1
  · rw [hc (25 + k) (by omega)]
    exact (hr.2.2.1 k hk).2
  · rw [hc (28 + f) (by omega)]
    exact hr.2.2.2 f hf
section COPY
variable {N : Nat}
theorem b_copy_loop {x y : Nat} (hx : x ≤ 1320) (hy : y ≤ 1320) (hd : x + 40 ≤ y ∨ y + 40 ≤ x) : ∀ (c n j : Nat) (τ : St), j + c = 40 → c < n →
    ∃ w, l_X10_copy_2 N n (nI x) (nI y) (nI j) τ = some ((), w) ∧ (∀ i, w 80 i = if y + j ≤ i ∧ i < y + 40 then τ 80 (i - y + x) else τ 80 i) ∧ ∀ a, ¬ a = 80 → w a = τ a
  | c, 0, j, _, _, hn => absurd hn (Nat.not_lt_zero _)
  | 0, n + 1, j, τ, hj, _ => by
    have e : j = 40 := by omega
    subst e
    refine ⟨τ, ?_, fun i => by rw [if_neg (by omega)], fun a _ => rfl⟩
    rw [l_X10_copy_2, if_pos (show (40 : Int32) ≤ nI 40 from nI_le (a := 40) (by omega) (by omega))]
  | c + 1, n + 1, j, τ, hj, hn => by
    have es : nI (j + 1) = nI j + 1 := by rw [nI_succ]
    obtain ⟨w, e1, e2, e3⟩ := b_copy_loop hx hy hd c n (j + 1) (st τ 80 (y + j) (τ 80 (x + j))) (by omega) (by omega)
    refine ⟨w, ?_, fun i => ?_, fun a ha => (e3 a ha).trans (st_cell ha)⟩
    · have hlt : ¬ (40 : Int32) ≤ nI j := fun e => absurd ((nI_le_iff (a := 40) (b := j) (by omega) (by omega)).mp e) (by omega)
      rw [l_X10_copy_2, if_neg hlt, nI_add, nI_add, b_cka (x := x + j) _ (by omega) (by decide), b_cka (x := y + j) _ (by omega) (by decide), nI_clamp (n := x + j) (by omega), nI_clamp (n := y + j) (by omega)]
      unfold bt
      rw [← es]
      exact e1
    · rw [e2]
      by_cases h1 : y + j + 1 ≤ i ∧ i < y + 40
      · rw [if_pos (by omega), if_pos (by omega), st_place (by omega)]
      · rw [if_neg (by omega), st_get]
        by_cases h2 : i = y + j
        · rw [if_pos h2, if_pos (by omega), h2]
          exact congrArg (τ 80) (by omega)
        · rw [if_neg h2, if_neg (by omega)]
theorem b_copy {x y : Nat} (hx : x ≤ 1320) (hy : y ≤ 1320) (hd : x + 40 ≤ y ∨ y + 40 ≤ x) (hN : 7000 ≤ N) (τ : St) :
    ∃ w, o_X10_copy N (nI x) (nI y) τ = some ((), w) ∧ (∀ i, w 80 i = if y ≤ i ∧ i < y + 40 then τ 80 (i - y + x) else τ 80 i) ∧ ∀ a, ¬ a = 80 → w a = τ a :=
  b_copy_loop hx hy hd 40 N 0 τ (by omega) (by omega)
theorem b_shift_loop (hN : 7000 ≤ N) : ∀ (c n k : Nat) (τ : St), k + c = 30 → 1 ≤ k → c < n →
    ∃ w, l_X10_remember_11 N n (nI k) τ = j_X10_remember_55 N (st w 79 28 (w 79 28 - 1)) ∧ (∀ i, w 80 i = if 160 + 40 * (k - 1) ≤ i ∧ i < 160 + 40 * 29 then τ 80 (i + 40) else τ 80 i) ∧ ∀ a, ¬ a = 80 → w a = τ a
  | c, 0, k, _, _, _, hn => absurd hn (Nat.not_lt_zero _)
  | 0, n + 1, k, τ, hk, _, _ => by
    have e : k = 30 := by omega
    subst e
    refine ⟨τ, ?_, fun i => by rw [if_neg (by omega)], fun a _ => rfl⟩
    rw [l_X10_remember_11, if_pos (show (30 : Int32) ≤ nI 30 from nI_le (a := 30) (by omega) (by omega))]
    rfl
  | c + 1, n + 1, k, τ, hk, h1, hn => by
    have es : nI (k + 1) = nI k + 1 := by rw [nI_succ]
    obtain ⟨w1, c1, c2, c3⟩ := b_copy (N := N) (x := 160 + 40 * k) (y := 160 + 40 * (k - 1)) (by omega) (by omega) (by omega) hN τ
    obtain ⟨w, e1, e2, e3⟩ := b_shift_loop hN c n (k + 1) w1 (by omega) (by omega) (by omega)
    refine ⟨w, ?_, fun i => ?_, fun a ha => (e3 a ha).trans (c3 a ha)⟩
    · have hlt : ¬ (30 : Int32) ≤ nI k := fun e => absurd ((nI_le_iff (a := 30) (b := k) (by omega) (by omega)).mp e) (by omega)
      have ex : (160 : Int32) + 40 * nI k = nI (160 + 40 * k) := by
        show nI 160 + nI 40 * nI k = _
        rw [nI_mul, nI_add]
      have ey : (160 : Int32) + 40 * (nI k - 1) = nI (160 + 40 * (k - 1)) := by
        show nI 160 + nI 40 * (nI k - nI 1) = _
        rw [nI_sub h1, nI_mul, nI_add]
      rw [l_X10_remember_11, if_neg hlt, ex, ey, c1, bd_some]
      unfold bt
      rw [← es]
      exact e1
    · rw [e2]
      by_cases h2 : 160 + 40 * (k + 1 - 1) ≤ i ∧ i < 160 + 40 * 29
      · rw [if_pos h2, if_pos (by omega), c2, if_neg (by omega)]
      · rw [if_neg h2, c2]
        by_cases h3 : 160 + 40 * (k - 1) ≤ i ∧ i < 160 + 40 * (k - 1) + 40
        · rw [if_pos h3, if_pos (by omega)]
          exact congrArg (τ 80) (by omega)
        · rw [if_neg h3, if_neg (by omega)]
end COPY
/-- the days that can be undone: the class's ring, the reference's rows -/
def PastA (D : LD) (n x : Nat) (R : Nat → RD) (σ : St) : Prop := x < 30 ∧ σ 25 1 = nI x ∧ σ 25 2 = nI n ∧ ∀ i, i < n → RowA D (R i) (σ (27 + (x + 30 - n + i) % 30))
def PastB (D : LD) (n : Nat) (R : Nat → RD) (τ : St) : Prop := τ 79 28 = nI n ∧ ∀ i, i < n → RowB D (R i) (τ 80) (160 + 40 * i)
def PastOk (D : LD) (n : Nat) (R : Nat → RD) : Prop := n ≤ 30 ∧ ∀ i, i < n → RowOk D (R i)
/-- with one day more -/
def psN (n : Nat) : Nat := if n = 30 then 30 else n + 1
def psR (n : Nat) (R : Nat → RD) (r : RD) (i : Nat) : RD := if n = 30 then (if i = 29 then r else R (i + 1)) else if i = n then r else R i
section PAST
variable {D : LD} {r : RD} {N : Nat} {n x : Nat} {R : Nat → RD}
theorem psOk (hP : PastOk D n R) (hO : RowOk D r) : PastOk D (psN n) (psR n R r) := by
  obtain ⟨h1, h2⟩ := hP
  unfold psN
  by_cases e : n = 30
  · rw [if_pos e]
    refine ⟨by omega, fun i hi => ?_⟩
    unfold psR
    rw [if_pos e]
    by_cases e2 : i = 29
    · rw [if_pos e2]
      exact hO
    · rw [if_neg e2]
      exact h2 _ (by omega)
  · rw [if_neg e]
    refine ⟨by omega, fun i hi => ?_⟩
    unfold psR
    rw [if_neg e]
    by_cases e2 : i = n
    · rw [if_pos e2]
      exact hO
    · rw [if_neg e2]
      exact h2 _ (by omega)
theorem cp_to (σ : St) (a b n : Nat) : cp_ σ a b n b = fun j => if j < n then σ a j else σ b j := if_pos rfl
theorem cp_ne {σ : St} {a b n k : Nat} (h : ¬ k = b) : cp_ σ a b n k = σ k := if_neg h
theorem rwA_in {b n j : Nat} (h : j < n) (hn : n < 2 ^ 31) : rwA_ b n (nI j) = some (b + j) := by
  show (if nI j < 0 then none else if nI n ≤ nI j then none else some (b + (nI j).toNatClampNeg)) = _
  rw [if_neg (nI_pos (by omega)), if_neg (nI_ge h hn), nI_clamp (by omega)]
theorem min_nI {a b : Nat} (ha : a < 2 ^ 31) (hb : b < 2 ^ 31) (σ : St) : p_J9_min_7cf53 (nI a) (nI b) σ = nI (min a b) := by
  unfold p_J9_min_7cf53
  by_cases h : b < a
  · rw [if_pos ((nI_lt_iff hb ha).mpr h)]
    congr 1
    omega
  · rw [if_neg (by rw [nI_lt_iff hb ha]; exact h)]
    congr 1
    omega
theorem a_add {σ : St} (ho : LandOk D) (hr : RowA D r (σ 24)) (hn : n ≤ 30) (hP : PastA D n x R σ) : PastA D (psN n) ((x + 1) % 30) (psR n R r) (t_X6_add σ) ∧ ∀ a, ¬ (a = 25 ∨ 27 ≤ a ∧ a < 57) → t_X6_add σ a = σ a := by
  obtain ⟨hx, h1, h2, h3⟩ := hP
  have e : t_X6_add σ = st (st (cp_ σ 24 (27 + x) 31) 25 1 (nI ((x + 1) % 30))) 25 2 (nI (psN n)) := by
    have c1 : cp_ σ 24 (27 + x) 31 25 1 = nI x := by
      rw [cp_ne (by omega)]
      exact h1
    have c2 : st (cp_ σ 24 (27 + x) 31) 25 1 (nI ((x + 1) % 30)) 25 2 = nI n := by
      rw [st_place (by decide), cp_ne (by omega)]
      exact h2
    have em : nI x + 1 - (nI x + 1) / 30 * 30 = nI ((x + 1) % 30) := by
      have es : nI (x + 1) = nI x + 1 := by rw [nI_succ]
      rw [← es]
      exact nI_mod (b := 30) (by omega) (by omega)
    have en : ∀ w : St, p_J9_min_7cf53 (nI n + 1) 30 w = nI (psN n) := by
      intro w
      have es : nI (n + 1) = nI n + 1 := by rw [nI_succ]
      rw [← es]
      refine (min_nI (a := n + 1) (b := 30) (by omega) (by omega) _).trans ?_
      congr 1
      unfold psN
      by_cases e : n = 30
      · rw [if_pos e]
        omega
      · rw [if_neg e]
        omega
    unfold t_X6_add bt
    rw [h1, rwA_in hx (by decide)]
    show st (st (cp_ σ 24 (27 + x) 31) 25 1 (cp_ σ 24 (27 + x) 31 25 1 + 1 - (cp_ σ 24 (27 + x) 31 25 1 + 1) / 30 * 30)) 25 2 _ = _
    rw [c1, em]
    show st _ 25 2 (p_J9_min_7cf53 ((st (cp_ σ 24 (27 + x) 31) 25 1 (nI ((x + 1) % 30))) 25 2 + 1) 30 _) = _
    rw [c2, en]
  rw [e]
  refine ⟨⟨by omega, ?_, st_same, fun i hi => ?_⟩, fun a ha => ?_⟩
  · rw [st_place (by decide), st_same]
  · rw [st_cell (by omega), st_cell (by omega)]
    unfold psN at hi ⊢
    unfold psR
    by_cases e : n = 30
    · rw [if_pos e] at hi ⊢
      rw [if_pos e]
      by_cases e2 : i = 29
      · rw [if_pos e2, show 27 + ((x + 1) % 30 + 30 - 30 + i) % 30 = 27 + x by omega, cp_to]
        exact rowA_mv ho (fun j hj => if_pos hj) hr
      · rw [if_neg e2, cp_ne (by omega), show 27 + ((x + 1) % 30 + 30 - 30 + i) % 30 = 27 + (x + 30 - n + (i + 1)) % 30 by omega]
        exact h3 _ (by omega)
    · rw [if_neg e] at hi ⊢
      rw [if_neg e]
      by_cases e2 : i = n
      · rw [if_pos e2, show 27 + ((x + 1) % 30 + 30 - (n + 1) + i) % 30 = 27 + x by omega, cp_to]
        exact rowA_mv ho (fun j hj => if_pos hj) hr
      · rw [if_neg e2, cp_ne (by omega), show 27 + ((x + 1) % 30 + 30 - (n + 1) + i) % 30 = 27 + (x + 30 - n + i) % 30 by omega]
        exact h3 _ (by omega)
  · rw [st_cell (by omega), st_cell (by omega), cp_ne (by omega)]
theorem b_rem {τ : St} (ho : LandOk D) (hr : RowB D r (τ 80) 0) (hn : n ≤ 30) (hP : PastB D n R τ) (hN : 7000 ≤ N) :
    ∃ w, o_X10_remember N τ = some ((), w) ∧ PastB D (psN n) (psR n R r) w ∧ (∀ a, ¬ a = 79 → ¬ a = 80 → w a = τ a) ∧ (∀ i, ¬ i = 28 → w 79 i = τ 79 i) ∧ ∀ i, i < 160 → w 80 i = τ 80 i := by
  obtain ⟨h1, h2⟩ := hP
  have last : ∀ (m : Nat) (τ : St), m ≤ 29 → τ 79 28 = nI m → ∃ w, j_X10_remember_55 N τ = some ((), w) ∧ w 79 28 = nI (m + 1) ∧ (∀ i, w 80 i = if 160 + 40 * m ≤ i ∧ i < 160 + 40 * m + 40 then τ 80 (i - (160 + 40 * m)) else τ 80 i) ∧ (∀ a, ¬ a = 79 → ¬ a = 80 → w a = τ a) ∧ (∀ i, ¬ i = 28 → w 79 i = τ 79 i) := by
    intro m τ hm ht
    obtain ⟨w, c1, c2, c3⟩ := b_copy (N := N) (x := 0) (y := 160 + 40 * m) (by omega) (by omega) (by omega) hN τ
    have ex : (160 : Int32) + 40 * nI m = nI (160 + 40 * m) := by
      show nI 160 + nI 40 * nI m = _
      rw [nI_mul, nI_add]
    have es : nI (m + 1) = nI m + 1 := by rw [nI_succ]
    refine ⟨st w 79 28 (nI (m + 1)), ?_, st_same, fun i => ?_, fun a h1 h2 => by rw [st_cell h1, c3 a h2], fun i hi => by rw [st_place hi, c3 79 (by decide)]⟩
    · unfold j_X10_remember_55 bt
      rw [ht, ex, show o_X10_copy N 0 (nI (160 + 40 * m)) τ = _ from c1, bd_some, c3 79 (by decide), ht, ← es]
    · rw [st_cell (by decide), c2]
      rfl
  unfold o_X10_remember psN
  rw [h1]
  by_cases e : n = 30
  · have e30 : nI n = (30 : Int32) := by
      rw [e]
      rfl
    obtain ⟨w1, s1, s2, s3⟩ := b_shift_loop hN 29 N 1 τ (by omega) (by omega) (by omega)
    have hm : st w1 79 28 (w1 79 28 - 1) 79 28 = nI 29 := by
      rw [st_same, s3 79 (by decide), h1, e]
      rfl
    obtain ⟨w, l1, l2, l3, l4, l5⟩ := last 29 _ (by omega) hm
    have hw80 : ∀ i, w 80 i = if 160 + 40 * 29 ≤ i ∧ i < 160 + 40 * 29 + 40 then τ 80 (i - (160 + 40 * 29)) else if 160 ≤ i ∧ i < 160 + 40 * 29 then τ 80 (i + 40) else τ 80 i := by
      intro i
      rw [l3, st_cell (by decide), s2, s2]
      by_cases c : 160 + 40 * 29 ≤ i ∧ i < 160 + 40 * 29 + 40
      · rw [if_pos c, if_pos c, if_neg (by omega)]
      · rw [if_neg c, if_neg c]
    rw [if_pos e30, if_pos e]
    refine ⟨w, s1.trans l1, ⟨l2, fun i hi => ?_⟩, fun a h1 h2 => ?_, fun i hi => ?_, fun i hi => ?_⟩
    · unfold psR
      rw [if_pos e]
      by_cases e2 : i = 29
      · rw [if_pos e2, e2]
        refine rowB_mv ho (fun j hj => ?_) hr
        rw [hw80, if_pos (by omega)]
        exact congrArg (τ 80) (by omega)
      · rw [if_neg e2]
        refine rowB_mv ho (fun j hj => ?_) (h2 (i + 1) (by omega))
        rw [hw80, if_neg (by omega), if_pos (by omega)]
        exact congrArg (τ 80) (by omega)
    · rw [l4 a h1 h2, st_cell h1, s3 a h2]
    · rw [l5 i hi, st_place hi, s3 79 (by decide)]
    · rw [hw80, if_neg (by omega), if_neg (by omega)]
  · have e30 : ¬ nI n = (30 : Int32) := fun x => e ((nI_eq (a := n) (b := 30) (by omega) (by omega)).mp x)
    obtain ⟨w, l1, l2, l3, l4, l5⟩ := last n τ (by omega) h1
    rw [if_neg e30, if_neg e]
    refine ⟨w, l1, ⟨l2, fun i hi => ?_⟩, l4, l5, fun i hi => ?_⟩
    · unfold psR
      rw [if_neg e]
      by_cases e2 : i = n
      · rw [if_pos e2, e2]
        refine rowB_mv ho (fun j hj => ?_) hr
        rw [l3, if_pos (by omega)]
        exact congrArg (τ 80) (by omega)
      · rw [if_neg e2]
        refine rowB_mv ho (fun j hj => ?_) (h2 i (by omega))
        rw [l3, if_neg (by omega)]
    · rw [l3, if_neg (by omega)]
end PAST
