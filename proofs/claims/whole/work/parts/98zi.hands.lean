/-! hands: the class's ways -/
theorem bc_bit : ∀ n : Fin 7, ∀ a : Fin 128, a.val < 2 ^ n.val → p_J6_bitCount_0f7a4 (nI (a.val + 2 ^ n.val)) (fun _ _ => 0) = p_J6_bitCount_0f7a4 (nI a.val) (fun _ _ => 0) + 1 := by decide +kernel
theorem bc_mset (f : Nat → Bool) (σ : St) : ∀ n, n ≤ 7 → p_J6_bitCount_0f7a4 (mset f n) σ = nI (cnt f n) := by
  have key : ∀ n, n ≤ 7 → p_J6_bitCount_0f7a4 (nI (mn f n)) (fun _ _ => 0) = nI (cnt f n) := by
    intro n
    induction n with
    | zero =>
      intro _
      show p_J6_bitCount_0f7a4 (nI 0) (fun _ _ => 0) = nI 0
      decide +kernel
    | succ n ih =>
      intro hn
      have h1 := mn_lt f n
      have h2 : 2 ^ n ≤ 2 ^ 6 := Nat.pow_le_pow_right (by decide) (by omega)
      rw [mn, cnt]
      cases e : f n
      · rw [if_neg Bool.false_ne_true, Nat.add_zero, ih (by omega)]
        rfl
      · have hb : p_J6_bitCount_0f7a4 (nI (mn f n + 2 ^ n)) (fun _ _ => 0) = p_J6_bitCount_0f7a4 (nI (mn f n)) (fun _ _ => 0) + 1 := bc_bit ⟨n, by omega⟩ ⟨mn f n, by omega⟩ h1
        rw [if_pos rfl, hb, ih (by omega)]
        exact (nI_succ _).symm
  intro n hn
  rw [mset_mn f n hn]
  exact key n hn
theorem oC_cnt (D : LD) (r : RD) : ∀ j, j ≤ nP D → oC D r j + cnt (fun p => decide (r 1 p = 0)) (nP D - j) = cnt (fun p => decide (r 1 p = 0)) (nP D) := by
  intro j
  induction j with
  | zero =>
    intro _
    rw [oC, Nat.zero_add, Nat.sub_zero]
  | succ j ih =>
    intro hj
    have := ih (by omega)
    rw [show nP D - j = (nP D - (j + 1)) + 1 by omega, cnt] at this
    rw [oC, show nP D - 1 - j = nP D - (j + 1) by omega]
    by_cases c : r 1 (nP D - (j + 1)) = 0
    · rw [decide_eq_true c] at this
      rw [if_pos c]
      have e : true.toNat = 1 := rfl
      omega
    · rw [decide_eq_false c] at this
      rw [if_neg c]
      have e : false.toNat = 0 := rfl
      omega
theorem oC_all (D : LD) (r : RD) : oC D r (nP D) = cnt (fun p => decide (r 1 p = 0)) (nP D) := by
  have := oC_cnt D r (nP D) (Nat.le_refl _)
  rw [Nat.sub_self, cnt, Nat.add_zero] at this
  exact this
def gS (D : LD) (r : RD) (A : Nat → Nat) (c k : Nat) : Int32 := mset (fun q => decide (c ≤ q) && (decide (r 1 q = 0) && decide (A q = k))) (nP D)
def gC (D : LD) (r : RD) (A : Nat → Nat) (c : Nat) : Nat := cnt (fun q => decide (c ≤ q) && (decide (r 1 q = 0) && !decide (A q = r 3 q))) (nP D)
theorem gC_step {D : LD} (f : Nat → Bool) {c : Nat} (hc : c < nP D) : cnt (fun q => decide (c ≤ q) && f q) (nP D) = cnt (fun q => decide (c + 1 ≤ q) && f q) (nP D) + (f c).toNat := by
  have same : ∀ q, ¬ q = c → (decide (c ≤ q) && f q) = (decide (c + 1 ≤ q) && f q) := fun q hq => by
    congr 1
    exact decide_eq_decide.mpr ⟨fun h => by omega, fun h => by omega⟩
  have cc : (decide (c + 1 ≤ c) && f c) = false := by
    rw [decide_eq_false (by omega)]
    rfl
  cases e : f c
  · show _ = _ + 0
    rw [Nat.add_zero]
    refine cnt_congr _ fun q _ => ?_
    show (decide (c ≤ q) && f q) = (decide (c + 1 ≤ q) && f q)
    by_cases h : q = c
    · rw [h, cc, e, Bool.and_false]
    · exact same q h
  · have hcc : (decide (c ≤ c) && f c) = true := by
      rw [e, decide_eq_true (Nat.le_refl c), Bool.and_true]
    have h1 := cnt_rmv (f := fun q => decide (c ≤ q) && f q) (p := c) hcc (nP D) hc
    rw [← h1]
    show _ = _ + 1
    congr 1
    refine cnt_congr _ fun q _ => ?_
    show ((decide (c ≤ q) && f q) && !decide (c = q)) = (decide (c + 1 ≤ q) && f q)
    by_cases h : q = c
    · rw [h, cc, decide_eq_true (rfl : c = c), Bool.not_true, Bool.and_false]
    · have h' : ¬ c = q := fun z => h z.symm
      rw [decide_eq_false h', Bool.not_false, Bool.and_true]
      exact same q h
theorem gS_step {D : LD} (f : Nat → Bool) (h7 : nP D ≤ 7) {c : Nat} (hc : c < nP D) : mset (fun q => decide (c ≤ q) && f q) (nP D) = mset (fun q => decide (c + 1 ≤ q) && f q) (nP D) ||| (if f c = true then 1 <<< (nI c &&& 31) else 0) := by
  refine set_ext fun q hq => ?_
  rw [bit_or, bit_mset _ _ _ (by omega) hq, bit_mset _ _ _ (by omega) hq]
  have e1 : bit (if f c = true then 1 <<< (nI c &&& 31) else 0) q = (f c && decide (c = q)) := by
    cases f c
    · rw [if_neg Bool.false_ne_true, bit_0]
      rfl
    · rw [if_pos rfl, bit_one (by omega) hq]
      rfl
  rw [e1]
  by_cases h : c = q
  · subst h
    rw [decide_eq_true (rfl : c = c), decide_eq_true hc, decide_eq_true (Nat.le_refl c), decide_eq_false (by omega : ¬ c + 1 ≤ c)]
    cases f c <;> rfl
  · have : decide (c ≤ q) = decide (c + 1 ≤ q) := decide_eq_decide.mpr ⟨fun _ => by omega, fun _ => by omega⟩
    rw [decide_eq_false h, Bool.and_false, Bool.or_false, this]
section HANA
variable {D : LD} {r : RD} {N : Nat}
theorem asgC_lt (h : RlZ D r) {B p : Nat} (hp : p < nP D) : asgC D r B p < nK D := by
  have hr := (h.ri.2.1 p hp).2.2.1
  unfold asgC
  rw [if_pos hp]
  split
  · exact Nat.mod_lt _ (by omega)
  · exact hr
theorem a_give37 {B : Nat} (hB : B < 2 ^ 20) : ∀ (c n : Nat) (σ : St), RlA D r σ → c ≤ nP D → c < n → (∀ k, k < 3 → σ 71 k = gS D r (asgC D r B) c k) → (∀ q, c ≤ q → q < nP D → σ 72 q = nI (asgC D r B q)) →
    ∃ w, l_X3_giveBy_37 N n (nI (gC D r (asgC D r B) c)) (nI (B / nK D ^ oC D r (nP D - c))) (nI c + (-1)) σ = some (nI (gC D r (asgC D r B) 0), w) ∧ (∀ k, k < 3 → w 71 k = gS D r (asgC D r B) 0 k) ∧ (∀ q, q < nP D → w 72 q = nI (asgC D r B q)) ∧ ∀ x, ¬ (x = 71 ∨ x = 72) → w x = σ x := by
  intro c
  induction c with
  | zero =>
    intro n σ h _ hn h71 h72
    obtain ⟨n, rfl⟩ : ∃ k, n = k + 1 := ⟨n - 1, by omega⟩
    rw [l_X3_giveBy_37, if_pos (show nI 0 + (-1) < (0 : Int32) by decide)]
    exact ⟨σ, rfl, h71, fun q hq => h72 q (Nat.zero_le _) hq, fun _ _ => rfl⟩
  | succ c ih =>
    intro n σ h hc hn h71 h72
    obtain ⟨n, rfl⟩ : ∃ k, n = k + 1 := ⟨n - 1, by omega⟩
    have h7 := h.ho.p7
    have h3 := h.ho.k3
    have hlt : c < nP D := by omega
    have hr := (h.ri.2.1 c hlt).2.2.1
    have ha := asgC_lt h.z (B := B) hlt
    have ev : nI (c + 1) + (-1) = nI c := by
      have : nI (c + 1) - 1 = nI c := nI_sub (b := 1) (by omega)
      rw [← this]
      exact (Int32.sub_eq_add_neg _ _).symm
    have ckd : ∀ (o : Option (Int32 × St)), ckDI (nI (nK D)) o = o := fun o => if_neg (fun z => absurd ((nI_eq (a := nK D) (b := 0) (by omega) (by omega)).mp z) (by omega))
    have hk0 : ¬ nI (nK D) ≤ (0 : Int32) := fun z => absurd ((nI_le_iff (a := nK D) (b := 0) (by omega) (by omega)).mp z) (by omega)
    have hd := Nat.div_le_self B (nK D ^ oC D r (nP D - (c + 1)))
    have ej : nP D - c = (nP D - (c + 1)) + 1 := by omega
    have ej2 : nP D - 1 - (nP D - (c + 1)) = c := by omega
    have eo : oC D r (nP D - c) = oC D r (nP D - (c + 1)) + if r 1 c = 0 then 1 else 0 := by
      rw [ej, oC, ej2]
    have sC := gC_step (D := D) (fun q => decide (r 1 q = 0) && !decide (asgC D r B q = r 3 q)) hlt
    have sS := fun k => gS_step (D := D) (fun q => decide (r 1 q = 0) && decide (asgC D r B q = k)) h7 hlt
    have sC' : gC D r (asgC D r B) c = gC D r (asgC D r B) (c + 1) + (decide (r 1 c = 0) && !decide (asgC D r B c = r 3 c)).toNat := sC
    have sS' : ∀ k, gS D r (asgC D r B) c k = gS D r (asgC D r B) (c + 1) k ||| (if (decide (r 1 c = 0) && decide (asgC D r B c = k)) = true then 1 <<< (nI c &&& 31) else 0) := sS
    -- what the last two steps do
    have fin : ∀ (σ' : St), RlA D r σ' → (∀ k, k < 3 → σ' 71 k = gS D r (asgC D r B) c k) → (∀ x, ¬ x = 71 → σ' x = σ x) → ∃ w, j_X3_giveBy_141 N (l_X3_giveBy_37 N n) (nI (gC D r (asgC D r B) c)) (nI (B / nK D ^ oC D r (nP D - c))) (nI c) (nI (asgC D r B c)) σ' = some (nI (gC D r (asgC D r B) 0), w) ∧ (∀ k, k < 3 → w 71 k = gS D r (asgC D r B) 0 k) ∧ (∀ q, q < nP D → w 72 q = nI (asgC D r B q)) ∧ ∀ x, ¬ (x = 71 ∨ x = 72) → w x = σ x := by
      intro σ' h' g71 gx
      unfold j_X3_giveBy_141
      rw [put_nI (by omega) (by decide), bt_eq, bt_eq]
      have fr : FrC σ' (st σ' 72 c (nI (asgC D r B c))) := fun x hx => st_cell (by omega)
      obtain ⟨w, z1, z2, z3, z4⟩ := ih n (st σ' 72 c (nI (asgC D r B c))) (fr.a h') (by omega) (by omega) (fun k hk => by
        rw [st_cell (by decide)]
        exact g71 k hk) (fun q h1 h2 => by
        rw [st_get]
        by_cases e : q = c
        · rw [if_pos e, e]
        · rw [if_neg e, gx 72 (by decide)]
          exact h72 q (by omega) h2)
      refine ⟨w, z1, z2, z3, fun x hx => ?_⟩
      rw [z4 x hx, st_cell (by omega)]
      exact gx x (by omega)
    rw [ev, l_X3_giveBy_37, if_neg (nI_pos (by omega)), a_holder h.ho h.ra hlt, bt_eq, a_isOpen h hlt, h.ha.1.2.2.1]
    by_cases c1 : r 1 c = 0
    · have eA : asgC D r B c = B / nK D ^ oC D r (nP D - (c + 1)) % nK D := by
        unfold asgC
        rw [if_pos hlt, if_pos c1, show nP D - 1 - c = nP D - (c + 1) by omega]
      have eF : B / nK D ^ oC D r (nP D - (c + 1)) / nK D = B / nK D ^ oC D r (nP D - c) := by
        rw [eo, if_pos c1, Nat.pow_succ, Nat.div_div_eq_div_mul]
      rw [decide_eq_true c1, if_neg (show ¬ b01 true = 0 from one_ne), if_neg hk0, ckd, nI_mod (by omega) (by omega), ← eA, bt_eq, ckd, nI_div (by omega) (by omega), eF, bt_eq]
      have key : ∀ x : Int32, nI (gC D r (asgC D r B) (c + 1)) + x = nI (gC D r (asgC D r B) c) → ∃ w, j_X3_giveBy_116 N (l_X3_giveBy_37 N n) (nI (B / nK D ^ oC D r (nP D - c))) (nI c) (nI (asgC D r B c)) (nI (gC D r (asgC D r B) (c + 1))) x σ = some (nI (gC D r (asgC D r B) 0), w) ∧ (∀ k, k < 3 → w 71 k = gS D r (asgC D r B) 0 k) ∧ (∀ q, q < nP D → w 72 q = nI (asgC D r B q)) ∧ ∀ x, ¬ (x = 71 ∨ x = 72) → w x = σ x := by
        intro x hx
        unfold j_X3_giveBy_116
        rw [bt_eq, hx, at_nI (by omega) (by decide), put_nI (by omega) (by decide), bt_eq]
        have fr : FrC σ (st σ 71 (asgC D r B c) (σ 71 (asgC D r B c) ||| 1 <<< (nI c &&& 31))) := fun x hx => st_cell (by omega)
        refine fin _ (fr.a h) (fun k hk => ?_) (fun x hx => st_cell hx)
        rw [st_get, sS' k, decide_eq_true c1, Bool.true_and]
        by_cases e : k = asgC D r B c
        · rw [if_pos e, decide_eq_true e.symm, if_pos rfl, ← e, h71 k hk]
        · have e' : ¬ asgC D r B c = k := fun z => e z.symm
          rw [if_neg e, decide_eq_false e', if_neg Bool.false_ne_true, h71 k hk, or_0]
      rw [decide_eq_true c1, Bool.true_and] at sC'
      by_cases c2 : asgC D r B c = r 3 c
      · rw [decide_eq_true c2, show (!true).toNat = 0 from rfl, Nat.add_zero] at sC'
        have c3 : nI (asgC D r B c) = nI (r 3 c) := by rw [c2]
        rw [if_pos c3]
        refine key 0 ?_
        rw [sC']
        exact Int32.add_zero _
      · rw [decide_eq_false c2, show (!false).toNat = 1 from rfl] at sC'
        have c3 : ¬ nI (asgC D r B c) = nI (r 3 c) := fun z => c2 ((nI_eq (by omega) (by omega)).mp z)
        rw [if_neg c3]
        refine key 1 ?_
        rw [sC']
        exact (nI_succ _).symm
    · have eA : asgC D r B c = r 3 c := by
        unfold asgC
        rw [if_pos hlt, if_neg c1]
      have eF : oC D r (nP D - (c + 1)) = oC D r (nP D - c) := by
        rw [eo, if_neg c1]
        rfl
      rw [decide_eq_false c1, Bool.false_and, show false.toNat = 0 from rfl, Nat.add_zero] at sC'
      have sC2 : gC D r (asgC D r B) (c + 1) = gC D r (asgC D r B) c := sC'.symm
      rw [decide_eq_false c1, if_pos (show b01 false = 0 from rfl), eF, sC2, ← eA]
      refine fin σ h (fun k hk => ?_) (fun _ _ => rfl)
      rw [sS' k, decide_eq_false c1, Bool.false_and, if_neg Bool.false_ne_true, or_0]
      exact h71 k hk
theorem gS_top (A : Nat → Nat) (k : Nat) (h7 : nP D ≤ 7) : gS D r A (nP D) k = 0 := by
  refine set_ext fun q hq => ?_
  unfold gS
  rw [bit_mset _ _ _ (by omega) hq, bit_0]
  by_cases e : q < nP D
  · rw [decide_eq_true e, decide_eq_false (by omega : ¬ nP D ≤ q)]
    rfl
  · rw [decide_eq_false e]
    rfl
theorem gC_top (A : Nat → Nat) : gC D r A (nP D) = 0 := by
  have : ∀ n, n ≤ nP D → cnt (fun q => decide (nP D ≤ q) && (decide (r 1 q = 0) && !decide (A q = r 3 q))) n = 0 := by
    intro n
    induction n with
    | zero =>
      intro _
      rfl
    | succ n ih =>
      intro hn
      rw [cnt, ih (by omega), decide_eq_false (by omega : ¬ nP D ≤ n)]
      rfl
  exact this _ (Nat.le_refl _)
theorem gS_0 (A : Nat → Nat) (k : Nat) (h7 : nP D ≤ 7) : gS D r A 0 k = setA D r A k := by
  refine set_ext fun q hq => ?_
  unfold gS setA
  rw [bit_mset _ _ _ (by omega) hq, bit_mset _ _ _ (by omega) hq, decide_eq_true (Nat.zero_le q), Bool.true_and]
theorem gC_0 (A : Nat → Nat) : gC D r A 0 = costA D r A := by
  unfold gC costA
  refine cnt_congr _ fun q _ => ?_
  show (decide (0 ≤ q) && (decide (r 1 q = 0) && !decide (A q = r 3 q))) = (decide (r 1 q = 0) && !decide (A q = r 3 q))
  rw [decide_eq_true (Nat.zero_le q), Bool.true_and]
theorem a_giveBy {σ : St} (h : RlA D r σ) {B : Nat} (hB : B < 2 ^ 20) (hN : 7000 ≤ N) : ∃ w, o_X3_giveBy N (nI B) σ = some (nI (costA D r (asgC D r B)), w) ∧ (∀ k, k < 3 → w 71 k = setA D r (asgC D r B) k) ∧ (∀ q, q < nP D → w 72 q = nI (asgC D r B q)) ∧ ∀ x, ¬ (x = 71 ∨ x = 72) → w x = σ x := by
  have h7 := h.ho.p7
  have a1 : ∀ x : Nat, nI x + 1 = nI (x + 1) := fun x => nI_add x 1
  have fr : FrC σ (st (st (st σ 71 0 0) 71 1 0) 71 2 0) := fun x hx => by
    rw [st_cell (by omega), st_cell (by omega), st_cell (by omega)]
  obtain ⟨w, z1, z2, z3, z4⟩ := a_give37 (N := N) (r := r) hB (nP D) N (st (st (st σ 71 0 0) 71 1 0) 71 2 0) (fr.a h) (Nat.le_refl _) (by omega) (fun k hk => by
    rw [gS_top _ _ h7, st_get, st_get, st_get]
    by_cases e2 : k = 2
    · rw [if_pos e2]
    · rw [if_neg e2]
      by_cases e1 : k = 1
      · rw [if_pos e1]
      · rw [if_neg e1, if_pos (by omega)]) (fun q h1 h2 => absurd h2 (by omega))
  rw [gC_top, Nat.sub_self, gC_0] at z1
  have z1' : l_X3_giveBy_37 N N 0 (nI B) (nI (nP D) - 1) (st (st (st σ 71 0 0) 71 1 0) 71 2 0) = some (nI (costA D r (asgC D r B)), w) := by
    rw [Int32.sub_eq_add_neg]
    have e : nI (B / nK D ^ oC D r 0) = nI B := by
      rw [oC, Nat.pow_zero, Nat.div_one]
    rw [e] at z1
    exact z1
  refine ⟨w, ?_, fun k hk => by rw [z2 k hk, gS_0 _ _ h7], z3, fun x hx => by rw [z4 x hx, st_cell (by omega), st_cell (by omega), st_cell (by omega)]⟩
  obtain ⟨n, rfl⟩ : ∃ k, N = k + 4 := ⟨N - 4, by omega⟩
  have p0 : put_ σ 71 3 0 0 = st σ 71 0 0 := put_nI (j := 0) (by decide) (by decide)
  have p1 : put_ (st σ 71 0 0) 71 3 1 0 = st (st σ 71 0 0) 71 1 0 := put_nI (j := 1) (by decide) (by decide)
  have p2 : put_ (st (st σ 71 0 0) 71 1 0) 71 3 2 0 = st (st (st σ 71 0 0) 71 1 0) 71 2 0 := put_nI (j := 2) (by decide) (by decide)
  have e3 : st (st (st σ 71 0 0) 71 1 0) 71 2 0 1 3 = nI (nP D) := by
    rw [st_cell (by decide), st_cell (by decide), st_cell (by decide)]
    exact h.ha.1.2.2.2
  unfold o_X3_giveBy
  rw [l_X3_giveBy_2, if_neg (by decide), p0, bt_eq, bt_eq, show (0 : Int32) + 1 = 1 by decide, l_X3_giveBy_2, if_neg (by decide), p1, bt_eq, bt_eq, show (1 : Int32) + 1 = 2 by decide, l_X3_giveBy_2, if_neg (by decide), p2, bt_eq, bt_eq, show (2 : Int32) + 1 = 3 by decide, l_X3_giveBy_2, if_pos (by decide), e3, bt_eq]
  exact z1'
theorem not_f {b : Bool} (h : (!b) = false) : b = true := by
  cases b
  · exact absurd h (by decide)
  · rfl
/-- which sets one can keep, as the class has written it -/
def Fits (D : LD) (r : RD) (M : Nat) (σ : St) : Prop := ∀ m, m < M → (∀ q, q < 32 → bit (nI m) q = true → q < nP D ∧ r 1 q = 0) → σ 70 m = mset (fun j => canB D r j (nI m)) (nK D)
theorem a_fill25 (hN : 7000 ≤ N) (K : Int32 → Int32 → St → Option (Unit × St)) {m : Nat} (hm : m < 128) (hs : ∀ q, q < 32 → bit (nI m) q = true → q < nP D ∧ r 1 q = 0) (hz : nI m &&& (wayS D r 0 ^^^ (-1)) = 0) : ∀ (c n k : Nat) (σ : St), RlA D r σ → k + c = nK D → c < n →
    ∃ w, l_X3_fillFits_25 N K n (wayS D r 0) (nI m) (mset (fun j => canB D r j (nI m)) k) (nI k) σ = K (wayS D r 0) (nI (m + 1)) (st w 70 m (mset (fun j => canB D r j (nI m)) (nK D))) ∧ ∀ x, ¬ (63 ≤ x ∧ x ≤ 68) → w x = σ x := by
  intro c
  induction c with
  | zero =>
    intro n k σ h hk hn
    obtain ⟨n, rfl⟩ : ∃ k, n = k + 1 := ⟨n - 1, by omega⟩
    have h3 := h.ho.k3
    have e : k = nK D := by omega
    refine ⟨σ, ?_, fun _ _ => rfl⟩
    rw [l_X3_fillFits_25, h.ha.1.2.2.1, if_pos (nI_le (by omega) (by omega)), e]
    unfold j_X3_fillFits_76
    rw [b_cka _ hm (by decide), nI_clamp (by omega), bt_eq, bt_eq, ← p1_sub]
  | succ c ih =>
    intro n k σ h hk hn
    obtain ⟨n, rfl⟩ : ∃ k, n = k + 1 := ⟨n - 1, by omega⟩
    have h3 := h.ho.k3
    have hlt : k < nK D := by omega
    obtain ⟨hS, b7⟩ := op_set h.z hlt hs
    obtain ⟨w1, q1, -, q3⟩ := a_canAll (N := N) (any := true) h hS (fun e => by rw [b7] at e; cases e) hlt hN
    have q1' : o_X8_canKeepAll N (nI k) (nI m) 1 σ = some (b01 (canB D r k (nI m)), w1) := q1
    have fr : FrC σ w1 := fun x hx => q3 x (by omega)
    obtain ⟨w, y1, y2⟩ := ih n (k + 1) w1 (fr.a h) (by omega) (by omega)
    refine ⟨w, ?_, fun x hx => (y2 x hx).trans (q3 x hx)⟩
    rw [l_X3_fillFits_25, h.ha.1.2.2.1, if_neg (nI_ge hlt (by omega)), if_pos hz, q1', bd_some]
    unfold j_X3_fillFits_68
    rw [mset, p1_sub] at y1
    cases hc : canB D r k (nI m)
    · rw [hc, if_neg Bool.false_ne_true] at y1
      rw [if_pos (show b01 false = 0 from rfl), bt_eq, bt_eq]
      exact y1
    · rw [hc, if_pos rfl] at y1
      rw [if_neg (show ¬ b01 true = 0 from one_ne), bt_eq, bt_eq]
      exact y1
theorem a_fill11 (hN : 7000 ≤ N) : ∀ (c n m : Nat) (σ : St), RlA D r σ → Fits D r m σ → m + c = 128 → c < n →
    ∃ w, l_X3_fillFits_11 N n (wayS D r 0) (nI m) σ = some ((), w) ∧ Fits D r 128 w ∧ FrC σ w := by
  intro c
  induction c with
  | zero =>
    intro n m σ h hF hm hn
    obtain ⟨n, rfl⟩ : ∃ k, n = k + 1 := ⟨n - 1, by omega⟩
    have e : m = 128 := by omega
    subst e
    rw [l_X3_fillFits_11, if_pos (show (128 : Int32) ≤ nI 128 by decide)]
    exact ⟨σ, rfl, hF, FrC.rf⟩
  | succ c ih =>
    intro n m σ h hF hm hn
    obtain ⟨n, rfl⟩ : ∃ k, n = k + 1 := ⟨n - 1, by omega⟩
    have h7 := h.ho.p7
    have h3 := h.ho.k3
    have hlt : ¬ (128 : Int32) ≤ nI m := nI_ge (b := 128) (by omega) (by omega)
    rw [l_X3_fillFits_11, if_neg hlt]
    have sub_iff : nI m &&& (wayS D r 0 ^^^ (-1)) = 0 ↔ ∀ q, q < 32 → bit (nI m) q = true → q < nP D ∧ r 1 q = 0 := by
      constructor
      · intro z q hq hb
        have e := congrArg (fun x => bit x q) z
        have e' : bit (nI m &&& (wayS D r 0 ^^^ (-1))) q = false := e.trans (bit_0 q)
        rw [bit_and, bit_xor, bit_n1 hq, hb, Bool.true_and, Bool.xor_true, bit_mset _ _ _ (by omega) hq] at e'
        have e2 := not_f e'
        rw [Bool.and_eq_true, decide_eq_true_eq, decide_eq_true_eq] at e2
        have hr := h.ri.2.1 q e2.1
        exact ⟨e2.1, (nI_eq (a := r 1 q) (b := 0) (by omega) (by omega)).mp e2.2⟩
      · intro z
        refine set_ext fun q hq => ?_
        rw [bit_and, bit_xor, bit_n1 hq, bit_0, Bool.xor_true]
        cases hb : bit (nI m) q
        · rfl
        · obtain ⟨z1, z2⟩ := z q hq hb
          rw [bit_mset _ _ _ (by omega) hq, decide_eq_true z1, z2, show decide (nI 0 = (0 : Int32)) = true from rfl]
          try rfl
    by_cases hs : ∀ q, q < 32 → bit (nI m) q = true → q < nP D ∧ r 1 q = 0
    · obtain ⟨w1, y1, y2⟩ := a_fill25 (N := N) (D := D) (r := r) hN (l_X3_fillFits_11 N n) (m := m) (by omega) hs (sub_iff.mpr hs) (nK D) N 0 σ h (by omega) (by omega)
      have y1' : l_X3_fillFits_25 N (l_X3_fillFits_11 N n) N (wayS D r 0) (nI m) 0 0 σ = _ := y1
      rw [y1']
      have fr : FrC σ (st w1 70 m (mset (fun j => canB D r j (nI m)) (nK D))) := fun x hx => (st_cell (by omega)).trans (y2 x (by omega))
      obtain ⟨w, z1, z2, z3⟩ := ih n (m + 1) _ (fr.a h) (fun m' hm' hs' => by
        rw [st_get]
        by_cases e : m' = m
        · rw [if_pos e, e]
        · rw [if_neg e, y2 70 (by decide)]
          exact hF m' (by omega) hs') (by omega) (by omega)
      exact ⟨w, z1, z2, fr.tr z3⟩
    · have nz : ¬ nI m &&& (wayS D r 0 ^^^ (-1)) = 0 := fun z => hs (sub_iff.mp z)
      have e76 : l_X3_fillFits_25 N (l_X3_fillFits_11 N n) N (wayS D r 0) (nI m) 0 0 σ = l_X3_fillFits_11 N n (wayS D r 0) (nI (m + 1)) (st σ 70 m 0) := by
        obtain ⟨n', hn'⟩ : ∃ k, N = k + 1 := ⟨N - 1, by omega⟩
        have e : j_X3_fillFits_76 N (l_X3_fillFits_11 N n) (wayS D r 0) (nI m) 0 σ = l_X3_fillFits_11 N n (wayS D r 0) (nI (m + 1)) (st σ 70 m 0) := by
          unfold j_X3_fillFits_76
          rw [b_cka _ (by omega : m < 128) (by decide), nI_clamp (by omega), bt_eq, bt_eq, ← p1_sub]
        rw [← e]
        generalize l_X3_fillFits_11 N n = K
        rw [show l_X3_fillFits_25 N K N = l_X3_fillFits_25 N K (n' + 1) by rw [← hn'], l_X3_fillFits_25]
        by_cases c1 : σ 1 2 ≤ 0
        · rw [if_pos c1]
        · rw [if_neg c1, if_neg nz]
      rw [e76]
      have fr : FrC σ (st σ 70 m 0) := fun x hx => st_cell (by omega)
      obtain ⟨w, z1, z2, z3⟩ := ih n (m + 1) _ (fr.a h) (fun m' hm' hs' => by
        rw [st_get]
        by_cases e : m' = m
        · rw [e] at hs'
          exact absurd hs' hs
        · rw [if_neg e]
          exact hF m' (by omega) hs') (by omega) (by omega)
      exact ⟨w, z1, z2, fr.tr z3⟩
theorem a_fillFits {σ : St} (h : RlA D r σ) (hN : 7000 ≤ N) : ∃ w, o_X3_fillFits N σ = some ((), w) ∧ Fits D r 128 w ∧ FrC σ w := by
  unfold o_X3_fillFits
  rw [a_setOf h.ho h.ha h.ra (by omega), bd_some]
  exact a_fill11 hN 128 N 0 σ h (fun m hm => absurd hm (Nat.not_lt_zero _)) (by omega) (by omega)
theorem a_allFit {σ : St} (h : RlA D r σ) (hF : Fits D r 128 σ) {A : Nat → Nat} (h71 : ∀ k, k < 3 → σ 71 k = setA D r A k) : ∀ (c n k : Nat), k + c = nK D → c < n → l_X3_allFit_2 N n (nI k) σ = some (b01 (ftB D r A c k), σ) := by
  intro c
  have h7 := h.ho.p7
  have h3 := h.ho.k3
  induction c with
  | zero =>
    intro n k hk hn
    obtain ⟨n, rfl⟩ : ∃ k, n = k + 1 := ⟨n - 1, by omega⟩
    rw [l_X3_allFit_2, h.ha.1.2.2.1, if_pos (nI_le (by omega) (by omega))]
    rfl
  | succ c ih =>
    intro n k hk hn
    obtain ⟨n, rfl⟩ : ∃ k, n = k + 1 := ⟨n - 1, by omega⟩
    have hlt : k < nK D := by omega
    have es : setA D r A k = nI (mn (fun p => decide (r 1 p = 0) && decide (A p = k)) (nP D)) := mset_mn (fun p => decide (r 1 p = 0) && decide (A p = k)) (nP D) h7
    have hml : mn (fun p => decide (r 1 p = 0) && decide (A p = k)) (nP D) < 128 := Nat.lt_of_lt_of_le (mn_lt _ _) (Nat.pow_le_pow_right (by decide) h7 : 2 ^ nP D ≤ 2 ^ 7)
    have e70 := hF _ hml (by rw [← es]; exact setA_in h.z)
    have hat : at_ σ 70 128 (setA D r A k) = mset (fun j => canB D r j (setA D r A k)) (nK D) := by
      rw [← es] at e70
      rw [← e70, es]
      exact at_nI hml (by decide)
    rw [l_X3_allFit_2, h.ha.1.2.2.1, if_neg (nI_ge hlt (by omega)), at_nI (σ := σ) (k := 71) (n := 3) (j := k) (by omega) (by decide), h71 k (by omega), hat, a_hasb _ (g := k) (by omega), bit_mset _ _ _ (by omega) (by omega), decide_eq_true hlt, Bool.true_and, ftB]
    cases hc : canB D r k (setA D r A k)
    · rw [if_pos (show b01 false = 0 from rfl)]
      rfl
    · rw [if_neg (show ¬ b01 true = 0 from one_ne), bt_eq, ← p1_sub, ih n (k + 1) (by omega) (by omega), Bool.true_and]
end HANA
