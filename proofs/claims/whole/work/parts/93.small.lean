/-! busiest, lives -/
section SMALL
variable {D : LD} {r : RD} {N : Nat}
def dueQ (D : LD) (r : RD) (d q : Nat) : Bool := decide (r 1 q = 0) && mayV D r q d
def dueS (D : LD) (r : RD) (d : Nat) : Nat → Nat
  | 0 => 0
  | k + 1 => dueS D r d k + cnt (dueP D r k d) (nP D)
theorem cnt_add {f g h : Nat → Bool} : ∀ (n : Nat), (∀ q, q < n → (f q).toNat + (g q).toNat = (h q).toNat) → cnt f n + cnt g n = cnt h n
  | 0, _ => rfl
  | n + 1, e => by
    have h1 := cnt_add n (fun q hq => e q (by omega))
    have h2 := e n (by omega)
    rw [cnt, cnt, cnt]
    omega
theorem cnt_zero : ∀ (n : Nat) {f : Nat → Bool}, (∀ q, q < n → f q = false) → cnt f n = 0
  | 0, _, _ => rfl
  | n + 1, f, e => by
    rw [cnt, cnt_zero n (fun q hq => e q (by omega)), e n (by omega)]
    rfl
theorem dueS_eq (d : Nat) : ∀ k, dueS D r d k = cnt (fun q => dueQ D r d q && decide (r 3 q < k)) (nP D)
  | 0 => by
    rw [dueS, cnt_zero]
    intro q _
    rw [decide_eq_false (Nat.not_lt_zero _), Bool.and_false]
  | k + 1 => by
    rw [dueS, dueS_eq d k]
    refine cnt_add (nP D) fun q _ => ?_
    unfold dueP dueQ
    cases decide (r 1 q = 0) <;> cases mayV D r q d
    · simp
    · simp
    · simp
    · by_cases c : r 3 q < k
      · have c2 : ¬ r 3 q = k := by omega
        have c3 : r 3 q < k + 1 := by omega
        simp [c, c2, c3]
      · by_cases c2 : r 3 q = k
        · simp [c2]
        · have c3 : ¬ r 3 q < k + 1 := by omega
          simp [c, c2, c3]
theorem dueS_all (h : RlZ D r) (d : Nat) : dueS D r d (nK D) = cnt (dueQ D r d) (nP D) := by
  rw [dueS_eq]
  refine cnt_congr (nP D) fun q hq => ?_
  rw [decide_eq_true (h.ri.2.1 q hq).2.2.1, Bool.and_true]
theorem a_all_loop {σ : St} (h : RlA D r σ) (hN : 7000 ≤ N) {d : Nat} (hd : d < 2 ^ 20) : ∀ (c n k : Nat), k + c = nK D → c < n →
    l_X9_dueOfAll_4 N n (nI d) (nI (dueS D r d k)) (nI k) σ = some (nI (dueS D r d (nK D)), σ) := by
  intro c
  have h3 := h.ho.k3
  have h7 := h.ho.p7
  induction c with
  | zero =>
    intro n k hk hn
    obtain ⟨n, rfl⟩ : ∃ k, n = k + 1 := ⟨n - 1, by omega⟩
    have e : k = nK D := by omega
    rw [l_X9_dueOfAll_4, h.ha.1.2.2.1, if_pos (nI_le (by omega) (by omega)), e]
  | succ c ih =>
    intro n k hk hn
    obtain ⟨n, rfl⟩ : ∃ k, n = k + 1 := ⟨n - 1, by omega⟩
    have ea : o_X1_dueOn N (nI k) (nI d) σ = _ := a_due_loop (N := N) h (k := k) (by omega) (d := d) hd (nP D) N 0 (by omega) (by omega)
    rw [l_X9_dueOfAll_4, h.ha.1.2.2.1, if_neg (nI_ge (by omega) (by omega)), ea, bd_some, bt_eq, bt_eq, nI_add, ← p1_sub]
    exact ih n (k + 1) (by omega) (by omega)
theorem b_all_loop {τ : St} (h : RlB D r τ) {d : Nat} (hd : d < 2 ^ 20) (hN : 7000 ≤ N) : ∀ (c n p : Nat), p + c = nP D → c < n →
    l_X10_mayKeepOn_5 N n (-1) (nI d) (nI (cnt (dueQ D r d) p)) (nI p) τ = some (nI (cnt (dueQ D r d) (nP D)), τ) := by
  intro c
  have h7 := h.ho.p7
  induction c with
  | zero =>
    intro n p hp hn
    obtain ⟨n, rfl⟩ : ∃ k, n = k + 1 := ⟨n - 1, by omega⟩
    have e : p = nP D := by omega
    rw [l_X10_mayKeepOn_5, h.hb.1.2.2.2, if_pos (nI_le (by omega) (by omega)), e]
  | succ c ih0 =>
    intro n p hp hn
    obtain ⟨n, rfl⟩ : ∃ k, n = k + 1 := ⟨n - 1, by omega⟩
    have hlt : p < nP D := by omega
    have hr := ripV_le h.z hlt
    have hg := gvn_le h.ho h.ri hlt
    have hq := h.ho.pr hlt
    have b21 : τ 80 (21 + p) = oI (gvn D r p) := by
      have e := (h.rb.2.1 p hlt).2.2.2
      rw [show 0 + 21 + p = 21 + p from rfl] at e
      exact e
    have hrip : o_X10_ripe N 0 (nI p) τ = some (oI (ripV D r p), τ) := b_ripe h.ho h.hb h.ri (x := 0) (by omega) h.rb hlt hN
    have hneg1 : (-1 : Int32) < 0 := by decide
    rw [l_X10_mayKeepOn_5, h.hb.1.2.2.2, if_neg (nI_ge hlt (by omega)), b_cka (x := p) (n := 1360) _ (by omega) (by decide), w_nI (c := τ 80) (x := p) (by omega), b_how h.rb hlt,
      show (21 : Int32) + nI p = nI (21 + p) from nI_add 21 p, b_cka (x := 21 + p) _ (by omega) (by decide), w_nI (c := τ 80) (x := 21 + p) (by omega), b21, if_pos hneg1]
    have ih := ih0 n (p + 1) (by omega) (by omega)
    have es : nI (p + 1) = nI p + 1 := by rw [nI_succ]
    rw [cnt, ← nI_add, es] at ih
    have j0 : dueQ D r d p = false → j_X10_mayKeepOn_59 N (l_X10_mayKeepOn_5 N n) (-1) (nI d) (nI (cnt (dueQ D r d) p)) (nI p) τ = some (nI (cnt (dueQ D r d) (nP D)), τ) := by
      intro e
      rw [e] at ih
      show l_X10_mayKeepOn_5 N n (-1) (nI d) (nI (cnt (dueQ D r d) p) + 0) (nI p + 1) τ = _
      exact ih
    by_cases h0 : r 1 p = 0
    · have hz0 : nI (r 1 p) = (0 : Int32) := by
        rw [h0]
        rfl
      rw [if_pos hz0]
      by_cases hz : ripV D r p = 0
      · have hg0 : gvn D r p = 0 := (gvn_rip D r).mpr hz
        have hneg : oI (gvn D r p) < 0 := by
          rw [hg0]
          decide
        rw [if_pos hneg]
        refine j0 ?_
        unfold dueQ mayV
        have : decide (ripV D r p ≠ 0) = false := by simpa using hz
        rw [this]
        simp
      · have hg0 : gvn D r p ≠ 0 := fun e => hz ((gvn_rip D r).mp e)
        have hnn : ¬ oI (gvn D r p) < 0 := by
          rw [oI_pos hg0]
          exact nI_pos (by omega)
        rw [if_neg hnn]
        unfold j_X10_mayKeepOn_55 j_X10_mayKeepOn_60
        rw [if_neg one_ne, hrip, bd_some, b_cka (x := p) (n := 14) _ (by omega) (by decide), w_nI (c := τ 89) (x := p) (by omega), (h.hb.2.2.2.1 p hlt).2.2.2.1, oI_pos hz, b_in_sub (by omega) (by omega) (by omega)]
        have em : dueQ D r d p = (decide (ripV D r p - 1 ≤ d) && decide (d ≤ ripV D r p - 1 + D 4 p)) := by
          unfold dueQ mayV
          have : decide (ripV D r p ≠ 0) = true := by simpa using hz
          rw [decide_eq_true h0, this, Bool.true_and, Bool.true_and]
        rw [← em]
        cases hm : dueQ D r d p
        · rw [hm] at ih
          have e2 : b01 false = 0 := rfl
          rw [if_pos e2]
          show l_X10_mayKeepOn_5 N n (-1) (nI d) (nI (cnt (dueQ D r d) p) + 0) (nI p + 1) τ = _
          exact ih
        · rw [hm] at ih
          have e2 : ¬ b01 true = 0 := one_ne
          rw [if_neg e2]
          show l_X10_mayKeepOn_5 N n (-1) (nI d) (nI (cnt (dueQ D r d) p) + 1) (nI p + 1) τ = _
          exact ih
    · have hn3 : ¬ nI (r 1 p) = 0 := fun e => h0 ((open_nI h.z hlt).mp e)
      rw [if_neg hn3]
      refine j0 ?_
      unfold dueQ
      rw [decide_eq_false h0]
      rfl
theorem e_busy_loop {σ τ : St} (h : RlA D r σ) (g : RlB D r τ) (hN : 7000 ≤ N) (a1 : Int32) : ∀ (c n i most first : Nat), i + c = 200 → most ≤ 7 → c < n →
    ∃ v, l_X9_busiest_38 N n a1 (nI most) (nI first) (nI i) σ = some (v, σ) ∧ l_X10_busiest_30 N n a1 (nI first) (nI most) (nI i) τ = some (v, τ) := by
  intro c
  have hd := h.ri.1
  have h7 := h.ho.p7
  have t0 := b_today g
  induction c with
  | zero =>
    intro n i most first hi hm hn
    obtain ⟨n, rfl⟩ : ∃ k, n = k + 1 := ⟨n - 1, by omega⟩
    have e : i = 200 := by omega
    subst e
    have hle : (200 : Int32) ≤ nI 200 := nI_le (a := 200) (by omega) (by omega)
    rw [l_X9_busiest_38, if_pos hle, l_X10_busiest_30, if_pos hle]
    by_cases c1 : a1 = 0
    · rw [if_pos c1, if_pos c1]
      exact ⟨_, rfl, rfl⟩
    · rw [if_neg c1, if_neg c1]
      exact ⟨_, rfl, rfl⟩
  | succ c ih =>
    intro n i most first hi hm hn
    obtain ⟨n, rfl⟩ : ∃ k, n = k + 1 := ⟨n - 1, by omega⟩
    have hle : ¬ (200 : Int32) ≤ nI i := fun e => absurd ((nI_le_iff (a := 200) (b := i) (by omega) (by omega)).mp e) (by omega)
    have ea : o_X9_dueOfAll N (nI (r 0 0 + i)) σ = some (nI (cnt (dueQ D r (r 0 0 + i)) (nP D)), σ) := by
      have := a_all_loop (N := N) h hN (d := r 0 0 + i) (by omega) (nK D) N 0 (by omega) (by have := h.ho.k3; omega)
      rw [dueS_all h.z] at this
      exact this
    have eb : o_X10_mayKeepOn N (-1) (nI (r 0 0 + i)) τ = some (nI (cnt (dueQ D r (r 0 0 + i)) (nP D)), τ) := b_all_loop (N := N) g (d := r 0 0 + i) (by omega) hN (nP D) N 0 (by omega) (by omega)
    have hc := cnt_le (dueQ D r (r 0 0 + i)) (nP D)
    rw [l_X9_busiest_38, if_neg hle, l_X10_busiest_30, if_neg hle, a_today h.ra, t0, nI_add, ea, bd_some, eb, bd_some, a_today h.ra, t0]
    unfold j_X9_busiest_82 j_X10_busiest_75
    generalize cnt (dueQ D r (r 0 0 + i)) (nP D) = x at hc
    by_cases c1 : x ≤ most
    · rw [if_pos (nI_le c1 (by omega)), if_pos (nI_le c1 (by omega)), bt_eq, bt_eq, ← p1_sub]
      exact ih n (i + 1) most first (by omega) hm (by omega)
    · rw [if_neg (by rw [nI_le_iff (by omega) (by omega)]; exact c1), if_neg (by rw [nI_le_iff (by omega) (by omega)]; exact c1), bt_eq, bt_eq, bt_eq, bt_eq, nI_add, ← p1_sub]
      exact ih n (i + 1) x (r 0 0 + i) (by omega) (by omega) (by omega)
end SMALL
