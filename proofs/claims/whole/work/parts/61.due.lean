/-! what may be kept on a day: calendar -/
def cnt (f : Nat → Bool) : Nat → Nat
  | 0 => 0
  | p + 1 => cnt f p + (f p).toNat
theorem cnt_le (f : Nat → Bool) : ∀ n, cnt f n ≤ n
  | 0 => Nat.le_refl 0
  | n + 1 => by
    have := cnt_le f n
    have h2 : (f n).toNat ≤ 1 := by cases f n <;> decide
    rw [cnt]
    omega
def dueP (D : LD) (r : RD) (k d q : Nat) : Bool := decide (r 1 q = 0) && (decide (r 3 q = k) && mayV D r q d)
section DUE
variable {D : LD} {r : RD} {σ : St} {N : Nat}
theorem neg_lt {c : Nat} (h : 1 ≤ c) (h2 : c < 2 ^ 30) : -nI c < 0 := by
  rw [Int32.lt_iff_toInt_lt, Int32.toInt_neg, nI_toInt (by omega), Int.bmod_eq_of_le (by omega) (by omega)]
  show -(c : Int) < 0
  omega
theorem b_in_sub {d m s : Nat} (hd : d < 2 ^ 30) (hm : m < 2 ^ 30) (hs : s < 2 ^ 30) (σ : St) :
    p_X10_in ((nI d - nI m).toInt64) 0 ((nI s).toInt64) σ = b01 (decide (m ≤ d) && decide (d ≤ m + s)) := by
  show p_X10_in ((nI d - nI m).toInt64) (0 : Int32).toInt64 ((nI s).toInt64) σ = _
  rw [b_in]
  by_cases h1 : m ≤ d
  · rw [decide_eq_true h1, Bool.true_and, nI_sub h1]
    by_cases h2 : d ≤ m + s
    · rw [decide_eq_true h2, if_neg]
      · rfl
      · rintro (e | e)
        · exact nI_pos (by omega) e
        · rw [nI_lt_iff (by omega) (by omega)] at e
          omega
    · rw [decide_eq_false h2, if_pos]
      · rfl
      · right
        rw [nI_lt_iff (by omega) (by omega)]
        omega
  · rw [decide_eq_false h1, Bool.false_and, if_pos]
    · rfl
    · left
      rw [sub_neg' (by omega)]
      exact neg_lt (by omega) (by omega)
theorem a_due_loop (h : RlA D r σ) {k d : Nat} (hk : k < nK D) (hd : d < 2 ^ 20) : ∀ (c n p : Nat), p + c = nP D → c < n →
    l_X1_dueOn_5 N n (nI k) (nI d) (nI (cnt (dueP D r k d) p)) (nI p) σ = some (nI (cnt (dueP D r k d) (nP D)), σ)
  | c, 0, p, _, hn => absurd hn (Nat.not_lt_zero _)
  | 0, n + 1, p, hp, _ => by
    have h7 := h.ho.p7
    rw [l_X1_dueOn_5, h.ha.1.2.2.2, if_pos (nI_le (by omega) (by omega))]
    have e : p = nP D := by omega
    rw [e]
  | c + 1, n + 1, p, hp, hn => by
    have h7 := h.ho.p7
    have h3 := h.ho.k3
    have hlt : p < nP D := by omega
    have hho := (h.ri.2.1 p hlt).2.2.1
    rw [l_X1_dueOn_5, h.ha.1.2.2.2, if_neg (nI_ge hlt (by omega)), a_isOpen h hlt, a_holder h.ho h.ra hlt, a_mayBe h hlt hd, bd_some]
    have ih := a_due_loop h hk hd c n (p + 1) (by omega) (by omega)
    have es : nI (p + 1) = nI p + 1 := by rw [nI_succ]
    rw [cnt, ← nI_add, es] at ih
    have e1 : ¬ b01 true = 0 := one_ne
    have e2 : b01 false = 0 := rfl
    have j0 : dueP D r k d p = false → l_X1_dueOn_5 N n (nI k) (nI d) (nI (cnt (dueP D r k d) p) + 0) (nI p + 1) σ = some (nI (cnt (dueP D r k d) (nP D)), σ) := by
      intro e
      rw [e] at ih
      exact ih
    have j1 : dueP D r k d p = true → l_X1_dueOn_5 N n (nI k) (nI d) (nI (cnt (dueP D r k d) p) + 1) (nI p + 1) σ = some (nI (cnt (dueP D r k d) (nP D)), σ) := by
      intro e
      rw [e] at ih
      exact ih
    unfold dueP at j0 j1
    by_cases h0 : r 1 p = 0
    · rw [decide_eq_true h0] at j0 j1 ⊢
      rw [if_neg e1]
      by_cases hx : r 3 p = k
      · rw [decide_eq_true hx] at j0 j1
        rw [hx, if_pos rfl]
        cases hm : mayV D r p d
        · rw [if_pos e2]
          exact j0 (by rw [hm]; rfl)
        · rw [if_neg e1]
          exact j1 (by rw [hm]; rfl)
      · have hn2 : ¬ nI (r 3 p) = nI k := fun e => hx ((nI_eq (by omega) (by omega)).mp e)
        rw [decide_eq_false hx] at j0
        rw [if_neg hn2]
        exact j0 rfl
    · rw [decide_eq_false h0] at j0 ⊢
      rw [if_pos e2]
      exact j0 rfl
theorem b_due_loop (h : RlB D r σ) {k d : Nat} (hk : k < nK D) (hd : d < 2 ^ 20) (hN : 7000 ≤ N) : ∀ (c n p : Nat), p + c = nP D → c < n →
    l_X10_mayKeepOn_5 N n (nI k) (nI d) (nI (cnt (dueP D r k d) p)) (nI p) σ = some (nI (cnt (dueP D r k d) (nP D)), σ)
  | c, 0, p, _, hn => absurd hn (Nat.not_lt_zero _)
  | 0, n + 1, p, hp, _ => by
    have h7 := h.ho.p7
    rw [l_X10_mayKeepOn_5, h.hb.1.2.2.2, if_pos (nI_le (by omega) (by omega))]
    have e : p = nP D := by omega
    rw [e]
  | c + 1, n + 1, p, hp, hn => by
    have h7 := h.ho.p7
    have h3 := h.ho.k3
    have hlt : p < nP D := by omega
    have hho := (h.ri.2.1 p hlt).2.2.1
    have hh := (h.ri.2.1 p hlt).1
    have hr := ripV_le h.z hlt
    have hg := gvn_le h.ho h.ri hlt
    have hq := h.ho.pr hlt
    have b21 : σ 80 (21 + p) = oI (gvn D r p) := by
      have e := (h.rb.2.1 p hlt).2.2.2
      rw [show 0 + 21 + p = 21 + p from rfl] at e
      exact e
    have hrip : o_X10_ripe N 0 (nI p) σ = some (oI (ripV D r p), σ) := b_ripe h.ho h.hb h.ri (x := 0) (by omega) h.rb hlt hN
    rw [l_X10_mayKeepOn_5, h.hb.1.2.2.2, if_neg (nI_ge hlt (by omega)), b_cka (x := p) (n := 1360) _ (by omega) (by decide), w_nI (c := σ 80) (x := p) (by omega), b_how h.rb hlt,
      show (21 : Int32) + nI p = nI (21 + p) from nI_add 21 p, b_cka (x := 21 + p) _ (by omega) (by decide), w_nI (c := σ 80) (x := 21 + p) (by omega), b21, if_neg (nI_pos (n := k) (by omega)),
      show (14 : Int32) + nI p = nI (14 + p) from nI_add 14 p, b_cka (x := 14 + p) _ (by omega) (by decide), w_nI (c := σ 80) (x := 14 + p) (by omega), b_whose h.rb hlt]
    have ih := b_due_loop h hk hd hN c n (p + 1) (by omega) (by omega)
    have es : nI (p + 1) = nI p + 1 := by rw [nI_succ]
    rw [cnt, ← nI_add, es] at ih
    have j0 : dueP D r k d p = false → j_X10_mayKeepOn_59 N (l_X10_mayKeepOn_5 N n) (nI k) (nI d) (nI (cnt (dueP D r k d) p)) (nI p) σ = some (nI (cnt (dueP D r k d) (nP D)), σ) := by
      intro e
      rw [e] at ih
      show l_X10_mayKeepOn_5 N n (nI k) (nI d) (nI (cnt (dueP D r k d) p) + 0) (nI p + 1) σ = _
      exact ih
    have jr : (dueP D r k d p = mayV D r p d) → ¬ ripV D r p = 0 → j_X10_mayKeepOn_55 N (l_X10_mayKeepOn_5 N n) (nI k) (nI d) (nI (cnt (dueP D r k d) p)) (nI p) σ = some (nI (cnt (dueP D r k d) (nP D)), σ) := by
      intro e hz
      unfold j_X10_mayKeepOn_55 j_X10_mayKeepOn_60
      rw [if_neg one_ne, hrip, bd_some, b_cka (x := p) (n := 14) _ (by omega) (by decide), w_nI (c := σ 89) (x := p) (by omega), (h.hb.2.2.2.1 p hlt).2.2.2.1, oI_pos hz, b_in_sub (by omega) (by omega) (by omega)]
      have em : mayV D r p d = (decide (ripV D r p - 1 ≤ d) && decide (d ≤ ripV D r p - 1 + D 4 p)) := by
        unfold mayV
        have : decide (ripV D r p ≠ 0) = true := by simpa using hz
        rw [this, Bool.true_and]
      rw [← em]
      rw [e] at ih
      cases hm : mayV D r p d
      · rw [hm] at ih
        have e2 : b01 false = 0 := rfl
        rw [if_pos e2]
        show l_X10_mayKeepOn_5 N n (nI k) (nI d) (nI (cnt (dueP D r k d) p) + 0) (nI p + 1) σ = _
        exact ih
      · rw [hm] at ih
        have e2 : ¬ b01 true = 0 := one_ne
        rw [if_neg e2]
        show l_X10_mayKeepOn_5 N n (nI k) (nI d) (nI (cnt (dueP D r k d) p) + 1) (nI p + 1) σ = _
        exact ih
    unfold dueP at j0 jr
    by_cases h0 : r 1 p = 0
    · have hz0 : nI (r 1 p) = (0 : Int32) := by
        rw [h0]
        rfl
      rw [if_pos hz0]
      rw [decide_eq_true h0, Bool.true_and] at j0 jr
      by_cases hz : ripV D r p = 0
      · have hg0 : gvn D r p = 0 := (gvn_rip D r).mpr hz
        have hneg : oI (gvn D r p) < 0 := by
          rw [hg0]
          decide
        rw [if_pos hneg]
        refine j0 ?_
        unfold mayV
        have : decide (ripV D r p ≠ 0) = false := by simpa using hz
        rw [this]
        simp
      · have hg0 : gvn D r p ≠ 0 := fun e => hz ((gvn_rip D r).mp e)
        have hnn : ¬ oI (gvn D r p) < 0 := by
          rw [oI_pos hg0]
          exact nI_pos (by omega)
        rw [if_neg hnn]
        by_cases hx : r 3 p = k
        · rw [decide_eq_true hx, Bool.true_and] at jr
          rw [hx, if_pos rfl]
          exact jr rfl hz
        · have hn2 : ¬ nI (r 3 p) = nI k := fun e => hx ((nI_eq (by omega) (by omega)).mp e)
          rw [decide_eq_false hx] at j0
          rw [if_neg hn2]
          exact j0 rfl
    · have hn3 : ¬ nI (r 1 p) = 0 := fun e => h0 ((nI_eq (a := r 1 p) (b := 0) (by omega) (by omega)).mp e)
      rw [if_neg hn3]
      rw [decide_eq_false h0] at j0
      exact j0 rfl
theorem e_calendar (h : Rl0 D r σ) (hN : 7000 ≤ N) (a1 a2 : Int32) : ∃ v, o_X9_calendar N a1 a2 σ = some (v, σ) ∧ o_X10_calendar N a1 a2 σ = some (v, σ) := by
  have h3 := h.ho.k3
  have h7 := h.ho.p7
  rcases a_has (n := nK D) (by omega) a1 with ⟨k, hk, rfl⟩ | hx
  · unfold o_X9_calendar o_X10_calendar j_X9_calendar_25
    rw [a_hasKeeper_in h.ha h.ho hk, b_isKeeper_in h.hb h.ho hk, if_neg one_ne, bd_some, if_neg one_ne]
    rcases a_has (n := 10000) (by omega) a2 with ⟨d, hd, rfl⟩ | hx
    · have e1 : p_X10_in (nI d).toInt64 0 9999 σ = 1 := b_in_lt hd (by omega) σ
      have e2 : nI d ≤ (9999 : Int32) := (nI_le_iff (a := d) (b := 9999) (by omega) (by omega)).mpr (by omega)
      have ea : o_X1_dueOn N (nI k) (nI d) σ = _ := a_due_loop (N := N) h.a hk (d := d) (by omega) (nP D) N 0 (by omega) (by omega)
      have eb : o_X10_mayKeepOn N (nI k) (nI d) σ = _ := b_due_loop (N := N) h.b hk (d := d) (by omega) hN (nP D) N 0 (by omega) (by omega)
      rw [e1, if_neg one_ne, if_neg (nI_pos (by omega)), if_pos e2, ea, eb]
      exact ⟨_, rfl, rfl⟩
    · have e1 : p_X10_in a2.toInt64 0 9999 σ = 0 := b_in_out (n := 10000) hx (by omega) σ
      rw [e1]
      by_cases h0 : a2 < 0
      · rw [if_pos h0]
        exact ⟨_, rfl, rfl⟩
      · have hgt : ¬ a2 ≤ (9999 : Int32) := by
          rcases int_cases a2 with h1 | ⟨q, hq, rfl⟩
          · exact absurd h1 h0
          · have hx2 := hx.resolve_left h0
            rw [nI_le_iff (by omega) hq] at hx2
            intro e
            exact absurd ((nI_le_iff (a := q) (b := 9999) hq (by omega)).mp e) (by omega)
        rw [if_neg h0, if_neg hgt]
        exact ⟨_, rfl, rfl⟩
  · unfold o_X9_calendar o_X10_calendar
    rw [a_hasKeeper_out h.ha hx, b_isKeeper_out h.hb h.ho hx, bd_some]
    exact ⟨_, rfl, rfl⟩
end DUE
