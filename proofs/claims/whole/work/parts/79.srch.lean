/-! the search for an order, as one function behind both; what may be left out of it -/
def rmv (L : Int32) (p : Nat) : Int32 := L &&& ((1 <<< (nI p &&& 31)) ^^^ (-1))
theorem bit_xor (x y : Int32) (p : Nat) : bit (x ^^^ y) p = (bit x p ^^ bit y p) := by simp [bit]
theorem bit_n1 {q : Nat} (hq : q < 32) : bit (-1) q = true := by
  have h1 : ∀ q : Fin 32, bit (-1) q.val = true := by decide +kernel
  exact h1 ⟨q, hq⟩
theorem bit_rmv {L : Int32} {p q : Nat} (hp : p < 32) (hq : q < 32) : bit (rmv L p) q = (bit L q && !decide (p = q)) := by
  unfold rmv
  rw [bit_and, bit_xor, bit_n1 hq, bit_one hp hq, Bool.xor_true]
theorem rmv_back {L : Int32} {p : Nat} (hp : p < 32) (h : bit L p = true) : rmv L p ||| 1 <<< (nI p &&& 31) = L := by
  refine set_ext fun q hq => ?_
  rw [bit_or, bit_rmv hp hq, bit_one hp hq]
  by_cases e : p = q
  · rw [decide_eq_true e, ← e, h]
    rfl
  · rw [decide_eq_false e]
    simp
/-- a set of eight -/
def S8 (L : Int32) : Prop := ∀ q, 8 ≤ q → q < 32 → bit L q = false
def pc (L : Int32) : Nat := cnt (bit L) 8
theorem cnt_congr {f g : Nat → Bool} : ∀ (n : Nat), (∀ q, q < n → f q = g q) → cnt f n = cnt g n
  | 0, _ => rfl
  | n + 1, h => by
    rw [cnt, cnt, cnt_congr n (fun q hq => h q (by omega)), h n (by omega)]
theorem cnt_rmv {f : Nat → Bool} {p : Nat} (h : f p = true) : ∀ (n : Nat), p < n → cnt (fun q => f q && !decide (p = q)) n + 1 = cnt f n
  | 0, hp => absurd hp (Nat.not_lt_zero _)
  | n + 1, hp => by
    rw [cnt, cnt]
    by_cases e : p = n
    · rw [cnt_congr (g := f) n (fun q hq => by rw [decide_eq_false (by omega : ¬ p = q)]; simp)]
      rw [e] at h
      rw [h, decide_eq_true e]
      rfl
    · have := cnt_rmv h n (by omega)
      rw [decide_eq_false e]
      simp only [Bool.not_false, Bool.and_true]
      omega
theorem cnt_pos {f : Nat → Bool} {p : Nat} (h : f p = true) : ∀ (n : Nat), p < n → 1 ≤ cnt f n := by
  intro n hn
  have := cnt_rmv h n hn
  omega
theorem cnt_0 {f : Nat → Bool} {n q : Nat} (h : cnt f n = 0) (hq : q < n) : f q = false := by
  cases e : f q
  · rfl
  · have := cnt_pos e n hq
    omega
theorem pc_rmv {L : Int32} {p : Nat} (hp : p < 8) (h : bit L p = true) : pc (rmv L p) + 1 = pc L := by
  unfold pc
  rw [cnt_congr (g := fun q => bit L q && !decide (p = q)) 8 (fun q hq => bit_rmv (by omega) (by omega))]
  exact cnt_rmv h 8 hp
theorem pc_0 {L : Int32} (h8 : S8 L) : L = 0 ↔ pc L = 0 := by
  constructor
  · intro h
    subst h
    unfold pc
    rw [cnt_congr (g := fun _ => false) 8 (fun q _ => bit_0 q)]
    rfl
  · intro h
    refine set_ext fun q hq => ?_
    rw [bit_0]
    by_cases e : q < 8
    · exact cnt_0 h e
    · exact h8 q (by omega) hq
theorem S8_rmv {L : Int32} {p : Nat} (hp : p < 32) (h : S8 L) : S8 (rmv L p) := by
  intro q h1 h2
  rw [bit_rmv hp h2, h q h1 h2]
  rfl
abbrev BS : Type := Option (Nat × (Nat → Nat))
def upd9 (any : Bool) (b : BS) (t : Nat) (l : Nat → Nat) : BS := match b with
  | none => some (t, l)
  | some x => if any = true then b else if t < x.1 then some (t, l) else b
/-- town, slack of one of eight: the eighth is the one that is tried -/
def twN (D : LD) (t p : Nat) : Nat := if p = 7 then t else D 2 p
def slN (D : LD) (s p : Nat) : Nat := if p = 7 then s else D 4 p
def rhoK (D : LD) (ρ : Nat → Nat) (p kept : Nat) : Nat → Nat := fun q => if q < nP D ∧ D 6 q = p then rip D kept (D 3 q) + 1 else ρ q
def kpN (D : LD) (t : Nat) (ρ : Nat → Nat) (a day p : Nat) : Nat := max (day + D 7 (5 * a + twN D t p)) (ρ p - 1)
def okN (D : LD) (t s : Nat) (ρ : Nat → Nat) (a day : Nat) (L : Int32) (p : Nat) : Bool :=
  bit L p && (!decide (ρ p = 0) && (!decide (D 7 (5 * a + twN D t p) = 1000) && decide (kpN D t ρ a day p ≤ ρ p - 1 + slN D s p)))
abbrev RECT : Type := (Nat → Nat) → Nat → Nat → Nat → Int32 → Nat → (Nat → Nat) → BS → BS
def srF (D : LD) (t s : Nat) (REC : RECT) (ρ : Nat → Nat) (a day tr : Nat) (L : Int32) (m : Nat) (pre : Nat → Nat) : Nat → Nat → BS → BS
  | 0, _, b => b
  | c + 1, p, b => srF D t s REC ρ a day tr L m pre c (p + 1)
      (if okN D t s ρ a day L p = true then REC (rhoK D ρ p (kpN D t ρ a day p)) (twN D t p) (kpN D t ρ a day p) (tr + D 7 (5 * a + twN D t p)) (rmv L p) (m + 1) (setN pre m p) b else b)
def srch (D : LD) (t s : Nat) (any : Bool) : Nat → RECT
  | 0, _, _, _, _, _, _, _, b => b
  | f + 1, ρ, a, day, tr, L, m, pre, b => if L = 0 then upd9 any b tr pre else srF D t s (srch D t s any f) ρ a day tr L m pre 8 0 b
section SRCH
variable {D : LD} {t s : Nat} {any : Bool}
theorem okN_iff {ρ : Nat → Nat} {a day : Nat} {L : Int32} {p : Nat} : okN D t s ρ a day L p = true ↔ bit L p = true ∧ ρ p ≠ 0 ∧ D 7 (5 * a + twN D t p) ≠ 1000 ∧ kpN D t ρ a day p ≤ ρ p - 1 + slN D s p := by
  unfold okN
  simp
/-- those of a set: promises or the tried one, in towns that there are -/
def ItOk (D : LD) (t s : Nat) (L : Int32) : Prop := t < 5 ∧ s ≤ 9 ∧ (bit L 7 = true → t < nT D) ∧ ∀ p, p < 7 → bit L p = true → p < nP D
/-- who stands on one of the set has no day yet -/
def InvN (D : LD) (ρ : Nat → Nat) (L : Int32) : Prop := ∀ q, q < nP D → bit L q = true → D 6 q ≠ 9 → bit L (D 6 q) = true → ρ q = 0
theorem twN_lt (ho : LandOk D) {L : Int32} (h : ItOk D t s L) {p : Nat} (hp : p < 8) (hb : bit L p = true) : twN D t p < nT D := by
  unfold twN
  by_cases e : p = 7
  · rw [if_pos e]
    rw [e] at hb
    exact h.2.2.1 hb
  · rw [if_neg e]
    exact (ho.pr (h.2.2.2 p (by omega) hb)).1
theorem ItOk_rmv {L : Int32} {p : Nat} (hp : p < 8) (h : ItOk D t s L) : ItOk D t s (rmv L p) := by
  refine ⟨h.1, h.2.1, fun e => h.2.2.1 ?_, fun q hq e => h.2.2.2 q hq ?_⟩
  · rw [bit_rmv (by omega) (by omega), Bool.and_eq_true] at e
    exact e.1
  · rw [bit_rmv (by omega) (by omega), Bool.and_eq_true] at e
    exact e.1
theorem rmv_of {L : Int32} {p q : Nat} (hp : p < 32) (hq : q < 32) (h : bit (rmv L p) q = true) : bit L q = true ∧ ¬ p = q := by
  rw [bit_rmv hp hq] at h
  simpa using h
theorem rmv_in {L : Int32} {p q : Nat} (hp : p < 32) (hq : q < 32) (h : bit L q = true) (e : ¬ p = q) : bit (rmv L p) q = true := by
  rw [bit_rmv hp hq, h, decide_eq_false e]
  rfl
theorem InvN_rmv (ho : LandOk D) {ρ : Nat → Nat} {L : Int32} {p k : Nat} (hp : p < 8) (h : InvN D ρ L) : InvN D (rhoK D ρ p k) (rmv L p) := by
  intro q hq h1 h9 h2
  have h7 := ho.p7
  have hg := (ho.pr hq).2.2.2.2.1
  obtain ⟨b1, b2⟩ := rmv_of (by omega) (by omega) h1
  obtain ⟨b3, b4⟩ := rmv_of (by omega) (by omega) h2
  unfold rhoK
  rw [if_neg (fun x => b4 x.2.symm)]
  exact h q hq b1 h9 b3
theorem srF_same {REC : RECT} {ρ : Nat → Nat} {a day tr : Nat} {L : Int32} {m : Nat} {pre : Nat → Nat} {b : BS}
    (h : ∀ p, p < 8 → okN D t s ρ a day L p = true → REC (rhoK D ρ p (kpN D t ρ a day p)) (twN D t p) (kpN D t ρ a day p) (tr + D 7 (5 * a + twN D t p)) (rmv L p) (m + 1) (setN pre m p) b = b) :
    ∀ (c p : Nat), p + c ≤ 8 → srF D t s REC ρ a day tr L m pre c p b = b
  | 0, _, _ => rfl
  | c + 1, p, hp => by
    rw [srF]
    have e : (if okN D t s ρ a day L p = true then REC (rhoK D ρ p (kpN D t ρ a day p)) (twN D t p) (kpN D t ρ a day p) (tr + D 7 (5 * a + twN D t p)) (rmv L p) (m + 1) (setN pre m p) b else b) = b := by
      by_cases c : okN D t s ρ a day L p = true
      · rw [if_pos c]
        exact h p (by omega) c
      · rw [if_neg c]
    rw [e]
    exact srF_same h c (p + 1) (by omega)
/-- one that can't be better changes nothing -/
theorem srch_p1 {x : Nat × (Nat → Nat)} : ∀ (f : Nat) (ρ : Nat → Nat) (a day tr : Nat) (L : Int32) (m : Nat) (pre : Nat → Nat), (any = true ∨ x.1 ≤ tr) → srch D t s any f ρ a day tr L m pre (some x) = some x
  | 0, _, _, _, _, _, _, _, _ => rfl
  | f + 1, ρ, a, day, tr, L, m, pre, h => by
    rw [srch]
    by_cases e : L = 0
    · rw [if_pos e]
      unfold upd9
      dsimp only
      rcases h with h | h
      · rw [if_pos h]
      · rw [if_neg (by omega : ¬ tr < x.1)]
        by_cases c : any = true
        · rw [if_pos c]
        · rw [if_neg c]
    · rw [if_neg e]
      exact srF_same (fun p _ _ => srch_p1 f _ _ _ _ _ _ _ (h.imp id (fun z => by omega))) 8 0 (by omega)
theorem bit_ne0 {L : Int32} {p : Nat} (h : bit L p = true) : ¬ L = 0 := by
  intro e
  rw [e, bit_0] at h
  cases h
/-- nor does a set with one that has no way, or comes too late -/
theorem srch_p2 (ho : LandOk D) {b : BS} : ∀ (f : Nat) (ρ : Nat → Nat) (a day tr : Nat) (L : Int32) (m : Nat) (pre : Nat → Nat) (p : Nat), a < nT D → ItOk D t s L → InvN D ρ L → p < 8 → bit L p = true →
    (D 7 (5 * a + twN D t p) = 1000 ∨ ρ p ≠ 0 ∧ ρ p - 1 + slN D s p < day + D 7 (5 * a + twN D t p)) → srch D t s any f ρ a day tr L m pre b = b
  | 0, _, _, _, _, _, _, _, _, _, _, _, _, _, _ => rfl
  | f + 1, ρ, a, day, tr, L, m, pre, p, ha, hi, hv, hp, hb, hl => by
    have h5 := ho.t5
    rw [srch, if_neg (bit_ne0 hb)]
    refine srF_same (fun q hq hok => ?_) 8 0 (by omega)
    obtain ⟨q1, q2, q3, q4⟩ := okN_iff.mp hok
    have hne : ¬ q = p := by
      intro e
      rw [e] at q3 q4
      unfold kpN at q4
      rcases hl with hl | hl
      · exact q3 hl
      · omega
    have tp := twN_lt ho hi hp hb
    have tq := twN_lt ho hi hq q1
    have tri := ho.2.2.2.2.2.2.2.1 a (twN D t q) (twN D t p) (by omega) (by omega) (by omega)
    have dq := ho.di (i := 5 * a + twN D t q) (by omega)
    have dp := ho.di (i := 5 * twN D t q + twN D t p) (by omega)
    have dap := ho.di (i := 5 * a + twN D t p) (by omega)
    refine srch_p2 ho f _ _ _ _ _ _ _ p tq (ItOk_rmv hq hi) (InvN_rmv ho hq hv) hp (rmv_in (by omega) (by omega) hb hne) ?_
    by_cases c : D 7 (5 * twN D t q + twN D t p) = 1000
    · exact Or.inl c
    · have tri2 := tri q3 c
      rcases hl with hl | ⟨l1, l2⟩
      · omega
      · right
        have er : rhoK D ρ q (kpN D t ρ a day q) p = ρ p := by
          unfold rhoK
          refine if_neg fun x => l1 ?_
          refine hv p x.1 hb ?_ (by rw [x.2]; exact q1)
          intro h9
          omega
        rw [er]
        refine ⟨l1, ?_⟩
        have hk : day + D 7 (5 * a + twN D t q) ≤ kpN D t ρ a day q := Nat.le_max_left _ _
        omega
/-- nor a set with one that is never given -/
theorem srch_p3 (ho : LandOk D) {b : BS} : ∀ (f : Nat) (ρ : Nat → Nat) (a day tr : Nat) (L : Int32) (m : Nat) (pre : Nat → Nat) (p : Nat), p < nP D → bit L p = true → ρ p = 0 → (D 6 p ≠ 9 → bit L (D 6 p) = false) → srch D t s any f ρ a day tr L m pre b = b
  | 0, _, _, _, _, _, _, _, _, _, _, _, _ => rfl
  | f + 1, ρ, a, day, tr, L, m, pre, p, hp, hb, h0, hg => by
    have h7 := ho.p7
    have hg6 := (ho.pr hp).2.2.2.2.1
    rw [srch, if_neg (bit_ne0 hb)]
    refine srF_same (fun q hq hok => ?_) 8 0 (by omega)
    obtain ⟨q1, q2, q3, q4⟩ := okN_iff.mp hok
    have hne : ¬ q = p := fun e => q2 (by rw [e]; exact h0)
    refine srch_p3 ho f _ _ _ _ _ _ _ p hp (rmv_in (by omega) (by omega) hb hne) ?_ (fun h9 => ?_)
    · unfold rhoK
      rw [if_neg]
      · exact h0
      · intro x
        have h9 : D 6 p ≠ 9 := by omega
        have := hg h9
        rw [x.2, q1] at this
        cases this
    · cases e : bit (rmv L q) (D 6 p)
      · rfl
      · have := (rmv_of (by omega) (by omega) e).1
        rw [hg h9] at this
        cases this
end SRCH
