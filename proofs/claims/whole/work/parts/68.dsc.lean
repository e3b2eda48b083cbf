/-! who stands on p -/
def dsc (D : LD) (p : Nat) : Nat → Nat → Bool
  | 0, q => decide (q = p)
  | f + 1, q => decide (q = p) || (decide (p < q ∧ D 6 q ≠ 9) && dsc D p f (D 6 q))
def ds (D : LD) (p q : Nat) : Bool := dsc D p q q
section DSC
variable {D : LD} {r : RD} {p : Nat}
theorem dsc_s (f q : Nat) : dsc D p (f + 1) q = (decide (q = p) || (decide (p < q ∧ D 6 q ≠ 9) && dsc D p f (D 6 q))) := rfl
theorem dsc_fuel (ho : LandOk D) : ∀ (f q : Nat), q < nP D → q ≤ f → dsc D p (f + 1) q = dsc D p f q
  | 0, q, hq, hf => by
    have e : q = 0 := by omega
    subst e
    rw [dsc_s, decide_eq_false (p := p < 0 ∧ D 6 0 ≠ 9) (by omega), Bool.false_and, Bool.or_false]
    rfl
  | f + 1, q, hq, hf => by
    have hg := (ho.pr hq).2.2.2.2.1
    have h7 := ho.p7
    rw [dsc_s (f + 1) q, dsc_s f q]
    by_cases h9 : D 6 q = 9
    · rw [decide_eq_false (p := p < q ∧ D 6 q ≠ 9) (fun e => e.2 h9), Bool.false_and, Bool.false_and]
    · rw [dsc_fuel ho f (D 6 q) (by omega) (by omega)]
theorem dsc_le (ho : LandOk D) {q : Nat} (hq : q < nP D) : ∀ c, dsc D p (q + c) q = ds D p q
  | 0 => rfl
  | c + 1 => by
    rw [show q + (c + 1) = (q + c) + 1 from rfl, dsc_fuel ho (q + c) q hq (by omega)]
    exact dsc_le ho hq c
theorem ds_eq (ho : LandOk D) {q : Nat} (hq : q < nP D) : ds D p q = (decide (q = p) || (decide (p < q ∧ D 6 q ≠ 9) && ds D p (D 6 q))) := by
  have hg := (ho.pr hq).2.2.2.2.1
  have h7 := ho.p7
  rw [← dsc_le ho hq 1, dsc_s]
  by_cases h9 : D 6 q = 9
  · rw [decide_eq_false (p := p < q ∧ D 6 q ≠ 9) (fun e => e.2 h9), Bool.false_and, Bool.false_and]
  · have e : dsc D p q (D 6 q) = ds D p (D 6 q) := by
      have e2 := dsc_le (p := p) ho (q := D 6 q) (by omega) (q - D 6 q)
      rw [show D 6 q + (q - D 6 q) = q by omega] at e2
      exact e2
    show (_ || (_ && dsc D p q (D 6 q))) = _
    rw [e]
theorem ds_self (ho : LandOk D) (hp : p < nP D) : ds D p p = true := by
  rw [ds_eq ho hp, decide_eq_true rfl, Bool.true_or]
theorem ds_lt (ho : LandOk D) {q : Nat} (hq : q < nP D) (h : q < p) : ds D p q = false := by
  rw [ds_eq ho hq, decide_eq_false (by omega), decide_eq_false (by omega)]
  rfl
/-- those who stand on an open one are open or down -/
theorem dsc_how (ho : LandOk D) (ri : RowIn D r) (hG : RowG D r) (h0 : r 1 p = 0) : ∀ (f q : Nat), q < nP D → dsc D p f q = true → r 1 q = 0 ∨ r 1 q = 3
  | 0, q, hq, h => by
    rw [dsc, decide_eq_true_eq] at h
    rw [h]
    exact Or.inl h0
  | f + 1, q, hq, h => by
    have hg := (ho.pr hq).2.2.2.2.1
    have h7 := ho.p7
    have hr := (ri.2.1 q hq).1
    rw [dsc_s, Bool.or_eq_true, decide_eq_true_eq, Bool.and_eq_true, decide_eq_true_eq] at h
    rcases h with h | ⟨⟨h1, h9⟩, h2⟩
    · rw [h]
      exact Or.inl h0
    · have ih := dsc_how ho ri hG h0 f (D 6 q) (by omega) h2
      have hq2 := (hG q hq h9).2
      by_cases c1 : r 1 q = 0
      · exact Or.inl c1
      · by_cases c3 : r 1 q = 3
        · exact Or.inr c3
        · have := hq2 (by omega)
          omega
/-- the older of an open one: stands on p, then it is open -/
theorem ds_open (ho : LandOk D) (ri : RowIn D r) (hG : RowG D r) (h0 : r 1 p = 0) {q : Nat} (hq : q < nP D) (h9 : D 6 q ≠ 9) (hq0 : r 1 q = 0) (h : ds D p (D 6 q) = true) : r 1 (D 6 q) = 0 := by
  have hg := (ho.pr hq).2.2.2.2.1
  have h1 := dsc_how ho ri hG h0 (D 6 q) (D 6 q) (by omega) h
  have h2 := (hG q hq h9).1 hq0
  omega
/-- the state of days when p is lost with `h`, `v` falling; those who stand on it come down -/
def lsR (D : LD) (r : RD) (p h v : Nat) : RD := fun x y =>
  if x = 1 then (if y = p then h else if r 1 y = 0 ∧ ds D p y = true then 3 else r 1 y)
  else if x = 2 then (if y = p then r 0 0 + 1 else if r 1 y = 0 ∧ ds D p y = true then r 0 0 + 1 else r 2 y)
  else if x = 6 ∧ y = D 1 (r 3 p) then r 6 y + v else r x y
end DSC
