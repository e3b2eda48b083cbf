/-! ways joined: the shortest of all -/
def cmb (d : Nat → Nat) (m i : Nat) : Nat := if (d (5 * (i / 5) + m) ≠ 1000 ∧ d (5 * m + i % 5) ≠ 1000) ∧ (d i = 1000 ∨ d (5 * (i / 5) + m) + d (5 * m + i % 5) < d i) then d (5 * (i / 5) + m) + d (5 * m + i % 5) else d i
def fwM : Nat → Nat → (Nat → Nat) → Nat → Nat
  | 0, _, d => d
  | c + 1, m, d => fwM c (m + 1) (cmb d m)
def fwD (D : LD) : LD := fun x i => if x = 7 then fwM 5 0 (D 7) i else D x i
/-- what holds after so many rounds -/
def FwP (X m : Nat) (d : Nat → Nat) : Prop := (∀ i, i < 25 → d i ≤ X ∨ d i = 1000) ∧ (∀ a, a < 5 → d (5 * a + a) = 0) ∧ ∀ a b c, a < 5 → b < 5 → c < 5 → b < m → d (5 * a + b) ≠ 1000 → d (5 * b + c) ≠ 1000 → d (5 * a + c) ≤ d (5 * a + b) + d (5 * b + c)
section FW
variable {X m : Nat} {d : Nat → Nat}
theorem cmb_at {a b : Nat} (hb : b < 5) : cmb d m (5 * a + b) = if (d (5 * a + m) ≠ 1000 ∧ d (5 * m + b) ≠ 1000) ∧ (d (5 * a + b) = 1000 ∨ d (5 * a + m) + d (5 * m + b) < d (5 * a + b)) then d (5 * a + m) + d (5 * m + b) else d (5 * a + b) := by
  unfold cmb
  rw [show (5 * a + b) / 5 = a by omega, show (5 * a + b) % 5 = b by omega]
theorem cmb_col (h : FwP X m d) (hm : m < 5) {a : Nat} : cmb d m (5 * a + m) = d (5 * a + m) := by
  have hd := h.2.1 m hm
  rw [cmb_at hm]
  by_cases c : (d (5 * a + m) ≠ 1000 ∧ d (5 * m + m) ≠ 1000) ∧ (d (5 * a + m) = 1000 ∨ d (5 * a + m) + d (5 * m + m) < d (5 * a + m))
  · omega
  · rw [if_neg c]
theorem cmb_row (h : FwP X m d) (hm : m < 5) {b : Nat} (hb : b < 5) : cmb d m (5 * m + b) = d (5 * m + b) := by
  have hd := h.2.1 m hm
  rw [cmb_at hb]
  by_cases c : (d (5 * m + m) ≠ 1000 ∧ d (5 * m + b) ≠ 1000) ∧ (d (5 * m + b) = 1000 ∨ d (5 * m + m) + d (5 * m + b) < d (5 * m + b))
  · omega
  · rw [if_neg c]
theorem FwP_step (h : FwP X m d) (hm : m < 5) (hX : X ≤ 200) : FwP (2 * X) (m + 1) (cmb d m) := by
  have h1 := h.1
  have h2 := h.2.1
  have h3 := h.2.2
  refine ⟨fun i hi => ?_, fun a ha => ?_, fun a b c ha hb hc hbm => ?_⟩
  · have e : i = 5 * (i / 5) + i % 5 := by omega
    have u1 := h1 (5 * (i / 5) + m) (by omega)
    have u2 := h1 (5 * m + i % 5) (by omega)
    have u3 := h1 i hi
    unfold cmb
    split <;> omega
  · have u1 := h2 a ha
    rw [cmb_at ha]
    split <;> omega
  · have i1 := h1 (5 * a + b) (by omega)
    have i2 := h1 (5 * a + m) (by omega)
    have i3 := h1 (5 * m + b) (by omega)
    have i4 := h1 (5 * b + c) (by omega)
    have i5 := h1 (5 * b + m) (by omega)
    have i6 := h1 (5 * m + c) (by omega)
    have i7 := h1 (5 * a + c) (by omega)
    rw [cmb_at hb, cmb_at hc, cmb_at hc]
    by_cases e : b = m
    · subst e
      have u := h2 b hb
      split <;> split <;> split <;> omega
    · have t1 := h3 a b c ha hb hc (by omega)
      have t2 := h3 m b c hm hb hc (by omega)
      have t3 := h3 a b m ha hb hm (by omega)
      by_cases n1 : d (5 * a + b) = 1000
      · split <;> split <;> split <;> omega
      · by_cases n2 : d (5 * b + c) = 1000
        · split <;> split <;> split <;> omega
        · have t1' := t1 n1 n2
          split <;> split <;> split <;> omega
theorem fw_all (h : FwP 9 0 d) : FwP 288 5 (fwM 5 0 d) := by
  have a1 := FwP_step h (by omega) (by omega)
  have a2 := FwP_step a1 (by omega) (by omega)
  have a3 := FwP_step a2 (by omega) (by omega)
  have a4 := FwP_step a3 (by omega) (by omega)
  exact FwP_step a4 (by omega) (by omega)
theorem raw_fw {D : LD} (h : RawOk D) : FwP 9 0 (D 7) := by
  obtain ⟨a1, b1, b2, b3, b4, b5, b6, b7⟩ := h
  refine ⟨fun i hi => ?_, b6, fun a b c _ _ _ hb => absurd hb (Nat.not_lt_zero _)⟩
  have := (b5 (i / 5) (i % 5) (by omega) (by omega)).1
  rw [show 5 * (i / 5) + i % 5 = i by omega] at this
  exact this
theorem fwD_ok {D : LD} (h : RawOk D) : LandOk (fwD D) := by
  have hf := fw_all (raw_fw h)
  obtain ⟨a1, b1, b2, b3, b4, b5, b6, b7⟩ := h
  exact ⟨a1, b1, b2, b3, b4, hf.1, hf.2.1, fun a b c ha hb hc => hf.2.2 a b c ha hb hc hb, b7⟩
end FW
