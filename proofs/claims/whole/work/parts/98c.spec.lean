/-! what a text tells: clause by clause -/
theorem rset_get (r : RD) (a b v y : Nat) : rset r a b v a y = if y = b then v else r a y := by
  by_cases e : y = b
  · rw [if_pos e, e, rset_eq]
  · rw [if_neg e, rset_np e]
abbrev PR (α : Type) : Type := (Nat × Nat) ⊕ α
def pbind {α β : Type} (x : PR α) (f : α → PR β) : PR β := match x with
  | .inl e => .inl e
  | .inr a => f a
theorem pb_l {α β : Type} (e : Nat × Nat) (f : α → PR β) : pbind (.inl e) f = .inl e := rfl
theorem pb_r {α β : Type} (a : α) (f : α → PR β) : pbind (.inr a) f = f a := rfl
def pend (n : Nat) (l : Nat → Nat) (p : Nat) : PR Nat := if skP n l p < n ∧ l (skP n l p) = 59 then .inr (skP n l p + 1) else .inl (1, skP n l p)
def townD (D : LD) (v : Nat) : LD := rset D 0 0 v
def roadV (D : LD) (a b d : Nat) : Nat := if D 7 (5 * a + b) = 1000 ∨ d < D 7 (5 * a + b) then d else D 7 (5 * a + b)
def roadD (D : LD) (a b d : Nat) : LD := rset (rset (rset D 7 (5 * a + b) (roadV D a b d)) 7 (5 * b + a) (roadV D a b d)) 0 1 (D 0 1 + 1)
def keepD (D : LD) (t f : Nat) : LD := rset (rset (rset D 9 (nK D) t) 1 (nK D) f) 0 2 (nK D + 1)
def promD (D : LD) (k t a s z g : Nat) : LD := rset (rset (rset (rset (rset (rset (rset D 10 (nP D) k) 2 (nP D) t) 3 (nP D) a) 4 (nP D) s) 5 (nP D) z) 6 (nP D) g) 0 3 (nP D + 1)
def wintD (D : LD) (f l n : Nat) : LD := rset (rset (rset D 8 0 f) 8 1 l) 8 2 n
abbrev CR : Type := PR (LD × Nat)
def clT (n : Nat) (l : Nat → Nat) (D : LD) (p : Nat) : CR := pbind (pnum n l (p + 1) 1 6) fun a => .inr (townD D a.1, a.2.2)
def clR (n : Nat) (l : Nat → Nat) (D : LD) (p : Nat) : CR := pbind (pnum n l (p + 1) 0 (nT D)) fun a => pbind (pnum n l a.2.2 0 (nT D)) fun b => if a.1 = b.1 then .inl (4, b.2.1) else pbind (pnum n l b.2.2 1 10) fun d => .inr (roadD D a.1 b.1 d.1, d.2.2)
def clK (n : Nat) (l : Nat → Nat) (D : LD) (p : Nat) : CR := pbind (pnum n l (p + 1) 0 (nT D)) fun a => pbind (pnum n l a.2.2 0 3) fun b => .inr (keepD D a.1 b.1, b.2.2)
def clP (n : Nat) (l : Nat → Nat) (D : LD) (p : Nat) : CR := pbind (pnum n l (p + 1) 0 (nK D)) fun a => pbind (pnum n l a.2.2 0 (nT D)) fun b => pbind (pnum n l b.2.2 1 61) fun c => pbind (pnum n l c.2.2 0 10) fun d => pbind (pnum n l d.2.2 1 10) fun e => pbind (pnum n l e.2.2 0 10) fun g =>
  if g.1 ≠ 9 ∧ nP D ≤ g.1 then .inl (2, g.2.1) else .inr (promD D a.1 b.1 c.1 d.1 e.1 g.1, g.2.2)
def clW (n : Nat) (l : Nat → Nat) (D : LD) (p : Nat) : CR := pbind (pnum n l (p + 1) 0 99) fun a => pbind (pnum n l a.2.2 0 99) fun b => pbind (pnum n l b.2.2 2 100) fun c => if c.1 ≤ b.1 then .inl (4, c.2.1) else .inr (wintD D a.1 b.1 c.1, c.2.2)
def cl0 (n : Nat) (l : Nat → Nat) (D : LD) (p : Nat) : CR :=
  if nT D = 0 ∧ l p ≠ 116 then .inl (1, p)
  else if l p = 107 then (if 3 ≤ nK D then .inl (3, p) else clK n l D p)
  else if l p = 112 then (if 7 ≤ nP D then .inl (3, p) else clP n l D p)
  else if l p = 114 then (if 8 ≤ D 0 1 then .inl (3, p) else clR n l D p)
  else if l p = 116 then (if 1 ≤ nT D then .inl (3, p) else clT n l D p)
  else if l p = 119 then (if 1 ≤ D 8 2 then .inl (3, p) else clW n l D p)
  else .inl (1, p)
def clE (n : Nat) (l : Nat → Nat) (x : CR) : CR := pbind x fun y => pbind (pend n l y.2) fun q => .inr (y.1, q)
/-- a land as it is being told -/
def RawOk (D : LD) : Prop :=
  (nT D ≤ 5 ∧ D 0 1 ≤ 8 ∧ nK D ≤ 3 ∧ nP D ≤ 7) ∧ (nT D = 0 → nK D = 0) ∧ (nK D = 0 → nP D = 0) ∧
  (∀ k, k < nK D → D 1 k < 3 ∧ D 9 k < nT D) ∧
  (∀ p, p < nP D → D 2 p < nT D ∧ (1 ≤ D 3 p ∧ D 3 p ≤ 60) ∧ D 4 p ≤ 9 ∧ (1 ≤ D 5 p ∧ D 5 p ≤ 9) ∧ (D 6 p = 9 ∨ D 6 p < p) ∧ D 10 p < nK D) ∧
  (∀ a b, a < 5 → b < 5 → (D 7 (5 * a + b) ≤ 9 ∨ D 7 (5 * a + b) = 1000) ∧ D 7 (5 * a + b) = D 7 (5 * b + a)) ∧ (∀ a, a < 5 → D 7 (5 * a + a) = 0) ∧
  (D 8 2 = 0 ∧ D 8 0 = 0 ∧ D 8 1 = 0 ∨ 2 ≤ D 8 2 ∧ D 8 2 ≤ 99 ∧ D 8 1 < D 8 2 ∧ D 8 0 ≤ 98)
def rawD : LD := fun a i => if a = 7 then (if i / 5 = i % 5 then 0 else 1000) else 0
section SPEC
variable {n : Nat} {l : Nat → Nat} {D : LD}
theorem rawD_ok : RawOk rawD := by
  refine ⟨⟨by decide, by decide, by decide, by decide⟩, fun _ => rfl, fun _ => rfl, fun k hk => absurd hk (Nat.not_lt_zero _), fun k hk => absurd hk (Nat.not_lt_zero _), fun a b ha hb => ?_, fun a ha => ?_, Or.inl ⟨rfl, rfl, rfl⟩⟩
  · have h1 : ∀ a b : Fin 5, (rawD 7 (5 * a.val + b.val) ≤ 9 ∨ rawD 7 (5 * a.val + b.val) = 1000) ∧ rawD 7 (5 * a.val + b.val) = rawD 7 (5 * b.val + a.val) := by decide
    exact h1 ⟨a, ha⟩ ⟨b, hb⟩
  · have h1 : ∀ a : Fin 5, rawD 7 (5 * a.val + a.val) = 0 := by decide
    exact h1 ⟨a, ha⟩
theorem townD_ok (h : RawOk D) (h0 : nT D = 0) {v : Nat} (hv : v ≤ 5) : RawOk (townD D v) := by
  have hk := h.2.1 h0
  have hp := h.2.2.1 hk
  obtain ⟨⟨a1, a2, a3, a4⟩, b1, b2, b3, b4, b5, b6, b7⟩ := h
  have e0 : nT (townD D v) = v := rset_eq D 0 0 v
  have e2 : nK (townD D v) = nK D := rfl
  have e3 : nP (townD D v) = nP D := rfl
  refine ⟨⟨by rw [e0]; exact hv, a2, a3, a4⟩, fun _ => hk, b2, fun k hk2 => ?_, fun p hp2 => ?_, b5, b6, b7⟩
  · rw [e2, hk] at hk2
    exact absurd hk2 (Nat.not_lt_zero _)
  · rw [e3, hp] at hp2
    exact absurd hp2 (Nat.not_lt_zero _)
theorem keepD_ok (h : RawOk D) (h3 : nK D < 3) {t f : Nat} (ht : t < nT D) (hf : f < 3) : RawOk (keepD D t f) := by
  obtain ⟨⟨a1, a2, a3, a4⟩, b1, b2, b3, b4, b5, b6, b7⟩ := h
  have e0 : nT (keepD D t f) = nT D := rfl
  have e2 : nK (keepD D t f) = nK D + 1 := rset_eq (rset (rset D 9 (nK D) t) 1 (nK D) f) 0 2 (nK D + 1)
  have e3 : nP (keepD D t f) = nP D := rfl
  refine ⟨⟨a1, a2, by omega, a4⟩, fun e => ?_, fun e => ?_, fun k hk => ?_, fun p hp => ?_, b5, b6, b7⟩
  · rw [e0] at e
    omega
  · rw [e2] at e
    omega
  · have f1 : keepD D t f 1 k = if k = nK D then f else D 1 k := by
      unfold keepD
      rw [rset_ne (by decide)]
      by_cases e : k = nK D
      · rw [if_pos e, e, rset_eq]
      · rw [if_neg e, rset_np e, rset_ne (by decide)]
    have f9 : keepD D t f 9 k = if k = nK D then t else D 9 k := by
      unfold keepD
      rw [rset_ne (by decide), rset_ne (by decide)]
      by_cases e : k = nK D
      · rw [if_pos e, e, rset_eq]
      · rw [if_neg e, rset_np e]
    rw [f1, f9, e0]
    rw [e2] at hk
    by_cases e : k = nK D
    · rw [if_pos e, if_pos e]
      exact ⟨hf, ht⟩
    · rw [if_neg e, if_neg e]
      exact b3 k (by omega)
  · have := b4 p hp
    rw [e0, e2]
    refine ⟨this.1, this.2.1, this.2.2.1, this.2.2.2.1, this.2.2.2.2.1, ?_⟩
    have h10 : keepD D t f 10 p = D 10 p := rfl
    rw [h10]
    omega
theorem promD_at {k t a s z g : Nat} (x i : Nat) : promD D k t a s z g x i = if x = 0 ∧ i = 3 then nP D + 1 else if x = 6 ∧ i = nP D then g else if x = 5 ∧ i = nP D then z else if x = 4 ∧ i = nP D then s else if x = 3 ∧ i = nP D then a else if x = 2 ∧ i = nP D then t else if x = 10 ∧ i = nP D then k else D x i := rfl
theorem promD_ok (h : RawOk D) (h7 : nP D < 7) {k t a s z g : Nat} (hk : k < nK D) (ht : t < nT D) (ha : 1 ≤ a ∧ a ≤ 60) (hs : s ≤ 9) (hz : 1 ≤ z ∧ z ≤ 9) (hg : g = 9 ∨ g < nP D) : RawOk (promD D k t a s z g) := by
  obtain ⟨⟨a1, a2, a3, a4⟩, b1, b2, b3, b4, b5, b6, b7⟩ := h
  have e0 : nT (promD D k t a s z g) = nT D := rfl
  have e2 : nK (promD D k t a s z g) = nK D := rfl
  have e3 : nP (promD D k t a s z g) = nP D + 1 := by
    unfold nP
    rw [promD_at, if_pos ⟨rfl, rfl⟩]
    rfl
  have e7 : ∀ i, promD D k t a s z g 7 i = D 7 i := fun i => by
    rw [promD_at]
    simp
  have e8 : ∀ i, promD D k t a s z g 8 i = D 8 i := fun i => by
    rw [promD_at]
    simp
  have e1 : ∀ i, promD D k t a s z g 1 i = D 1 i := fun i => by
    rw [promD_at]
    simp
  have e9 : ∀ i, promD D k t a s z g 9 i = D 9 i := fun i => by
    rw [promD_at]
    simp
  refine ⟨⟨a1, a2, a3, by omega⟩, b1, fun e => ?_, fun q hq => ?_, fun q hq => ?_, fun x y hx hy => ?_, fun x hx => ?_, ?_⟩
  · rw [e2] at e
    omega
  · rw [e1, e9, e0]
    exact b3 q hq
  · rw [e3] at hq
    rw [e0, e2, promD_at, promD_at, promD_at, promD_at, promD_at, promD_at]
    by_cases e : q = nP D
    · subst e
      simp
      omega
    · simp [e]
      have := b4 q (by omega)
      omega
  · rw [e7, e7]
    exact b5 x y hx hy
  · rw [e7]
    exact b6 x hx
  · rw [e8, e8, e8]
    exact b7
theorem wintD_ok (h : RawOk D) {f m r : Nat} (hf : f ≤ 98) (hr : 2 ≤ r ∧ r ≤ 99) (hm : m < r) : RawOk (wintD D f m r) := by
  obtain ⟨a1, b1, b2, b3, b4, b5, b6, b7⟩ := h
  refine ⟨a1, b1, b2, b3, b4, b5, b6, Or.inr ?_⟩
  have e0 : wintD D f m r 8 0 = f := rfl
  have e1 : wintD D f m r 8 1 = m := rfl
  have e2 : wintD D f m r 8 2 = r := rfl
  rw [e0, e1, e2]
  omega
theorem roadD_at {a b d : Nat} (x i : Nat) : roadD D a b d x i = if x = 0 ∧ i = 1 then D 0 1 + 1 else if x = 7 ∧ i = 5 * b + a then roadV D a b d else if x = 7 ∧ i = 5 * a + b then roadV D a b d else D x i := rfl
theorem roadD_ok (h : RawOk D) (h8 : D 0 1 < 8) {a b d : Nat} (ha : a < nT D) (hb : b < nT D) (hab : ¬ a = b) (hd : 1 ≤ d ∧ d ≤ 9) : RawOk (roadD D a b d) := by
  obtain ⟨⟨a1, a2, a3, a4⟩, b1, b2, b3, b4, b5, b6, b7⟩ := h
  have hv : roadV D a b d ≤ 9 := by
    unfold roadV
    have := (b5 a b (by omega) (by omega)).1
    split <;> omega
  have e1 : roadD D a b d 0 1 = D 0 1 + 1 := by
    rw [roadD_at, if_pos ⟨rfl, rfl⟩]
  have e7 : ∀ x y, x < 5 → y < 5 → roadD D a b d 7 (5 * x + y) = if (x = b ∧ y = a) ∨ (x = a ∧ y = b) then roadV D a b d else D 7 (5 * x + y) := by
    intro x y hx hy
    rw [roadD_at, if_neg (by omega)]
    by_cases c1 : x = b ∧ y = a
    · rw [if_pos (by omega), if_pos (Or.inl c1)]
    · rw [if_neg (by omega)]
      by_cases c2 : x = a ∧ y = b
      · rw [if_pos (by omega), if_pos (Or.inr c2)]
      · rw [if_neg (by omega), if_neg (by omega)]
  refine ⟨⟨a1, by omega, a3, a4⟩, b1, b2, b3, b4, fun x y hx hy => ?_, fun x hx => ?_, b7⟩
  · have hs := b5 x y hx hy
    rw [e7 x y hx hy, e7 y x hy hx]
    by_cases c : (x = b ∧ y = a) ∨ (x = a ∧ y = b)
    · rw [if_pos c, if_pos (by omega)]
      exact ⟨Or.inl hv, rfl⟩
    · rw [if_neg c, if_neg (by omega)]
      exact hs
  · rw [e7 x x hx hx, if_neg (by omega)]
    exact b6 x hx
end SPEC
