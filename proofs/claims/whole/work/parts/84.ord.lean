/-! the reference's search is that function too -/
def UB : Nat → Nat
  | 0 => 0
  | f + 1 => 8 * (2 + UB f) + 1
def stopB (any : Bool) (b : BS) : Prop := any = true ∧ b.isSome = true
/-- back from a level: to the one before it, or to the end -/
def PopV (N n : Nat) (kI anyI : Int32) (m : Nat) (pre : Nat → Nat) (L : Int32) (w : St) : Option (Int32 × St) :=
  if m = 0 then some (w 79 37, w) else l_X10_findOrder_63 N (n + 1) kI anyI (nI (m - 1)) (nI (pre (m - 1) + 1)) (L ||| 1 <<< (nI (pre (m - 1)) &&& 31)) w
section ORD
variable {D : LD} {r : RD} {t s A : Nat} {any : Bool} {N Z k : Nat} {L0 : Int32}
theorem BestB_of {b : BS} {σ w : St} (h : BestB Z b σ) (h79 : ∀ i, w 79 i = σ 79 i) (h98 : w 98 = σ 98) : BestB Z b w := by
  unfold BestB at h ⊢
  rw [h79, h79, h98]
  exact h
theorem b_head {b : BS} {σ : St} (hb : BestB Z b σ) (hZ : 1 ≤ Z ∧ Z ≤ 8) (n : Nat) {m : Nat} (hm : m ≤ 8) (x y : Int32) (kI : Int32) :
    (stopB any b → l_X10_findOrder_63 N (n + 1) kI (b01 any) (nI m) x y σ = some (σ 79 37, σ)) ∧ (¬ stopB any b → l_X10_findOrder_63 N (n + 1) kI (b01 any) (nI m) x y σ = j_X10_findOrder_88 N (l_X10_findOrder_63 N n) kI (b01 any) (nI m) x y σ) := by
  obtain ⟨hz, hb⟩ := hb
  have h0 : ¬ nI Z ≤ 0 := fun e => absurd ((nI_le_iff (a := Z) (b := 0) (by omega) (by omega)).mp e) (by omega)
  rw [l_X10_findOrder_63, if_neg (nI_pos (by omega)), hz, if_neg h0]
  unfold stopB j_X10_findOrder_292
  cases any
  · have e : b01 false = 0 := rfl
    rw [if_pos e]
    exact ⟨fun x => absurd x.1 (by decide), fun _ => rfl⟩
  · have e : ¬ b01 true = 0 := one_ne
    rw [if_neg e]
    cases b with
    | none =>
      dsimp only at hb
      rw [hb, if_neg (by decide)]
      exact ⟨fun x => absurd x.2 (by decide), fun _ => rfl⟩
    | some x =>
      dsimp only at hb
      have hlt : σ 79 37 < 99999999 := by
        rw [hb.1]
        exact (nI_lt_iff (a := x.1) (b := 99999999) (by omega) (by omega)).mpr (by omega)
      rw [if_pos hlt]
      exact ⟨fun _ => rfl, fun y => absurd ⟨rfl, rfl⟩ y⟩
theorem b_look_loop (hZ : Z ≤ 8) : ∀ (c n i : Nat) (σ : St), σ 79 38 = nI Z → i + c = Z → c < n →
    ∃ w, l_X10_look_35 N n (nI i) σ = some ((), w) ∧ (∀ j, w 98 j = if i ≤ j ∧ j < Z then σ 95 j else σ 98 j) ∧ ∀ a, ¬ a = 98 → w a = σ a := by
  intro c
  induction c with
  | zero =>
    intro n i σ hz hi hn
    obtain ⟨n, rfl⟩ : ∃ k, n = k + 1 := ⟨n - 1, by omega⟩
    refine ⟨σ, ?_, fun j => by rw [if_neg (by omega)], fun _ _ => rfl⟩
    rw [l_X10_look_35, hz, if_pos (nI_le (by omega) (by omega))]
  | succ c ih =>
    intro n i σ hz hi hn
    obtain ⟨n, rfl⟩ : ∃ k, n = k + 1 := ⟨n - 1, by omega⟩
    have es : nI (i + 1) = nI i + 1 := by rw [nI_succ]
    obtain ⟨w, e1, e2, e3⟩ := ih n (i + 1) (st σ 98 i (σ 95 i)) (by rw [st_cell (by decide)]; exact hz) (by omega) (by omega)
    refine ⟨w, ?_, fun j => ?_, fun a ha => (e3 a ha).trans (st_cell ha)⟩
    · rw [l_X10_look_35, hz, if_neg (nI_ge (by omega) (by omega)), b_cka (x := i) (n := 9) _ (by omega) (by decide), b_cka (x := i) (n := 9) _ (by omega) (by decide), nI_clamp (n := i) (by omega)]
      unfold bt
      rw [← es]
      exact e1
    · rw [e2, st_cell (by decide), st_get]
      by_cases c1 : i + 1 ≤ j ∧ j < Z
      · rw [if_pos c1, if_pos ⟨by omega, c1.2⟩]
      · rw [if_neg c1]
        by_cases c2 : j = i
        · rw [if_pos c2, if_pos ⟨by omega, by omega⟩, c2]
        · rw [if_neg c2, if_neg (by omega)]
theorem b_look {b : BS} {σ : St} (hb : BestB Z b σ) (hZ : 1 ≤ Z ∧ Z ≤ 8) (hs : ¬ stopB any b) {x : Nat} {l : Nat → Nat} (hx : x < 2 ^ 20) (h97 : σ 97 (Z - 1) = nI x) (h95 : ∀ i, i < Z → σ 95 i = nI (l i)) (hN : 7000 ≤ N) :
    ∃ w, o_X10_look N σ = some ((), w) ∧ BestB Z (upd9 any b x l) w ∧ (∀ c, ¬ (c = 79 ∨ c = 98) → w c = σ c) ∧ ∀ i, ¬ i = 37 → w 79 i = σ 79 i := by
  obtain ⟨hz, hb⟩ := hb
  have e1 : nI Z - 1 = nI (Z - 1) := nI_sub (b := 1) hZ.1
  have take : ∃ w, (ckA (nI (Z - 1)) 9 (bt (st σ 79 37 (σ 97 (nI (Z - 1)).toNatClampNeg)) fun σ4 => l_X10_look_35 N N 0 σ4)) = some ((), w) ∧ BestB Z (some (x, l)) w ∧ (∀ c, ¬ (c = 79 ∨ c = 98) → w c = σ c) ∧ ∀ i, ¬ i = 37 → w 79 i = σ 79 i := by
    obtain ⟨w, q1, q2, q3⟩ := b_look_loop (N := N) hZ.2 Z N 0 (st σ 79 37 (nI x)) (by rw [st_place (by decide)]; exact hz) (by omega) (by omega)
    refine ⟨w, ?_, ⟨?_, ?_, hx, fun i hi => ?_⟩, fun c hc => ?_, fun i hi => ?_⟩
    · rw [b_cka (x := Z - 1) (n := 9) _ (by omega) (by decide), nI_clamp (n := Z - 1) (by omega), h97]
      exact q1
    · rw [q3 79 (by decide), st_place (by decide)]
      exact hz
    · rw [q3 79 (by decide), st_same]
    · rw [q2, if_pos ⟨by omega, hi⟩, st_cell (by decide)]
      exact h95 i hi
    · rw [q3 c (by omega), st_cell (by omega)]
    · rw [q3 79 (by decide), st_place hi]
  unfold o_X10_look
  rw [hz, e1, b_cka (x := Z - 1) (n := 9) _ (by omega) (by decide)]
  have e97 : σ 97 (nI (Z - 1)).toNatClampNeg = nI x := by
    rw [nI_clamp (by omega)]
    exact h97
  rw [e97]
  rw [e97] at take
  cases b with
  | none =>
    dsimp only at hb
    have hgt : ¬ (99999999 : Int32) ≤ nI x := fun e => absurd ((nI_le_iff (a := 99999999) (b := x) (by omega) (by omega)).mp e) (by omega)
    rw [hb, if_neg hgt]
    exact take
  | some y =>
    dsimp only at hb
    unfold upd9
    dsimp only
    have ha : ¬ any = true := fun e => hs ⟨e, rfl⟩
    rw [hb.1, if_neg ha]
    by_cases c : x < y.1
    · rw [if_neg (by rw [nI_le_iff (by omega) (by omega)]; omega), if_pos c]
      exact take
    · rw [if_pos (nI_le (by omega) (by omega)), if_neg c]
      exact ⟨σ, rfl, ⟨hz, hb⟩, fun _ _ => rfl, fun _ _ => rfl⟩
end ORD
