/-! a state of days with one number changed -/
def rset (r : RD) (a b v : Nat) : RD := fun x y => if x = a ∧ y = b then v else r x y
theorem rset_eq (r : RD) (a b v : Nat) : rset r a b v a b = v := if_pos ⟨rfl, rfl⟩
theorem rset_ne {r : RD} {a b v x y : Nat} (h : ¬ x = a) : rset r a b v x y = r x y := if_neg fun e => h e.1
theorem rset_np {r : RD} {a b v x y : Nat} (h : ¬ y = b) : rset r a b v x y = r x y := if_neg fun e => h e.2
theorem gvn_set {D : LD} {r : RD} {a b v p : Nat} (h1 : ¬ 1 = a) (h2 : ¬ 2 = a) : gvn D (rset r a b v) p = gvn D r p := by
  unfold gvn
  rw [rset_ne h1, rset_ne h2]
section ROWUP
variable {D : LD} {r : RD}
theorem rowA_0 (ho : LandOk D) {c c' : Nat → Int32} {v : Nat} (hr : RowA D r c) (hc : ∀ i, c' i = if i = 0 then nI v else c i) : RowA D (rset r 0 0 v) c' := by
  have h7 := ho.p7
  have h3 := ho.k3
  refine ⟨?_, fun q hq => ⟨?_, ?_, ?_⟩, fun k hk => ⟨?_, ?_⟩, fun f hf => ?_⟩
  · rw [hc, if_pos rfl, rset_eq]
  · rw [hc, if_neg (by omega), rset_ne (by decide)]
    exact (hr.2.1 q hq).1
  · rw [hc, if_neg (by omega), rset_ne (by decide)]
    exact (hr.2.1 q hq).2.1
  · rw [hc, if_neg (by omega), rset_ne (by decide)]
    exact (hr.2.1 q hq).2.2
  · rw [hc, if_neg (by omega), rset_ne (by decide)]
    exact (hr.2.2.1 k hk).1
  · rw [hc, if_neg (by omega), rset_ne (by decide)]
    exact (hr.2.2.1 k hk).2
  · rw [hc, if_neg (by omega), rset_ne (by decide)]
    exact hr.2.2.2 f hf
theorem rowB_0 (ho : LandOk D) {x : Nat} {c c' : Nat → Int32} {v : Nat} (hr : RowB D r c x) (hc : ∀ i, c' i = if i = x + 37 then nI v else c i) : RowB D (rset r 0 0 v) c' x := by
  have h7 := ho.p7
  have h3 := ho.k3
  refine ⟨?_, fun q hq => ⟨?_, ?_, ?_, ?_⟩, fun k hk => ⟨?_, ?_⟩, fun f hf => ?_⟩
  · rw [hc, if_pos rfl, rset_eq]
  · rw [hc, if_neg (by omega), rset_ne (by decide)]
    exact (hr.2.1 q hq).1
  · rw [hc, if_neg (by omega), rset_ne (by decide)]
    exact (hr.2.1 q hq).2.1
  · rw [hc, if_neg (by omega), rset_ne (by decide)]
    exact (hr.2.1 q hq).2.2.1
  · rw [hc, if_neg (by omega), gvn_set (by decide) (by decide)]
    exact (hr.2.1 q hq).2.2.2
  · rw [hc, if_neg (by omega), rset_ne (by decide)]
    exact (hr.2.2.1 k hk).1
  · rw [hc, if_neg (by omega), rset_ne (by decide)]
    exact (hr.2.2.1 k hk).2
  · rw [hc, if_neg (by omega), rset_ne (by decide)]
    exact hr.2.2.2 f hf
theorem rowA_3 (ho : LandOk D) {c c' : Nat → Int32} {b v : Nat} (hb : b < nP D) (hr : RowA D r c) (hc : ∀ i, c' i = if i = 15 + b then nI v else c i) : RowA D (rset r 3 b v) c' := by
  have h7 := ho.p7
  have h3 := ho.k3
  refine ⟨?_, fun q hq => ⟨?_, ?_, ?_⟩, fun k hk => ⟨?_, ?_⟩, fun f hf => ?_⟩
  · rw [hc, if_neg (by omega), rset_ne (by decide)]
    exact hr.1
  · rw [hc, if_neg (by omega), rset_ne (by decide)]
    exact (hr.2.1 q hq).1
  · rw [hc, if_neg (by omega), rset_ne (by decide)]
    exact (hr.2.1 q hq).2.1
  · rw [hc]
    by_cases e : q = b
    · rw [e, if_pos rfl, rset_eq]
    · rw [if_neg (by omega), rset_np e]
      exact (hr.2.1 q hq).2.2
  · rw [hc, if_neg (by omega), rset_ne (by decide)]
    exact (hr.2.2.1 k hk).1
  · rw [hc, if_neg (by omega), rset_ne (by decide)]
    exact (hr.2.2.1 k hk).2
  · rw [hc, if_neg (by omega), rset_ne (by decide)]
    exact hr.2.2.2 f hf
theorem rowB_3 (ho : LandOk D) {x : Nat} {c c' : Nat → Int32} {b v : Nat} (hb : b < nP D) (hr : RowB D r c x) (hc : ∀ i, c' i = if i = x + 14 + b then nI v else c i) : RowB D (rset r 3 b v) c' x := by
  have h7 := ho.p7
  have h3 := ho.k3
  refine ⟨?_, fun q hq => ⟨?_, ?_, ?_, ?_⟩, fun k hk => ⟨?_, ?_⟩, fun f hf => ?_⟩
  · rw [hc, if_neg (by omega), rset_ne (by decide)]
    exact hr.1
  · rw [hc, if_neg (by omega), rset_ne (by decide)]
    exact (hr.2.1 q hq).1
  · rw [hc, if_neg (by omega), rset_ne (by decide)]
    exact (hr.2.1 q hq).2.1
  · rw [hc]
    by_cases e : q = b
    · rw [e, if_pos rfl, rset_eq]
    · rw [if_neg (by omega), rset_np e]
      exact (hr.2.1 q hq).2.2.1
  · rw [hc, if_neg (by omega), gvn_set (by decide) (by decide)]
    exact (hr.2.1 q hq).2.2.2
  · rw [hc, if_neg (by omega), rset_ne (by decide)]
    exact (hr.2.2.1 k hk).1
  · rw [hc, if_neg (by omega), rset_ne (by decide)]
    exact (hr.2.2.1 k hk).2
  · rw [hc, if_neg (by omega), rset_ne (by decide)]
    exact hr.2.2.2 f hf
theorem rowA_4 (ho : LandOk D) {c c' : Nat → Int32} {b v : Nat} (hb : b < nK D) (hr : RowA D r c) (hc : ∀ i, c' i = if i = 22 + b then nI v else c i) : RowA D (rset r 4 b v) c' := by
  have h7 := ho.p7
  have h3 := ho.k3
  refine ⟨?_, fun q hq => ⟨?_, ?_, ?_⟩, fun k hk => ⟨?_, ?_⟩, fun f hf => ?_⟩
  · rw [hc, if_neg (by omega), rset_ne (by decide)]
    exact hr.1
  · rw [hc, if_neg (by omega), rset_ne (by decide)]
    exact (hr.2.1 q hq).1
  · rw [hc, if_neg (by omega), rset_ne (by decide)]
    exact (hr.2.1 q hq).2.1
  · rw [hc, if_neg (by omega), rset_ne (by decide)]
    exact (hr.2.1 q hq).2.2
  · rw [hc]
    by_cases e : k = b
    · rw [e, if_pos rfl, rset_eq]
    · rw [if_neg (by omega), rset_np e]
      exact (hr.2.2.1 k hk).1
  · rw [hc, if_neg (by omega), rset_ne (by decide)]
    exact (hr.2.2.1 k hk).2
  · rw [hc, if_neg (by omega), rset_ne (by decide)]
    exact hr.2.2.2 f hf
theorem rowB_4 (ho : LandOk D) {x : Nat} {c c' : Nat → Int32} {b v : Nat} (hb : b < nK D) (hr : RowB D r c x) (hc : ∀ i, c' i = if i = x + 28 + b then nI v else c i) : RowB D (rset r 4 b v) c' x := by
  have h7 := ho.p7
  have h3 := ho.k3
  refine ⟨?_, fun q hq => ⟨?_, ?_, ?_, ?_⟩, fun k hk => ⟨?_, ?_⟩, fun f hf => ?_⟩
  · rw [hc, if_neg (by omega), rset_ne (by decide)]
    exact hr.1
  · rw [hc, if_neg (by omega), rset_ne (by decide)]
    exact (hr.2.1 q hq).1
  · rw [hc, if_neg (by omega), rset_ne (by decide)]
    exact (hr.2.1 q hq).2.1
  · rw [hc, if_neg (by omega), rset_ne (by decide)]
    exact (hr.2.1 q hq).2.2.1
  · rw [hc, if_neg (by omega), gvn_set (by decide) (by decide)]
    exact (hr.2.1 q hq).2.2.2
  · rw [hc]
    by_cases e : k = b
    · rw [e, if_pos rfl, rset_eq]
    · rw [if_neg (by omega), rset_np e]
      exact (hr.2.2.1 k hk).1
  · rw [hc, if_neg (by omega), rset_ne (by decide)]
    exact (hr.2.2.1 k hk).2
  · rw [hc, if_neg (by omega), rset_ne (by decide)]
    exact hr.2.2.2 f hf
theorem rowA_5 (ho : LandOk D) {c c' : Nat → Int32} {b v : Nat} (hb : b < nK D) (hr : RowA D r c) (hc : ∀ i, c' i = if i = 25 + b then nI v else c i) : RowA D (rset r 5 b v) c' := by
  have h7 := ho.p7
  have h3 := ho.k3
  refine ⟨?_, fun q hq => ⟨?_, ?_, ?_⟩, fun k hk => ⟨?_, ?_⟩, fun f hf => ?_⟩
  · rw [hc, if_neg (by omega), rset_ne (by decide)]
    exact hr.1
  · rw [hc, if_neg (by omega), rset_ne (by decide)]
    exact (hr.2.1 q hq).1
  · rw [hc, if_neg (by omega), rset_ne (by decide)]
    exact (hr.2.1 q hq).2.1
  · rw [hc, if_neg (by omega), rset_ne (by decide)]
    exact (hr.2.1 q hq).2.2
  · rw [hc, if_neg (by omega), rset_ne (by decide)]
    exact (hr.2.2.1 k hk).1
  · rw [hc]
    by_cases e : k = b
    · rw [e, if_pos rfl, rset_eq]
    · rw [if_neg (by omega), rset_np e]
      exact (hr.2.2.1 k hk).2
  · rw [hc, if_neg (by omega), rset_ne (by decide)]
    exact hr.2.2.2 f hf
theorem rowB_5 (ho : LandOk D) {x : Nat} {c c' : Nat → Int32} {b v : Nat} (hb : b < nK D) (hr : RowB D r c x) (hc : ∀ i, c' i = if i = x + 31 + b then nI v else c i) : RowB D (rset r 5 b v) c' x := by
  have h7 := ho.p7
  have h3 := ho.k3
  refine ⟨?_, fun q hq => ⟨?_, ?_, ?_, ?_⟩, fun k hk => ⟨?_, ?_⟩, fun f hf => ?_⟩
  · rw [hc, if_neg (by omega), rset_ne (by decide)]
    exact hr.1
  · rw [hc, if_neg (by omega), rset_ne (by decide)]
    exact (hr.2.1 q hq).1
  · rw [hc, if_neg (by omega), rset_ne (by decide)]
    exact (hr.2.1 q hq).2.1
  · rw [hc, if_neg (by omega), rset_ne (by decide)]
    exact (hr.2.1 q hq).2.2.1
  · rw [hc, if_neg (by omega), gvn_set (by decide) (by decide)]
    exact (hr.2.1 q hq).2.2.2
  · rw [hc, if_neg (by omega), rset_ne (by decide)]
    exact (hr.2.2.1 k hk).1
  · rw [hc]
    by_cases e : k = b
    · rw [e, if_pos rfl, rset_eq]
    · rw [if_neg (by omega), rset_np e]
      exact (hr.2.2.1 k hk).2
  · rw [hc, if_neg (by omega), rset_ne (by decide)]
    exact hr.2.2.2 f hf
theorem rowA_6 (ho : LandOk D) {c c' : Nat → Int32} {b v : Nat} (hb : b < 3) (hr : RowA D r c) (hc : ∀ i, c' i = if i = 28 + b then nI v else c i) : RowA D (rset r 6 b v) c' := by
  have h7 := ho.p7
  have h3 := ho.k3
  refine ⟨?_, fun q hq => ⟨?_, ?_, ?_⟩, fun k hk => ⟨?_, ?_⟩, fun f hf => ?_⟩
  · rw [hc, if_neg (by omega), rset_ne (by decide)]
    exact hr.1
  · rw [hc, if_neg (by omega), rset_ne (by decide)]
    exact (hr.2.1 q hq).1
  · rw [hc, if_neg (by omega), rset_ne (by decide)]
    exact (hr.2.1 q hq).2.1
  · rw [hc, if_neg (by omega), rset_ne (by decide)]
    exact (hr.2.1 q hq).2.2
  · rw [hc, if_neg (by omega), rset_ne (by decide)]
    exact (hr.2.2.1 k hk).1
  · rw [hc, if_neg (by omega), rset_ne (by decide)]
    exact (hr.2.2.1 k hk).2
  · rw [hc]
    by_cases e : f = b
    · rw [e, if_pos rfl, rset_eq]
    · rw [if_neg (by omega), rset_np e]
      exact hr.2.2.2 f hf
theorem rowB_6 (ho : LandOk D) {x : Nat} {c c' : Nat → Int32} {b v : Nat} (hb : b < 3) (hr : RowB D r c x) (hc : ∀ i, c' i = if i = x + 34 + b then nI v else c i) : RowB D (rset r 6 b v) c' x := by
  have h7 := ho.p7
  have h3 := ho.k3
  refine ⟨?_, fun q hq => ⟨?_, ?_, ?_, ?_⟩, fun k hk => ⟨?_, ?_⟩, fun f hf => ?_⟩
  · rw [hc, if_neg (by omega), rset_ne (by decide)]
    exact hr.1
  · rw [hc, if_neg (by omega), rset_ne (by decide)]
    exact (hr.2.1 q hq).1
  · rw [hc, if_neg (by omega), rset_ne (by decide)]
    exact (hr.2.1 q hq).2.1
  · rw [hc, if_neg (by omega), rset_ne (by decide)]
    exact (hr.2.1 q hq).2.2.1
  · rw [hc, if_neg (by omega), gvn_set (by decide) (by decide)]
    exact (hr.2.1 q hq).2.2.2
  · rw [hc, if_neg (by omega), rset_ne (by decide)]
    exact (hr.2.2.1 k hk).1
  · rw [hc, if_neg (by omega), rset_ne (by decide)]
    exact (hr.2.2.1 k hk).2
  · rw [hc]
    by_cases e : f = b
    · rw [e, if_pos rfl, rset_eq]
    · rw [if_neg (by omega), rset_np e]
      exact hr.2.2.2 f hf
theorem rset_comm {a b v a' b' v' : Nat} (h : ¬ a = a') (r : RD) : rset (rset r a b v) a' b' v' = rset (rset r a' b' v') a b v := by
  funext x y
  by_cases h1 : x = a
  · rw [rset_ne (a := a') (by omega)]
    unfold rset
    by_cases h2 : y = b
    · rw [if_pos ⟨h1, h2⟩, if_pos ⟨h1, h2⟩]
    · rw [if_neg (fun e => h2 e.2), if_neg (fun e => h2 e.2), if_neg (fun e => h (h1.symm.trans e.1))]
  · rw [rset_ne (a := a) (x := x) (r := rset r a' b' v') h1]
    unfold rset
    by_cases h2 : x = a' ∧ y = b'
    · rw [if_pos h2, if_pos h2]
    · rw [if_neg h2, if_neg h2, if_neg (fun e => h1 e.1)]
end ROWUP
