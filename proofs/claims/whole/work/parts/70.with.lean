/-! the reference's loss: one row ended, nobody given anew -/
section WITH
variable {D : LD} {r : RD}
theorem gvn_end {p q h v : Nat} (hr1 : ¬ r 1 p = 1) (hh : ¬ h = 1) : gvn D (rset (rset r 1 p h) 2 p v) q = gvn D r q := by
  unfold gvn
  rw [rset_ne (a := 2) (x := 1) (by decide)]
  by_cases e : D 6 q = p
  · rw [e, rset_eq, rset_eq, if_neg hh, if_neg hr1]
  · rw [rset_np e, rset_np e, rset_ne (by decide)]
theorem rowB_end (ho : LandOk D) {c c' : Nat → Int32} {p h v : Nat} (hp : p < nP D) (hr : RowB D r c 0) (hr1 : ¬ r 1 p = 1) (hh : ¬ h = 1)
    (hc : ∀ i, c' i = if i = 7 + p then oI v else if i = p then nI h else c i) : RowB D (rset (rset r 1 p h) 2 p v) c' 0 := by
  have h7 := ho.p7
  have h3 := ho.k3
  refine ⟨?_, fun q hq => ⟨?_, ?_, ?_, ?_⟩, fun k hk => ⟨?_, ?_⟩, fun f hf => ?_⟩
  · rw [hc, if_neg (by omega), if_neg (by omega), rset_ne (by decide), rset_ne (by decide)]
    exact hr.1
  · rw [hc, if_neg (by omega), rset_ne (by decide)]
    by_cases e : q = p
    · rw [e, if_pos (by omega), rset_eq]
    · rw [if_neg (by omega), rset_np e]
      exact (hr.2.1 q hq).1
  · rw [hc]
    by_cases e : q = p
    · rw [e, if_pos (by omega), rset_eq]
    · rw [if_neg (by omega), if_neg (by omega), rset_np e, rset_ne (by decide)]
      exact (hr.2.1 q hq).2.1
  · rw [hc, if_neg (by omega), if_neg (by omega), rset_ne (by decide), rset_ne (by decide)]
    exact (hr.2.1 q hq).2.2.1
  · rw [hc, if_neg (by omega), if_neg (by omega), gvn_end hr1 hh]
    exact (hr.2.1 q hq).2.2.2
  · rw [hc, if_neg (by omega), if_neg (by omega), rset_ne (by decide), rset_ne (by decide)]
    exact (hr.2.2.1 k hk).1
  · rw [hc, if_neg (by omega), if_neg (by omega), rset_ne (by decide), rset_ne (by decide)]
    exact (hr.2.2.1 k hk).2
  · rw [hc, if_neg (by omega), if_neg (by omega), rset_ne (by decide), rset_ne (by decide)]
    exact hr.2.2.2 f hf
end WITH
