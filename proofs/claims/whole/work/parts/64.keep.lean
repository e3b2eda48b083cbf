/-! keep -/
section KEEP
variable {D : LD} {r : RD} {σ : St} {N : Nat}
theorem rowA_end (ho : LandOk D) {c c' : Nat → Int32} {p h v : Nat} (hp : p < nP D) (hr : RowA D r c) (hc : ∀ i, c' i = if i = 8 + p then oI v else if i = 1 + p then nI h else c i) :
    RowA D (rset (rset r 1 p h) 2 p v) c' := by
  have h7 := ho.p7
  have h3 := ho.k3
  refine ⟨?_, fun q hq => ⟨?_, ?_, ?_⟩, fun k hk => ⟨?_, ?_⟩, fun f hf => ?_⟩
  · rw [hc, if_neg (by omega), if_neg (by omega), rset_ne (by decide), rset_ne (by decide)]
    exact hr.1
  · rw [hc, if_neg (by omega), rset_ne (by decide)]
    by_cases e : q = p
    · rw [e, if_pos rfl, rset_eq]
    · rw [if_neg (by omega), rset_np e]
      exact (hr.2.1 q hq).1
  · rw [hc]
    by_cases e : q = p
    · rw [e, if_pos rfl, rset_eq]
    · rw [if_neg (by omega), if_neg (by omega), rset_np e, rset_ne (by decide)]
      exact (hr.2.1 q hq).2.1
  · rw [hc, if_neg (by omega), if_neg (by omega), rset_ne (by decide), rset_ne (by decide)]
    exact (hr.2.1 q hq).2.2
  · rw [hc, if_neg (by omega), if_neg (by omega), rset_ne (by decide), rset_ne (by decide)]
    exact (hr.2.2.1 k hk).1
  · rw [hc, if_neg (by omega), if_neg (by omega), rset_ne (by decide), rset_ne (by decide)]
    exact (hr.2.2.1 k hk).2
  · rw [hc, if_neg (by omega), if_neg (by omega), rset_ne (by decide), rset_ne (by decide)]
    exact hr.2.2.2 f hf
theorem gvn_keep {p q t : Nat} (ho : LandOk D) (hp : p < nP D) : gvn D (rset (rset r 1 p 1) 2 p (t + 1)) q = if D 6 q = p then t + 1 else gvn D r q := by
  have h7 := ho.p7
  unfold gvn
  rw [rset_ne (a := 2) (x := 1) (by decide)]
  by_cases h9 : D 6 q = 9
  · rw [if_pos h9, if_pos h9, if_neg (by omega)]
  · rw [if_neg h9, if_neg h9]
    by_cases e : D 6 q = p
    · rw [e, if_pos rfl, rset_eq, rset_eq, if_pos rfl]
    · rw [if_neg e, rset_np e, rset_np e, rset_ne (by decide)]
theorem rowB_keep (ho : LandOk D) {c c' : Nat → Int32} {p t : Nat} (hp : p < nP D) (hr : RowB D r c 0)
    (hc : ∀ i, c' i = if 21 ≤ i ∧ i < 21 + nP D ∧ D 6 (i - 21) = p then nI t else if i = 7 + p then nI t else if i = p then nI 1 else c i) :
    RowB D (rset (rset r 1 p 1) 2 p (t + 1)) c' 0 := by
  have h7 := ho.p7
  have h3 := ho.k3
  refine ⟨?_, fun q hq => ⟨?_, ?_, ?_, ?_⟩, fun k hk => ⟨?_, ?_⟩, fun f hf => ?_⟩
  · rw [hc, if_neg (by omega), if_neg (by omega), if_neg (by omega), rset_ne (by decide), rset_ne (by decide)]
    exact hr.1
  · rw [hc, if_neg (by omega), if_neg (by omega), rset_ne (by decide)]
    by_cases e : q = p
    · rw [e, if_pos (by omega), rset_eq]
    · rw [if_neg (by omega), rset_np e]
      exact (hr.2.1 q hq).1
  · rw [hc, if_neg (by omega)]
    by_cases e : q = p
    · rw [e, if_pos (by omega), rset_eq]
      rfl
    · rw [if_neg (by omega), if_neg (by omega), rset_np e, rset_ne (by decide)]
      exact (hr.2.1 q hq).2.1
  · rw [hc, if_neg (by omega), if_neg (by omega), if_neg (by omega), rset_ne (by decide), rset_ne (by decide)]
    exact (hr.2.1 q hq).2.2.1
  · rw [hc, gvn_keep ho hp]
    have e21 : 0 + 21 + q - 21 = q := by omega
    rw [e21]
    by_cases e : D 6 q = p
    · rw [if_pos ⟨by omega, by omega, e⟩, if_pos e]
      rfl
    · rw [if_neg (fun x => e x.2.2), if_neg (by omega), if_neg (by omega), if_neg e]
      exact (hr.2.1 q hq).2.2.2
  · rw [hc, if_neg (by omega), if_neg (by omega), if_neg (by omega), rset_ne (by decide), rset_ne (by decide)]
    exact (hr.2.2.1 k hk).1
  · rw [hc, if_neg (by omega), if_neg (by omega), if_neg (by omega), rset_ne (by decide), rset_ne (by decide)]
    exact (hr.2.2.1 k hk).2
  · rw [hc, if_neg (by omega), if_neg (by omega), if_neg (by omega), rset_ne (by decide), rset_ne (by decide)]
    exact hr.2.2.2 f hf
theorem LandB_80 {w : St} (hw : ∀ a, ¬ a = 80 → w a = σ a) (h : LandB D σ) : LandB D w := by
  unfold LandB at h ⊢
  rw [hw 79 (by decide), hw 92 (by decide), hw 85 (by decide), hw 84 (by decide), hw 86 (by decide), hw 87 (by decide), hw 88 (by decide), hw 89 (by decide), hw 90 (by decide), hw 91 (by decide), hw 83 (by decide)]
  exact h
theorem b_keepNow_loop (ho : LandOk D) {p t : Nat} (hp : p < nP D) : ∀ (c n j : Nat) (σ : St), LandB D σ → σ 80 37 = nI t → j + c = nP D → c < n →
    ∃ w, l_X10_keepNow_25 N n (nI p) (nI j) σ = some ((), w) ∧ (∀ i, w 80 i = if 21 + j ≤ i ∧ i < 21 + nP D ∧ D 6 (i - 21) = p then nI t else σ 80 i) ∧ ∀ a, ¬ a = 80 → w a = σ a
  | c, 0, j, _, _, _, _, hn => absurd hn (Nat.not_lt_zero _)
  | 0, n + 1, j, σ, hb, _, hj, _ => by
    have h7 := ho.p7
    refine ⟨σ, ?_, fun i => ?_, fun a _ => rfl⟩
    · rw [l_X10_keepNow_25, hb.1.2.2.2, if_pos (nI_le (by omega) (by omega))]
    · rw [if_neg (by omega)]
  | c + 1, n + 1, j, σ, hb, ht, hj, hn => by
    have h7 := ho.p7
    have hlt : j < nP D := by omega
    have hq := ho.pr hlt
    have es : nI (j + 1) = nI j + 1 := by rw [nI_succ]
    have c37 : (37 : Int32).toNatClampNeg = 37 := rfl
    have key : ∀ x : Int32, x = (if D 6 j = p then nI t else σ 80 (21 + j)) →
        ∃ w, j_X10_keepNow_70 N (l_X10_keepNow_25 N n) (nI p) (nI j) (nI (21 + j)) x σ = some ((), w) ∧ (∀ i, w 80 i = if 21 + j ≤ i ∧ i < 21 + nP D ∧ D 6 (i - 21) = p then nI t else σ 80 i) ∧ ∀ a, ¬ a = 80 → w a = σ a := by
      intro x hx
      have hw : ∀ a, ¬ a = 80 → st σ 80 (21 + j) x a = σ a := fun a ha => st_cell ha
      have h37 : st σ 80 (21 + j) x 80 37 = nI t := by
        rw [st_place (by omega)]
        exact ht
      obtain ⟨w, e1, e2, e3⟩ := b_keepNow_loop ho hp c n (j + 1) (st σ 80 (21 + j) x) (LandB_80 hw hb) h37 (by omega) (by omega)
      refine ⟨w, ?_, fun i => ?_, fun a ha => (e3 a ha).trans (hw a ha)⟩
      · unfold j_X10_keepNow_70 bt
        rw [b_cka (x := 21 + j) _ (by omega) (by decide), nI_clamp (by omega), ← es]
        exact e1
      · rw [e2, st_get]
        by_cases hi : i = 21 + j
        · subst hi
          have e21 : 21 + j - 21 = j := by omega
          rw [if_neg (by omega), if_pos rfl, hx, e21]
          by_cases hg : D 6 j = p
          · rw [if_pos hg, if_pos ⟨by omega, by omega, hg⟩]
          · rw [if_neg hg, if_neg (fun z => hg z.2.2)]
        · rw [if_neg hi]
          by_cases hz : 21 + j ≤ i ∧ i < 21 + nP D ∧ D 6 (i - 21) = p
          · rw [if_pos hz, if_pos ⟨by omega, hz.2⟩]
          · rw [if_neg hz, if_neg (fun z => hz ⟨by omega, z.2⟩)]
    rw [l_X10_keepNow_25, hb.1.2.2.2, if_neg (nI_ge hlt (by omega)), b_cka (x := j) (n := 14) _ (by omega) (by decide), w_nI (c := σ 91) (x := j) (by omega), (hb.2.2.2.1 j hlt).2.2.2.2.2,
      show (21 : Int32) + nI j = nI (21 + j) from nI_add 21 j, b_cka (x := 21 + j) _ (by omega) (by decide), w_nI (c := σ 80) (x := 21 + j) (by omega), c37, ht]
    by_cases hg : D 6 j = p
    · have e : nI (D 6 j) = nI p := by rw [hg]
      rw [if_pos e]
      exact key _ (if_pos hg).symm
    · have e : ¬ nI (D 6 j) = nI p := fun e => hg ((nI_eq (by omega) (by omega)).mp e)
      rw [if_neg e]
      exact key _ (if_neg hg).symm
end KEEP
