/-! the beginning -/
section START
theorem cz_val (c i : Nat) : cz_2 c i = if c = 79 ∧ i = 27 then -1 else if c = 21 ∧ i = 5 then -1 else 0 := by
  show st cz_1 79 27 (-1) c i = _
  by_cases e : c = 79
  · subst e
    rw [st_get]
    by_cases e2 : i = 27
    · rw [if_pos e2, if_pos ⟨rfl, e2⟩]
    · rw [if_neg e2, if_neg (fun z => e2 z.2), if_neg (by omega)]
      rfl
  · rw [st_cell e, if_neg (fun z => e z.1)]
    show st cz_0 21 5 (-1) c i = _
    by_cases e3 : c = 21
    · subst e3
      rw [st_get]
      by_cases e2 : i = 5
      · rw [if_pos e2, if_pos ⟨rfl, e2⟩]
      · rw [if_neg e2, if_neg (fun z => e2 z.2)]
        rfl
    · rw [st_cell e3, if_neg (fun z => e3 z.1)]
      rfl
theorem cz_o {c i : Nat} (h : ¬ (c = 79 ∧ i = 27)) (h2 : ¬ (c = 21 ∧ i = 5)) : cz_2 c i = 0 := by
  rw [cz_val, if_neg h, if_neg h2]
def zD : LD := fun _ _ => 0
theorem zD_ok : LandOk zD := by
  refine ⟨⟨by decide, by decide, by decide, by decide⟩, fun _ => rfl, fun _ => rfl, fun k hk => absurd hk (Nat.not_lt_zero _), fun k hk => absurd hk (Nat.not_lt_zero _), fun i _ => Or.inl (Nat.zero_le _), fun _ _ => rfl, fun _ _ _ _ _ _ _ _ => Nat.zero_le _, Or.inl ⟨rfl, rfl, rfl⟩⟩
theorem start_wr : WR cz_2 := by
  have nl : ∀ {P : Prop} {i : Nat}, i < 0 → P := fun h => absurd h (Nat.not_lt_zero _)
  have z : ∀ {c i : Nat}, ¬ (c = 79 ∧ i = 27) → ¬ (c = 21 ∧ i = 5) → cz_2 c i = 0 := fun h h2 => cz_o h h2
  have zA : ∀ c i, ¬ c = 21 → c < 79 → cz_2 c i = 0 := fun c i h h2 => z (by omega) (by omega)
  have zB : ∀ c i, 79 < c → cz_2 c i = 0 := fun c i h => z (by omega) (by omega)
  have z79 : ∀ i, ¬ i = 27 → cz_2 79 i = 0 := fun i h => z (by omega) (by omega)
  refine ⟨((zD, ((begR zD, 0, fun _ => begR zD), 0)), (fun _ => false, fun _ => begR zD, fun _ => 0), (0, fun _ => 0), (0, fun _ => 0, fun _ => 0), -1), ⟨zD_ok, ⟨⟨beg_ok zD_ok, Nat.zero_le _, fun i hi => nl hi⟩, by decide⟩, fun q _ e => by cases e⟩, ⟨⟨⟨?_, ?_, 0, ?_⟩, ?_⟩, ?_, ⟨⟨Nat.zero_le _, ?_, fun i hi => nl hi⟩, ?_⟩, Nat.zero_le _, ?_, fun i hi => nl hi⟩, ⟨⟨?_, ?_, ?_⟩, ?_⟩, ?_, ⟨⟨Nat.zero_le _, ?_, fun i hi => nl hi⟩, ?_⟩, Nat.zero_le _, ?_, fun i hi => nl hi⟩
  · refine ⟨⟨zA _ _ (by decide) (by decide), zA _ _ (by decide) (by decide), zA _ _ (by decide) (by decide), zA _ _ (by decide) (by decide)⟩, ⟨zA _ _ (by decide) (by decide), zA _ _ (by decide) (by decide), zA _ _ (by decide) (by decide)⟩, fun k hk => nl hk, fun p hp => nl hp, fun i _ => zA _ _ (by decide) (by decide)⟩
  · exact ⟨zA _ _ (by decide) (by decide), fun p hp => nl hp, fun k hk => nl hk, fun f _ => zA _ _ (by decide) (by decide)⟩
  · exact ⟨by decide, zA _ _ (by decide) (by decide), zA _ _ (by decide) (by decide), fun i hi => nl hi⟩
  · exact zA _ _ (by decide) (by decide)
  · intro q hq
    refine ⟨?_, fun e => by cases e⟩
    rw [zA 57 2 (by decide) (by decide)]
    have : ∀ q : Fin 2, bit 0 q.val = false := by decide
    exact this ⟨q, hq⟩
  · exact z (by decide) (by decide)
  · show cz_2 21 5 = -1
    rw [cz_val]
    rfl
  · exact zA _ _ (by decide) (by decide)
  · refine ⟨⟨z79 _ (by decide), z79 _ (by decide), z79 _ (by decide), z79 _ (by decide)⟩, ⟨zB _ _ (by decide), zB _ _ (by decide), Or.inl ⟨rfl, Or.inr (zB _ _ (by decide))⟩⟩, fun k hk => nl hk, fun p hp => nl hp, fun i _ => zB _ _ (by decide)⟩
  · exact ⟨zB _ _ (by decide), fun p hp => nl hp, fun k hk => nl hk, fun f _ => zB _ _ (by decide)⟩
  · exact ⟨z79 _ (by decide), fun i hi => nl hi⟩
  · exact zB _ _ (by decide)
  · intro q hq
    exact ⟨zB _ _ (by decide), fun e => by cases e⟩
  · exact z79 _ (by decide)
  · show cz_2 79 27 = -1
    rw [cz_val]
    rfl
  · exact z79 _ (by decide)
/-- all together, but for hands and shares -/
theorem eqv_of {N : Nat} (hU : UB 9 + 20000 ≤ N) (hH : HandsS N) (hS : ShareS N) (L : Nat) (xs : Nat → Int32) (hL : L ≤ 2048) : ∃ w, l_L_law_18 N L xs N 0 cz_2 = some (1, w) :=
  law_all hU hH hS hL 512 N 0 cz_2 start_wr (by omega) (Nat.zero_le _) (Nat.lt_of_lt_of_le (by decide) (Nat.le_trans (Nat.le_add_left 20000 _) hU))
end START
