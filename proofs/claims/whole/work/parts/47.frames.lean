/-! which cells a function may change -/
def Fm (W : List Nat) (σ w : St) : Prop := ∀ k, k ∉ W → w k = σ k
theorem Fm.rf {W : List Nat} {σ : St} : Fm W σ σ := fun _ _ => rfl
theorem Fm.tr {W : List Nat} {a b c : St} (h : Fm W a b) (g : Fm W b c) : Fm W a c := fun k hk => (g k hk).trans (h k hk)
theorem Fm.mono {V W : List Nat} {a b : St} (h : Fm V a b) (hs : (V.all fun k => W.contains k) = true) : Fm W a b := fun k hk => h k fun q => hk (by
  have := List.all_eq_true.mp hs k q
  simpa using this)
theorem Fm.st {W : List Nat} {σ : St} {k j : Nat} {x : Int32} (h : k ∈ W) : Fm W σ (st σ k j x) := fun a ha => by
  have e : ¬ a = k := fun e => ha (by rw [e]; exact h)
  show (if a = k then _ else _) = _
  rw [if_neg e]
theorem Fm.put {W : List Nat} {σ : St} {k n : Nat} {i x : Int32} (h : k ∈ W) : Fm W σ (put_ σ k n i x) := by
  unfold put_
  split
  · exact Fm.rf
  · split
    · exact Fm.rf
    · exact Fm.st h
theorem Fm.cp {W : List Nat} {σ : St} {a b n : Nat} (h : b ∈ W) : Fm W σ (cp_ σ a b n) := fun k hk => by
  have e : ¬ k = b := fun e => hk (by rw [e]; exact h)
  show (if k = b then _ else _) = _
  rw [if_neg e]
theorem Fm.cpS {W : List Nat} {σ : St} {a : Option Nat} {b n m : Nat} (h : b ∈ W) : Fm W σ (cpO_ σ a (some b) n m) := by
  cases a with
  | none => exact Fm.rf
  | some a => exact Fm.cp h
theorem Fm.cpQ {W : List Nat} {σ : St} {a : Option Nat} {b c n m : Nat} {i : Int32} (h : ∀ j, j < c → b + j ∈ W) : Fm W σ (cpO_ σ a (rwA_ b c i) n m) := by
  cases a with
  | none => exact Fm.rf
  | some a =>
    cases hr : rwA_ b c i with
    | none => exact Fm.rf
    | some q =>
      refine Fm.cp ?_
      unfold rwA_ at hr
      by_cases c1 : i < 0
      · rw [if_pos c1] at hr
        cases hr
      rw [if_neg c1] at hr
      by_cases c2 : Int32.ofNat c ≤ i
      · rw [if_pos c2] at hr
        cases hr
      rw [if_neg c2] at hr
      cases hr
      refine h _ (Nat.not_le.mp fun q => ?_)
      apply c2
      rw [Int32.le_iff_toInt_le]
      have h3 : i.toNatClampNeg = i.toInt.toNat := rfl
      rw [h3] at q
      have h4 : i.toInt < 2 ^ 31 := i.toInt_lt
      have h5 : 0 ≤ i.toInt := by
        rw [Int32.lt_iff_toInt_lt] at c1
        simpa using c1
      have h6 : (Int32.ofNat c).toInt = c := Int32.toInt_ofNat_of_lt (by omega)
      rw [h6]
      omega
theorem ite_elim {α : Type} {c : Prop} [Decidable c] {a b v : α} (h : (if c then a else b) = v) : a = v ∨ b = v := by
  by_cases hc : c
  · rw [if_pos hc] at h
    exact Or.inl h
  · rw [if_neg hc] at h
    exact Or.inr h

theorem fr_X7_add (a1 : Int32) (σ : St) (q : Int32 × St) (h : t_X7_add a1 σ = q) : Fm [21, 22] σ q.2 := by
  unfold t_X7_add at h
  obtain ⟨σ1, e9, h⟩ := bt_elim h
  have f_σ1 : Fm [21, 22] σ σ1 := (Fm.rf).tr (by rw [e9]; exact Fm.put (by decide))
  obtain ⟨σ2, e9, h⟩ := bt_elim h
  have f_σ2 : Fm [21, 22] σ σ2 := (f_σ1).tr (by rw [e9]; exact Fm.st (by decide))
  rw [← h]
  exact f_σ2
theorem fr_X9_feed (a1 : Int32) (σ : St) (q : Int32 × St) (h : t_X9_feed a1 σ = q) : Fm [21, 22] σ q.2 := by
  unfold t_X9_feed at h
  rcases ite_elim h with h | h
  · rw [← h]
    exact Fm.rf
  · rcases ite_elim h with h | h
    · rcases ite_elim h with h | h
      · obtain ⟨q4, e9, h⟩ := bt_elim h
        have f_q4 : Fm [21, 22] σ q4.2 := (Fm.rf).tr (by rw [e9]; exact (fr_X7_add _ _ _ rfl).mono rfl)
        rw [← h]
        exact f_q4
      · rw [← h]
        exact Fm.rf
    · rw [← h]
      exact Fm.rf
theorem fr_X10_feed {N : Nat} {a1 : Int32} {σ : St} {v : Int32} {w : St} (h : o_X10_feed N a1 σ = some (v, w)) : Fm [79, 93] σ w := by
  unfold o_X10_feed at h
  rcases ite_elim h with h | h
  · obtain ⟨-, h⟩ := oeq h
    rw [← h]
    exact Fm.rf
  · rcases ite_elim h with h | h
    · obtain ⟨-, h⟩ := oeq h
      rw [← h]
      exact Fm.rf
    · obtain ⟨-, h⟩ := ckA_elim h
      obtain ⟨σ4, e9, h⟩ := bt_elim h
      have f_σ4 : Fm [79, 93] σ σ4 := (Fm.rf).tr (by rw [e9]; exact Fm.st (by decide))
      obtain ⟨σ5, e9, h⟩ := bt_elim h
      have f_σ5 : Fm [79, 93] σ σ5 := (f_σ4).tr (by rw [e9]; exact Fm.st (by decide))
      obtain ⟨-, h⟩ := oeq h
      rw [← h]
      exact f_σ5
theorem frj_X5_clear_11_65 (N : Nat) (K_37 : Int32 → St → Option (Unit × St)) (hK_37 : ∀ (v1 : Int32) (σ : St) (v : Unit) (w : St), K_37 v1 σ = some (v, w) → Fm [11, 20] σ w) (v1 : Int32) (s1 : Int32) (s2 : Int32) (σ : St) (v : Unit) (w : St) (h : j_X5_clear_11_65 N K_37 v1 s1 s2 σ = some (v, w)) : Fm [11, 20] σ w := by
  unfold j_X5_clear_11_65 at h
  obtain ⟨-, h⟩ := ckA_elim h
  obtain ⟨σ2, e9, h⟩ := bt_elim h
  have f_σ2 : Fm [11, 20] σ σ2 := (Fm.rf).tr (by rw [e9]; exact Fm.st (by decide))
  obtain ⟨_, -, h⟩ := bt_elim h
  exact (f_σ2).tr (hK_37 _ _ _ _ h)
theorem frl_X5_clear_11_37 (N : Nat) : ∀ (n : Nat) (v1 : Int32) (σ : St) (v : Unit) (w : St), l_X5_clear_11_37 N n v1 σ = some (v, w) → Fm [11, 20] σ w := by
  intro n
  induction n with
  | zero =>
    intro v1 σ v w h
    rw [l_X5_clear_11_37] at h
    cases h
  | succ n ih =>
    intro v1 σ v w h
    rw [l_X5_clear_11_37] at h
    rcases ite_elim h with h | h
    · obtain ⟨-, h⟩ := oeq h
      rw [← h]
      exact Fm.rf
    · rcases ite_elim h with h | h
      · exact (Fm.rf).tr (frj_X5_clear_11_65 N (l_X5_clear_11_37 N n) ih _ _ _ _ _ _ h)
      · exact (Fm.rf).tr (frj_X5_clear_11_65 N (l_X5_clear_11_37 N n) ih _ _ _ _ _ _ h)
theorem fr_X5_clear_11 {N : Nat}  {σ : St} {v : Unit} {w : St} (h : o_X5_clear_11 N  σ = some (v, w)) : Fm [11, 20] σ w := by
  unfold o_X5_clear_11 at h
  obtain ⟨σ1, e9, h⟩ := bt_elim h
  have f_σ1 : Fm [11, 20] σ σ1 := (Fm.rf).tr (by rw [e9]; exact Fm.st (by decide))
  obtain ⟨σ2, e9, h⟩ := bt_elim h
  have f_σ2 : Fm [11, 20] σ σ2 := (f_σ1).tr (by rw [e9]; exact Fm.st (by decide))
  obtain ⟨σ3, e9, h⟩ := bt_elim h
  have f_σ3 : Fm [11, 20] σ σ3 := (f_σ2).tr (by rw [e9]; exact Fm.st (by decide))
  obtain ⟨σ4, e9, h⟩ := bt_elim h
  have f_σ4 : Fm [11, 20] σ σ4 := (f_σ3).tr (by rw [e9]; exact Fm.st (by decide))
  obtain ⟨σ5, e9, h⟩ := bt_elim h
  have f_σ5 : Fm [11, 20] σ σ5 := (f_σ4).tr (by rw [e9]; exact Fm.st (by decide))
  obtain ⟨σ6, e9, h⟩ := bt_elim h
  have f_σ6 : Fm [11, 20] σ σ6 := (f_σ5).tr (by rw [e9]; exact Fm.st (by decide))
  obtain ⟨σ7, e9, h⟩ := bt_elim h
  have f_σ7 : Fm [11, 20] σ σ7 := (f_σ6).tr (by rw [e9]; exact Fm.st (by decide))
  exact (f_σ7).tr (frl_X5_clear_11_37 N N _ _ _ _ h)
theorem frl_X7_skipBlanks_0 (N : Nat) : ∀ (n : Nat)  (σ : St) (v : Unit) (w : St), l_X7_skipBlanks_0 N n  σ = some (v, w) → Fm [21] σ w := by
  intro n
  induction n with
  | zero =>
    intro  σ v w h
    rw [l_X7_skipBlanks_0] at h
    cases h
  | succ n ih =>
    intro  σ v w h
    rw [l_X7_skipBlanks_0] at h
    rcases ite_elim h with h | h
    · obtain ⟨-, h⟩ := oeq h
      rw [← h]
      exact Fm.rf
    · rcases ite_elim h with h | h
      · obtain ⟨σ3, e9, h⟩ := bt_elim h
        have f_σ3 : Fm [21] σ σ3 := (Fm.rf).tr (by rw [e9]; exact Fm.st (by decide))
        exact (f_σ3).tr (ih  _ _ _ h)
      · obtain ⟨-, h⟩ := oeq h
        rw [← h]
        exact Fm.rf
theorem fr_X7_skipBlanks {N : Nat}  {σ : St} {v : Unit} {w : St} (h : o_X7_skipBlanks N  σ = some (v, w)) : Fm [21] σ w := by
  unfold o_X7_skipBlanks at h
  exact (Fm.rf).tr (frl_X7_skipBlanks_0 N N _ _ _ h)
theorem fr_X7_blame (a1 : Int32) (a2 : Int32) (σ : St) (q : St) (h : t_X7_blame a1 a2 σ = q) : Fm [21] σ q := by
  unfold t_X7_blame at h
  rcases ite_elim h with h | h
  · obtain ⟨σ2, e9, h⟩ := bt_elim h
    have f_σ2 : Fm [21] σ σ2 := (Fm.rf).tr (by rw [e9]; exact Fm.st (by decide))
    obtain ⟨σ3, e9, h⟩ := bt_elim h
    have f_σ3 : Fm [21] σ σ3 := (f_σ2).tr (by rw [e9]; exact Fm.st (by decide))
    rw [← h]
    exact f_σ3
  · rw [← h]
    exact Fm.rf
theorem frj_X7_number_136 (N : Nat) (v3 : Int32) (σ : St) (v : Int32) (w : St) (h : j_X7_number_136 N v3 σ = some (v, w)) : Fm [21] σ w := by
  unfold j_X7_number_136 at h
  obtain ⟨σ1, e9, h⟩ := bt_elim h
  have f_σ1 : Fm [21] σ σ1 := (Fm.rf).tr (by rw [e9]; exact (fr_X7_blame _ _ _ _ rfl).mono rfl)
  obtain ⟨-, h⟩ := oeq h
  rw [← h]
  exact f_σ1
theorem frj_X7_number_90 (N : Nat) (v1 : Int32) (v2 : Int32) (v3 : Int32) (σ : St) (v : Int32) (w : St) (h : j_X7_number_90 N v1 v2 v3 σ = some (v, w)) : Fm [21] σ w := by
  unfold j_X7_number_90 at h
  rcases ite_elim h with h | h
  · obtain ⟨σ5, e9, h⟩ := bt_elim h
    have f_σ5 : Fm [21] σ σ5 := (Fm.rf).tr (by rw [e9]; exact (fr_X7_blame _ _ _ _ rfl).mono rfl)
    obtain ⟨-, h⟩ := oeq h
    rw [← h]
    exact f_σ5
  · rcases ite_elim h with h | h
    · exact (Fm.rf).tr (frj_X7_number_136 N _ _ _ _ h)
    · rcases ite_elim h with h | h
      · exact (Fm.rf).tr (frj_X7_number_136 N _ _ _ _ h)
      · rcases ite_elim h with h | h
        · obtain ⟨-, h⟩ := oeq h
          rw [← h]
          exact Fm.rf
        · exact (Fm.rf).tr (frj_X7_number_136 N _ _ _ _ h)
theorem frl_X7_number_23 (N : Nat) : ∀ (n : Nat) (v1 : Int32) (v2 : Int32) (v3 : Int32) (σ : St) (v : Int32) (w : St), l_X7_number_23 N n v1 v2 v3 σ = some (v, w) → Fm [21] σ w := by
  intro n
  induction n with
  | zero =>
    intro v1 v2 v3 σ v w h
    rw [l_X7_number_23] at h
    cases h
  | succ n ih =>
    intro v1 v2 v3 σ v w h
    rw [l_X7_number_23] at h
    rcases ite_elim h with h | h
    · exact (Fm.rf).tr (frj_X7_number_90 N _ _ _ _ _ _ h)
    · rcases ite_elim h with h | h
      · exact (Fm.rf).tr (frj_X7_number_90 N _ _ _ _ _ _ h)
      · obtain ⟨_, -, h⟩ := bt_elim h
        obtain ⟨σ4, e9, h⟩ := bt_elim h
        have f_σ4 : Fm [21] σ σ4 := (Fm.rf).tr (by rw [e9]; exact Fm.st (by decide))
        exact (f_σ4).tr (ih _ _ _ _ _ _ h)
theorem fr_X7_number {N : Nat} {a1 : Int32} {a2 : Int32} {σ : St} {v : Int32} {w : St} (h : o_X7_number N a1 a2 σ = some (v, w)) : Fm [21] σ w := by
  unfold o_X7_number at h
  rcases ite_elim h with h | h
  · obtain ⟨u2, σ3, g4, h⟩ := bd_elim h
    have f_σ3 : Fm [21] σ σ3 := (Fm.rf).tr ((fr_X7_skipBlanks g4).mono rfl)
    obtain ⟨σ5, e9, h⟩ := bt_elim h
    have f_σ5 : Fm [21] σ σ5 := (f_σ3).tr (by rw [e9]; exact Fm.st (by decide))
    exact (f_σ5).tr (frl_X7_number_23 N N _ _ _ _ _ _ h)
  · obtain ⟨-, h⟩ := oeq h
    rw [← h]
    exact Fm.rf
theorem frj_X7_isEnd_40 (N : Nat)  (σ : St) (v : Int32) (w : St) (h : j_X7_isEnd_40 N  σ = some (v, w)) : Fm [21] σ w := by
  unfold j_X7_isEnd_40 at h
  obtain ⟨σ1, e9, h⟩ := bt_elim h
  have f_σ1 : Fm [21] σ σ1 := (Fm.rf).tr (by rw [e9]; exact (fr_X7_blame _ _ _ _ rfl).mono rfl)
  obtain ⟨-, h⟩ := oeq h
  rw [← h]
  exact f_σ1
theorem fr_X7_isEnd {N : Nat}  {σ : St} {v : Int32} {w : St} (h : o_X7_isEnd N  σ = some (v, w)) : Fm [21] σ w := by
  unfold o_X7_isEnd at h
  rcases ite_elim h with h | h
  · obtain ⟨u2, σ3, g4, h⟩ := bd_elim h
    have f_σ3 : Fm [21] σ σ3 := (Fm.rf).tr ((fr_X7_skipBlanks g4).mono rfl)
    rcases ite_elim h with h | h
    · exact (f_σ3).tr (frj_X7_isEnd_40 N _ _ _ h)
    · rcases ite_elim h with h | h
      · obtain ⟨σ7, e9, h⟩ := bt_elim h
        have f_σ7 : Fm [21] σ σ7 := (f_σ3).tr (by rw [e9]; exact Fm.st (by decide))
        obtain ⟨-, h⟩ := oeq h
        rw [← h]
        exact f_σ7
      · exact (f_σ3).tr (frj_X7_isEnd_40 N _ _ _ h)
  · obtain ⟨-, h⟩ := oeq h
    rw [← h]
    exact Fm.rf
theorem fr_X7_readKeeper_21_11 {N : Nat}  {σ : St} {v : Unit} {w : St} (h : o_X7_readKeeper_21_11 N  σ = some (v, w)) : Fm [11, 12, 13, 21] σ w := by
  unfold o_X7_readKeeper_21_11 at h
  obtain ⟨σ1, e9, h⟩ := bt_elim h
  have f_σ1 : Fm [11, 12, 13, 21] σ σ1 := (Fm.rf).tr (by rw [e9]; exact Fm.st (by decide))
  obtain ⟨x2, σ3, g4, h⟩ := bd_elim h
  have f_σ3 : Fm [11, 12, 13, 21] σ σ3 := (f_σ1).tr ((fr_X7_number g4).mono rfl)
  obtain ⟨x5, σ6, g7, h⟩ := bd_elim h
  have f_σ6 : Fm [11, 12, 13, 21] σ σ6 := (f_σ3).tr ((fr_X7_number g7).mono rfl)
  obtain ⟨x8, σ9, g10, h⟩ := bd_elim h
  have f_σ9 : Fm [11, 12, 13, 21] σ σ9 := (f_σ6).tr ((fr_X7_isEnd g10).mono rfl)
  rcases ite_elim h with h | h
  · obtain ⟨-, h⟩ := oeq h
    rw [← h]
    exact f_σ9
  · obtain ⟨σ12, e9, h⟩ := bt_elim h
    have f_σ12 : Fm [11, 12, 13, 21] σ σ12 := (f_σ9).tr (by rw [e9]; exact Fm.put (by decide))
    obtain ⟨σ13, e9, h⟩ := bt_elim h
    have f_σ13 : Fm [11, 12, 13, 21] σ σ13 := (f_σ12).tr (by rw [e9]; exact Fm.put (by decide))
    obtain ⟨σ14, e9, h⟩ := bt_elim h
    have f_σ14 : Fm [11, 12, 13, 21] σ σ14 := (f_σ13).tr (by rw [e9]; exact Fm.st (by decide))
    obtain ⟨-, h⟩ := oeq h
    rw [← h]
    exact f_σ14
theorem frj_X7_readPromise_21_11_180 (N : Nat) (s1 : Int32) (s2 : Int32) (σ : St) (v : Unit) (w : St) (h : j_X7_readPromise_21_11_180 N s1 s2 σ = some (v, w)) : Fm [11, 14, 15, 16, 17, 18, 19, 21] σ w := by
  unfold j_X7_readPromise_21_11_180 at h
  obtain ⟨σ1, e9, h⟩ := bt_elim h
  have f_σ1 : Fm [11, 14, 15, 16, 17, 18, 19, 21] σ σ1 := (Fm.rf).tr (by rw [e9]; exact Fm.put (by decide))
  obtain ⟨σ2, e9, h⟩ := bt_elim h
  have f_σ2 : Fm [11, 14, 15, 16, 17, 18, 19, 21] σ σ2 := (f_σ1).tr (by rw [e9]; exact Fm.st (by decide))
  obtain ⟨-, h⟩ := oeq h
  rw [← h]
  exact f_σ2
theorem frj_X7_readPromise_21_11_95 (N : Nat) (v2 : Int32) (v3 : Int32) (v4 : Int32) (v5 : Int32) (v6 : Int32) (v7 : Int32) (σ : St) (v : Unit) (w : St) (h : j_X7_readPromise_21_11_95 N v2 v3 v4 v5 v6 v7 σ = some (v, w)) : Fm [11, 14, 15, 16, 17, 18, 19, 21] σ w := by
  unfold j_X7_readPromise_21_11_95 at h
  obtain ⟨x1, σ2, g3, h⟩ := bd_elim h
  have f_σ2 : Fm [11, 14, 15, 16, 17, 18, 19, 21] σ σ2 := (Fm.rf).tr ((fr_X7_isEnd g3).mono rfl)
  rcases ite_elim h with h | h
  · obtain ⟨-, h⟩ := oeq h
    rw [← h]
    exact f_σ2
  · obtain ⟨_, -, h⟩ := bt_elim h
    obtain ⟨σ6, e9, h⟩ := bt_elim h
    have f_σ6 : Fm [11, 14, 15, 16, 17, 18, 19, 21] σ σ6 := (f_σ2).tr (by rw [e9]; exact Fm.put (by decide))
    obtain ⟨σ7, e9, h⟩ := bt_elim h
    have f_σ7 : Fm [11, 14, 15, 16, 17, 18, 19, 21] σ σ7 := (f_σ6).tr (by rw [e9]; exact Fm.put (by decide))
    obtain ⟨σ8, e9, h⟩ := bt_elim h
    have f_σ8 : Fm [11, 14, 15, 16, 17, 18, 19, 21] σ σ8 := (f_σ7).tr (by rw [e9]; exact Fm.put (by decide))
    obtain ⟨σ9, e9, h⟩ := bt_elim h
    have f_σ9 : Fm [11, 14, 15, 16, 17, 18, 19, 21] σ σ9 := (f_σ8).tr (by rw [e9]; exact Fm.put (by decide))
    obtain ⟨σ10, e9, h⟩ := bt_elim h
    have f_σ10 : Fm [11, 14, 15, 16, 17, 18, 19, 21] σ σ10 := (f_σ9).tr (by rw [e9]; exact Fm.put (by decide))
    rcases ite_elim h with h | h
    · exact (f_σ10).tr (frj_X7_readPromise_21_11_180 N _ _ _ _ _ h)
    · exact (f_σ10).tr (frj_X7_readPromise_21_11_180 N _ _ _ _ _ h)
theorem fr_X7_readPromise_21_11 {N : Nat}  {σ : St} {v : Unit} {w : St} (h : o_X7_readPromise_21_11 N  σ = some (v, w)) : Fm [11, 14, 15, 16, 17, 18, 19, 21] σ w := by
  unfold o_X7_readPromise_21_11 at h
  obtain ⟨σ1, e9, h⟩ := bt_elim h
  have f_σ1 : Fm [11, 14, 15, 16, 17, 18, 19, 21] σ σ1 := (Fm.rf).tr (by rw [e9]; exact Fm.st (by decide))
  obtain ⟨x2, σ3, g4, h⟩ := bd_elim h
  have f_σ3 : Fm [11, 14, 15, 16, 17, 18, 19, 21] σ σ3 := (f_σ1).tr ((fr_X7_number g4).mono rfl)
  obtain ⟨x5, σ6, g7, h⟩ := bd_elim h
  have f_σ6 : Fm [11, 14, 15, 16, 17, 18, 19, 21] σ σ6 := (f_σ3).tr ((fr_X7_number g7).mono rfl)
  obtain ⟨x8, σ9, g10, h⟩ := bd_elim h
  have f_σ9 : Fm [11, 14, 15, 16, 17, 18, 19, 21] σ σ9 := (f_σ6).tr ((fr_X7_number g10).mono rfl)
  obtain ⟨x11, σ12, g13, h⟩ := bd_elim h
  have f_σ12 : Fm [11, 14, 15, 16, 17, 18, 19, 21] σ σ12 := (f_σ9).tr ((fr_X7_number g13).mono rfl)
  obtain ⟨x14, σ15, g16, h⟩ := bd_elim h
  have f_σ15 : Fm [11, 14, 15, 16, 17, 18, 19, 21] σ σ15 := (f_σ12).tr ((fr_X7_number g16).mono rfl)
  obtain ⟨x17, σ18, g19, h⟩ := bd_elim h
  have f_σ18 : Fm [11, 14, 15, 16, 17, 18, 19, 21] σ σ18 := (f_σ15).tr ((fr_X7_number g19).mono rfl)
  rcases ite_elim h with h | h
  · exact (f_σ18).tr (frj_X7_readPromise_21_11_95 N _ _ _ _ _ _ _ _ _ h)
  · rcases ite_elim h with h | h
    · exact (f_σ18).tr (frj_X7_readPromise_21_11_95 N _ _ _ _ _ _ _ _ _ h)
    · obtain ⟨σ22, e9, h⟩ := bt_elim h
      have f_σ22 : Fm [11, 14, 15, 16, 17, 18, 19, 21] σ σ22 := (f_σ18).tr (by rw [e9]; exact (fr_X7_blame _ _ _ _ rfl).mono rfl)
      exact (f_σ22).tr (frj_X7_readPromise_21_11_95 N _ _ _ _ _ _ _ _ _ h)
theorem frj_X5_shorten_11_26 (v1 : Int32) (v2 : Int32) (v3 : Int32) (σ : St) (q : St) (h : j_X5_shorten_11_26 v1 v2 v3 σ = q) : Fm [20] σ q := by
  unfold j_X5_shorten_11_26 at h
  obtain ⟨σ1, e9, h⟩ := bt_elim h
  have f_σ1 : Fm [20] σ σ1 := (Fm.rf).tr (by rw [e9]; exact Fm.put (by decide))
  rw [← h]
  exact f_σ1
theorem fr_X5_shorten_11 (a1 : Int32) (a2 : Int32) (a3 : Int32) (σ : St) (q : St) (h : t_X5_shorten_11 a1 a2 a3 σ = q) : Fm [20] σ q := by
  unfold t_X5_shorten_11 at h
  obtain ⟨_, -, h⟩ := bt_elim h
  rcases ite_elim h with h | h
  · exact (Fm.rf).tr (frj_X5_shorten_11_26 _ _ _ _ _ h)
  · rcases ite_elim h with h | h
    · rw [← h]
      exact Fm.rf
    · exact (Fm.rf).tr (frj_X5_shorten_11_26 _ _ _ _ _ h)
theorem fr_X5_addRoad_11 (a1 : Int32) (a2 : Int32) (a3 : Int32) (σ : St) (q : St) (h : t_X5_addRoad_11 a1 a2 a3 σ = q) : Fm [11, 20] σ q := by
  unfold t_X5_addRoad_11 at h
  obtain ⟨σ1, e9, h⟩ := bt_elim h
  have f_σ1 : Fm [11, 20] σ σ1 := (Fm.rf).tr (by rw [e9]; exact Fm.st (by decide))
  obtain ⟨σ2, e9, h⟩ := bt_elim h
  have f_σ2 : Fm [11, 20] σ σ2 := (f_σ1).tr (by rw [e9]; exact (fr_X5_shorten_11 _ _ _ _ _ rfl).mono rfl)
  obtain ⟨σ3, e9, h⟩ := bt_elim h
  have f_σ3 : Fm [11, 20] σ σ3 := (f_σ2).tr (by rw [e9]; exact (fr_X5_shorten_11 _ _ _ _ _ rfl).mono rfl)
  rw [← h]
  exact f_σ3
theorem frj_X7_readRoad_21_11_48 (N : Nat) (v2 : Int32) (v3 : Int32) (σ : St) (v : Unit) (w : St) (h : j_X7_readRoad_21_11_48 N v2 v3 σ = some (v, w)) : Fm [11, 20, 21] σ w := by
  unfold j_X7_readRoad_21_11_48 at h
  obtain ⟨x1, σ2, g3, h⟩ := bd_elim h
  have f_σ2 : Fm [11, 20, 21] σ σ2 := (Fm.rf).tr ((fr_X7_number g3).mono rfl)
  obtain ⟨x4, σ5, g6, h⟩ := bd_elim h
  have f_σ5 : Fm [11, 20, 21] σ σ5 := (f_σ2).tr ((fr_X7_isEnd g6).mono rfl)
  rcases ite_elim h with h | h
  · obtain ⟨-, h⟩ := oeq h
    rw [← h]
    exact f_σ5
  · obtain ⟨σ8, e9, h⟩ := bt_elim h
    have f_σ8 : Fm [11, 20, 21] σ σ8 := (f_σ5).tr (by rw [e9]; exact (fr_X5_addRoad_11 _ _ _ _ _ rfl).mono rfl)
    obtain ⟨-, h⟩ := oeq h
    rw [← h]
    exact f_σ8
theorem fr_X7_readRoad_21_11 {N : Nat}  {σ : St} {v : Unit} {w : St} (h : o_X7_readRoad_21_11 N  σ = some (v, w)) : Fm [11, 20, 21] σ w := by
  unfold o_X7_readRoad_21_11 at h
  obtain ⟨σ1, e9, h⟩ := bt_elim h
  have f_σ1 : Fm [11, 20, 21] σ σ1 := (Fm.rf).tr (by rw [e9]; exact Fm.st (by decide))
  obtain ⟨x2, σ3, g4, h⟩ := bd_elim h
  have f_σ3 : Fm [11, 20, 21] σ σ3 := (f_σ1).tr ((fr_X7_number g4).mono rfl)
  obtain ⟨x5, σ6, g7, h⟩ := bd_elim h
  have f_σ6 : Fm [11, 20, 21] σ σ6 := (f_σ3).tr ((fr_X7_number g7).mono rfl)
  rcases ite_elim h with h | h
  · obtain ⟨σ9, e9, h⟩ := bt_elim h
    have f_σ9 : Fm [11, 20, 21] σ σ9 := (f_σ6).tr (by rw [e9]; exact (fr_X7_blame _ _ _ _ rfl).mono rfl)
    exact (f_σ9).tr (frj_X7_readRoad_21_11_48 N _ _ _ _ _ h)
  · exact (f_σ6).tr (frj_X7_readRoad_21_11_48 N _ _ _ _ _ h)
theorem fr_X7_readTowns_21_11 {N : Nat}  {σ : St} {v : Unit} {w : St} (h : o_X7_readTowns_21_11 N  σ = some (v, w)) : Fm [11, 21] σ w := by
  unfold o_X7_readTowns_21_11 at h
  obtain ⟨σ1, e9, h⟩ := bt_elim h
  have f_σ1 : Fm [11, 21] σ σ1 := (Fm.rf).tr (by rw [e9]; exact Fm.st (by decide))
  obtain ⟨x2, σ3, g4, h⟩ := bd_elim h
  have f_σ3 : Fm [11, 21] σ σ3 := (f_σ1).tr ((fr_X7_number g4).mono rfl)
  obtain ⟨x5, σ6, g7, h⟩ := bd_elim h
  have f_σ6 : Fm [11, 21] σ σ6 := (f_σ3).tr ((fr_X7_isEnd g7).mono rfl)
  rcases ite_elim h with h | h
  · obtain ⟨-, h⟩ := oeq h
    rw [← h]
    exact f_σ6
  · obtain ⟨σ9, e9, h⟩ := bt_elim h
    have f_σ9 : Fm [11, 21] σ σ9 := (f_σ6).tr (by rw [e9]; exact Fm.st (by decide))
    obtain ⟨-, h⟩ := oeq h
    rw [← h]
    exact f_σ9
theorem frj_X7_readWinter_21_11_50 (N : Nat) (v2 : Int32) (v3 : Int32) (v4 : Int32) (σ : St) (v : Unit) (w : St) (h : j_X7_readWinter_21_11_50 N v2 v3 v4 σ = some (v, w)) : Fm [11, 21] σ w := by
  unfold j_X7_readWinter_21_11_50 at h
  obtain ⟨x1, σ2, g3, h⟩ := bd_elim h
  have f_σ2 : Fm [11, 21] σ σ2 := (Fm.rf).tr ((fr_X7_isEnd g3).mono rfl)
  rcases ite_elim h with h | h
  · obtain ⟨-, h⟩ := oeq h
    rw [← h]
    exact f_σ2
  · obtain ⟨σ5, e9, h⟩ := bt_elim h
    have f_σ5 : Fm [11, 21] σ σ5 := (f_σ2).tr (by rw [e9]; exact Fm.st (by decide))
    obtain ⟨σ6, e9, h⟩ := bt_elim h
    have f_σ6 : Fm [11, 21] σ σ6 := (f_σ5).tr (by rw [e9]; exact Fm.st (by decide))
    obtain ⟨σ7, e9, h⟩ := bt_elim h
    have f_σ7 : Fm [11, 21] σ σ7 := (f_σ6).tr (by rw [e9]; exact Fm.st (by decide))
    obtain ⟨-, h⟩ := oeq h
    rw [← h]
    exact f_σ7
theorem fr_X7_readWinter_21_11 {N : Nat}  {σ : St} {v : Unit} {w : St} (h : o_X7_readWinter_21_11 N  σ = some (v, w)) : Fm [11, 21] σ w := by
  unfold o_X7_readWinter_21_11 at h
  obtain ⟨σ1, e9, h⟩ := bt_elim h
  have f_σ1 : Fm [11, 21] σ σ1 := (Fm.rf).tr (by rw [e9]; exact Fm.st (by decide))
  obtain ⟨x2, σ3, g4, h⟩ := bd_elim h
  have f_σ3 : Fm [11, 21] σ σ3 := (f_σ1).tr ((fr_X7_number g4).mono rfl)
  obtain ⟨x5, σ6, g7, h⟩ := bd_elim h
  have f_σ6 : Fm [11, 21] σ σ6 := (f_σ3).tr ((fr_X7_number g7).mono rfl)
  obtain ⟨x8, σ9, g10, h⟩ := bd_elim h
  have f_σ9 : Fm [11, 21] σ σ9 := (f_σ6).tr ((fr_X7_number g10).mono rfl)
  rcases ite_elim h with h | h
  · exact (f_σ9).tr (frj_X7_readWinter_21_11_50 N _ _ _ _ _ _ h)
  · obtain ⟨σ12, e9, h⟩ := bt_elim h
    have f_σ12 : Fm [11, 21] σ σ12 := (f_σ9).tr (by rw [e9]; exact (fr_X7_blame _ _ _ _ rfl).mono rfl)
    exact (f_σ12).tr (frj_X7_readWinter_21_11_50 N _ _ _ _ _ _ h)
theorem frj_X7_readClause_21_11_35 (N : Nat) (v2 : Int32) (σ : St) (v : Unit) (w : St) (h : j_X7_readClause_21_11_35 N v2 σ = some (v, w)) : Fm [11, 12, 13, 14, 15, 16, 17, 18, 19, 20, 21] σ w := by
  unfold j_X7_readClause_21_11_35 at h
  rcases ite_elim h with h | h
  · rcases ite_elim h with h | h
    · obtain ⟨u3, σ4, g5, h⟩ := bd_elim h
      have f_σ4 : Fm [11, 12, 13, 14, 15, 16, 17, 18, 19, 20, 21] σ σ4 := (Fm.rf).tr ((fr_X7_readKeeper_21_11 g5).mono rfl)
      obtain ⟨-, h⟩ := oeq h
      rw [← h]
      exact f_σ4
    · rcases ite_elim h with h | h
      · obtain ⟨u7, σ8, g9, h⟩ := bd_elim h
        have f_σ8 : Fm [11, 12, 13, 14, 15, 16, 17, 18, 19, 20, 21] σ σ8 := (Fm.rf).tr ((fr_X7_readPromise_21_11 g9).mono rfl)
        obtain ⟨-, h⟩ := oeq h
        rw [← h]
        exact f_σ8
      · rcases ite_elim h with h | h
        · obtain ⟨u11, σ12, g13, h⟩ := bd_elim h
          have f_σ12 : Fm [11, 12, 13, 14, 15, 16, 17, 18, 19, 20, 21] σ σ12 := (Fm.rf).tr ((fr_X7_readRoad_21_11 g13).mono rfl)
          obtain ⟨-, h⟩ := oeq h
          rw [← h]
          exact f_σ12
        · rcases ite_elim h with h | h
          · obtain ⟨u15, σ16, g17, h⟩ := bd_elim h
            have f_σ16 : Fm [11, 12, 13, 14, 15, 16, 17, 18, 19, 20, 21] σ σ16 := (Fm.rf).tr ((fr_X7_readTowns_21_11 g17).mono rfl)
            obtain ⟨-, h⟩ := oeq h
            rw [← h]
            exact f_σ16
          · rcases ite_elim h with h | h
            · obtain ⟨u19, σ20, g21, h⟩ := bd_elim h
              have f_σ20 : Fm [11, 12, 13, 14, 15, 16, 17, 18, 19, 20, 21] σ σ20 := (Fm.rf).tr ((fr_X7_readWinter_21_11 g21).mono rfl)
              obtain ⟨-, h⟩ := oeq h
              rw [← h]
              exact f_σ20
            · obtain ⟨σ22, e9, h⟩ := bt_elim h
              have f_σ22 : Fm [11, 12, 13, 14, 15, 16, 17, 18, 19, 20, 21] σ σ22 := (Fm.rf).tr (by rw [e9]; exact (fr_X7_blame _ _ _ _ rfl).mono rfl)
              obtain ⟨-, h⟩ := oeq h
              rw [← h]
              exact f_σ22
  · obtain ⟨σ23, e9, h⟩ := bt_elim h
    have f_σ23 : Fm [11, 12, 13, 14, 15, 16, 17, 18, 19, 20, 21] σ σ23 := (Fm.rf).tr (by rw [e9]; exact (fr_X7_blame _ _ _ _ rfl).mono rfl)
    obtain ⟨-, h⟩ := oeq h
    rw [← h]
    exact f_σ23
theorem fr_X7_readClause_21_11 {N : Nat}  {σ : St} {v : Unit} {w : St} (h : o_X7_readClause_21_11 N  σ = some (v, w)) : Fm [11, 12, 13, 14, 15, 16, 17, 18, 19, 20, 21] σ w := by
  unfold o_X7_readClause_21_11 at h
  obtain ⟨_, -, h⟩ := bt_elim h
  rcases ite_elim h with h | h
  · rcases ite_elim h with h | h
    · exact (Fm.rf).tr (frj_X7_readClause_21_11_35 N _ _ _ _ h)
    · obtain ⟨σ4, e9, h⟩ := bt_elim h
      have f_σ4 : Fm [11, 12, 13, 14, 15, 16, 17, 18, 19, 20, 21] σ σ4 := (Fm.rf).tr (by rw [e9]; exact (fr_X7_blame _ _ _ _ rfl).mono rfl)
      obtain ⟨-, h⟩ := oeq h
      rw [← h]
      exact f_σ4
  · exact (Fm.rf).tr (frj_X7_readClause_21_11_35 N _ _ _ _ h)
theorem frj_X5_joinRoads_11_72 (N : Nat) (K_2 : Int32 → St → Option (Unit × St)) (K_9 : Int32 → Int32 → St → Option (Unit × St)) (K_16 : Int32 → Int32 → Int32 → St → Option (Unit × St)) (hK_2 : ∀ (v1 : Int32) (σ : St) (v : Unit) (w : St), K_2 v1 σ = some (v, w) → Fm [20] σ w) (hK_9 : ∀ (v1 : Int32) (v2 : Int32) (σ : St) (v : Unit) (w : St), K_9 v1 v2 σ = some (v, w) → Fm [20] σ w) (hK_16 : ∀ (v1 : Int32) (v2 : Int32) (v3 : Int32) (σ : St) (v : Unit) (w : St), K_16 v1 v2 v3 σ = some (v, w) → Fm [20] σ w) (v1 : Int32) (v2 : Int32) (v3 : Int32) (σ : St) (v : Unit) (w : St) (h : j_X5_joinRoads_11_72 N K_2 K_9 K_16 v1 v2 v3 σ = some (v, w)) : Fm [20] σ w := by
  unfold j_X5_joinRoads_11_72 at h
  obtain ⟨_, -, h⟩ := bt_elim h
  exact (Fm.rf).tr (hK_16 _ _ _ _ _ _ h)
theorem frl_X5_joinRoads_11_16 (N : Nat) (K_2 : Int32 → St → Option (Unit × St)) (K_9 : Int32 → Int32 → St → Option (Unit × St)) (hK_2 : ∀ (v1 : Int32) (σ : St) (v : Unit) (w : St), K_2 v1 σ = some (v, w) → Fm [20] σ w) (hK_9 : ∀ (v1 : Int32) (v2 : Int32) (σ : St) (v : Unit) (w : St), K_9 v1 v2 σ = some (v, w) → Fm [20] σ w) : ∀ (n : Nat) (v1 : Int32) (v2 : Int32) (v3 : Int32) (σ : St) (v : Unit) (w : St), l_X5_joinRoads_11_16 N K_2 K_9 n v1 v2 v3 σ = some (v, w) → Fm [20] σ w := by
  intro n
  induction n with
  | zero =>
    intro v1 v2 v3 σ v w h
    rw [l_X5_joinRoads_11_16] at h
    cases h
  | succ n ih =>
    intro v1 v2 v3 σ v w h
    rw [l_X5_joinRoads_11_16] at h
    rcases ite_elim h with h | h
    · obtain ⟨_, -, h⟩ := bt_elim h
      exact (Fm.rf).tr (hK_9 _ _ _ _ _ h)
    · obtain ⟨_, -, h⟩ := bt_elim h
      obtain ⟨_, -, h⟩ := bt_elim h
      rcases ite_elim h with h | h
      · exact (Fm.rf).tr (frj_X5_joinRoads_11_72 N K_2 K_9 (l_X5_joinRoads_11_16 N K_2 K_9 n) hK_2 hK_9 ih _ _ _ _ _ _ h)
      · rcases ite_elim h with h | h
        · exact (Fm.rf).tr (frj_X5_joinRoads_11_72 N K_2 K_9 (l_X5_joinRoads_11_16 N K_2 K_9 n) hK_2 hK_9 ih _ _ _ _ _ _ h)
        · obtain ⟨σ7, e9, h⟩ := bt_elim h
          have f_σ7 : Fm [20] σ σ7 := (Fm.rf).tr (by rw [e9]; exact (fr_X5_shorten_11 _ _ _ _ _ rfl).mono rfl)
          exact (f_σ7).tr (frj_X5_joinRoads_11_72 N K_2 K_9 (l_X5_joinRoads_11_16 N K_2 K_9 n) hK_2 hK_9 ih _ _ _ _ _ _ h)
theorem frl_X5_joinRoads_11_9 (N : Nat) (K_2 : Int32 → St → Option (Unit × St)) (hK_2 : ∀ (v1 : Int32) (σ : St) (v : Unit) (w : St), K_2 v1 σ = some (v, w) → Fm [20] σ w) : ∀ (n : Nat) (v1 : Int32) (v2 : Int32) (σ : St) (v : Unit) (w : St), l_X5_joinRoads_11_9 N K_2 n v1 v2 σ = some (v, w) → Fm [20] σ w := by
  intro n
  induction n with
  | zero =>
    intro v1 v2 σ v w h
    rw [l_X5_joinRoads_11_9] at h
    cases h
  | succ n ih =>
    intro v1 v2 σ v w h
    rw [l_X5_joinRoads_11_9] at h
    rcases ite_elim h with h | h
    · obtain ⟨_, -, h⟩ := bt_elim h
      exact (Fm.rf).tr (hK_2 _ _ _ _ h)
    · exact (Fm.rf).tr (frl_X5_joinRoads_11_16 N K_2 (l_X5_joinRoads_11_9 N K_2 n) hK_2 ih N _ _ _ _ _ _ h)
theorem frl_X5_joinRoads_11_2 (N : Nat) : ∀ (n : Nat) (v1 : Int32) (σ : St) (v : Unit) (w : St), l_X5_joinRoads_11_2 N n v1 σ = some (v, w) → Fm [20] σ w := by
  intro n
  induction n with
  | zero =>
    intro v1 σ v w h
    rw [l_X5_joinRoads_11_2] at h
    cases h
  | succ n ih =>
    intro v1 σ v w h
    rw [l_X5_joinRoads_11_2] at h
    rcases ite_elim h with h | h
    · obtain ⟨-, h⟩ := oeq h
      rw [← h]
      exact Fm.rf
    · exact (Fm.rf).tr (frl_X5_joinRoads_11_9 N (l_X5_joinRoads_11_2 N n) ih N _ _ _ _ _ h)
theorem fr_X5_joinRoads_11 {N : Nat}  {σ : St} {v : Unit} {w : St} (h : o_X5_joinRoads_11 N  σ = some (v, w)) : Fm [20] σ w := by
  unfold o_X5_joinRoads_11 at h
  exact (Fm.rf).tr (frl_X5_joinRoads_11_2 N N _ _ _ _ h)
theorem frj_X7_readInto_21_11_65 (N : Nat)  (σ : St) (v : Int32) (w : St) (h : j_X7_readInto_21_11_65 N  σ = some (v, w)) : Fm [11, 12, 13, 14, 15, 16, 17, 18, 19, 20, 21] σ w := by
  unfold j_X7_readInto_21_11_65 at h
  obtain ⟨u1, σ2, g3, h⟩ := bd_elim h
  have f_σ2 : Fm [11, 12, 13, 14, 15, 16, 17, 18, 19, 20, 21] σ σ2 := (Fm.rf).tr ((fr_X5_joinRoads_11 g3).mono rfl)
  obtain ⟨-, h⟩ := oeq h
  rw [← h]
  exact f_σ2
theorem frl_X7_readInto_21_11_25 (N : Nat) : ∀ (n : Nat) (v2 : Int32) (σ : St) (v : Int32) (w : St), l_X7_readInto_21_11_25 N n v2 σ = some (v, w) → Fm [11, 12, 13, 14, 15, 16, 17, 18, 19, 20, 21] σ w := by
  intro n
  induction n with
  | zero =>
    intro v2 σ v w h
    rw [l_X7_readInto_21_11_25] at h
    cases h
  | succ n ih =>
    intro v2 σ v w h
    rw [l_X7_readInto_21_11_25] at h
    rcases ite_elim h with h | h
    · exact (Fm.rf).tr (frj_X7_readInto_21_11_65 N _ _ _ h)
    · rcases ite_elim h with h | h
      · rcases ite_elim h with h | h
        · exact (Fm.rf).tr (frj_X7_readInto_21_11_65 N _ _ _ h)
        · obtain ⟨u4, σ5, g6, h⟩ := bd_elim h
          have f_σ5 : Fm [11, 12, 13, 14, 15, 16, 17, 18, 19, 20, 21] σ σ5 := (Fm.rf).tr ((fr_X7_readClause_21_11 g6).mono rfl)
          obtain ⟨u7, σ8, g9, h⟩ := bd_elim h
          have f_σ8 : Fm [11, 12, 13, 14, 15, 16, 17, 18, 19, 20, 21] σ σ8 := (f_σ5).tr ((fr_X7_skipBlanks g9).mono rfl)
          obtain ⟨_, -, h⟩ := bt_elim h
          exact (f_σ8).tr (ih _ _ _ _ h)
      · exact (Fm.rf).tr (frj_X7_readInto_21_11_65 N _ _ _ h)
theorem fr_X7_readInto_21_11 {N : Nat}  {σ : St} {v : Int32} {w : St} (h : o_X7_readInto_21_11 N  σ = some (v, w)) : Fm [11, 12, 13, 14, 15, 16, 17, 18, 19, 20, 21] σ w := by
  unfold o_X7_readInto_21_11 at h
  obtain ⟨σ1, e9, h⟩ := bt_elim h
  have f_σ1 : Fm [11, 12, 13, 14, 15, 16, 17, 18, 19, 20, 21] σ σ1 := (Fm.rf).tr (by rw [e9]; exact Fm.st (by decide))
  obtain ⟨σ2, e9, h⟩ := bt_elim h
  have f_σ2 : Fm [11, 12, 13, 14, 15, 16, 17, 18, 19, 20, 21] σ σ2 := (f_σ1).tr (by rw [e9]; exact Fm.st (by decide))
  obtain ⟨σ3, e9, h⟩ := bt_elim h
  have f_σ3 : Fm [11, 12, 13, 14, 15, 16, 17, 18, 19, 20, 21] σ σ3 := (f_σ2).tr (by rw [e9]; exact Fm.st (by decide))
  obtain ⟨u4, σ5, g6, h⟩ := bd_elim h
  have f_σ5 : Fm [11, 12, 13, 14, 15, 16, 17, 18, 19, 20, 21] σ σ5 := (f_σ3).tr ((fr_X5_clear_11 g6).mono rfl)
  obtain ⟨u7, σ8, g9, h⟩ := bd_elim h
  have f_σ8 : Fm [11, 12, 13, 14, 15, 16, 17, 18, 19, 20, 21] σ σ8 := (f_σ5).tr ((fr_X7_skipBlanks g9).mono rfl)
  exact (f_σ8).tr (frl_X7_readInto_21_11_25 N N _ _ _ _ h)
theorem frj_X5_clear_1_65 (N : Nat) (K_37 : Int32 → St → Option (Unit × St)) (hK_37 : ∀ (v1 : Int32) (σ : St) (v : Unit) (w : St), K_37 v1 σ = some (v, w) → Fm [1, 10] σ w) (v1 : Int32) (s1 : Int32) (s2 : Int32) (σ : St) (v : Unit) (w : St) (h : j_X5_clear_1_65 N K_37 v1 s1 s2 σ = some (v, w)) : Fm [1, 10] σ w := by
  unfold j_X5_clear_1_65 at h
  obtain ⟨-, h⟩ := ckA_elim h
  obtain ⟨σ2, e9, h⟩ := bt_elim h
  have f_σ2 : Fm [1, 10] σ σ2 := (Fm.rf).tr (by rw [e9]; exact Fm.st (by decide))
  obtain ⟨_, -, h⟩ := bt_elim h
  exact (f_σ2).tr (hK_37 _ _ _ _ h)
theorem frl_X5_clear_1_37 (N : Nat) : ∀ (n : Nat) (v1 : Int32) (σ : St) (v : Unit) (w : St), l_X5_clear_1_37 N n v1 σ = some (v, w) → Fm [1, 10] σ w := by
  intro n
  induction n with
  | zero =>
    intro v1 σ v w h
    rw [l_X5_clear_1_37] at h
    cases h
  | succ n ih =>
    intro v1 σ v w h
    rw [l_X5_clear_1_37] at h
    rcases ite_elim h with h | h
    · obtain ⟨-, h⟩ := oeq h
      rw [← h]
      exact Fm.rf
    · rcases ite_elim h with h | h
      · exact (Fm.rf).tr (frj_X5_clear_1_65 N (l_X5_clear_1_37 N n) ih _ _ _ _ _ _ h)
      · exact (Fm.rf).tr (frj_X5_clear_1_65 N (l_X5_clear_1_37 N n) ih _ _ _ _ _ _ h)
theorem fr_X5_clear_1 {N : Nat}  {σ : St} {v : Unit} {w : St} (h : o_X5_clear_1 N  σ = some (v, w)) : Fm [1, 10] σ w := by
  unfold o_X5_clear_1 at h
  obtain ⟨σ1, e9, h⟩ := bt_elim h
  have f_σ1 : Fm [1, 10] σ σ1 := (Fm.rf).tr (by rw [e9]; exact Fm.st (by decide))
  obtain ⟨σ2, e9, h⟩ := bt_elim h
  have f_σ2 : Fm [1, 10] σ σ2 := (f_σ1).tr (by rw [e9]; exact Fm.st (by decide))
  obtain ⟨σ3, e9, h⟩ := bt_elim h
  have f_σ3 : Fm [1, 10] σ σ3 := (f_σ2).tr (by rw [e9]; exact Fm.st (by decide))
  obtain ⟨σ4, e9, h⟩ := bt_elim h
  have f_σ4 : Fm [1, 10] σ σ4 := (f_σ3).tr (by rw [e9]; exact Fm.st (by decide))
  obtain ⟨σ5, e9, h⟩ := bt_elim h
  have f_σ5 : Fm [1, 10] σ σ5 := (f_σ4).tr (by rw [e9]; exact Fm.st (by decide))
  obtain ⟨σ6, e9, h⟩ := bt_elim h
  have f_σ6 : Fm [1, 10] σ σ6 := (f_σ5).tr (by rw [e9]; exact Fm.st (by decide))
  obtain ⟨σ7, e9, h⟩ := bt_elim h
  have f_σ7 : Fm [1, 10] σ σ7 := (f_σ6).tr (by rw [e9]; exact Fm.st (by decide))
  exact (f_σ7).tr (frl_X5_clear_1_37 N N _ _ _ _ h)
theorem fr_X7_readKeeper_21_1 {N : Nat}  {σ : St} {v : Unit} {w : St} (h : o_X7_readKeeper_21_1 N  σ = some (v, w)) : Fm [1, 2, 3, 21] σ w := by
  unfold o_X7_readKeeper_21_1 at h
  obtain ⟨σ1, e9, h⟩ := bt_elim h
  have f_σ1 : Fm [1, 2, 3, 21] σ σ1 := (Fm.rf).tr (by rw [e9]; exact Fm.st (by decide))
  obtain ⟨x2, σ3, g4, h⟩ := bd_elim h
  have f_σ3 : Fm [1, 2, 3, 21] σ σ3 := (f_σ1).tr ((fr_X7_number g4).mono rfl)
  obtain ⟨x5, σ6, g7, h⟩ := bd_elim h
  have f_σ6 : Fm [1, 2, 3, 21] σ σ6 := (f_σ3).tr ((fr_X7_number g7).mono rfl)
  obtain ⟨x8, σ9, g10, h⟩ := bd_elim h
  have f_σ9 : Fm [1, 2, 3, 21] σ σ9 := (f_σ6).tr ((fr_X7_isEnd g10).mono rfl)
  rcases ite_elim h with h | h
  · obtain ⟨-, h⟩ := oeq h
    rw [← h]
    exact f_σ9
  · obtain ⟨σ12, e9, h⟩ := bt_elim h
    have f_σ12 : Fm [1, 2, 3, 21] σ σ12 := (f_σ9).tr (by rw [e9]; exact Fm.put (by decide))
    obtain ⟨σ13, e9, h⟩ := bt_elim h
    have f_σ13 : Fm [1, 2, 3, 21] σ σ13 := (f_σ12).tr (by rw [e9]; exact Fm.put (by decide))
    obtain ⟨σ14, e9, h⟩ := bt_elim h
    have f_σ14 : Fm [1, 2, 3, 21] σ σ14 := (f_σ13).tr (by rw [e9]; exact Fm.st (by decide))
    obtain ⟨-, h⟩ := oeq h
    rw [← h]
    exact f_σ14
theorem frj_X7_readPromise_21_1_180 (N : Nat) (s1 : Int32) (s2 : Int32) (σ : St) (v : Unit) (w : St) (h : j_X7_readPromise_21_1_180 N s1 s2 σ = some (v, w)) : Fm [1, 4, 5, 6, 7, 8, 9, 21] σ w := by
  unfold j_X7_readPromise_21_1_180 at h
  obtain ⟨σ1, e9, h⟩ := bt_elim h
  have f_σ1 : Fm [1, 4, 5, 6, 7, 8, 9, 21] σ σ1 := (Fm.rf).tr (by rw [e9]; exact Fm.put (by decide))
  obtain ⟨σ2, e9, h⟩ := bt_elim h
  have f_σ2 : Fm [1, 4, 5, 6, 7, 8, 9, 21] σ σ2 := (f_σ1).tr (by rw [e9]; exact Fm.st (by decide))
  obtain ⟨-, h⟩ := oeq h
  rw [← h]
  exact f_σ2
theorem frj_X7_readPromise_21_1_95 (N : Nat) (v2 : Int32) (v3 : Int32) (v4 : Int32) (v5 : Int32) (v6 : Int32) (v7 : Int32) (σ : St) (v : Unit) (w : St) (h : j_X7_readPromise_21_1_95 N v2 v3 v4 v5 v6 v7 σ = some (v, w)) : Fm [1, 4, 5, 6, 7, 8, 9, 21] σ w := by
  unfold j_X7_readPromise_21_1_95 at h
  obtain ⟨x1, σ2, g3, h⟩ := bd_elim h
  have f_σ2 : Fm [1, 4, 5, 6, 7, 8, 9, 21] σ σ2 := (Fm.rf).tr ((fr_X7_isEnd g3).mono rfl)
  rcases ite_elim h with h | h
  · obtain ⟨-, h⟩ := oeq h
    rw [← h]
    exact f_σ2
  · obtain ⟨_, -, h⟩ := bt_elim h
    obtain ⟨σ6, e9, h⟩ := bt_elim h
    have f_σ6 : Fm [1, 4, 5, 6, 7, 8, 9, 21] σ σ6 := (f_σ2).tr (by rw [e9]; exact Fm.put (by decide))
    obtain ⟨σ7, e9, h⟩ := bt_elim h
    have f_σ7 : Fm [1, 4, 5, 6, 7, 8, 9, 21] σ σ7 := (f_σ6).tr (by rw [e9]; exact Fm.put (by decide))
    obtain ⟨σ8, e9, h⟩ := bt_elim h
    have f_σ8 : Fm [1, 4, 5, 6, 7, 8, 9, 21] σ σ8 := (f_σ7).tr (by rw [e9]; exact Fm.put (by decide))
    obtain ⟨σ9, e9, h⟩ := bt_elim h
    have f_σ9 : Fm [1, 4, 5, 6, 7, 8, 9, 21] σ σ9 := (f_σ8).tr (by rw [e9]; exact Fm.put (by decide))
    obtain ⟨σ10, e9, h⟩ := bt_elim h
    have f_σ10 : Fm [1, 4, 5, 6, 7, 8, 9, 21] σ σ10 := (f_σ9).tr (by rw [e9]; exact Fm.put (by decide))
    rcases ite_elim h with h | h
    · exact (f_σ10).tr (frj_X7_readPromise_21_1_180 N _ _ _ _ _ h)
    · exact (f_σ10).tr (frj_X7_readPromise_21_1_180 N _ _ _ _ _ h)
theorem fr_X7_readPromise_21_1 {N : Nat}  {σ : St} {v : Unit} {w : St} (h : o_X7_readPromise_21_1 N  σ = some (v, w)) : Fm [1, 4, 5, 6, 7, 8, 9, 21] σ w := by
  unfold o_X7_readPromise_21_1 at h
  obtain ⟨σ1, e9, h⟩ := bt_elim h
  have f_σ1 : Fm [1, 4, 5, 6, 7, 8, 9, 21] σ σ1 := (Fm.rf).tr (by rw [e9]; exact Fm.st (by decide))
  obtain ⟨x2, σ3, g4, h⟩ := bd_elim h
  have f_σ3 : Fm [1, 4, 5, 6, 7, 8, 9, 21] σ σ3 := (f_σ1).tr ((fr_X7_number g4).mono rfl)
  obtain ⟨x5, σ6, g7, h⟩ := bd_elim h
  have f_σ6 : Fm [1, 4, 5, 6, 7, 8, 9, 21] σ σ6 := (f_σ3).tr ((fr_X7_number g7).mono rfl)
  obtain ⟨x8, σ9, g10, h⟩ := bd_elim h
  have f_σ9 : Fm [1, 4, 5, 6, 7, 8, 9, 21] σ σ9 := (f_σ6).tr ((fr_X7_number g10).mono rfl)
  obtain ⟨x11, σ12, g13, h⟩ := bd_elim h
  have f_σ12 : Fm [1, 4, 5, 6, 7, 8, 9, 21] σ σ12 := (f_σ9).tr ((fr_X7_number g13).mono rfl)
  obtain ⟨x14, σ15, g16, h⟩ := bd_elim h
  have f_σ15 : Fm [1, 4, 5, 6, 7, 8, 9, 21] σ σ15 := (f_σ12).tr ((fr_X7_number g16).mono rfl)
  obtain ⟨x17, σ18, g19, h⟩ := bd_elim h
  have f_σ18 : Fm [1, 4, 5, 6, 7, 8, 9, 21] σ σ18 := (f_σ15).tr ((fr_X7_number g19).mono rfl)
  rcases ite_elim h with h | h
  · exact (f_σ18).tr (frj_X7_readPromise_21_1_95 N _ _ _ _ _ _ _ _ _ h)
  · rcases ite_elim h with h | h
    · exact (f_σ18).tr (frj_X7_readPromise_21_1_95 N _ _ _ _ _ _ _ _ _ h)
    · obtain ⟨σ22, e9, h⟩ := bt_elim h
      have f_σ22 : Fm [1, 4, 5, 6, 7, 8, 9, 21] σ σ22 := (f_σ18).tr (by rw [e9]; exact (fr_X7_blame _ _ _ _ rfl).mono rfl)
      exact (f_σ22).tr (frj_X7_readPromise_21_1_95 N _ _ _ _ _ _ _ _ _ h)
theorem frj_X5_shorten_1_26 (v1 : Int32) (v2 : Int32) (v3 : Int32) (σ : St) (q : St) (h : j_X5_shorten_1_26 v1 v2 v3 σ = q) : Fm [10] σ q := by
  unfold j_X5_shorten_1_26 at h
  obtain ⟨σ1, e9, h⟩ := bt_elim h
  have f_σ1 : Fm [10] σ σ1 := (Fm.rf).tr (by rw [e9]; exact Fm.put (by decide))
  rw [← h]
  exact f_σ1
theorem fr_X5_shorten_1 (a1 : Int32) (a2 : Int32) (a3 : Int32) (σ : St) (q : St) (h : t_X5_shorten_1 a1 a2 a3 σ = q) : Fm [10] σ q := by
  unfold t_X5_shorten_1 at h
  obtain ⟨_, -, h⟩ := bt_elim h
  rcases ite_elim h with h | h
  · exact (Fm.rf).tr (frj_X5_shorten_1_26 _ _ _ _ _ h)
  · rcases ite_elim h with h | h
    · rw [← h]
      exact Fm.rf
    · exact (Fm.rf).tr (frj_X5_shorten_1_26 _ _ _ _ _ h)
theorem fr_X5_addRoad_1 (a1 : Int32) (a2 : Int32) (a3 : Int32) (σ : St) (q : St) (h : t_X5_addRoad_1 a1 a2 a3 σ = q) : Fm [1, 10] σ q := by
  unfold t_X5_addRoad_1 at h
  obtain ⟨σ1, e9, h⟩ := bt_elim h
  have f_σ1 : Fm [1, 10] σ σ1 := (Fm.rf).tr (by rw [e9]; exact Fm.st (by decide))
  obtain ⟨σ2, e9, h⟩ := bt_elim h
  have f_σ2 : Fm [1, 10] σ σ2 := (f_σ1).tr (by rw [e9]; exact (fr_X5_shorten_1 _ _ _ _ _ rfl).mono rfl)
  obtain ⟨σ3, e9, h⟩ := bt_elim h
  have f_σ3 : Fm [1, 10] σ σ3 := (f_σ2).tr (by rw [e9]; exact (fr_X5_shorten_1 _ _ _ _ _ rfl).mono rfl)
  rw [← h]
  exact f_σ3
theorem frj_X7_readRoad_21_1_48 (N : Nat) (v2 : Int32) (v3 : Int32) (σ : St) (v : Unit) (w : St) (h : j_X7_readRoad_21_1_48 N v2 v3 σ = some (v, w)) : Fm [1, 10, 21] σ w := by
  unfold j_X7_readRoad_21_1_48 at h
  obtain ⟨x1, σ2, g3, h⟩ := bd_elim h
  have f_σ2 : Fm [1, 10, 21] σ σ2 := (Fm.rf).tr ((fr_X7_number g3).mono rfl)
  obtain ⟨x4, σ5, g6, h⟩ := bd_elim h
  have f_σ5 : Fm [1, 10, 21] σ σ5 := (f_σ2).tr ((fr_X7_isEnd g6).mono rfl)
  rcases ite_elim h with h | h
  · obtain ⟨-, h⟩ := oeq h
    rw [← h]
    exact f_σ5
  · obtain ⟨σ8, e9, h⟩ := bt_elim h
    have f_σ8 : Fm [1, 10, 21] σ σ8 := (f_σ5).tr (by rw [e9]; exact (fr_X5_addRoad_1 _ _ _ _ _ rfl).mono rfl)
    obtain ⟨-, h⟩ := oeq h
    rw [← h]
    exact f_σ8
theorem fr_X7_readRoad_21_1 {N : Nat}  {σ : St} {v : Unit} {w : St} (h : o_X7_readRoad_21_1 N  σ = some (v, w)) : Fm [1, 10, 21] σ w := by
  unfold o_X7_readRoad_21_1 at h
  obtain ⟨σ1, e9, h⟩ := bt_elim h
  have f_σ1 : Fm [1, 10, 21] σ σ1 := (Fm.rf).tr (by rw [e9]; exact Fm.st (by decide))
  obtain ⟨x2, σ3, g4, h⟩ := bd_elim h
  have f_σ3 : Fm [1, 10, 21] σ σ3 := (f_σ1).tr ((fr_X7_number g4).mono rfl)
  obtain ⟨x5, σ6, g7, h⟩ := bd_elim h
  have f_σ6 : Fm [1, 10, 21] σ σ6 := (f_σ3).tr ((fr_X7_number g7).mono rfl)
  rcases ite_elim h with h | h
  · obtain ⟨σ9, e9, h⟩ := bt_elim h
    have f_σ9 : Fm [1, 10, 21] σ σ9 := (f_σ6).tr (by rw [e9]; exact (fr_X7_blame _ _ _ _ rfl).mono rfl)
    exact (f_σ9).tr (frj_X7_readRoad_21_1_48 N _ _ _ _ _ h)
  · exact (f_σ6).tr (frj_X7_readRoad_21_1_48 N _ _ _ _ _ h)
theorem fr_X7_readTowns_21_1 {N : Nat}  {σ : St} {v : Unit} {w : St} (h : o_X7_readTowns_21_1 N  σ = some (v, w)) : Fm [1, 21] σ w := by
  unfold o_X7_readTowns_21_1 at h
  obtain ⟨σ1, e9, h⟩ := bt_elim h
  have f_σ1 : Fm [1, 21] σ σ1 := (Fm.rf).tr (by rw [e9]; exact Fm.st (by decide))
  obtain ⟨x2, σ3, g4, h⟩ := bd_elim h
  have f_σ3 : Fm [1, 21] σ σ3 := (f_σ1).tr ((fr_X7_number g4).mono rfl)
  obtain ⟨x5, σ6, g7, h⟩ := bd_elim h
  have f_σ6 : Fm [1, 21] σ σ6 := (f_σ3).tr ((fr_X7_isEnd g7).mono rfl)
  rcases ite_elim h with h | h
  · obtain ⟨-, h⟩ := oeq h
    rw [← h]
    exact f_σ6
  · obtain ⟨σ9, e9, h⟩ := bt_elim h
    have f_σ9 : Fm [1, 21] σ σ9 := (f_σ6).tr (by rw [e9]; exact Fm.st (by decide))
    obtain ⟨-, h⟩ := oeq h
    rw [← h]
    exact f_σ9
theorem frj_X7_readWinter_21_1_50 (N : Nat) (v2 : Int32) (v3 : Int32) (v4 : Int32) (σ : St) (v : Unit) (w : St) (h : j_X7_readWinter_21_1_50 N v2 v3 v4 σ = some (v, w)) : Fm [1, 21] σ w := by
  unfold j_X7_readWinter_21_1_50 at h
  obtain ⟨x1, σ2, g3, h⟩ := bd_elim h
  have f_σ2 : Fm [1, 21] σ σ2 := (Fm.rf).tr ((fr_X7_isEnd g3).mono rfl)
  rcases ite_elim h with h | h
  · obtain ⟨-, h⟩ := oeq h
    rw [← h]
    exact f_σ2
  · obtain ⟨σ5, e9, h⟩ := bt_elim h
    have f_σ5 : Fm [1, 21] σ σ5 := (f_σ2).tr (by rw [e9]; exact Fm.st (by decide))
    obtain ⟨σ6, e9, h⟩ := bt_elim h
    have f_σ6 : Fm [1, 21] σ σ6 := (f_σ5).tr (by rw [e9]; exact Fm.st (by decide))
    obtain ⟨σ7, e9, h⟩ := bt_elim h
    have f_σ7 : Fm [1, 21] σ σ7 := (f_σ6).tr (by rw [e9]; exact Fm.st (by decide))
    obtain ⟨-, h⟩ := oeq h
    rw [← h]
    exact f_σ7
theorem fr_X7_readWinter_21_1 {N : Nat}  {σ : St} {v : Unit} {w : St} (h : o_X7_readWinter_21_1 N  σ = some (v, w)) : Fm [1, 21] σ w := by
  unfold o_X7_readWinter_21_1 at h
  obtain ⟨σ1, e9, h⟩ := bt_elim h
  have f_σ1 : Fm [1, 21] σ σ1 := (Fm.rf).tr (by rw [e9]; exact Fm.st (by decide))
  obtain ⟨x2, σ3, g4, h⟩ := bd_elim h
  have f_σ3 : Fm [1, 21] σ σ3 := (f_σ1).tr ((fr_X7_number g4).mono rfl)
  obtain ⟨x5, σ6, g7, h⟩ := bd_elim h
  have f_σ6 : Fm [1, 21] σ σ6 := (f_σ3).tr ((fr_X7_number g7).mono rfl)
  obtain ⟨x8, σ9, g10, h⟩ := bd_elim h
  have f_σ9 : Fm [1, 21] σ σ9 := (f_σ6).tr ((fr_X7_number g10).mono rfl)
  rcases ite_elim h with h | h
  · exact (f_σ9).tr (frj_X7_readWinter_21_1_50 N _ _ _ _ _ _ h)
  · obtain ⟨σ12, e9, h⟩ := bt_elim h
    have f_σ12 : Fm [1, 21] σ σ12 := (f_σ9).tr (by rw [e9]; exact (fr_X7_blame _ _ _ _ rfl).mono rfl)
    exact (f_σ12).tr (frj_X7_readWinter_21_1_50 N _ _ _ _ _ _ h)
theorem frj_X7_readClause_21_1_35 (N : Nat) (v2 : Int32) (σ : St) (v : Unit) (w : St) (h : j_X7_readClause_21_1_35 N v2 σ = some (v, w)) : Fm [1, 2, 3, 4, 5, 6, 7, 8, 9, 10, 21] σ w := by
  unfold j_X7_readClause_21_1_35 at h
  rcases ite_elim h with h | h
  · rcases ite_elim h with h | h
    · obtain ⟨u3, σ4, g5, h⟩ := bd_elim h
      have f_σ4 : Fm [1, 2, 3, 4, 5, 6, 7, 8, 9, 10, 21] σ σ4 := (Fm.rf).tr ((fr_X7_readKeeper_21_1 g5).mono rfl)
      obtain ⟨-, h⟩ := oeq h
      rw [← h]
      exact f_σ4
    · rcases ite_elim h with h | h
      · obtain ⟨u7, σ8, g9, h⟩ := bd_elim h
        have f_σ8 : Fm [1, 2, 3, 4, 5, 6, 7, 8, 9, 10, 21] σ σ8 := (Fm.rf).tr ((fr_X7_readPromise_21_1 g9).mono rfl)
        obtain ⟨-, h⟩ := oeq h
        rw [← h]
        exact f_σ8
      · rcases ite_elim h with h | h
        · obtain ⟨u11, σ12, g13, h⟩ := bd_elim h
          have f_σ12 : Fm [1, 2, 3, 4, 5, 6, 7, 8, 9, 10, 21] σ σ12 := (Fm.rf).tr ((fr_X7_readRoad_21_1 g13).mono rfl)
          obtain ⟨-, h⟩ := oeq h
          rw [← h]
          exact f_σ12
        · rcases ite_elim h with h | h
          · obtain ⟨u15, σ16, g17, h⟩ := bd_elim h
            have f_σ16 : Fm [1, 2, 3, 4, 5, 6, 7, 8, 9, 10, 21] σ σ16 := (Fm.rf).tr ((fr_X7_readTowns_21_1 g17).mono rfl)
            obtain ⟨-, h⟩ := oeq h
            rw [← h]
            exact f_σ16
          · rcases ite_elim h with h | h
            · obtain ⟨u19, σ20, g21, h⟩ := bd_elim h
              have f_σ20 : Fm [1, 2, 3, 4, 5, 6, 7, 8, 9, 10, 21] σ σ20 := (Fm.rf).tr ((fr_X7_readWinter_21_1 g21).mono rfl)
              obtain ⟨-, h⟩ := oeq h
              rw [← h]
              exact f_σ20
            · obtain ⟨σ22, e9, h⟩ := bt_elim h
              have f_σ22 : Fm [1, 2, 3, 4, 5, 6, 7, 8, 9, 10, 21] σ σ22 := (Fm.rf).tr (by rw [e9]; exact (fr_X7_blame _ _ _ _ rfl).mono rfl)
              obtain ⟨-, h⟩ := oeq h
              rw [← h]
              exact f_σ22
  · obtain ⟨σ23, e9, h⟩ := bt_elim h
    have f_σ23 : Fm [1, 2, 3, 4, 5, 6, 7, 8, 9, 10, 21] σ σ23 := (Fm.rf).tr (by rw [e9]; exact (fr_X7_blame _ _ _ _ rfl).mono rfl)
    obtain ⟨-, h⟩ := oeq h
    rw [← h]
    exact f_σ23
theorem fr_X7_readClause_21_1 {N : Nat}  {σ : St} {v : Unit} {w : St} (h : o_X7_readClause_21_1 N  σ = some (v, w)) : Fm [1, 2, 3, 4, 5, 6, 7, 8, 9, 10, 21] σ w := by
  unfold o_X7_readClause_21_1 at h
  obtain ⟨_, -, h⟩ := bt_elim h
  rcases ite_elim h with h | h
  · rcases ite_elim h with h | h
    · exact (Fm.rf).tr (frj_X7_readClause_21_1_35 N _ _ _ _ h)
    · obtain ⟨σ4, e9, h⟩ := bt_elim h
      have f_σ4 : Fm [1, 2, 3, 4, 5, 6, 7, 8, 9, 10, 21] σ σ4 := (Fm.rf).tr (by rw [e9]; exact (fr_X7_blame _ _ _ _ rfl).mono rfl)
      obtain ⟨-, h⟩ := oeq h
      rw [← h]
      exact f_σ4
  · exact (Fm.rf).tr (frj_X7_readClause_21_1_35 N _ _ _ _ h)
theorem frj_X5_joinRoads_1_72 (N : Nat) (K_2 : Int32 → St → Option (Unit × St)) (K_9 : Int32 → Int32 → St → Option (Unit × St)) (K_16 : Int32 → Int32 → Int32 → St → Option (Unit × St)) (hK_2 : ∀ (v1 : Int32) (σ : St) (v : Unit) (w : St), K_2 v1 σ = some (v, w) → Fm [10] σ w) (hK_9 : ∀ (v1 : Int32) (v2 : Int32) (σ : St) (v : Unit) (w : St), K_9 v1 v2 σ = some (v, w) → Fm [10] σ w) (hK_16 : ∀ (v1 : Int32) (v2 : Int32) (v3 : Int32) (σ : St) (v : Unit) (w : St), K_16 v1 v2 v3 σ = some (v, w) → Fm [10] σ w) (v1 : Int32) (v2 : Int32) (v3 : Int32) (σ : St) (v : Unit) (w : St) (h : j_X5_joinRoads_1_72 N K_2 K_9 K_16 v1 v2 v3 σ = some (v, w)) : Fm [10] σ w := by
  unfold j_X5_joinRoads_1_72 at h
  obtain ⟨_, -, h⟩ := bt_elim h
  exact (Fm.rf).tr (hK_16 _ _ _ _ _ _ h)
theorem frl_X5_joinRoads_1_16 (N : Nat) (K_2 : Int32 → St → Option (Unit × St)) (K_9 : Int32 → Int32 → St → Option (Unit × St)) (hK_2 : ∀ (v1 : Int32) (σ : St) (v : Unit) (w : St), K_2 v1 σ = some (v, w) → Fm [10] σ w) (hK_9 : ∀ (v1 : Int32) (v2 : Int32) (σ : St) (v : Unit) (w : St), K_9 v1 v2 σ = some (v, w) → Fm [10] σ w) : ∀ (n : Nat) (v1 : Int32) (v2 : Int32) (v3 : Int32) (σ : St) (v : Unit) (w : St), l_X5_joinRoads_1_16 N K_2 K_9 n v1 v2 v3 σ = some (v, w) → Fm [10] σ w := by
  intro n
  induction n with
  | zero =>
    intro v1 v2 v3 σ v w h
    rw [l_X5_joinRoads_1_16] at h
    cases h
  | succ n ih =>
    intro v1 v2 v3 σ v w h
    rw [l_X5_joinRoads_1_16] at h
    rcases ite_elim h with h | h
    · obtain ⟨_, -, h⟩ := bt_elim h
      exact (Fm.rf).tr (hK_9 _ _ _ _ _ h)
    · obtain ⟨_, -, h⟩ := bt_elim h
      obtain ⟨_, -, h⟩ := bt_elim h
      rcases ite_elim h with h | h
      · exact (Fm.rf).tr (frj_X5_joinRoads_1_72 N K_2 K_9 (l_X5_joinRoads_1_16 N K_2 K_9 n) hK_2 hK_9 ih _ _ _ _ _ _ h)
      · rcases ite_elim h with h | h
        · exact (Fm.rf).tr (frj_X5_joinRoads_1_72 N K_2 K_9 (l_X5_joinRoads_1_16 N K_2 K_9 n) hK_2 hK_9 ih _ _ _ _ _ _ h)
        · obtain ⟨σ7, e9, h⟩ := bt_elim h
          have f_σ7 : Fm [10] σ σ7 := (Fm.rf).tr (by rw [e9]; exact (fr_X5_shorten_1 _ _ _ _ _ rfl).mono rfl)
          exact (f_σ7).tr (frj_X5_joinRoads_1_72 N K_2 K_9 (l_X5_joinRoads_1_16 N K_2 K_9 n) hK_2 hK_9 ih _ _ _ _ _ _ h)
theorem frl_X5_joinRoads_1_9 (N : Nat) (K_2 : Int32 → St → Option (Unit × St)) (hK_2 : ∀ (v1 : Int32) (σ : St) (v : Unit) (w : St), K_2 v1 σ = some (v, w) → Fm [10] σ w) : ∀ (n : Nat) (v1 : Int32) (v2 : Int32) (σ : St) (v : Unit) (w : St), l_X5_joinRoads_1_9 N K_2 n v1 v2 σ = some (v, w) → Fm [10] σ w := by
  intro n
  induction n with
  | zero =>
    intro v1 v2 σ v w h
    rw [l_X5_joinRoads_1_9] at h
    cases h
  | succ n ih =>
    intro v1 v2 σ v w h
    rw [l_X5_joinRoads_1_9] at h
    rcases ite_elim h with h | h
    · obtain ⟨_, -, h⟩ := bt_elim h
      exact (Fm.rf).tr (hK_2 _ _ _ _ h)
    · exact (Fm.rf).tr (frl_X5_joinRoads_1_16 N K_2 (l_X5_joinRoads_1_9 N K_2 n) hK_2 ih N _ _ _ _ _ _ h)
theorem frl_X5_joinRoads_1_2 (N : Nat) : ∀ (n : Nat) (v1 : Int32) (σ : St) (v : Unit) (w : St), l_X5_joinRoads_1_2 N n v1 σ = some (v, w) → Fm [10] σ w := by
  intro n
  induction n with
  | zero =>
    intro v1 σ v w h
    rw [l_X5_joinRoads_1_2] at h
    cases h
  | succ n ih =>
    intro v1 σ v w h
    rw [l_X5_joinRoads_1_2] at h
    rcases ite_elim h with h | h
    · obtain ⟨-, h⟩ := oeq h
      rw [← h]
      exact Fm.rf
    · exact (Fm.rf).tr (frl_X5_joinRoads_1_9 N (l_X5_joinRoads_1_2 N n) ih N _ _ _ _ _ h)
theorem fr_X5_joinRoads_1 {N : Nat}  {σ : St} {v : Unit} {w : St} (h : o_X5_joinRoads_1 N  σ = some (v, w)) : Fm [10] σ w := by
  unfold o_X5_joinRoads_1 at h
  exact (Fm.rf).tr (frl_X5_joinRoads_1_2 N N _ _ _ _ h)
theorem frj_X7_readInto_21_1_65 (N : Nat)  (σ : St) (v : Int32) (w : St) (h : j_X7_readInto_21_1_65 N  σ = some (v, w)) : Fm [1, 2, 3, 4, 5, 6, 7, 8, 9, 10, 21] σ w := by
  unfold j_X7_readInto_21_1_65 at h
  obtain ⟨u1, σ2, g3, h⟩ := bd_elim h
  have f_σ2 : Fm [1, 2, 3, 4, 5, 6, 7, 8, 9, 10, 21] σ σ2 := (Fm.rf).tr ((fr_X5_joinRoads_1 g3).mono rfl)
  obtain ⟨-, h⟩ := oeq h
  rw [← h]
  exact f_σ2
theorem frl_X7_readInto_21_1_25 (N : Nat) : ∀ (n : Nat) (v2 : Int32) (σ : St) (v : Int32) (w : St), l_X7_readInto_21_1_25 N n v2 σ = some (v, w) → Fm [1, 2, 3, 4, 5, 6, 7, 8, 9, 10, 21] σ w := by
  intro n
  induction n with
  | zero =>
    intro v2 σ v w h
    rw [l_X7_readInto_21_1_25] at h
    cases h
  | succ n ih =>
    intro v2 σ v w h
    rw [l_X7_readInto_21_1_25] at h
    rcases ite_elim h with h | h
    · exact (Fm.rf).tr (frj_X7_readInto_21_1_65 N _ _ _ h)
    · rcases ite_elim h with h | h
      · rcases ite_elim h with h | h
        · exact (Fm.rf).tr (frj_X7_readInto_21_1_65 N _ _ _ h)
        · obtain ⟨u4, σ5, g6, h⟩ := bd_elim h
          have f_σ5 : Fm [1, 2, 3, 4, 5, 6, 7, 8, 9, 10, 21] σ σ5 := (Fm.rf).tr ((fr_X7_readClause_21_1 g6).mono rfl)
          obtain ⟨u7, σ8, g9, h⟩ := bd_elim h
          have f_σ8 : Fm [1, 2, 3, 4, 5, 6, 7, 8, 9, 10, 21] σ σ8 := (f_σ5).tr ((fr_X7_skipBlanks g9).mono rfl)
          obtain ⟨_, -, h⟩ := bt_elim h
          exact (f_σ8).tr (ih _ _ _ _ h)
      · exact (Fm.rf).tr (frj_X7_readInto_21_1_65 N _ _ _ h)
theorem fr_X7_readInto_21_1 {N : Nat}  {σ : St} {v : Int32} {w : St} (h : o_X7_readInto_21_1 N  σ = some (v, w)) : Fm [1, 2, 3, 4, 5, 6, 7, 8, 9, 10, 21] σ w := by
  unfold o_X7_readInto_21_1 at h
  obtain ⟨σ1, e9, h⟩ := bt_elim h
  have f_σ1 : Fm [1, 2, 3, 4, 5, 6, 7, 8, 9, 10, 21] σ σ1 := (Fm.rf).tr (by rw [e9]; exact Fm.st (by decide))
  obtain ⟨σ2, e9, h⟩ := bt_elim h
  have f_σ2 : Fm [1, 2, 3, 4, 5, 6, 7, 8, 9, 10, 21] σ σ2 := (f_σ1).tr (by rw [e9]; exact Fm.st (by decide))
  obtain ⟨σ3, e9, h⟩ := bt_elim h
  have f_σ3 : Fm [1, 2, 3, 4, 5, 6, 7, 8, 9, 10, 21] σ σ3 := (f_σ2).tr (by rw [e9]; exact Fm.st (by decide))
  obtain ⟨u4, σ5, g6, h⟩ := bd_elim h
  have f_σ5 : Fm [1, 2, 3, 4, 5, 6, 7, 8, 9, 10, 21] σ σ5 := (f_σ3).tr ((fr_X5_clear_1 g6).mono rfl)
  obtain ⟨u7, σ8, g9, h⟩ := bd_elim h
  have f_σ8 : Fm [1, 2, 3, 4, 5, 6, 7, 8, 9, 10, 21] σ σ8 := (f_σ5).tr ((fr_X7_skipBlanks g9).mono rfl)
  exact (f_σ8).tr (frl_X7_readInto_21_1_25 N N _ _ _ _ h)
theorem frl_X1_begin_74 (N : Nat) : ∀ (n : Nat) (v1 : Int32) (σ : St) (v : Unit) (w : St), l_X1_begin_74 N n v1 σ = some (v, w) → Fm [24] σ w := by
  intro n
  induction n with
  | zero =>
    intro v1 σ v w h
    rw [l_X1_begin_74] at h
    cases h
  | succ n ih =>
    intro v1 σ v w h
    rw [l_X1_begin_74] at h
    rcases ite_elim h with h | h
    · obtain ⟨-, h⟩ := oeq h
      rw [← h]
      exact Fm.rf
    · obtain ⟨σ2, e9, h⟩ := bt_elim h
      have f_σ2 : Fm [24] σ σ2 := (Fm.rf).tr (by rw [e9]; exact Fm.put (by decide))
      obtain ⟨_, -, h⟩ := bt_elim h
      exact (f_σ2).tr (ih _ _ _ _ h)
theorem frl_X1_begin_26 (N : Nat) : ∀ (n : Nat) (v1 : Int32) (σ : St) (v : Unit) (w : St), l_X1_begin_26 N n v1 σ = some (v, w) → Fm [24] σ w := by
  intro n
  induction n with
  | zero =>
    intro v1 σ v w h
    rw [l_X1_begin_26] at h
    cases h
  | succ n ih =>
    intro v1 σ v w h
    rw [l_X1_begin_26] at h
    rcases ite_elim h with h | h
    · exact (Fm.rf).tr (frl_X1_begin_74 N N _ _ _ _ h)
    · obtain ⟨σ2, e9, h⟩ := bt_elim h
      have f_σ2 : Fm [24] σ σ2 := (Fm.rf).tr (by rw [e9]; exact Fm.put (by decide))
      obtain ⟨σ3, e9, h⟩ := bt_elim h
      have f_σ3 : Fm [24] σ σ3 := (f_σ2).tr (by rw [e9]; exact Fm.put (by decide))
      obtain ⟨_, -, h⟩ := bt_elim h
      exact (f_σ3).tr (ih _ _ _ _ h)
theorem frl_X1_begin_2 (N : Nat) : ∀ (n : Nat) (v1 : Int32) (σ : St) (v : Unit) (w : St), l_X1_begin_2 N n v1 σ = some (v, w) → Fm [24] σ w := by
  intro n
  induction n with
  | zero =>
    intro v1 σ v w h
    rw [l_X1_begin_2] at h
    cases h
  | succ n ih =>
    intro v1 σ v w h
    rw [l_X1_begin_2] at h
    rcases ite_elim h with h | h
    · exact (Fm.rf).tr (frl_X1_begin_26 N N _ _ _ _ h)
    · obtain ⟨-, h⟩ := ckA_elim h
      obtain ⟨σ3, e9, h⟩ := bt_elim h
      have f_σ3 : Fm [24] σ σ3 := (Fm.rf).tr (by rw [e9]; exact Fm.st (by decide))
      obtain ⟨_, -, h⟩ := bt_elim h
      exact (f_σ3).tr (ih _ _ _ _ h)
theorem fr_X1_begin {N : Nat}  {σ : St} {v : Unit} {w : St} (h : o_X1_begin N  σ = some (v, w)) : Fm [24] σ w := by
  unfold o_X1_begin at h
  exact (Fm.rf).tr (frl_X1_begin_2 N N _ _ _ _ h)
theorem fr_X6_forget  (σ : St) (q : St) (h : t_X6_forget  σ = q) : Fm [25] σ q := by
  unfold t_X6_forget at h
  obtain ⟨σ1, e9, h⟩ := bt_elim h
  have f_σ1 : Fm [25] σ σ1 := (Fm.rf).tr (by rw [e9]; exact Fm.st (by decide))
  rw [← h]
  exact f_σ1
theorem fr_X4_forget  (σ : St) (q : St) (h : t_X4_forget  σ = q) : Fm [57] σ q := by
  unfold t_X4_forget at h
  obtain ⟨σ1, e9, h⟩ := bt_elim h
  have f_σ1 : Fm [57] σ σ1 := (Fm.rf).tr (by rw [e9]; exact Fm.st (by decide))
  rw [← h]
  exact f_σ1
theorem fr_X0_empty  (σ : St) (q : St) (h : t_X0_empty  σ = q) : Fm [74] σ q := by
  unfold t_X0_empty at h
  obtain ⟨σ1, e9, h⟩ := bt_elim h
  have f_σ1 : Fm [74] σ σ1 := (Fm.rf).tr (by rw [e9]; exact Fm.st (by decide))
  rw [← h]
  exact f_σ1
theorem fr_X7_empty  (σ : St) (q : St) (h : t_X7_empty  σ = q) : Fm [21] σ q := by
  unfold t_X7_empty at h
  obtain ⟨σ1, e9, h⟩ := bt_elim h
  have f_σ1 : Fm [21] σ σ1 := (Fm.rf).tr (by rw [e9]; exact Fm.st (by decide))
  rw [← h]
  exact f_σ1
theorem frj_X9_land_56 (N : Nat) (v1 : Int32) (σ : St) (v : Int32) (w : St) (h : j_X9_land_56 N v1 σ = some (v, w)) : Fm [1, 2, 3, 4, 5, 6, 7, 8, 9, 10, 11, 12, 13, 14, 15, 16, 17, 18, 19, 20, 21, 24, 25, 57, 74] σ w := by
  unfold j_X9_land_56 at h
  obtain ⟨σ1, e9, h⟩ := bt_elim h
  have f_σ1 : Fm [1, 2, 3, 4, 5, 6, 7, 8, 9, 10, 11, 12, 13, 14, 15, 16, 17, 18, 19, 20, 21, 24, 25, 57, 74] σ σ1 := (Fm.rf).tr (by rw [e9]; exact (fr_X7_empty  _ _ rfl).mono rfl)
  rcases ite_elim h with h | h
  · obtain ⟨-, h⟩ := oeq h
    rw [← h]
    exact f_σ1
  · obtain ⟨-, h⟩ := oeq h
    rw [← h]
    exact f_σ1
theorem fr_X9_land {N : Nat}  {σ : St} {v : Int32} {w : St} (h : o_X9_land N  σ = some (v, w)) : Fm [1, 2, 3, 4, 5, 6, 7, 8, 9, 10, 11, 12, 13, 14, 15, 16, 17, 18, 19, 20, 21, 24, 25, 57, 74] σ w := by
  unfold o_X9_land at h
  obtain ⟨x1, σ2, g3, h⟩ := bd_elim h
  have f_σ2 : Fm [1, 2, 3, 4, 5, 6, 7, 8, 9, 10, 11, 12, 13, 14, 15, 16, 17, 18, 19, 20, 21, 24, 25, 57, 74] σ σ2 := (Fm.rf).tr ((fr_X7_readInto_21_11 g3).mono rfl)
  rcases ite_elim h with h | h
  · obtain ⟨x5, σ6, g7, h⟩ := bd_elim h
    have f_σ6 : Fm [1, 2, 3, 4, 5, 6, 7, 8, 9, 10, 11, 12, 13, 14, 15, 16, 17, 18, 19, 20, 21, 24, 25, 57, 74] σ σ6 := (f_σ2).tr ((fr_X7_readInto_21_1 g7).mono rfl)
    obtain ⟨u8, σ9, g10, h⟩ := bd_elim h
    have f_σ9 : Fm [1, 2, 3, 4, 5, 6, 7, 8, 9, 10, 11, 12, 13, 14, 15, 16, 17, 18, 19, 20, 21, 24, 25, 57, 74] σ σ9 := (f_σ6).tr ((fr_X1_begin g10).mono rfl)
    obtain ⟨σ11, e9, h⟩ := bt_elim h
    have f_σ11 : Fm [1, 2, 3, 4, 5, 6, 7, 8, 9, 10, 11, 12, 13, 14, 15, 16, 17, 18, 19, 20, 21, 24, 25, 57, 74] σ σ11 := (f_σ9).tr (by rw [e9]; exact (fr_X6_forget  _ _ rfl).mono rfl)
    obtain ⟨σ12, e9, h⟩ := bt_elim h
    have f_σ12 : Fm [1, 2, 3, 4, 5, 6, 7, 8, 9, 10, 11, 12, 13, 14, 15, 16, 17, 18, 19, 20, 21, 24, 25, 57, 74] σ σ12 := (f_σ11).tr (by rw [e9]; exact (fr_X4_forget  _ _ rfl).mono rfl)
    obtain ⟨σ13, e9, h⟩ := bt_elim h
    have f_σ13 : Fm [1, 2, 3, 4, 5, 6, 7, 8, 9, 10, 11, 12, 13, 14, 15, 16, 17, 18, 19, 20, 21, 24, 25, 57, 74] σ σ13 := (f_σ12).tr (by rw [e9]; exact (fr_X0_empty  _ _ rfl).mono rfl)
    exact (f_σ13).tr (frj_X9_land_56 N _ _ _ _ h)
  · exact (f_σ2).tr (frj_X9_land_56 N _ _ _ _ h)
theorem frj_X10_here_38 (N : Nat)  (σ : St) (v : Int32) (w : St) (h : j_X10_here_38 N  σ = some (v, w)) : Fm [79] σ w := by
  unfold j_X10_here_38 at h
  rcases ite_elim h with h | h
  · obtain ⟨-, h⟩ := oeq h
    rw [← h]
    exact Fm.rf
  · obtain ⟨-, h⟩ := ckA_elim h
    obtain ⟨-, h⟩ := oeq h
    rw [← h]
    exact Fm.rf
theorem frl_X10_here_0 (N : Nat) : ∀ (n : Nat)  (σ : St) (v : Int32) (w : St), l_X10_here_0 N n  σ = some (v, w) → Fm [79] σ w := by
  intro n
  induction n with
  | zero =>
    intro  σ v w h
    rw [l_X10_here_0] at h
    cases h
  | succ n ih =>
    intro  σ v w h
    rw [l_X10_here_0] at h
    rcases ite_elim h with h | h
    · exact (Fm.rf).tr (frj_X10_here_38 N _ _ _ h)
    · obtain ⟨-, h⟩ := ckA_elim h
      rcases ite_elim h with h | h
      · obtain ⟨σ4, e9, h⟩ := bt_elim h
        have f_σ4 : Fm [79] σ σ4 := (Fm.rf).tr (by rw [e9]; exact Fm.st (by decide))
        exact (f_σ4).tr (ih  _ _ _ h)
      · exact (Fm.rf).tr (frj_X10_here_38 N _ _ _ h)
theorem fr_X10_here {N : Nat}  {σ : St} {v : Int32} {w : St} (h : o_X10_here N  σ = some (v, w)) : Fm [79] σ w := by
  unfold o_X10_here at h
  exact (Fm.rf).tr (frl_X10_here_0 N N _ _ _ h)
theorem frj_X10_want_21  (σ : St) (q : Int32 × St) (h : j_X10_want_21  σ = q) : Fm [79] σ q.2 := by
  unfold j_X10_want_21 at h
  rcases ite_elim h with h | h
  · rw [← h]
    exact Fm.rf
  · rw [← h]
    exact Fm.rf
theorem fr_X10_want (a1 : Int32) (a2 : Int32) (a3 : Int32) (σ : St) (q : Int32 × St) (h : t_X10_want a1 a2 a3 σ = q) : Fm [79] σ q.2 := by
  unfold t_X10_want at h
  rcases ite_elim h with h | h
  · rcases ite_elim h with h | h
    · obtain ⟨σ3, e9, h⟩ := bt_elim h
      have f_σ3 : Fm [79] σ σ3 := (Fm.rf).tr (by rw [e9]; exact Fm.st (by decide))
      obtain ⟨σ4, e9, h⟩ := bt_elim h
      have f_σ4 : Fm [79] σ σ4 := (f_σ3).tr (by rw [e9]; exact Fm.st (by decide))
      exact (f_σ4).tr (frj_X10_want_21 _ _ h)
    · exact (Fm.rf).tr (frj_X10_want_21 _ _ h)
  · exact (Fm.rf).tr (frj_X10_want_21 _ _ h)
theorem frj_X10_takeNumber_113 (N : Nat) (K_50 : Int32 → Int32 → Int32 → St → Option (Int32 × St)) (hK_50 : ∀ (v1 : Int32) (v2 : Int32) (v4 : Int32) (σ : St) (v : Int32) (w : St), K_50 v1 v2 v4 σ = some (v, w) → Fm [79] σ w) (v1 : Int32) (v2 : Int32) (s0 : Int32) (σ : St) (v : Int32) (w : St) (h : j_X10_takeNumber_113 N K_50 v1 v2 s0 σ = some (v, w)) : Fm [79] σ w := by
  unfold j_X10_takeNumber_113 at h
  obtain ⟨σ1, e9, h⟩ := bt_elim h
  have f_σ1 : Fm [79] σ σ1 := (Fm.rf).tr (by rw [e9]; exact Fm.st (by decide))
  exact (f_σ1).tr (hK_50 _ _ _ _ _ _ h)
theorem frj_X10_takeNumber_160 (N : Nat) (v4 : Int32) (s1 : Int32) (σ : St) (v : Int32) (w : St) (h : j_X10_takeNumber_160 N v4 s1 σ = some (v, w)) : Fm [79] σ w := by
  unfold j_X10_takeNumber_160 at h
  obtain ⟨q1, e9, h⟩ := bt_elim h
  have f_q1 : Fm [79] σ q1.2 := (Fm.rf).tr (by rw [e9]; exact (fr_X10_want _ _ _ _ _ rfl).mono rfl)
  obtain ⟨_, -, h⟩ := bt_elim h
  obtain ⟨-, h⟩ := oeq h
  rw [← h]
  exact f_q1
theorem frj_X10_takeNumber_159 (N : Nat) (v4 : Int32) (σ : St) (v : Int32) (w : St) (h : j_X10_takeNumber_159 N v4 σ = some (v, w)) : Fm [79] σ w := by
  unfold j_X10_takeNumber_159 at h
  exact (Fm.rf).tr (frj_X10_takeNumber_160 N _ _ _ _ _ h)
theorem frj_X10_takeNumber_128 (N : Nat) (v1 : Int32) (v2 : Int32) (v4 : Int32) (σ : St) (v : Int32) (w : St) (h : j_X10_takeNumber_128 N v1 v2 v4 σ = some (v, w)) : Fm [79] σ w := by
  unfold j_X10_takeNumber_128 at h
  rcases ite_elim h with h | h
  · exact (Fm.rf).tr (frj_X10_takeNumber_159 N _ _ _ _ h)
  · rcases ite_elim h with h | h
    · exact (Fm.rf).tr (frj_X10_takeNumber_159 N _ _ _ _ h)
    · exact (Fm.rf).tr (frj_X10_takeNumber_160 N _ _ _ _ _ h)
theorem frl_X10_takeNumber_50 (N : Nat) : ∀ (n : Nat) (v1 : Int32) (v2 : Int32) (v4 : Int32) (σ : St) (v : Int32) (w : St), l_X10_takeNumber_50 N n v1 v2 v4 σ = some (v, w) → Fm [79] σ w := by
  intro n
  induction n with
  | zero =>
    intro v1 v2 v4 σ v w h
    rw [l_X10_takeNumber_50] at h
    cases h
  | succ n ih =>
    intro v1 v2 v4 σ v w h
    rw [l_X10_takeNumber_50] at h
    rcases ite_elim h with h | h
    · exact (Fm.rf).tr (frj_X10_takeNumber_128 N _ _ _ _ _ _ h)
    · obtain ⟨-, h⟩ := ckA_elim h
      rcases ite_elim h with h | h
      · exact (Fm.rf).tr (frj_X10_takeNumber_128 N _ _ _ _ _ _ h)
      · rcases ite_elim h with h | h
        · obtain ⟨-, h⟩ := ckA_elim h
          exact (Fm.rf).tr (frj_X10_takeNumber_113 N (l_X10_takeNumber_50 N n) ih _ _ _ _ _ _ h)
        · exact (Fm.rf).tr (frj_X10_takeNumber_113 N (l_X10_takeNumber_50 N n) ih _ _ _ _ _ _ h)
theorem fr_X10_takeNumber {N : Nat} {a1 : Int32} {a2 : Int32} {σ : St} {v : Int32} {w : St} (h : o_X10_takeNumber N a1 a2 σ = some (v, w)) : Fm [79] σ w := by
  unfold o_X10_takeNumber at h
  rcases ite_elim h with h | h
  · obtain ⟨x2, σ3, g4, h⟩ := bd_elim h
    have f_σ3 : Fm [79] σ σ3 := (Fm.rf).tr ((fr_X10_here g4).mono rfl)
    obtain ⟨σ5, e9, h⟩ := bt_elim h
    have f_σ5 : Fm [79] σ σ5 := (f_σ3).tr (by rw [e9]; exact Fm.st (by decide))
    obtain ⟨q6, e9, h⟩ := bt_elim h
    have f_q6 : Fm [79] σ q6.2 := (f_σ5).tr (by rw [e9]; exact (fr_X10_want _ _ _ _ _ rfl).mono rfl)
    rcases ite_elim h with h | h
    · obtain ⟨-, h⟩ := oeq h
      rw [← h]
      exact f_q6
    · exact (f_q6).tr (frl_X10_takeNumber_50 N N _ _ _ _ _ _ h)
  · obtain ⟨-, h⟩ := oeq h
    rw [← h]
    exact Fm.rf
theorem frj_X10_takeWinter_93 (N : Nat) (s1 : Int32) (σ : St) (v : Unit) (w : St) (h : j_X10_takeWinter_93 N s1 σ = some (v, w)) : Fm [79, 92] σ w := by
  unfold j_X10_takeWinter_93 at h
  obtain ⟨q1, e9, h⟩ := bt_elim h
  have f_q1 : Fm [79, 92] σ q1.2 := (Fm.rf).tr (by rw [e9]; exact (fr_X10_want _ _ _ _ _ rfl).mono rfl)
  obtain ⟨_, -, h⟩ := bt_elim h
  obtain ⟨-, h⟩ := oeq h
  rw [← h]
  exact f_q1
theorem frj_X10_takeWinter_88 (N : Nat)  (σ : St) (v : Unit) (w : St) (h : j_X10_takeWinter_88 N  σ = some (v, w)) : Fm [79, 92] σ w := by
  unfold j_X10_takeWinter_88 at h
  exact (Fm.rf).tr (frj_X10_takeWinter_93 N _ _ _ _ h)
theorem frj_X10_takeWinter_13 (N : Nat) (v1 : Int32) (s1 : Int32) (σ : St) (v : Unit) (w : St) (h : j_X10_takeWinter_13 N v1 s1 σ = some (v, w)) : Fm [79, 92] σ w := by
  unfold j_X10_takeWinter_13 at h
  obtain ⟨q1, e9, h⟩ := bt_elim h
  have f_q1 : Fm [79, 92] σ q1.2 := (Fm.rf).tr (by rw [e9]; exact (fr_X10_want _ _ _ _ _ rfl).mono rfl)
  rcases ite_elim h with h | h
  · obtain ⟨-, h⟩ := oeq h
    rw [← h]
    exact f_q1
  · obtain ⟨σ3, e9, h⟩ := bt_elim h
    have f_σ3 : Fm [79, 92] σ σ3 := (f_q1).tr (by rw [e9]; exact Fm.st (by decide))
    obtain ⟨x4, σ5, g6, h⟩ := bd_elim h
    have f_σ5 : Fm [79, 92] σ σ5 := (f_σ3).tr ((fr_X10_takeNumber g6).mono rfl)
    obtain ⟨σ7, e9, h⟩ := bt_elim h
    have f_σ7 : Fm [79, 92] σ σ7 := (f_σ5).tr (by rw [e9]; exact Fm.st (by decide))
    obtain ⟨x8, σ9, g10, h⟩ := bd_elim h
    have f_σ9 : Fm [79, 92] σ σ9 := (f_σ7).tr ((fr_X10_takeNumber g10).mono rfl)
    obtain ⟨σ11, e9, h⟩ := bt_elim h
    have f_σ11 : Fm [79, 92] σ σ11 := (f_σ9).tr (by rw [e9]; exact Fm.st (by decide))
    obtain ⟨x12, σ13, g14, h⟩ := bd_elim h
    have f_σ13 : Fm [79, 92] σ σ13 := (f_σ11).tr ((fr_X10_takeNumber g14).mono rfl)
    obtain ⟨σ15, e9, h⟩ := bt_elim h
    have f_σ15 : Fm [79, 92] σ σ15 := (f_σ13).tr (by rw [e9]; exact Fm.st (by decide))
    rcases ite_elim h with h | h
    · exact (f_σ15).tr (frj_X10_takeWinter_88 N _ _ _ h)
    · rcases ite_elim h with h | h
      · exact (f_σ15).tr (frj_X10_takeWinter_93 N _ _ _ _ h)
      · exact (f_σ15).tr (frj_X10_takeWinter_88 N _ _ _ h)
theorem fr_X10_takeWinter {N : Nat} {a1 : Int32} {σ : St} {v : Unit} {w : St} (h : o_X10_takeWinter N a1 σ = some (v, w)) : Fm [79, 92] σ w := by
  unfold o_X10_takeWinter at h
  rcases ite_elim h with h | h
  · exact (Fm.rf).tr (frj_X10_takeWinter_13 N _ _ _ _ _ h)
  · exact (Fm.rf).tr (frj_X10_takeWinter_13 N _ _ _ _ _ h)
theorem frj_X10_takePromise_154 (N : Nat) (s1 : Int32) (σ : St) (v : Unit) (w : St) (h : j_X10_takePromise_154 N s1 σ = some (v, w)) : Fm [79, 86, 87, 88, 89, 90, 91] σ w := by
  unfold j_X10_takePromise_154 at h
  obtain ⟨q1, e9, h⟩ := bt_elim h
  have f_q1 : Fm [79, 86, 87, 88, 89, 90, 91] σ q1.2 := (Fm.rf).tr (by rw [e9]; exact (fr_X10_want _ _ _ _ _ rfl).mono rfl)
  obtain ⟨_, -, h⟩ := bt_elim h
  obtain ⟨σ3, e9, h⟩ := bt_elim h
  have f_σ3 : Fm [79, 86, 87, 88, 89, 90, 91] σ σ3 := (f_q1).tr (by rw [e9]; exact Fm.st (by decide))
  obtain ⟨-, h⟩ := oeq h
  rw [← h]
  exact f_σ3
theorem frj_X10_takePromise_149 (N : Nat)  (σ : St) (v : Unit) (w : St) (h : j_X10_takePromise_149 N  σ = some (v, w)) : Fm [79, 86, 87, 88, 89, 90, 91] σ w := by
  unfold j_X10_takePromise_149 at h
  exact (Fm.rf).tr (frj_X10_takePromise_154 N _ _ _ _ h)
theorem frj_X10_takePromise_15 (N : Nat) (v1 : Int32) (s1 : Int32) (σ : St) (v : Unit) (w : St) (h : j_X10_takePromise_15 N v1 s1 σ = some (v, w)) : Fm [79, 86, 87, 88, 89, 90, 91] σ w := by
  unfold j_X10_takePromise_15 at h
  obtain ⟨q1, e9, h⟩ := bt_elim h
  have f_q1 : Fm [79, 86, 87, 88, 89, 90, 91] σ q1.2 := (Fm.rf).tr (by rw [e9]; exact (fr_X10_want _ _ _ _ _ rfl).mono rfl)
  rcases ite_elim h with h | h
  · obtain ⟨-, h⟩ := oeq h
    rw [← h]
    exact f_q1
  · obtain ⟨_, -, h⟩ := bt_elim h
    obtain ⟨x4, σ5, g6, h⟩ := bd_elim h
    have f_σ5 : Fm [79, 86, 87, 88, 89, 90, 91] σ σ5 := (f_q1).tr ((fr_X10_takeNumber g6).mono rfl)
    obtain ⟨-, h⟩ := ckA_elim h
    obtain ⟨σ8, e9, h⟩ := bt_elim h
    have f_σ8 : Fm [79, 86, 87, 88, 89, 90, 91] σ σ8 := (f_σ5).tr (by rw [e9]; exact Fm.st (by decide))
    obtain ⟨x9, σ10, g11, h⟩ := bd_elim h
    have f_σ10 : Fm [79, 86, 87, 88, 89, 90, 91] σ σ10 := (f_σ8).tr ((fr_X10_takeNumber g11).mono rfl)
    obtain ⟨-, h⟩ := ckA_elim h
    obtain ⟨σ13, e9, h⟩ := bt_elim h
    have f_σ13 : Fm [79, 86, 87, 88, 89, 90, 91] σ σ13 := (f_σ10).tr (by rw [e9]; exact Fm.st (by decide))
    obtain ⟨x14, σ15, g16, h⟩ := bd_elim h
    have f_σ15 : Fm [79, 86, 87, 88, 89, 90, 91] σ σ15 := (f_σ13).tr ((fr_X10_takeNumber g16).mono rfl)
    obtain ⟨-, h⟩ := ckA_elim h
    obtain ⟨σ18, e9, h⟩ := bt_elim h
    have f_σ18 : Fm [79, 86, 87, 88, 89, 90, 91] σ σ18 := (f_σ15).tr (by rw [e9]; exact Fm.st (by decide))
    obtain ⟨x19, σ20, g21, h⟩ := bd_elim h
    have f_σ20 : Fm [79, 86, 87, 88, 89, 90, 91] σ σ20 := (f_σ18).tr ((fr_X10_takeNumber g21).mono rfl)
    obtain ⟨-, h⟩ := ckA_elim h
    obtain ⟨σ23, e9, h⟩ := bt_elim h
    have f_σ23 : Fm [79, 86, 87, 88, 89, 90, 91] σ σ23 := (f_σ20).tr (by rw [e9]; exact Fm.st (by decide))
    obtain ⟨x24, σ25, g26, h⟩ := bd_elim h
    have f_σ25 : Fm [79, 86, 87, 88, 89, 90, 91] σ σ25 := (f_σ23).tr ((fr_X10_takeNumber g26).mono rfl)
    obtain ⟨-, h⟩ := ckA_elim h
    obtain ⟨σ28, e9, h⟩ := bt_elim h
    have f_σ28 : Fm [79, 86, 87, 88, 89, 90, 91] σ σ28 := (f_σ25).tr (by rw [e9]; exact Fm.st (by decide))
    obtain ⟨x29, σ30, g31, h⟩ := bd_elim h
    have f_σ30 : Fm [79, 86, 87, 88, 89, 90, 91] σ σ30 := (f_σ28).tr ((fr_X10_takeNumber g31).mono rfl)
    obtain ⟨-, h⟩ := ckA_elim h
    obtain ⟨σ33, e9, h⟩ := bt_elim h
    have f_σ33 : Fm [79, 86, 87, 88, 89, 90, 91] σ σ33 := (f_σ30).tr (by rw [e9]; exact Fm.st (by decide))
    rcases ite_elim h with h | h
    · exact (f_σ33).tr (frj_X10_takePromise_149 N _ _ _ h)
    · obtain ⟨-, h⟩ := ckA_elim h
      rcases ite_elim h with h | h
      · exact (f_σ33).tr (frj_X10_takePromise_149 N _ _ _ h)
      · obtain ⟨-, h⟩ := ckA_elim h
        rcases ite_elim h with h | h
        · exact (f_σ33).tr (frj_X10_takePromise_154 N _ _ _ _ h)
        · exact (f_σ33).tr (frj_X10_takePromise_149 N _ _ _ h)
theorem fr_X10_takePromise {N : Nat} {a1 : Int32} {σ : St} {v : Unit} {w : St} (h : o_X10_takePromise N a1 σ = some (v, w)) : Fm [79, 86, 87, 88, 89, 90, 91] σ w := by
  unfold o_X10_takePromise at h
  rcases ite_elim h with h | h
  · exact (Fm.rf).tr (frj_X10_takePromise_15 N _ _ _ _ _ h)
  · exact (Fm.rf).tr (frj_X10_takePromise_15 N _ _ _ _ _ h)
theorem frj_X10_takeKeeper_14 (N : Nat) (v1 : Int32) (s1 : Int32) (σ : St) (v : Unit) (w : St) (h : j_X10_takeKeeper_14 N v1 s1 σ = some (v, w)) : Fm [79, 84, 85] σ w := by
  unfold j_X10_takeKeeper_14 at h
  obtain ⟨q1, e9, h⟩ := bt_elim h
  have f_q1 : Fm [79, 84, 85] σ q1.2 := (Fm.rf).tr (by rw [e9]; exact (fr_X10_want _ _ _ _ _ rfl).mono rfl)
  rcases ite_elim h with h | h
  · obtain ⟨-, h⟩ := oeq h
    rw [← h]
    exact f_q1
  · obtain ⟨x3, σ4, g5, h⟩ := bd_elim h
    have f_σ4 : Fm [79, 84, 85] σ σ4 := (f_q1).tr ((fr_X10_takeNumber g5).mono rfl)
    obtain ⟨-, h⟩ := ckA_elim h
    obtain ⟨σ7, e9, h⟩ := bt_elim h
    have f_σ7 : Fm [79, 84, 85] σ σ7 := (f_σ4).tr (by rw [e9]; exact Fm.st (by decide))
    obtain ⟨x8, σ9, g10, h⟩ := bd_elim h
    have f_σ9 : Fm [79, 84, 85] σ σ9 := (f_σ7).tr ((fr_X10_takeNumber g10).mono rfl)
    obtain ⟨-, h⟩ := ckA_elim h
    obtain ⟨σ12, e9, h⟩ := bt_elim h
    have f_σ12 : Fm [79, 84, 85] σ σ12 := (f_σ9).tr (by rw [e9]; exact Fm.st (by decide))
    obtain ⟨σ13, e9, h⟩ := bt_elim h
    have f_σ13 : Fm [79, 84, 85] σ σ13 := (f_σ12).tr (by rw [e9]; exact Fm.st (by decide))
    obtain ⟨-, h⟩ := oeq h
    rw [← h]
    exact f_σ13
theorem fr_X10_takeKeeper {N : Nat} {a1 : Int32} {σ : St} {v : Unit} {w : St} (h : o_X10_takeKeeper N a1 σ = some (v, w)) : Fm [79, 84, 85] σ w := by
  unfold o_X10_takeKeeper at h
  rcases ite_elim h with h | h
  · exact (Fm.rf).tr (frj_X10_takeKeeper_14 N _ _ _ _ _ h)
  · exact (Fm.rf).tr (frj_X10_takeKeeper_14 N _ _ _ _ _ h)
theorem frj_X10_takeRoad_166 (N : Nat)  (σ : St) (v : Unit) (w : St) (h : j_X10_takeRoad_166 N  σ = some (v, w)) : Fm [79, 82] σ w := by
  unfold j_X10_takeRoad_166 at h
  obtain ⟨σ1, e9, h⟩ := bt_elim h
  have f_σ1 : Fm [79, 82] σ σ1 := (Fm.rf).tr (by rw [e9]; exact Fm.st (by decide))
  obtain ⟨-, h⟩ := oeq h
  rw [← h]
  exact f_σ1
theorem frj_X10_takeRoad_139 (N : Nat) (v2 : Int32) (v3 : Int32) (s1 : Int32) (s2 : Int32) (σ : St) (v : Unit) (w : St) (h : j_X10_takeRoad_139 N v2 v3 s1 s2 σ = some (v, w)) : Fm [79, 82] σ w := by
  unfold j_X10_takeRoad_139 at h
  obtain ⟨-, h⟩ := ckA_elim h
  obtain ⟨σ2, e9, h⟩ := bt_elim h
  have f_σ2 : Fm [79, 82] σ σ2 := (Fm.rf).tr (by rw [e9]; exact Fm.st (by decide))
  obtain ⟨-, h⟩ := ckA_elim h
  obtain ⟨-, h⟩ := ckA_elim h
  obtain ⟨σ5, e9, h⟩ := bt_elim h
  have f_σ5 : Fm [79, 82] σ σ5 := (f_σ2).tr (by rw [e9]; exact Fm.st (by decide))
  exact (f_σ5).tr (frj_X10_takeRoad_166 N _ _ _ h)
theorem frj_X10_takeRoad_65 (N : Nat) (v2 : Int32) (v3 : Int32) (s1 : Int32) (σ : St) (v : Unit) (w : St) (h : j_X10_takeRoad_65 N v2 v3 s1 σ = some (v, w)) : Fm [79, 82] σ w := by
  unfold j_X10_takeRoad_65 at h
  obtain ⟨q1, e9, h⟩ := bt_elim h
  have f_q1 : Fm [79, 82] σ q1.2 := (Fm.rf).tr (by rw [e9]; exact (fr_X10_want _ _ _ _ _ rfl).mono rfl)
  obtain ⟨_, -, h⟩ := bt_elim h
  obtain ⟨x3, σ4, g5, h⟩ := bd_elim h
  have f_σ4 : Fm [79, 82] σ σ4 := (f_q1).tr ((fr_X10_takeNumber g5).mono rfl)
  rcases ite_elim h with h | h
  · obtain ⟨-, h⟩ := ckA_elim h
    rcases ite_elim h with h | h
    · obtain ⟨-, h⟩ := ckA_elim h
      exact (f_σ4).tr (frj_X10_takeRoad_139 N _ _ _ _ _ _ _ h)
    · exact (f_σ4).tr (frj_X10_takeRoad_139 N _ _ _ _ _ _ _ h)
  · exact (f_σ4).tr (frj_X10_takeRoad_166 N _ _ _ h)
theorem frj_X10_takeRoad_60 (N : Nat) (v2 : Int32) (v3 : Int32) (σ : St) (v : Unit) (w : St) (h : j_X10_takeRoad_60 N v2 v3 σ = some (v, w)) : Fm [79, 82] σ w := by
  unfold j_X10_takeRoad_60 at h
  exact (Fm.rf).tr (frj_X10_takeRoad_65 N _ _ _ _ _ _ h)
theorem frj_X10_takeRoad_15 (N : Nat) (v1 : Int32) (s1 : Int32) (σ : St) (v : Unit) (w : St) (h : j_X10_takeRoad_15 N v1 s1 σ = some (v, w)) : Fm [79, 82] σ w := by
  unfold j_X10_takeRoad_15 at h
  obtain ⟨q1, e9, h⟩ := bt_elim h
  have f_q1 : Fm [79, 82] σ q1.2 := (Fm.rf).tr (by rw [e9]; exact (fr_X10_want _ _ _ _ _ rfl).mono rfl)
  rcases ite_elim h with h | h
  · obtain ⟨-, h⟩ := oeq h
    rw [← h]
    exact f_q1
  · obtain ⟨x3, σ4, g5, h⟩ := bd_elim h
    have f_σ4 : Fm [79, 82] σ σ4 := (f_q1).tr ((fr_X10_takeNumber g5).mono rfl)
    obtain ⟨x6, σ7, g8, h⟩ := bd_elim h
    have f_σ7 : Fm [79, 82] σ σ7 := (f_σ4).tr ((fr_X10_takeNumber g8).mono rfl)
    rcases ite_elim h with h | h
    · exact (f_σ7).tr (frj_X10_takeRoad_60 N _ _ _ _ _ h)
    · rcases ite_elim h with h | h
      · exact (f_σ7).tr (frj_X10_takeRoad_65 N _ _ _ _ _ _ h)
      · exact (f_σ7).tr (frj_X10_takeRoad_60 N _ _ _ _ _ h)
theorem fr_X10_takeRoad {N : Nat} {a1 : Int32} {σ : St} {v : Unit} {w : St} (h : o_X10_takeRoad N a1 σ = some (v, w)) : Fm [79, 82] σ w := by
  unfold o_X10_takeRoad at h
  rcases ite_elim h with h | h
  · exact (Fm.rf).tr (frj_X10_takeRoad_15 N _ _ _ _ _ h)
  · exact (Fm.rf).tr (frj_X10_takeRoad_15 N _ _ _ _ _ h)
theorem frj_X10_takeTowns_13 (N : Nat) (v1 : Int32) (s1 : Int32) (σ : St) (v : Unit) (w : St) (h : j_X10_takeTowns_13 N v1 s1 σ = some (v, w)) : Fm [79] σ w := by
  unfold j_X10_takeTowns_13 at h
  obtain ⟨q1, e9, h⟩ := bt_elim h
  have f_q1 : Fm [79] σ q1.2 := (Fm.rf).tr (by rw [e9]; exact (fr_X10_want _ _ _ _ _ rfl).mono rfl)
  rcases ite_elim h with h | h
  · obtain ⟨-, h⟩ := oeq h
    rw [← h]
    exact f_q1
  · obtain ⟨x3, σ4, g5, h⟩ := bd_elim h
    have f_σ4 : Fm [79] σ σ4 := (f_q1).tr ((fr_X10_takeNumber g5).mono rfl)
    obtain ⟨σ6, e9, h⟩ := bt_elim h
    have f_σ6 : Fm [79] σ σ6 := (f_σ4).tr (by rw [e9]; exact Fm.st (by decide))
    obtain ⟨-, h⟩ := oeq h
    rw [← h]
    exact f_σ6
theorem fr_X10_takeTowns {N : Nat} {a1 : Int32} {σ : St} {v : Unit} {w : St} (h : o_X10_takeTowns N a1 σ = some (v, w)) : Fm [79] σ w := by
  unfold o_X10_takeTowns at h
  rcases ite_elim h with h | h
  · exact (Fm.rf).tr (frj_X10_takeTowns_13 N _ _ _ _ _ h)
  · exact (Fm.rf).tr (frj_X10_takeTowns_13 N _ _ _ _ _ h)
theorem frj_X10_takeClause_62 (N : Nat) (v1 : Int32) (v2 : Int32) (s0 : Int32) (σ : St) (v : Unit) (w : St) (h : j_X10_takeClause_62 N v1 v2 s0 σ = some (v, w)) : Fm [79, 82, 84, 85, 86, 87, 88, 89, 90, 91, 92] σ w := by
  unfold j_X10_takeClause_62 at h
  obtain ⟨q1, e9, h⟩ := bt_elim h
  have f_q1 : Fm [79, 82, 84, 85, 86, 87, 88, 89, 90, 91, 92] σ q1.2 := (Fm.rf).tr (by rw [e9]; exact (fr_X10_want _ _ _ _ _ rfl).mono rfl)
  rcases ite_elim h with h | h
  · obtain ⟨-, h⟩ := oeq h
    rw [← h]
    exact f_q1
  · rcases ite_elim h with h | h
    · obtain ⟨u19, σ20, g21, h⟩ := bd_elim h
      have f_σ20 : Fm [79, 82, 84, 85, 86, 87, 88, 89, 90, 91, 92] σ σ20 := (f_q1).tr ((fr_X10_takeTowns g21).mono rfl)
      obtain ⟨-, h⟩ := oeq h
      rw [← h]
      exact f_σ20
    · rcases ite_elim h with h | h
      · obtain ⟨u16, σ17, g18, h⟩ := bd_elim h
        have f_σ17 : Fm [79, 82, 84, 85, 86, 87, 88, 89, 90, 91, 92] σ σ17 := (f_q1).tr ((fr_X10_takeRoad g18).mono rfl)
        obtain ⟨-, h⟩ := oeq h
        rw [← h]
        exact f_σ17
      · rcases ite_elim h with h | h
        · obtain ⟨u13, σ14, g15, h⟩ := bd_elim h
          have f_σ14 : Fm [79, 82, 84, 85, 86, 87, 88, 89, 90, 91, 92] σ σ14 := (f_q1).tr ((fr_X10_takeKeeper g15).mono rfl)
          obtain ⟨-, h⟩ := oeq h
          rw [← h]
          exact f_σ14
        · rcases ite_elim h with h | h
          · obtain ⟨u10, σ11, g12, h⟩ := bd_elim h
            have f_σ11 : Fm [79, 82, 84, 85, 86, 87, 88, 89, 90, 91, 92] σ σ11 := (f_q1).tr ((fr_X10_takePromise g12).mono rfl)
            obtain ⟨-, h⟩ := oeq h
            rw [← h]
            exact f_σ11
          · obtain ⟨u7, σ8, g9, h⟩ := bd_elim h
            have f_σ8 : Fm [79, 82, 84, 85, 86, 87, 88, 89, 90, 91, 92] σ σ8 := (f_q1).tr ((fr_X10_takeWinter g9).mono rfl)
            obtain ⟨-, h⟩ := oeq h
            rw [← h]
            exact f_σ8
theorem frj_X10_takeClause_57 (N : Nat) (v1 : Int32) (v2 : Int32) (σ : St) (v : Unit) (w : St) (h : j_X10_takeClause_57 N v1 v2 σ = some (v, w)) : Fm [79, 82, 84, 85, 86, 87, 88, 89, 90, 91, 92] σ w := by
  unfold j_X10_takeClause_57 at h
  exact (Fm.rf).tr (frj_X10_takeClause_62 N _ _ _ _ _ _ h)
theorem frj_X10_takeClause_61 (N : Nat) (v1 : Int32) (v2 : Int32) (σ : St) (v : Unit) (w : St) (h : j_X10_takeClause_61 N v1 v2 σ = some (v, w)) : Fm [79, 82, 84, 85, 86, 87, 88, 89, 90, 91, 92] σ w := by
  unfold j_X10_takeClause_61 at h
  exact (Fm.rf).tr (frj_X10_takeClause_62 N _ _ _ _ _ _ h)
theorem fr_X10_takeClause {N : Nat}  {σ : St} {v : Unit} {w : St} (h : o_X10_takeClause N  σ = some (v, w)) : Fm [79, 82, 84, 85, 86, 87, 88, 89, 90, 91, 92] σ w := by
  unfold o_X10_takeClause at h
  obtain ⟨x1, σ2, g3, h⟩ := bd_elim h
  have f_σ2 : Fm [79, 82, 84, 85, 86, 87, 88, 89, 90, 91, 92] σ σ2 := (Fm.rf).tr ((fr_X10_here g3).mono rfl)
  obtain ⟨_, -, h⟩ := bt_elim h
  obtain ⟨σ5, e9, h⟩ := bt_elim h
  have f_σ5 : Fm [79, 82, 84, 85, 86, 87, 88, 89, 90, 91, 92] σ σ5 := (f_σ2).tr (by rw [e9]; exact Fm.st (by decide))
  rcases ite_elim h with h | h
  · exact (f_σ5).tr (frj_X10_takeClause_57 N _ _ _ _ _ h)
  · rcases ite_elim h with h | h
    · exact (f_σ5).tr (frj_X10_takeClause_61 N _ _ _ _ _ h)
    · rcases ite_elim h with h | h
      · exact (f_σ5).tr (frj_X10_takeClause_57 N _ _ _ _ _ h)
      · rcases ite_elim h with h | h
        · exact (f_σ5).tr (frj_X10_takeClause_57 N _ _ _ _ _ h)
        · rcases ite_elim h with h | h
          · exact (f_σ5).tr (frj_X10_takeClause_57 N _ _ _ _ _ h)
          · rcases ite_elim h with h | h
            · exact (f_σ5).tr (frj_X10_takeClause_57 N _ _ _ _ _ h)
            · exact (f_σ5).tr (frj_X10_takeClause_61 N _ _ _ _ _ h)
theorem frj_X10_findFar_32 (N : Nat) (K_2 : Int32 → St → Option (Unit × St)) (hK_2 : ∀ (v1 : Int32) (σ : St) (v : Unit) (w : St), K_2 v1 σ = some (v, w) → Fm [83] σ w) (v1 : Int32) (s1 : Int32) (s2 : Int32) (σ : St) (v : Unit) (w : St) (h : j_X10_findFar_32 N K_2 v1 s1 s2 σ = some (v, w)) : Fm [83] σ w := by
  unfold j_X10_findFar_32 at h
  obtain ⟨-, h⟩ := ckA_elim h
  obtain ⟨σ2, e9, h⟩ := bt_elim h
  have f_σ2 : Fm [83] σ σ2 := (Fm.rf).tr (by rw [e9]; exact Fm.st (by decide))
  obtain ⟨_, -, h⟩ := bt_elim h
  exact (f_σ2).tr (hK_2 _ _ _ _ h)
theorem frj_X10_findFar_105 (N : Nat) (K_41 : Int32 → St → Option (Unit × St)) (K_48 : Int32 → Int32 → St → Option (Unit × St)) (hK_41 : ∀ (v1 : Int32) (σ : St) (v : Unit) (w : St), K_41 v1 σ = some (v, w) → Fm [83] σ w) (hK_48 : ∀ (v1 : Int32) (v2 : Int32) (σ : St) (v : Unit) (w : St), K_48 v1 v2 σ = some (v, w) → Fm [83] σ w) (v1 : Int32) (v2 : Int32) (s1 : Int32) (s2 : Int32) (σ : St) (v : Unit) (w : St) (h : j_X10_findFar_105 N K_41 K_48 v1 v2 s1 s2 σ = some (v, w)) : Fm [83] σ w := by
  unfold j_X10_findFar_105 at h
  obtain ⟨-, h⟩ := ckA_elim h
  obtain ⟨σ2, e9, h⟩ := bt_elim h
  have f_σ2 : Fm [83] σ σ2 := (Fm.rf).tr (by rw [e9]; exact Fm.st (by decide))
  obtain ⟨_, -, h⟩ := bt_elim h
  exact (f_σ2).tr (hK_48 _ _ _ _ _ h)
theorem frl_X10_findFar_48 (N : Nat) (K_41 : Int32 → St → Option (Unit × St)) (hK_41 : ∀ (v1 : Int32) (σ : St) (v : Unit) (w : St), K_41 v1 σ = some (v, w) → Fm [83] σ w) : ∀ (n : Nat) (v1 : Int32) (v2 : Int32) (σ : St) (v : Unit) (w : St), l_X10_findFar_48 N K_41 n v1 v2 σ = some (v, w) → Fm [83] σ w := by
  intro n
  induction n with
  | zero =>
    intro v1 v2 σ v w h
    rw [l_X10_findFar_48] at h
    cases h
  | succ n ih =>
    intro v1 v2 σ v w h
    rw [l_X10_findFar_48] at h
    rcases ite_elim h with h | h
    · obtain ⟨_, -, h⟩ := bt_elim h
      exact (Fm.rf).tr (hK_41 _ _ _ _ h)
    · obtain ⟨-, h⟩ := ckA_elim h
      obtain ⟨-, h⟩ := ckA_elim h
      obtain ⟨_, -, h⟩ := bt_elim h
      obtain ⟨-, h⟩ := ckA_elim h
      rcases ite_elim h with h | h
      · obtain ⟨-, h⟩ := ckA_elim h
        exact (Fm.rf).tr (frj_X10_findFar_105 N K_41 (l_X10_findFar_48 N K_41 n) hK_41 ih _ _ _ _ _ _ _ h)
      · exact (Fm.rf).tr (frj_X10_findFar_105 N K_41 (l_X10_findFar_48 N K_41 n) hK_41 ih _ _ _ _ _ _ _ h)
theorem frl_X10_findFar_41 (N : Nat) : ∀ (n : Nat) (v1 : Int32) (σ : St) (v : Unit) (w : St), l_X10_findFar_41 N n v1 σ = some (v, w) → Fm [83] σ w := by
  intro n
  induction n with
  | zero =>
    intro v1 σ v w h
    rw [l_X10_findFar_41] at h
    cases h
  | succ n ih =>
    intro v1 σ v w h
    rw [l_X10_findFar_41] at h
    rcases ite_elim h with h | h
    · obtain ⟨-, h⟩ := oeq h
      rw [← h]
      exact Fm.rf
    · exact (Fm.rf).tr (frl_X10_findFar_48 N (l_X10_findFar_41 N n) ih N _ _ _ _ _ h)
theorem frl_X10_findFar_2 (N : Nat) : ∀ (n : Nat) (v1 : Int32) (σ : St) (v : Unit) (w : St), l_X10_findFar_2 N n v1 σ = some (v, w) → Fm [83] σ w := by
  intro n
  induction n with
  | zero =>
    intro v1 σ v w h
    rw [l_X10_findFar_2] at h
    cases h
  | succ n ih =>
    intro v1 σ v w h
    rw [l_X10_findFar_2] at h
    rcases ite_elim h with h | h
    · exact (Fm.rf).tr (frl_X10_findFar_41 N N _ _ _ _ h)
    · rcases ite_elim h with h | h
      · exact (Fm.rf).tr (frj_X10_findFar_32 N (l_X10_findFar_2 N n) ih _ _ _ _ _ _ h)
      · obtain ⟨-, h⟩ := ckA_elim h
        exact (Fm.rf).tr (frj_X10_findFar_32 N (l_X10_findFar_2 N n) ih _ _ _ _ _ _ h)
theorem fr_X10_findFar {N : Nat}  {σ : St} {v : Unit} {w : St} (h : o_X10_findFar N  σ = some (v, w)) : Fm [83] σ w := by
  unfold o_X10_findFar at h
  exact (Fm.rf).tr (frl_X10_findFar_2 N N _ _ _ _ h)
theorem frl_X10_take_118 (N : Nat) : ∀ (n : Nat) (v1 : Int32) (σ : St) (v : Unit) (w : St), l_X10_take_118 N n v1 σ = some (v, w) → Fm [79, 82, 83, 84, 85, 86, 87, 88, 89, 90, 91, 92] σ w := by
  intro n
  induction n with
  | zero =>
    intro v1 σ v w h
    rw [l_X10_take_118] at h
    cases h
  | succ n ih =>
    intro v1 σ v w h
    rw [l_X10_take_118] at h
    rcases ite_elim h with h | h
    · obtain ⟨u2, σ3, g4, h⟩ := bd_elim h
      have f_σ3 : Fm [79, 82, 83, 84, 85, 86, 87, 88, 89, 90, 91, 92] σ σ3 := (Fm.rf).tr ((fr_X10_findFar g4).mono rfl)
      obtain ⟨-, h⟩ := oeq h
      rw [← h]
      exact f_σ3
    · obtain ⟨-, h⟩ := ckA_elim h
      obtain ⟨-, h⟩ := ckA_elim h
      obtain ⟨σ7, e9, h⟩ := bt_elim h
      have f_σ7 : Fm [79, 82, 83, 84, 85, 86, 87, 88, 89, 90, 91, 92] σ σ7 := (Fm.rf).tr (by rw [e9]; exact Fm.st (by decide))
      obtain ⟨-, h⟩ := ckA_elim h
      obtain ⟨-, h⟩ := ckA_elim h
      obtain ⟨σ10, e9, h⟩ := bt_elim h
      have f_σ10 : Fm [79, 82, 83, 84, 85, 86, 87, 88, 89, 90, 91, 92] σ σ10 := (f_σ7).tr (by rw [e9]; exact Fm.st (by decide))
      obtain ⟨-, h⟩ := ckA_elim h
      obtain ⟨-, h⟩ := ckA_elim h
      obtain ⟨σ13, e9, h⟩ := bt_elim h
      have f_σ13 : Fm [79, 82, 83, 84, 85, 86, 87, 88, 89, 90, 91, 92] σ σ13 := (f_σ10).tr (by rw [e9]; exact Fm.st (by decide))
      obtain ⟨-, h⟩ := ckA_elim h
      obtain ⟨-, h⟩ := ckA_elim h
      obtain ⟨σ16, e9, h⟩ := bt_elim h
      have f_σ16 : Fm [79, 82, 83, 84, 85, 86, 87, 88, 89, 90, 91, 92] σ σ16 := (f_σ13).tr (by rw [e9]; exact Fm.st (by decide))
      obtain ⟨-, h⟩ := ckA_elim h
      obtain ⟨-, h⟩ := ckA_elim h
      obtain ⟨σ19, e9, h⟩ := bt_elim h
      have f_σ19 : Fm [79, 82, 83, 84, 85, 86, 87, 88, 89, 90, 91, 92] σ σ19 := (f_σ16).tr (by rw [e9]; exact Fm.st (by decide))
      obtain ⟨-, h⟩ := ckA_elim h
      obtain ⟨-, h⟩ := ckA_elim h
      obtain ⟨σ22, e9, h⟩ := bt_elim h
      have f_σ22 : Fm [79, 82, 83, 84, 85, 86, 87, 88, 89, 90, 91, 92] σ σ22 := (f_σ19).tr (by rw [e9]; exact Fm.st (by decide))
      obtain ⟨_, -, h⟩ := bt_elim h
      exact (f_σ22).tr (ih _ _ _ _ h)
theorem frl_X10_take_63 (N : Nat) : ∀ (n : Nat) (v1 : Int32) (σ : St) (v : Unit) (w : St), l_X10_take_63 N n v1 σ = some (v, w) → Fm [79, 82, 83, 84, 85, 86, 87, 88, 89, 90, 91, 92] σ w := by
  intro n
  induction n with
  | zero =>
    intro v1 σ v w h
    rw [l_X10_take_63] at h
    cases h
  | succ n ih =>
    intro v1 σ v w h
    rw [l_X10_take_63] at h
    rcases ite_elim h with h | h
    · exact (Fm.rf).tr (frl_X10_take_118 N N _ _ _ _ h)
    · obtain ⟨-, h⟩ := ckA_elim h
      obtain ⟨-, h⟩ := ckA_elim h
      obtain ⟨σ4, e9, h⟩ := bt_elim h
      have f_σ4 : Fm [79, 82, 83, 84, 85, 86, 87, 88, 89, 90, 91, 92] σ σ4 := (Fm.rf).tr (by rw [e9]; exact Fm.st (by decide))
      obtain ⟨-, h⟩ := ckA_elim h
      obtain ⟨-, h⟩ := ckA_elim h
      obtain ⟨σ7, e9, h⟩ := bt_elim h
      have f_σ7 : Fm [79, 82, 83, 84, 85, 86, 87, 88, 89, 90, 91, 92] σ σ7 := (f_σ4).tr (by rw [e9]; exact Fm.st (by decide))
      obtain ⟨-, h⟩ := ckA_elim h
      obtain ⟨-, h⟩ := ckA_elim h
      obtain ⟨σ10, e9, h⟩ := bt_elim h
      have f_σ10 : Fm [79, 82, 83, 84, 85, 86, 87, 88, 89, 90, 91, 92] σ σ10 := (f_σ7).tr (by rw [e9]; exact Fm.st (by decide))
      obtain ⟨_, -, h⟩ := bt_elim h
      exact (f_σ10).tr (ih _ _ _ _ h)
theorem frl_X10_take_34 (N : Nat) : ∀ (n : Nat) (v1 : Int32) (σ : St) (v : Unit) (w : St), l_X10_take_34 N n v1 σ = some (v, w) → Fm [79, 82, 83, 84, 85, 86, 87, 88, 89, 90, 91, 92] σ w := by
  intro n
  induction n with
  | zero =>
    intro v1 σ v w h
    rw [l_X10_take_34] at h
    cases h
  | succ n ih =>
    intro v1 σ v w h
    rw [l_X10_take_34] at h
    rcases ite_elim h with h | h
    · exact (Fm.rf).tr (frl_X10_take_63 N N _ _ _ _ h)
    · obtain ⟨-, h⟩ := ckA_elim h
      obtain ⟨-, h⟩ := ckA_elim h
      obtain ⟨σ4, e9, h⟩ := bt_elim h
      have f_σ4 : Fm [79, 82, 83, 84, 85, 86, 87, 88, 89, 90, 91, 92] σ σ4 := (Fm.rf).tr (by rw [e9]; exact Fm.st (by decide))
      obtain ⟨_, -, h⟩ := bt_elim h
      exact (f_σ4).tr (ih _ _ _ _ h)
theorem fr_X10_take {N : Nat}  {σ : St} {v : Unit} {w : St} (h : o_X10_take N  σ = some (v, w)) : Fm [79, 82, 83, 84, 85, 86, 87, 88, 89, 90, 91, 92] σ w := by
  unfold o_X10_take at h
  obtain ⟨σ1, e9, h⟩ := bt_elim h
  have f_σ1 : Fm [79, 82, 83, 84, 85, 86, 87, 88, 89, 90, 91, 92] σ σ1 := (Fm.rf).tr (by rw [e9]; exact Fm.st (by decide))
  obtain ⟨σ2, e9, h⟩ := bt_elim h
  have f_σ2 : Fm [79, 82, 83, 84, 85, 86, 87, 88, 89, 90, 91, 92] σ σ2 := (f_σ1).tr (by rw [e9]; exact Fm.st (by decide))
  obtain ⟨σ3, e9, h⟩ := bt_elim h
  have f_σ3 : Fm [79, 82, 83, 84, 85, 86, 87, 88, 89, 90, 91, 92] σ σ3 := (f_σ2).tr (by rw [e9]; exact Fm.st (by decide))
  obtain ⟨σ4, e9, h⟩ := bt_elim h
  have f_σ4 : Fm [79, 82, 83, 84, 85, 86, 87, 88, 89, 90, 91, 92] σ σ4 := (f_σ3).tr (by rw [e9]; exact Fm.st (by decide))
  exact (f_σ4).tr (frl_X10_take_34 N N _ _ _ _ h)
theorem frj_X10_begin_94 (N : Nat) (K_39 : Int32 → St → Option (Unit × St)) (hK_39 : ∀ (v2 : Int32) (σ : St) (v : Unit) (w : St), K_39 v2 σ = some (v, w) → Fm [79, 80, 81] σ w) (v2 : Int32) (s1 : Int32) (s2 : Int32) (σ : St) (v : Unit) (w : St) (h : j_X10_begin_94 N K_39 v2 s1 s2 σ = some (v, w)) : Fm [79, 80, 81] σ w := by
  unfold j_X10_begin_94 at h
  obtain ⟨-, h⟩ := ckA_elim h
  obtain ⟨σ2, e9, h⟩ := bt_elim h
  have f_σ2 : Fm [79, 80, 81] σ σ2 := (Fm.rf).tr (by rw [e9]; exact Fm.st (by decide))
  obtain ⟨_, -, h⟩ := bt_elim h
  exact (f_σ2).tr (hK_39 _ _ _ _ h)
theorem frl_X10_begin_103 (N : Nat) : ∀ (n : Nat) (v2 : Int32) (σ : St) (v : Unit) (w : St), l_X10_begin_103 N n v2 σ = some (v, w) → Fm [79, 80, 81] σ w := by
  intro n
  induction n with
  | zero =>
    intro v2 σ v w h
    rw [l_X10_begin_103] at h
    cases h
  | succ n ih =>
    intro v2 σ v w h
    rw [l_X10_begin_103] at h
    rcases ite_elim h with h | h
    · obtain ⟨σ2, e9, h⟩ := bt_elim h
      have f_σ2 : Fm [79, 80, 81] σ σ2 := (Fm.rf).tr (by rw [e9]; exact Fm.st (by decide))
      obtain ⟨σ3, e9, h⟩ := bt_elim h
      have f_σ3 : Fm [79, 80, 81] σ σ3 := (f_σ2).tr (by rw [e9]; exact Fm.st (by decide))
      obtain ⟨σ4, e9, h⟩ := bt_elim h
      have f_σ4 : Fm [79, 80, 81] σ σ4 := (f_σ3).tr (by rw [e9]; exact Fm.st (by decide))
      obtain ⟨σ5, e9, h⟩ := bt_elim h
      have f_σ5 : Fm [79, 80, 81] σ σ5 := (f_σ4).tr (by rw [e9]; exact Fm.st (by decide))
      obtain ⟨-, h⟩ := oeq h
      rw [← h]
      exact f_σ5
    · obtain ⟨-, h⟩ := ckA_elim h
      obtain ⟨-, h⟩ := ckA_elim h
      obtain ⟨σ8, e9, h⟩ := bt_elim h
      have f_σ8 : Fm [79, 80, 81] σ σ8 := (Fm.rf).tr (by rw [e9]; exact Fm.st (by decide))
      obtain ⟨_, -, h⟩ := bt_elim h
      exact (f_σ8).tr (ih _ _ _ _ h)
theorem frl_X10_begin_39 (N : Nat) : ∀ (n : Nat) (v2 : Int32) (σ : St) (v : Unit) (w : St), l_X10_begin_39 N n v2 σ = some (v, w) → Fm [79, 80, 81] σ w := by
  intro n
  induction n with
  | zero =>
    intro v2 σ v w h
    rw [l_X10_begin_39] at h
    cases h
  | succ n ih =>
    intro v2 σ v w h
    rw [l_X10_begin_39] at h
    rcases ite_elim h with h | h
    · exact (Fm.rf).tr (frl_X10_begin_103 N N _ _ _ _ h)
    · obtain ⟨-, h⟩ := ckA_elim h
      obtain ⟨σ3, e9, h⟩ := bt_elim h
      have f_σ3 : Fm [79, 80, 81] σ σ3 := (Fm.rf).tr (by rw [e9]; exact Fm.st (by decide))
      obtain ⟨-, h⟩ := ckA_elim h
      obtain ⟨-, h⟩ := ckA_elim h
      obtain ⟨σ6, e9, h⟩ := bt_elim h
      have f_σ6 : Fm [79, 80, 81] σ σ6 := (f_σ3).tr (by rw [e9]; exact Fm.st (by decide))
      obtain ⟨-, h⟩ := ckA_elim h
      rcases ite_elim h with h | h
      · exact (f_σ6).tr (frj_X10_begin_94 N (l_X10_begin_39 N n) ih _ _ _ _ _ _ h)
      · exact (f_σ6).tr (frj_X10_begin_94 N (l_X10_begin_39 N n) ih _ _ _ _ _ _ h)
theorem frl_X10_begin_10 (N : Nat) : ∀ (n : Nat) (v1 : Int32) (v2 : Int32) (σ : St) (v : Unit) (w : St), l_X10_begin_10 N n v1 v2 σ = some (v, w) → Fm [79, 80, 81] σ w := by
  intro n
  induction n with
  | zero =>
    intro v1 v2 σ v w h
    rw [l_X10_begin_10] at h
    cases h
  | succ n ih =>
    intro v1 v2 σ v w h
    rw [l_X10_begin_10] at h
    rcases ite_elim h with h | h
    · obtain ⟨σ2, e9, h⟩ := bt_elim h
      have f_σ2 : Fm [79, 80, 81] σ σ2 := (Fm.rf).tr (by rw [e9]; exact Fm.st (by decide))
      exact (f_σ2).tr (frl_X10_begin_39 N N _ _ _ _ h)
    · obtain ⟨-, h⟩ := ckA_elim h
      obtain ⟨σ4, e9, h⟩ := bt_elim h
      have f_σ4 : Fm [79, 80, 81] σ σ4 := (Fm.rf).tr (by rw [e9]; exact Fm.st (by decide))
      obtain ⟨_, -, h⟩ := bt_elim h
      exact (f_σ4).tr (ih _ _ _ _ _ h)
theorem fr_X10_begin {N : Nat}  {σ : St} {v : Unit} {w : St} (h : o_X10_begin N  σ = some (v, w)) : Fm [79, 80, 81] σ w := by
  unfold o_X10_begin at h
  obtain ⟨_, -, h⟩ := bt_elim h
  exact (Fm.rf).tr (frl_X10_begin_10 N N _ _ _ _ _ h)
theorem frj_X10_land_124 (N : Nat) (K_84 : St → Option (Int32 × St)) (hK_84 : ∀  (σ : St) (v : Int32) (w : St), K_84  σ = some (v, w) → Fm [79, 80, 81, 82, 83, 84, 85, 86, 87, 88, 89, 90, 91, 92] σ w) (s1 : Int32) (σ : St) (v : Int32) (w : St) (h : j_X10_land_124 N K_84 s1 σ = some (v, w)) : Fm [79, 80, 81, 82, 83, 84, 85, 86, 87, 88, 89, 90, 91, 92] σ w := by
  unfold j_X10_land_124 at h
  obtain ⟨q1, e9, h⟩ := bt_elim h
  have f_q1 : Fm [79, 80, 81, 82, 83, 84, 85, 86, 87, 88, 89, 90, 91, 92] σ q1.2 := (Fm.rf).tr (by rw [e9]; exact (fr_X10_want _ _ _ _ _ rfl).mono rfl)
  rcases ite_elim h with h | h
  · exact (f_q1).tr (hK_84  _ _ _ h)
  · obtain ⟨σ3, e9, h⟩ := bt_elim h
    have f_σ3 : Fm [79, 80, 81, 82, 83, 84, 85, 86, 87, 88, 89, 90, 91, 92] σ σ3 := (f_q1).tr (by rw [e9]; exact Fm.st (by decide))
    exact (f_σ3).tr (hK_84  _ _ _ h)
theorem frj_X10_land_148 (N : Nat)  (σ : St) (v : Int32) (w : St) (h : j_X10_land_148 N  σ = some (v, w)) : Fm [79, 80, 81, 82, 83, 84, 85, 86, 87, 88, 89, 90, 91, 92] σ w := by
  unfold j_X10_land_148 at h
  obtain ⟨σ1, e9, h⟩ := bt_elim h
  have f_σ1 : Fm [79, 80, 81, 82, 83, 84, 85, 86, 87, 88, 89, 90, 91, 92] σ σ1 := (Fm.rf).tr (by rw [e9]; exact Fm.st (by decide))
  rcases ite_elim h with h | h
  · obtain ⟨u3, σ4, g5, h⟩ := bd_elim h
    have f_σ4 : Fm [79, 80, 81, 82, 83, 84, 85, 86, 87, 88, 89, 90, 91, 92] σ σ4 := (f_σ1).tr ((fr_X10_take g5).mono rfl)
    obtain ⟨u6, σ7, g8, h⟩ := bd_elim h
    have f_σ7 : Fm [79, 80, 81, 82, 83, 84, 85, 86, 87, 88, 89, 90, 91, 92] σ σ7 := (f_σ4).tr ((fr_X10_begin g8).mono rfl)
    obtain ⟨-, h⟩ := oeq h
    rw [← h]
    exact f_σ7
  · obtain ⟨-, h⟩ := oeq h
    rw [← h]
    exact f_σ1
theorem frl_X10_land_84 (N : Nat) : ∀ (n : Nat)  (σ : St) (v : Int32) (w : St), l_X10_land_84 N n  σ = some (v, w) → Fm [79, 80, 81, 82, 83, 84, 85, 86, 87, 88, 89, 90, 91, 92] σ w := by
  intro n
  induction n with
  | zero =>
    intro  σ v w h
    rw [l_X10_land_84] at h
    cases h
  | succ n ih =>
    intro  σ v w h
    rw [l_X10_land_84] at h
    rcases ite_elim h with h | h
    · obtain ⟨x2, σ3, g4, h⟩ := bd_elim h
      have f_σ3 : Fm [79, 80, 81, 82, 83, 84, 85, 86, 87, 88, 89, 90, 91, 92] σ σ3 := (Fm.rf).tr ((fr_X10_here g4).mono rfl)
      rcases ite_elim h with h | h
      · exact (f_σ3).tr (frj_X10_land_148 N _ _ _ h)
      · obtain ⟨u6, σ7, g8, h⟩ := bd_elim h
        have f_σ7 : Fm [79, 80, 81, 82, 83, 84, 85, 86, 87, 88, 89, 90, 91, 92] σ σ7 := (f_σ3).tr ((fr_X10_takeClause g8).mono rfl)
        rcases ite_elim h with h | h
        · obtain ⟨x10, σ11, g12, h⟩ := bd_elim h
          have f_σ11 : Fm [79, 80, 81, 82, 83, 84, 85, 86, 87, 88, 89, 90, 91, 92] σ σ11 := (f_σ7).tr ((fr_X10_here g12).mono rfl)
          rcases ite_elim h with h | h
          · exact (f_σ11).tr (frj_X10_land_124 N (l_X10_land_84 N n) ih _ _ _ _ h)
          · exact (f_σ11).tr (frj_X10_land_124 N (l_X10_land_84 N n) ih _ _ _ _ h)
        · exact (f_σ7).tr (ih  _ _ _ h)
    · exact (Fm.rf).tr (frj_X10_land_148 N _ _ _ h)
theorem frl_X10_land_64 (N : Nat) : ∀ (n : Nat) (v1 : Int32) (σ : St) (v : Int32) (w : St), l_X10_land_64 N n v1 σ = some (v, w) → Fm [79, 80, 81, 82, 83, 84, 85, 86, 87, 88, 89, 90, 91, 92] σ w := by
  intro n
  induction n with
  | zero =>
    intro v1 σ v w h
    rw [l_X10_land_64] at h
    cases h
  | succ n ih =>
    intro v1 σ v w h
    rw [l_X10_land_64] at h
    rcases ite_elim h with h | h
    · exact (Fm.rf).tr (frl_X10_land_84 N N _ _ _ h)
    · obtain ⟨-, h⟩ := ckA_elim h
      obtain ⟨σ3, e9, h⟩ := bt_elim h
      have f_σ3 : Fm [79, 80, 81, 82, 83, 84, 85, 86, 87, 88, 89, 90, 91, 92] σ σ3 := (Fm.rf).tr (by rw [e9]; exact Fm.st (by decide))
      obtain ⟨_, -, h⟩ := bt_elim h
      exact (f_σ3).tr (ih _ _ _ _ h)
theorem fr_X10_land {N : Nat}  {σ : St} {v : Int32} {w : St} (h : o_X10_land N  σ = some (v, w)) : Fm [79, 80, 81, 82, 83, 84, 85, 86, 87, 88, 89, 90, 91, 92] σ w := by
  unfold o_X10_land at h
  obtain ⟨σ1, e9, h⟩ := bt_elim h
  have f_σ1 : Fm [79, 80, 81, 82, 83, 84, 85, 86, 87, 88, 89, 90, 91, 92] σ σ1 := (Fm.rf).tr (by rw [e9]; exact Fm.st (by decide))
  obtain ⟨σ2, e9, h⟩ := bt_elim h
  have f_σ2 : Fm [79, 80, 81, 82, 83, 84, 85, 86, 87, 88, 89, 90, 91, 92] σ σ2 := (f_σ1).tr (by rw [e9]; exact Fm.st (by decide))
  obtain ⟨σ3, e9, h⟩ := bt_elim h
  have f_σ3 : Fm [79, 80, 81, 82, 83, 84, 85, 86, 87, 88, 89, 90, 91, 92] σ σ3 := (f_σ2).tr (by rw [e9]; exact Fm.st (by decide))
  obtain ⟨σ4, e9, h⟩ := bt_elim h
  have f_σ4 : Fm [79, 80, 81, 82, 83, 84, 85, 86, 87, 88, 89, 90, 91, 92] σ σ4 := (f_σ3).tr (by rw [e9]; exact Fm.st (by decide))
  obtain ⟨σ5, e9, h⟩ := bt_elim h
  have f_σ5 : Fm [79, 80, 81, 82, 83, 84, 85, 86, 87, 88, 89, 90, 91, 92] σ σ5 := (f_σ4).tr (by rw [e9]; exact Fm.st (by decide))
  obtain ⟨σ6, e9, h⟩ := bt_elim h
  have f_σ6 : Fm [79, 80, 81, 82, 83, 84, 85, 86, 87, 88, 89, 90, 91, 92] σ σ6 := (f_σ5).tr (by rw [e9]; exact Fm.st (by decide))
  obtain ⟨σ7, e9, h⟩ := bt_elim h
  have f_σ7 : Fm [79, 80, 81, 82, 83, 84, 85, 86, 87, 88, 89, 90, 91, 92] σ σ7 := (f_σ6).tr (by rw [e9]; exact Fm.st (by decide))
  obtain ⟨σ8, e9, h⟩ := bt_elim h
  have f_σ8 : Fm [79, 80, 81, 82, 83, 84, 85, 86, 87, 88, 89, 90, 91, 92] σ σ8 := (f_σ7).tr (by rw [e9]; exact Fm.st (by decide))
  obtain ⟨σ9, e9, h⟩ := bt_elim h
  have f_σ9 : Fm [79, 80, 81, 82, 83, 84, 85, 86, 87, 88, 89, 90, 91, 92] σ σ9 := (f_σ8).tr (by rw [e9]; exact Fm.st (by decide))
  obtain ⟨σ10, e9, h⟩ := bt_elim h
  have f_σ10 : Fm [79, 80, 81, 82, 83, 84, 85, 86, 87, 88, 89, 90, 91, 92] σ σ10 := (f_σ9).tr (by rw [e9]; exact Fm.st (by decide))
  obtain ⟨σ11, e9, h⟩ := bt_elim h
  have f_σ11 : Fm [79, 80, 81, 82, 83, 84, 85, 86, 87, 88, 89, 90, 91, 92] σ σ11 := (f_σ10).tr (by rw [e9]; exact Fm.st (by decide))
  exact (f_σ11).tr (frl_X10_land_64 N N _ _ _ _ h)
theorem frj_X1_setOf_32 (N : Nat) (K_4 : Int32 → Int32 → Int32 → St → Option (Int32 × St)) (hK_4 : ∀ (v1 : Int32) (v2 : Int32) (v3 : Int32) (σ : St) (v : Int32) (w : St), K_4 v1 v2 v3 σ = some (v, w) → Fm [] σ w) (v1 : Int32) (v3 : Int32) (s0 : Int32) (s1 : Int32) (σ : St) (v : Int32) (w : St) (h : j_X1_setOf_32 N K_4 v1 v3 s0 s1 σ = some (v, w)) : Fm [] σ w := by
  unfold j_X1_setOf_32 at h
  obtain ⟨_, -, h⟩ := bt_elim h
  obtain ⟨_, -, h⟩ := bt_elim h
  exact (Fm.rf).tr (hK_4 _ _ _ _ _ _ h)
theorem frl_X1_setOf_4 (N : Nat) : ∀ (n : Nat) (v1 : Int32) (v2 : Int32) (v3 : Int32) (σ : St) (v : Int32) (w : St), l_X1_setOf_4 N n v1 v2 v3 σ = some (v, w) → Fm [] σ w := by
  intro n
  induction n with
  | zero =>
    intro v1 v2 v3 σ v w h
    rw [l_X1_setOf_4] at h
    cases h
  | succ n ih =>
    intro v1 v2 v3 σ v w h
    rw [l_X1_setOf_4] at h
    rcases ite_elim h with h | h
    · obtain ⟨-, h⟩ := oeq h
      rw [← h]
      exact Fm.rf
    · rcases ite_elim h with h | h
      · exact (Fm.rf).tr (frj_X1_setOf_32 N (l_X1_setOf_4 N n) ih _ _ _ _ _ _ _ h)
      · exact (Fm.rf).tr (frj_X1_setOf_32 N (l_X1_setOf_4 N n) ih _ _ _ _ _ _ _ h)
theorem fr_X1_setOf {N : Nat} {a1 : Int32} {σ : St} {v : Int32} {w : St} (h : o_X1_setOf N a1 σ = some (v, w)) : Fm [] σ w := by
  unfold o_X1_setOf at h
  exact (Fm.rf).tr (frl_X1_setOf_4 N N _ _ _ _ _ _ h)
theorem fr_J9_floorMod_7cf53 {N : Nat} {a0 : Int32} {a1 : Int32} {σ : St} {v : Int32} {w : St} (h : o_J9_floorMod_7cf53 N a0 a1 σ = some (v, w)) : Fm [] σ w := by
  unfold o_J9_floorMod_7cf53 at h
  obtain ⟨-, h⟩ := ckDI_elim h
  obtain ⟨_, -, h⟩ := bt_elim h
  rcases ite_elim h with h | h
  · obtain ⟨-, h⟩ := oeq h
    rw [← h]
    exact Fm.rf
  · rcases ite_elim h with h | h
    · obtain ⟨-, h⟩ := oeq h
      rw [← h]
      exact Fm.rf
    · obtain ⟨-, h⟩ := oeq h
      rw [← h]
      exact Fm.rf
theorem frj_X5_isWinter_31 (N : Nat)  (σ : St) (v : Int32) (w : St) (h : j_X5_isWinter_31 N  σ = some (v, w)) : Fm [] σ w := by
  unfold j_X5_isWinter_31 at h
  obtain ⟨-, h⟩ := oeq h
  rw [← h]
  exact Fm.rf
theorem fr_X5_isWinter {N : Nat} {a1 : Int32} {σ : St} {v : Int32} {w : St} (h : o_X5_isWinter N a1 σ = some (v, w)) : Fm [] σ w := by
  unfold o_X5_isWinter at h
  rcases ite_elim h with h | h
  · exact (Fm.rf).tr (frj_X5_isWinter_31 N _ _ _ h)
  · obtain ⟨x2, σ3, g4, h⟩ := bd_elim h
    have f_σ3 : Fm [] σ σ3 := (Fm.rf).tr ((fr_J9_floorMod_7cf53 g4).mono rfl)
    rcases ite_elim h with h | h
    · exact (f_σ3).tr (frj_X5_isWinter_31 N _ _ _ h)
    · obtain ⟨-, h⟩ := oeq h
      rw [← h]
      exact f_σ3
theorem fr_X9_told {N : Nat} {a1 : Int32} {σ : St} {v : Int32} {w : St} (h : o_X9_told N a1 σ = some (v, w)) : Fm [] σ w := by
  unfold o_X9_told at h
  rcases ite_elim h with h | h
  · obtain ⟨-, h⟩ := oeq h
    rw [← h]
    exact Fm.rf
  · rcases ite_elim h with h | h
    · obtain ⟨-, h⟩ := oeq h
      rw [← h]
      exact Fm.rf
    · rcases ite_elim h with h | h
      · obtain ⟨-, h⟩ := oeq h
        rw [← h]
        exact Fm.rf
      · rcases ite_elim h with h | h
        · obtain ⟨-, h⟩ := oeq h
          rw [← h]
          exact Fm.rf
        · rcases ite_elim h with h | h
          · obtain ⟨-, h⟩ := oeq h
            rw [← h]
            exact Fm.rf
          · rcases ite_elim h with h | h
            · obtain ⟨-, h⟩ := oeq h
              rw [← h]
              exact Fm.rf
            · rcases ite_elim h with h | h
              · obtain ⟨x8, σ9, g10, h⟩ := bd_elim h
                have f_σ9 : Fm [] σ σ9 := (Fm.rf).tr ((fr_X1_setOf g10).mono rfl)
                obtain ⟨-, h⟩ := oeq h
                rw [← h]
                exact f_σ9
              · rcases ite_elim h with h | h
                · obtain ⟨x12, σ13, g14, h⟩ := bd_elim h
                  have f_σ13 : Fm [] σ σ13 := (Fm.rf).tr ((fr_X1_setOf g14).mono rfl)
                  obtain ⟨-, h⟩ := oeq h
                  rw [← h]
                  exact f_σ13
                · rcases ite_elim h with h | h
                  · obtain ⟨x16, σ17, g18, h⟩ := bd_elim h
                    have f_σ17 : Fm [] σ σ17 := (Fm.rf).tr ((fr_X1_setOf g18).mono rfl)
                    obtain ⟨-, h⟩ := oeq h
                    rw [← h]
                    exact f_σ17
                  · rcases ite_elim h with h | h
                    · obtain ⟨x20, σ21, g22, h⟩ := bd_elim h
                      have f_σ21 : Fm [] σ σ21 := (Fm.rf).tr ((fr_X1_setOf g22).mono rfl)
                      obtain ⟨-, h⟩ := oeq h
                      rw [← h]
                      exact f_σ21
                    · rcases ite_elim h with h | h
                      · obtain ⟨-, h⟩ := oeq h
                        rw [← h]
                        exact Fm.rf
                      · rcases ite_elim h with h | h
                        · obtain ⟨-, h⟩ := oeq h
                          rw [← h]
                          exact Fm.rf
                        · rcases ite_elim h with h | h
                          · obtain ⟨x26, σ27, g28, h⟩ := bd_elim h
                            have f_σ27 : Fm [] σ σ27 := (Fm.rf).tr ((fr_X5_isWinter g28).mono rfl)
                            rcases ite_elim h with h | h
                            · obtain ⟨-, h⟩ := oeq h
                              rw [← h]
                              exact f_σ27
                            · obtain ⟨-, h⟩ := oeq h
                              rw [← h]
                              exact f_σ27
                          · obtain ⟨-, h⟩ := oeq h
                            rw [← h]
                            exact Fm.rf
theorem frj_X10_inWay_28 (N : Nat) (K_4 : Int32 → Int32 → Int32 → St → Option (Int32 × St)) (hK_4 : ∀ (v1 : Int32) (v2 : Int32) (v3 : Int32) (σ : St) (v : Int32) (w : St), K_4 v1 v2 v3 σ = some (v, w) → Fm [] σ w) (v1 : Int32) (v3 : Int32) (s0 : Int32) (s1 : Int32) (σ : St) (v : Int32) (w : St) (h : j_X10_inWay_28 N K_4 v1 v3 s0 s1 σ = some (v, w)) : Fm [] σ w := by
  unfold j_X10_inWay_28 at h
  obtain ⟨_, -, h⟩ := bt_elim h
  obtain ⟨_, -, h⟩ := bt_elim h
  exact (Fm.rf).tr (hK_4 _ _ _ _ _ _ h)
theorem frl_X10_inWay_4 (N : Nat) : ∀ (n : Nat) (v1 : Int32) (v2 : Int32) (v3 : Int32) (σ : St) (v : Int32) (w : St), l_X10_inWay_4 N n v1 v2 v3 σ = some (v, w) → Fm [] σ w := by
  intro n
  induction n with
  | zero =>
    intro v1 v2 v3 σ v w h
    rw [l_X10_inWay_4] at h
    cases h
  | succ n ih =>
    intro v1 v2 v3 σ v w h
    rw [l_X10_inWay_4] at h
    rcases ite_elim h with h | h
    · obtain ⟨-, h⟩ := oeq h
      rw [← h]
      exact Fm.rf
    · obtain ⟨-, h⟩ := ckA_elim h
      rcases ite_elim h with h | h
      · exact (Fm.rf).tr (frj_X10_inWay_28 N (l_X10_inWay_4 N n) ih _ _ _ _ _ _ _ h)
      · exact (Fm.rf).tr (frj_X10_inWay_28 N (l_X10_inWay_4 N n) ih _ _ _ _ _ _ _ h)
theorem fr_X10_inWay {N : Nat} {a1 : Int32} {σ : St} {v : Int32} {w : St} (h : o_X10_inWay N a1 σ = some (v, w)) : Fm [] σ w := by
  unfold o_X10_inWay at h
  exact (Fm.rf).tr (frl_X10_inWay_4 N N _ _ _ _ _ _ h)
theorem frj_X10_isWinter_20 (N : Nat) (v1 : Int32) (s0 : Int32) (σ : St) (v : Int32) (w : St) (h : j_X10_isWinter_20 N v1 s0 σ = some (v, w)) : Fm [] σ w := by
  unfold j_X10_isWinter_20 at h
  obtain ⟨-, h⟩ := ckDI_elim h
  obtain ⟨-, h⟩ := ckDI_elim h
  rcases ite_elim h with h | h
  · obtain ⟨-, h⟩ := oeq h
    rw [← h]
    exact Fm.rf
  · obtain ⟨-, h⟩ := oeq h
    rw [← h]
    exact Fm.rf
theorem fr_X10_isWinter {N : Nat} {a1 : Int32} {σ : St} {v : Int32} {w : St} (h : o_X10_isWinter N a1 σ = some (v, w)) : Fm [] σ w := by
  unfold o_X10_isWinter at h
  rcases ite_elim h with h | h
  · exact (Fm.rf).tr (frj_X10_isWinter_20 N _ _ _ _ _ h)
  · exact (Fm.rf).tr (frj_X10_isWinter_20 N _ _ _ _ _ h)
theorem fr_X10_told {N : Nat} {a1 : Int32} {σ : St} {v : Int32} {w : St} (h : o_X10_told N a1 σ = some (v, w)) : Fm [] σ w := by
  unfold o_X10_told at h
  rcases ite_elim h with h | h
  · obtain ⟨-, h⟩ := oeq h
    rw [← h]
    exact Fm.rf
  · rcases ite_elim h with h | h
    · obtain ⟨-, h⟩ := oeq h
      rw [← h]
      exact Fm.rf
    · rcases ite_elim h with h | h
      · obtain ⟨-, h⟩ := oeq h
        rw [← h]
        exact Fm.rf
      · rcases ite_elim h with h | h
        · obtain ⟨-, h⟩ := oeq h
          rw [← h]
          exact Fm.rf
        · rcases ite_elim h with h | h
          · obtain ⟨-, h⟩ := oeq h
            rw [← h]
            exact Fm.rf
          · rcases ite_elim h with h | h
            · obtain ⟨-, h⟩ := oeq h
              rw [← h]
              exact Fm.rf
            · rcases ite_elim h with h | h
              · obtain ⟨x8, σ9, g10, h⟩ := bd_elim h
                have f_σ9 : Fm [] σ σ9 := (Fm.rf).tr ((fr_X10_inWay g10).mono rfl)
                obtain ⟨-, h⟩ := oeq h
                rw [← h]
                exact f_σ9
              · rcases ite_elim h with h | h
                · obtain ⟨x12, σ13, g14, h⟩ := bd_elim h
                  have f_σ13 : Fm [] σ σ13 := (Fm.rf).tr ((fr_X10_inWay g14).mono rfl)
                  obtain ⟨-, h⟩ := oeq h
                  rw [← h]
                  exact f_σ13
                · rcases ite_elim h with h | h
                  · obtain ⟨x16, σ17, g18, h⟩ := bd_elim h
                    have f_σ17 : Fm [] σ σ17 := (Fm.rf).tr ((fr_X10_inWay g18).mono rfl)
                    obtain ⟨-, h⟩ := oeq h
                    rw [← h]
                    exact f_σ17
                  · rcases ite_elim h with h | h
                    · obtain ⟨x20, σ21, g22, h⟩ := bd_elim h
                      have f_σ21 : Fm [] σ σ21 := (Fm.rf).tr ((fr_X10_inWay g22).mono rfl)
                      obtain ⟨-, h⟩ := oeq h
                      rw [← h]
                      exact f_σ21
                    · rcases ite_elim h with h | h
                      · obtain ⟨-, h⟩ := oeq h
                        rw [← h]
                        exact Fm.rf
                      · rcases ite_elim h with h | h
                        · obtain ⟨-, h⟩ := oeq h
                          rw [← h]
                          exact Fm.rf
                        · rcases ite_elim h with h | h
                          · obtain ⟨x26, σ27, g28, h⟩ := bd_elim h
                            have f_σ27 : Fm [] σ σ27 := (Fm.rf).tr ((fr_X10_isWinter g28).mono rfl)
                            obtain ⟨-, h⟩ := oeq h
                            rw [← h]
                            exact f_σ27
                          · obtain ⟨-, h⟩ := oeq h
                            rw [← h]
                            exact Fm.rf
theorem fr_X10_isTown {N : Nat} {a1 : Int32} {σ : St} {v : Int32} {w : St} (h : o_X10_isTown N a1 σ = some (v, w)) : Fm [] σ w := by
  unfold o_X10_isTown at h
  obtain ⟨-, h⟩ := ckB_elim h
  obtain ⟨-, h⟩ := oeq h
  rw [← h]
  exact Fm.rf
theorem fr_X10_far {N : Nat} {a1 : Int32} {a2 : Int32} {σ : St} {v : Int32} {w : St} (h : o_X10_far N a1 a2 σ = some (v, w)) : Fm [] σ w := by
  unfold o_X10_far at h
  obtain ⟨x1, σ2, g3, h⟩ := bd_elim h
  have f_σ2 : Fm [] σ σ2 := (Fm.rf).tr ((fr_X10_isTown g3).mono rfl)
  rcases ite_elim h with h | h
  · obtain ⟨-, h⟩ := oeq h
    rw [← h]
    exact f_σ2
  · obtain ⟨x5, σ6, g7, h⟩ := bd_elim h
    have f_σ6 : Fm [] σ σ6 := (f_σ2).tr ((fr_X10_isTown g7).mono rfl)
    rcases ite_elim h with h | h
    · obtain ⟨-, h⟩ := oeq h
      rw [← h]
      exact f_σ6
    · obtain ⟨-, h⟩ := ckA_elim h
      rcases ite_elim h with h | h
      · obtain ⟨-, h⟩ := ckA_elim h
        obtain ⟨-, h⟩ := oeq h
        rw [← h]
        exact f_σ6
      · obtain ⟨-, h⟩ := oeq h
        rw [← h]
        exact f_σ6
theorem frj_X1_heldBy_32 (N : Nat) (K_4 : Int32 → Int32 → Int32 → St → Option (Int32 × St)) (hK_4 : ∀ (v1 : Int32) (v2 : Int32) (v3 : Int32) (σ : St) (v : Int32) (w : St), K_4 v1 v2 v3 σ = some (v, w) → Fm [] σ w) (v1 : Int32) (v3 : Int32) (s0 : Int32) (s1 : Int32) (σ : St) (v : Int32) (w : St) (h : j_X1_heldBy_32 N K_4 v1 v3 s0 s1 σ = some (v, w)) : Fm [] σ w := by
  unfold j_X1_heldBy_32 at h
  obtain ⟨_, -, h⟩ := bt_elim h
  obtain ⟨_, -, h⟩ := bt_elim h
  exact (Fm.rf).tr (hK_4 _ _ _ _ _ _ h)
theorem frl_X1_heldBy_4 (N : Nat) : ∀ (n : Nat) (v1 : Int32) (v2 : Int32) (v3 : Int32) (σ : St) (v : Int32) (w : St), l_X1_heldBy_4 N n v1 v2 v3 σ = some (v, w) → Fm [] σ w := by
  intro n
  induction n with
  | zero =>
    intro v1 v2 v3 σ v w h
    rw [l_X1_heldBy_4] at h
    cases h
  | succ n ih =>
    intro v1 v2 v3 σ v w h
    rw [l_X1_heldBy_4] at h
    rcases ite_elim h with h | h
    · obtain ⟨-, h⟩ := oeq h
      rw [← h]
      exact Fm.rf
    · rcases ite_elim h with h | h
      · exact (Fm.rf).tr (frj_X1_heldBy_32 N (l_X1_heldBy_4 N n) ih _ _ _ _ _ _ _ h)
      · exact (Fm.rf).tr (frj_X1_heldBy_32 N (l_X1_heldBy_4 N n) ih _ _ _ _ _ _ _ h)
theorem fr_X1_heldBy {N : Nat} {a1 : Int32} {σ : St} {v : Int32} {w : St} (h : o_X1_heldBy N a1 σ = some (v, w)) : Fm [] σ w := by
  unfold o_X1_heldBy at h
  exact (Fm.rf).tr (frl_X1_heldBy_4 N N _ _ _ _ _ _ h)
theorem fr_X9_keeper {N : Nat} {a1 : Int32} {a2 : Int32} {σ : St} {v : Int32} {w : St} (h : o_X9_keeper N a1 a2 σ = some (v, w)) : Fm [] σ w := by
  unfold o_X9_keeper at h
  rcases ite_elim h with h | h
  · obtain ⟨-, h⟩ := oeq h
    rw [← h]
    exact Fm.rf
  · rcases ite_elim h with h | h
    · obtain ⟨-, h⟩ := oeq h
      rw [← h]
      exact Fm.rf
    · rcases ite_elim h with h | h
      · obtain ⟨-, h⟩ := oeq h
        rw [← h]
        exact Fm.rf
      · rcases ite_elim h with h | h
        · obtain ⟨-, h⟩ := oeq h
          rw [← h]
          exact Fm.rf
        · rcases ite_elim h with h | h
          · obtain ⟨x6, σ7, g8, h⟩ := bd_elim h
            have f_σ7 : Fm [] σ σ7 := (Fm.rf).tr ((fr_X1_heldBy g8).mono rfl)
            obtain ⟨-, h⟩ := oeq h
            rw [← h]
            exact f_σ7
          · obtain ⟨-, h⟩ := oeq h
            rw [← h]
            exact Fm.rf
theorem fr_X10_isKeeper {N : Nat} {a1 : Int32} {σ : St} {v : Int32} {w : St} (h : o_X10_isKeeper N a1 σ = some (v, w)) : Fm [] σ w := by
  unfold o_X10_isKeeper at h
  obtain ⟨-, h⟩ := ckB_elim h
  obtain ⟨-, h⟩ := oeq h
  rw [← h]
  exact Fm.rf
theorem frj_X10_ofKeeper_31 (N : Nat) (K_4 : Int32 → Int32 → Int32 → St → Option (Int32 × St)) (hK_4 : ∀ (v1 : Int32) (v2 : Int32) (v3 : Int32) (σ : St) (v : Int32) (w : St), K_4 v1 v2 v3 σ = some (v, w) → Fm [] σ w) (v1 : Int32) (v3 : Int32) (s0 : Int32) (s1 : Int32) (σ : St) (v : Int32) (w : St) (h : j_X10_ofKeeper_31 N K_4 v1 v3 s0 s1 σ = some (v, w)) : Fm [] σ w := by
  unfold j_X10_ofKeeper_31 at h
  obtain ⟨_, -, h⟩ := bt_elim h
  obtain ⟨_, -, h⟩ := bt_elim h
  exact (Fm.rf).tr (hK_4 _ _ _ _ _ _ h)
theorem frl_X10_ofKeeper_4 (N : Nat) : ∀ (n : Nat) (v1 : Int32) (v2 : Int32) (v3 : Int32) (σ : St) (v : Int32) (w : St), l_X10_ofKeeper_4 N n v1 v2 v3 σ = some (v, w) → Fm [] σ w := by
  intro n
  induction n with
  | zero =>
    intro v1 v2 v3 σ v w h
    rw [l_X10_ofKeeper_4] at h
    cases h
  | succ n ih =>
    intro v1 v2 v3 σ v w h
    rw [l_X10_ofKeeper_4] at h
    rcases ite_elim h with h | h
    · obtain ⟨-, h⟩ := oeq h
      rw [← h]
      exact Fm.rf
    · obtain ⟨-, h⟩ := ckA_elim h
      rcases ite_elim h with h | h
      · exact (Fm.rf).tr (frj_X10_ofKeeper_31 N (l_X10_ofKeeper_4 N n) ih _ _ _ _ _ _ _ h)
      · exact (Fm.rf).tr (frj_X10_ofKeeper_31 N (l_X10_ofKeeper_4 N n) ih _ _ _ _ _ _ _ h)
theorem fr_X10_ofKeeper {N : Nat} {a1 : Int32} {σ : St} {v : Int32} {w : St} (h : o_X10_ofKeeper N a1 σ = some (v, w)) : Fm [] σ w := by
  unfold o_X10_ofKeeper at h
  exact (Fm.rf).tr (frl_X10_ofKeeper_4 N N _ _ _ _ _ _ h)
theorem fr_X10_keeper {N : Nat} {a1 : Int32} {a2 : Int32} {σ : St} {v : Int32} {w : St} (h : o_X10_keeper N a1 a2 σ = some (v, w)) : Fm [] σ w := by
  unfold o_X10_keeper at h
  obtain ⟨x1, σ2, g3, h⟩ := bd_elim h
  have f_σ2 : Fm [] σ σ2 := (Fm.rf).tr ((fr_X10_isKeeper g3).mono rfl)
  rcases ite_elim h with h | h
  · obtain ⟨-, h⟩ := oeq h
    rw [← h]
    exact f_σ2
  · rcases ite_elim h with h | h
    · obtain ⟨-, h⟩ := ckA_elim h
      obtain ⟨-, h⟩ := oeq h
      rw [← h]
      exact f_σ2
    · rcases ite_elim h with h | h
      · obtain ⟨-, h⟩ := ckA_elim h
        obtain ⟨-, h⟩ := oeq h
        rw [← h]
        exact f_σ2
      · rcases ite_elim h with h | h
        · obtain ⟨-, h⟩ := ckA_elim h
          obtain ⟨-, h⟩ := oeq h
          rw [← h]
          exact f_σ2
        · rcases ite_elim h with h | h
          · obtain ⟨x9, σ10, g11, h⟩ := bd_elim h
            have f_σ10 : Fm [] σ σ10 := (f_σ2).tr ((fr_X10_ofKeeper g11).mono rfl)
            obtain ⟨-, h⟩ := oeq h
            rw [← h]
            exact f_σ10
          · obtain ⟨-, h⟩ := oeq h
            rw [← h]
            exact f_σ2
theorem frj_X5_ripeDay_21 (N : Nat) (v1 : Int32) (v2 : Int32) (σ : St) (v : Int32) (w : St) (h : j_X5_ripeDay_21 N v1 v2 σ = some (v, w)) : Fm [] σ w := by
  unfold j_X5_ripeDay_21 at h
  obtain ⟨-, h⟩ := oeq h
  rw [← h]
  exact Fm.rf
theorem fr_X5_ripeDay {N : Nat} {a1 : Int32} {a2 : Int32} {σ : St} {v : Int32} {w : St} (h : o_X5_ripeDay N a1 a2 σ = some (v, w)) : Fm [] σ w := by
  unfold o_X5_ripeDay at h
  obtain ⟨_, -, h⟩ := bt_elim h
  rcases ite_elim h with h | h
  · exact (Fm.rf).tr (frj_X5_ripeDay_21 N _ _ _ _ _ h)
  · rcases ite_elim h with h | h
    · obtain ⟨x4, σ5, g6, h⟩ := bd_elim h
      have f_σ5 : Fm [] σ σ5 := (Fm.rf).tr ((fr_J9_floorMod_7cf53 g6).mono rfl)
      obtain ⟨_, -, h⟩ := bt_elim h
      obtain ⟨_, -, h⟩ := bt_elim h
      obtain ⟨_, -, h⟩ := bt_elim h
      rcases ite_elim h with h | h
      · obtain ⟨_, -, h⟩ := bt_elim h
        obtain ⟨-, h⟩ := ckDI_elim h
        obtain ⟨-, h⟩ := ckDI_elim h
        obtain ⟨-, h⟩ := oeq h
        rw [← h]
        exact f_σ5
      · obtain ⟨-, h⟩ := oeq h
        rw [← h]
        exact f_σ5
    · exact (Fm.rf).tr (frj_X5_ripeDay_21 N _ _ _ _ _ h)
theorem fr_X1_ripeOn_23 {N : Nat} {a1 : Int32} {σ : St} {v : Int32} {w : St} (h : o_X1_ripeOn_23 N a1 σ = some (v, w)) : Fm [] σ w := by
  unfold o_X1_ripeOn_23 at h
  obtain ⟨_, -, h⟩ := bt_elim h
  rcases ite_elim h with h | h
  · obtain ⟨-, h⟩ := oeq h
    rw [← h]
    exact Fm.rf
  · obtain ⟨x3, σ4, g5, h⟩ := bd_elim h
    have f_σ4 : Fm [] σ σ4 := (Fm.rf).tr ((fr_X5_ripeDay g5).mono rfl)
    obtain ⟨-, h⟩ := oeq h
    rw [← h]
    exact f_σ4
theorem fr_X9_promise {N : Nat} {a1 : Int32} {a2 : Int32} {σ : St} {v : Int32} {w : St} (h : o_X9_promise N a1 a2 σ = some (v, w)) : Fm [] σ w := by
  unfold o_X9_promise at h
  rcases ite_elim h with h | h
  · obtain ⟨-, h⟩ := oeq h
    rw [← h]
    exact Fm.rf
  · rcases ite_elim h with h | h
    · obtain ⟨-, h⟩ := oeq h
      rw [← h]
      exact Fm.rf
    · rcases ite_elim h with h | h
      · obtain ⟨-, h⟩ := oeq h
        rw [← h]
        exact Fm.rf
      · rcases ite_elim h with h | h
        · obtain ⟨-, h⟩ := oeq h
          rw [← h]
          exact Fm.rf
        · rcases ite_elim h with h | h
          · obtain ⟨-, h⟩ := oeq h
            rw [← h]
            exact Fm.rf
          · rcases ite_elim h with h | h
            · obtain ⟨-, h⟩ := oeq h
              rw [← h]
              exact Fm.rf
            · rcases ite_elim h with h | h
              · obtain ⟨-, h⟩ := oeq h
                rw [← h]
                exact Fm.rf
              · rcases ite_elim h with h | h
                · obtain ⟨-, h⟩ := oeq h
                  rw [← h]
                  exact Fm.rf
                · rcases ite_elim h with h | h
                  · obtain ⟨x10, σ11, g12, h⟩ := bd_elim h
                    have f_σ11 : Fm [] σ σ11 := (Fm.rf).tr ((fr_X1_ripeOn_23 g12).mono rfl)
                    obtain ⟨-, h⟩ := oeq h
                    rw [← h]
                    exact f_σ11
                  · rcases ite_elim h with h | h
                    · obtain ⟨-, h⟩ := oeq h
                      rw [← h]
                      exact Fm.rf
                    · obtain ⟨-, h⟩ := oeq h
                      rw [← h]
                      exact Fm.rf
theorem fr_X10_isPromise {N : Nat} {a1 : Int32} {σ : St} {v : Int32} {w : St} (h : o_X10_isPromise N a1 σ = some (v, w)) : Fm [] σ w := by
  unfold o_X10_isPromise at h
  obtain ⟨-, h⟩ := ckB_elim h
  obtain ⟨-, h⟩ := oeq h
  rw [← h]
  exact Fm.rf
theorem frj_X10_ripeBy_25 (N : Nat) (K_5 : Int32 → Int32 → St → Option (Int32 × St)) (hK_5 : ∀ (v3 : Int32) (v4 : Int32) (σ : St) (v : Int32) (w : St), K_5 v3 v4 σ = some (v, w) → Fm [] σ w) (v3 : Int32) (s0 : Int32) (s1 : Int32) (σ : St) (v : Int32) (w : St) (h : j_X10_ripeBy_25 N K_5 v3 s0 s1 σ = some (v, w)) : Fm [] σ w := by
  unfold j_X10_ripeBy_25 at h
  obtain ⟨_, -, h⟩ := bt_elim h
  obtain ⟨_, -, h⟩ := bt_elim h
  exact (Fm.rf).tr (hK_5 _ _ _ _ _ h)
theorem frl_X10_ripeBy_5 (N : Nat) : ∀ (n : Nat) (v3 : Int32) (v4 : Int32) (σ : St) (v : Int32) (w : St), l_X10_ripeBy_5 N n v3 v4 σ = some (v, w) → Fm [] σ w := by
  intro n
  induction n with
  | zero =>
    intro v3 v4 σ v w h
    rw [l_X10_ripeBy_5] at h
    cases h
  | succ n ih =>
    intro v3 v4 σ v w h
    rw [l_X10_ripeBy_5] at h
    rcases ite_elim h with h | h
    · obtain ⟨-, h⟩ := oeq h
      rw [← h]
      exact Fm.rf
    · obtain ⟨x2, σ3, g4, h⟩ := bd_elim h
      have f_σ3 : Fm [] σ σ3 := (Fm.rf).tr ((fr_X10_isWinter g4).mono rfl)
      rcases ite_elim h with h | h
      · exact (f_σ3).tr (frj_X10_ripeBy_25 N (l_X10_ripeBy_5 N n) ih _ _ _ _ _ _ h)
      · exact (f_σ3).tr (frj_X10_ripeBy_25 N (l_X10_ripeBy_5 N n) ih _ _ _ _ _ _ h)
theorem fr_X10_ripeBy {N : Nat} {a1 : Int32} {a2 : Int32} {σ : St} {v : Int32} {w : St} (h : o_X10_ripeBy N a1 a2 σ = some (v, w)) : Fm [] σ w := by
  unfold o_X10_ripeBy at h
  exact (Fm.rf).tr (frl_X10_ripeBy_5 N N _ _ _ _ _ h)
theorem fr_X10_ripe {N : Nat} {a1 : Int32} {a2 : Int32} {σ : St} {v : Int32} {w : St} (h : o_X10_ripe N a1 a2 σ = some (v, w)) : Fm [] σ w := by
  unfold o_X10_ripe at h
  obtain ⟨-, h⟩ := ckA_elim h
  rcases ite_elim h with h | h
  · obtain ⟨-, h⟩ := ckA_elim h
    obtain ⟨-, h⟩ := ckA_elim h
    obtain ⟨x5, σ6, g7, h⟩ := bd_elim h
    have f_σ6 : Fm [] σ σ6 := (Fm.rf).tr ((fr_X10_ripeBy g7).mono rfl)
    obtain ⟨-, h⟩ := oeq h
    rw [← h]
    exact f_σ6
  · obtain ⟨-, h⟩ := oeq h
    rw [← h]
    exact Fm.rf
theorem fr_X10_promise {N : Nat} {a1 : Int32} {a2 : Int32} {σ : St} {v : Int32} {w : St} (h : o_X10_promise N a1 a2 σ = some (v, w)) : Fm [] σ w := by
  unfold o_X10_promise at h
  obtain ⟨x1, σ2, g3, h⟩ := bd_elim h
  have f_σ2 : Fm [] σ σ2 := (Fm.rf).tr ((fr_X10_isPromise g3).mono rfl)
  rcases ite_elim h with h | h
  · obtain ⟨-, h⟩ := oeq h
    rw [← h]
    exact f_σ2
  · rcases ite_elim h with h | h
    · obtain ⟨-, h⟩ := ckA_elim h
      obtain ⟨-, h⟩ := oeq h
      rw [← h]
      exact f_σ2
    · rcases ite_elim h with h | h
      · obtain ⟨-, h⟩ := ckA_elim h
        obtain ⟨-, h⟩ := oeq h
        rw [← h]
        exact f_σ2
      · rcases ite_elim h with h | h
        · obtain ⟨-, h⟩ := ckA_elim h
          obtain ⟨-, h⟩ := oeq h
          rw [← h]
          exact f_σ2
        · rcases ite_elim h with h | h
          · obtain ⟨-, h⟩ := ckA_elim h
            obtain ⟨-, h⟩ := oeq h
            rw [← h]
            exact f_σ2
          · rcases ite_elim h with h | h
            · obtain ⟨-, h⟩ := ckA_elim h
              obtain ⟨-, h⟩ := oeq h
              rw [← h]
              exact f_σ2
            · rcases ite_elim h with h | h
              · obtain ⟨-, h⟩ := ckA_elim h
                rcases ite_elim h with h | h
                · obtain ⟨-, h⟩ := oeq h
                  rw [← h]
                  exact f_σ2
                · obtain ⟨-, h⟩ := ckA_elim h
                  obtain ⟨-, h⟩ := oeq h
                  rw [← h]
                  exact f_σ2
              · rcases ite_elim h with h | h
                · obtain ⟨-, h⟩ := ckA_elim h
                  obtain ⟨-, h⟩ := oeq h
                  rw [← h]
                  exact f_σ2
                · rcases ite_elim h with h | h
                  · obtain ⟨x22, σ23, g24, h⟩ := bd_elim h
                    have f_σ23 : Fm [] σ σ23 := (f_σ2).tr ((fr_X10_ripe g24).mono rfl)
                    obtain ⟨-, h⟩ := oeq h
                    rw [← h]
                    exact f_σ23
                  · rcases ite_elim h with h | h
                    · obtain ⟨-, h⟩ := ckA_elim h
                      obtain ⟨-, h⟩ := oeq h
                      rw [← h]
                      exact f_σ2
                    · obtain ⟨-, h⟩ := oeq h
                      rw [← h]
                      exact f_σ2
theorem fr_X10_fell {N : Nat} {a1 : Int32} {σ : St} {v : Int32} {w : St} (h : o_X10_fell N a1 σ = some (v, w)) : Fm [] σ w := by
  unfold o_X10_fell at h
  rcases ite_elim h with h | h
  · obtain ⟨-, h⟩ := oeq h
    rw [← h]
    exact Fm.rf
  · obtain ⟨-, h⟩ := ckA_elim h
    obtain ⟨-, h⟩ := oeq h
    rw [← h]
    exact Fm.rf
theorem fr_X1_sendTo_23 (a1 : Int32) (a2 : Int32) (a3 : Int32) (σ : St) (q : St) (h : t_X1_sendTo_23 a1 a2 a3 σ = q) : Fm [24] σ q := by
  unfold t_X1_sendTo_23 at h
  obtain ⟨σ1, e9, h⟩ := bt_elim h
  have f_σ1 : Fm [24] σ σ1 := (Fm.rf).tr (by rw [e9]; exact Fm.put (by decide))
  obtain ⟨σ2, e9, h⟩ := bt_elim h
  have f_σ2 : Fm [24] σ σ2 := (f_σ1).tr (by rw [e9]; exact Fm.put (by decide))
  rw [← h]
  exact f_σ2
theorem fr_X1_depart (a1 : Int32) (a2 : Int32) (σ : St) (q : Int32 × St) (h : t_X1_depart a1 a2 σ = q) : Fm [24] σ q.2 := by
  unfold t_X1_depart at h
  obtain ⟨_, -, h⟩ := bt_elim h
  rcases ite_elim h with h | h
  · rcases ite_elim h with h | h
    · rw [← h]
      exact Fm.rf
    · rcases ite_elim h with h | h
      · rw [← h]
        exact Fm.rf
      · obtain ⟨σ5, e9, h⟩ := bt_elim h
        have f_σ5 : Fm [24] σ σ5 := (Fm.rf).tr (by rw [e9]; exact (fr_X1_sendTo_23 _ _ _ _ _ rfl).mono rfl)
        rw [← h]
        exact f_σ5
  · rw [← h]
    exact Fm.rf
theorem fr_X9_go (a1 : Int32) (a2 : Int32) (σ : St) (q : Int32 × St) (h : t_X9_go a1 a2 σ = q) : Fm [24] σ q.2 := by
  unfold t_X9_go at h
  rcases ite_elim h with h | h
  · rw [← h]
    exact Fm.rf
  · rcases ite_elim h with h | h
    · rw [← h]
      exact Fm.rf
    · obtain ⟨q3, e9, h⟩ := bt_elim h
      have f_q3 : Fm [24] σ q3.2 := (Fm.rf).tr (by rw [e9]; exact (fr_X1_depart _ _ _ _ rfl).mono rfl)
      rcases ite_elim h with h | h
      · rw [← h]
        exact f_q3
      · rw [← h]
        exact f_q3
theorem fr_X10_isOnWay {N : Nat} {a1 : Int32} {σ : St} {v : Int32} {w : St} (h : o_X10_isOnWay N a1 σ = some (v, w)) : Fm [] σ w := by
  unfold o_X10_isOnWay at h
  obtain ⟨-, h⟩ := ckA_elim h
  rcases ite_elim h with h | h
  · obtain ⟨-, h⟩ := oeq h
    rw [← h]
    exact Fm.rf
  · obtain ⟨-, h⟩ := oeq h
    rw [← h]
    exact Fm.rf
theorem frj_X10_canGo_48 (N : Nat)  (σ : St) (v : Int32) (w : St) (h : j_X10_canGo_48 N  σ = some (v, w)) : Fm [] σ w := by
  unfold j_X10_canGo_48 at h
  obtain ⟨-, h⟩ := oeq h
  rw [← h]
  exact Fm.rf
theorem fr_X10_canGo {N : Nat} {a1 : Int32} {a2 : Int32} {σ : St} {v : Int32} {w : St} (h : o_X10_canGo N a1 a2 σ = some (v, w)) : Fm [] σ w := by
  unfold o_X10_canGo at h
  obtain ⟨x1, σ2, g3, h⟩ := bd_elim h
  have f_σ2 : Fm [] σ σ2 := (Fm.rf).tr ((fr_X10_isOnWay g3).mono rfl)
  rcases ite_elim h with h | h
  · obtain ⟨-, h⟩ := ckA_elim h
    rcases ite_elim h with h | h
    · exact (f_σ2).tr (frj_X10_canGo_48 N _ _ _ h)
    · obtain ⟨-, h⟩ := ckA_elim h
      obtain ⟨-, h⟩ := ckA_elim h
      rcases ite_elim h with h | h
      · exact (f_σ2).tr (frj_X10_canGo_48 N _ _ _ h)
      · obtain ⟨-, h⟩ := oeq h
        rw [← h]
        exact f_σ2
  · exact (f_σ2).tr (frj_X10_canGo_48 N _ _ _ h)
theorem fr_X10_goTo {N : Nat} {a1 : Int32} {a2 : Int32} {σ : St} {v : Unit} {w : St} (h : o_X10_goTo N a1 a2 σ = some (v, w)) : Fm [80] σ w := by
  unfold o_X10_goTo at h
  obtain ⟨-, h⟩ := ckA_elim h
  obtain ⟨-, h⟩ := ckA_elim h
  obtain ⟨-, h⟩ := ckA_elim h
  obtain ⟨σ4, e9, h⟩ := bt_elim h
  have f_σ4 : Fm [80] σ σ4 := (Fm.rf).tr (by rw [e9]; exact Fm.st (by decide))
  obtain ⟨-, h⟩ := ckA_elim h
  obtain ⟨σ6, e9, h⟩ := bt_elim h
  have f_σ6 : Fm [80] σ σ6 := (f_σ4).tr (by rw [e9]; exact Fm.st (by decide))
  obtain ⟨-, h⟩ := oeq h
  rw [← h]
  exact f_σ6
theorem fr_X10_go {N : Nat} {a1 : Int32} {a2 : Int32} {σ : St} {v : Int32} {w : St} (h : o_X10_go N a1 a2 σ = some (v, w)) : Fm [80] σ w := by
  unfold o_X10_go at h
  obtain ⟨x1, σ2, g3, h⟩ := bd_elim h
  have f_σ2 : Fm [80] σ σ2 := (Fm.rf).tr ((fr_X10_isKeeper g3).mono rfl)
  rcases ite_elim h with h | h
  · obtain ⟨-, h⟩ := oeq h
    rw [← h]
    exact f_σ2
  · obtain ⟨x5, σ6, g7, h⟩ := bd_elim h
    have f_σ6 : Fm [80] σ σ6 := (f_σ2).tr ((fr_X10_isTown g7).mono rfl)
    rcases ite_elim h with h | h
    · obtain ⟨-, h⟩ := oeq h
      rw [← h]
      exact f_σ6
    · obtain ⟨x9, σ10, g11, h⟩ := bd_elim h
      have f_σ10 : Fm [80] σ σ10 := (f_σ6).tr ((fr_X10_canGo g11).mono rfl)
      rcases ite_elim h with h | h
      · obtain ⟨-, h⟩ := oeq h
        rw [← h]
        exact f_σ10
      · obtain ⟨u13, σ14, g15, h⟩ := bd_elim h
        have f_σ14 : Fm [80] σ σ14 := (f_σ10).tr ((fr_X10_goTo g15).mono rfl)
        obtain ⟨-, h⟩ := ckA_elim h
        obtain ⟨-, h⟩ := oeq h
        rw [← h]
        exact f_σ14
theorem fr_X6_add  (σ : St) (q : St) (h : t_X6_add  σ = q) : Fm [25, 27, 28, 29, 30, 31, 32, 33, 34, 35, 36, 37, 38, 39, 40, 41, 42, 43, 44, 45, 46, 47, 48, 49, 50, 51, 52, 53, 54, 55, 56] σ q := by
  unfold t_X6_add at h
  obtain ⟨σ1, e9, h⟩ := bt_elim h
  have f_σ1 : Fm [25, 27, 28, 29, 30, 31, 32, 33, 34, 35, 36, 37, 38, 39, 40, 41, 42, 43, 44, 45, 46, 47, 48, 49, 50, 51, 52, 53, 54, 55, 56] σ σ1 := (Fm.rf).tr (by rw [e9]; exact Fm.cpQ (by decide))
  obtain ⟨σ2, e9, h⟩ := bt_elim h
  have f_σ2 : Fm [25, 27, 28, 29, 30, 31, 32, 33, 34, 35, 36, 37, 38, 39, 40, 41, 42, 43, 44, 45, 46, 47, 48, 49, 50, 51, 52, 53, 54, 55, 56] σ σ2 := (f_σ1).tr (by rw [e9]; exact Fm.st (by decide))
  obtain ⟨σ3, e9, h⟩ := bt_elim h
  have f_σ3 : Fm [25, 27, 28, 29, 30, 31, 32, 33, 34, 35, 36, 37, 38, 39, 40, 41, 42, 43, 44, 45, 46, 47, 48, 49, 50, 51, 52, 53, 54, 55, 56] σ σ3 := (f_σ2).tr (by rw [e9]; exact Fm.st (by decide))
  rw [← h]
  exact f_σ3
theorem fr_X1_end_23 (a1 : Int32) (a2 : Int32) (a3 : Int32) (σ : St) (q : St) (h : t_X1_end_23 a1 a2 a3 σ = q) : Fm [24] σ q := by
  unfold t_X1_end_23 at h
  obtain ⟨σ1, e9, h⟩ := bt_elim h
  have f_σ1 : Fm [24] σ σ1 := (Fm.rf).tr (by rw [e9]; exact Fm.put (by decide))
  obtain ⟨σ2, e9, h⟩ := bt_elim h
  have f_σ2 : Fm [24] σ σ2 := (f_σ1).tr (by rw [e9]; exact Fm.put (by decide))
  rw [← h]
  exact f_σ2
theorem frj_X1_lose_127 (N : Nat) (K_55 : Int32 → Int32 → St → Option (Unit × St)) (hK_55 : ∀ (v1 : Int32) (v5 : Int32) (σ : St) (v : Unit) (w : St), K_55 v1 v5 σ = some (v, w) → Fm [24] σ w) (v1 : Int32) (v5 : Int32) (σ : St) (v : Unit) (w : St) (h : j_X1_lose_127 N K_55 v1 v5 σ = some (v, w)) : Fm [24] σ w := by
  unfold j_X1_lose_127 at h
  obtain ⟨_, -, h⟩ := bt_elim h
  exact (Fm.rf).tr (hK_55 _ _ _ _ _ h)
theorem frj_X1_lose_116 (N : Nat) (K_55 : Int32 → Int32 → St → Option (Unit × St)) (hK_55 : ∀ (v1 : Int32) (v5 : Int32) (σ : St) (v : Unit) (w : St), K_55 v1 v5 σ = some (v, w) → Fm [24] σ w) (v1 : Int32) (v5 : Int32) (σ : St) (v : Unit) (w : St) (h : j_X1_lose_116 N K_55 v1 v5 σ = some (v, w)) : Fm [24] σ w := by
  unfold j_X1_lose_116 at h
  obtain ⟨σ1, e9, h⟩ := bt_elim h
  have f_σ1 : Fm [24] σ σ1 := (Fm.rf).tr (by rw [e9]; exact (fr_X1_end_23 _ _ _ _ _ rfl).mono rfl)
  exact (f_σ1).tr (frj_X1_lose_127 N K_55 hK_55 _ _ _ _ _ h)
theorem frl_X1_lose_55 (N : Nat) : ∀ (n : Nat) (v1 : Int32) (v5 : Int32) (σ : St) (v : Unit) (w : St), l_X1_lose_55 N n v1 v5 σ = some (v, w) → Fm [24] σ w := by
  intro n
  induction n with
  | zero =>
    intro v1 v5 σ v w h
    rw [l_X1_lose_55] at h
    cases h
  | succ n ih =>
    intro v1 v5 σ v w h
    rw [l_X1_lose_55] at h
    rcases ite_elim h with h | h
    · obtain ⟨-, h⟩ := oeq h
      rw [← h]
      exact Fm.rf
    · obtain ⟨_, -, h⟩ := bt_elim h
      rcases ite_elim h with h | h
      · exact (Fm.rf).tr (frj_X1_lose_127 N (l_X1_lose_55 N n) ih _ _ _ _ _ h)
      · rcases ite_elim h with h | h
        · exact (Fm.rf).tr (frj_X1_lose_127 N (l_X1_lose_55 N n) ih _ _ _ _ _ h)
        · rcases ite_elim h with h | h
          · exact (Fm.rf).tr (frj_X1_lose_116 N (l_X1_lose_55 N n) ih _ _ _ _ _ h)
          · rcases ite_elim h with h | h
            · exact (Fm.rf).tr (frj_X1_lose_116 N (l_X1_lose_55 N n) ih _ _ _ _ _ h)
            · exact (Fm.rf).tr (frj_X1_lose_127 N (l_X1_lose_55 N n) ih _ _ _ _ _ h)
theorem fr_X1_lose {N : Nat} {a1 : Int32} {a2 : Int32} {a3 : Int32} {σ : St} {v : Unit} {w : St} (h : o_X1_lose N a1 a2 a3 σ = some (v, w)) : Fm [24] σ w := by
  unfold o_X1_lose at h
  obtain ⟨_, -, h⟩ := bt_elim h
  obtain ⟨σ2, e9, h⟩ := bt_elim h
  have f_σ2 : Fm [24] σ σ2 := (Fm.rf).tr (by rw [e9]; exact Fm.put (by decide))
  obtain ⟨σ3, e9, h⟩ := bt_elim h
  have f_σ3 : Fm [24] σ σ3 := (f_σ2).tr (by rw [e9]; exact (fr_X1_end_23 _ _ _ _ _ rfl).mono rfl)
  obtain ⟨_, -, h⟩ := bt_elim h
  exact (f_σ3).tr (frl_X1_lose_55 N N _ _ _ _ _ h)
theorem frj_X1_pass_69 (N : Nat) (K_2 : Int32 → St → Option (Unit × St)) (hK_2 : ∀ (v1 : Int32) (σ : St) (v : Unit) (w : St), K_2 v1 σ = some (v, w) → Fm [24] σ w) (v1 : Int32) (σ : St) (v : Unit) (w : St) (h : j_X1_pass_69 N K_2 v1 σ = some (v, w)) : Fm [24] σ w := by
  unfold j_X1_pass_69 at h
  obtain ⟨_, -, h⟩ := bt_elim h
  exact (Fm.rf).tr (hK_2 _ _ _ _ h)
theorem frl_X1_pass_2 (N : Nat) : ∀ (n : Nat) (v1 : Int32) (σ : St) (v : Unit) (w : St), l_X1_pass_2 N n v1 σ = some (v, w) → Fm [24] σ w := by
  intro n
  induction n with
  | zero =>
    intro v1 σ v w h
    rw [l_X1_pass_2] at h
    cases h
  | succ n ih =>
    intro v1 σ v w h
    rw [l_X1_pass_2] at h
    rcases ite_elim h with h | h
    · obtain ⟨σ2, e9, h⟩ := bt_elim h
      have f_σ2 : Fm [24] σ σ2 := (Fm.rf).tr (by rw [e9]; exact Fm.put (by decide))
      obtain ⟨-, h⟩ := oeq h
      rw [← h]
      exact f_σ2
    · obtain ⟨x3, σ4, g5, h⟩ := bd_elim h
      have f_σ4 : Fm [24] σ σ4 := (Fm.rf).tr ((fr_X1_ripeOn_23 g5).mono rfl)
      rcases ite_elim h with h | h
      · exact (f_σ4).tr (frj_X1_pass_69 N (l_X1_pass_2 N n) ih _ _ _ _ h)
      · rcases ite_elim h with h | h
        · exact (f_σ4).tr (frj_X1_pass_69 N (l_X1_pass_2 N n) ih _ _ _ _ h)
        · rcases ite_elim h with h | h
          · exact (f_σ4).tr (frj_X1_pass_69 N (l_X1_pass_2 N n) ih _ _ _ _ h)
          · obtain ⟨u9, σ10, g11, h⟩ := bd_elim h
            have f_σ10 : Fm [24] σ σ10 := (f_σ4).tr ((fr_X1_lose g11).mono rfl)
            exact (f_σ10).tr (frj_X1_pass_69 N (l_X1_pass_2 N n) ih _ _ _ _ h)
theorem fr_X1_pass {N : Nat}  {σ : St} {v : Unit} {w : St} (h : o_X1_pass N  σ = some (v, w)) : Fm [24] σ w := by
  unfold o_X1_pass at h
  exact (Fm.rf).tr (frl_X1_pass_2 N N _ _ _ _ h)
theorem fr_X9_endDay {N : Nat}  {σ : St} {v : Unit} {w : St} (h : o_X9_endDay N  σ = some (v, w)) : Fm [24, 25, 27, 28, 29, 30, 31, 32, 33, 34, 35, 36, 37, 38, 39, 40, 41, 42, 43, 44, 45, 46, 47, 48, 49, 50, 51, 52, 53, 54, 55, 56] σ w := by
  unfold o_X9_endDay at h
  obtain ⟨σ1, e9, h⟩ := bt_elim h
  have f_σ1 : Fm [24, 25, 27, 28, 29, 30, 31, 32, 33, 34, 35, 36, 37, 38, 39, 40, 41, 42, 43, 44, 45, 46, 47, 48, 49, 50, 51, 52, 53, 54, 55, 56] σ σ1 := (Fm.rf).tr (by rw [e9]; exact (fr_X6_add  _ _ rfl).mono rfl)
  obtain ⟨u2, σ3, g4, h⟩ := bd_elim h
  have f_σ3 : Fm [24, 25, 27, 28, 29, 30, 31, 32, 33, 34, 35, 36, 37, 38, 39, 40, 41, 42, 43, 44, 45, 46, 47, 48, 49, 50, 51, 52, 53, 54, 55, 56] σ σ3 := (f_σ1).tr ((fr_X1_pass g4).mono rfl)
  obtain ⟨-, h⟩ := oeq h
  rw [← h]
  exact f_σ3
theorem frl_X9_day_14 (N : Nat) : ∀ (n : Nat) (v1 : Int32) (v3 : Int32) (σ : St) (v : Int32) (w : St), l_X9_day_14 N n v1 v3 σ = some (v, w) → Fm [24, 25, 27, 28, 29, 30, 31, 32, 33, 34, 35, 36, 37, 38, 39, 40, 41, 42, 43, 44, 45, 46, 47, 48, 49, 50, 51, 52, 53, 54, 55, 56] σ w := by
  intro n
  induction n with
  | zero =>
    intro v1 v3 σ v w h
    rw [l_X9_day_14] at h
    cases h
  | succ n ih =>
    intro v1 v3 σ v w h
    rw [l_X9_day_14] at h
    rcases ite_elim h with h | h
    · obtain ⟨-, h⟩ := oeq h
      rw [← h]
      exact Fm.rf
    · obtain ⟨u2, σ3, g4, h⟩ := bd_elim h
      have f_σ3 : Fm [24, 25, 27, 28, 29, 30, 31, 32, 33, 34, 35, 36, 37, 38, 39, 40, 41, 42, 43, 44, 45, 46, 47, 48, 49, 50, 51, 52, 53, 54, 55, 56] σ σ3 := (Fm.rf).tr ((fr_X9_endDay g4).mono rfl)
      obtain ⟨_, -, h⟩ := bt_elim h
      exact (f_σ3).tr (ih _ _ _ _ _ h)
theorem fr_X9_day {N : Nat} {a1 : Int32} {σ : St} {v : Int32} {w : St} (h : o_X9_day N a1 σ = some (v, w)) : Fm [24, 25, 27, 28, 29, 30, 31, 32, 33, 34, 35, 36, 37, 38, 39, 40, 41, 42, 43, 44, 45, 46, 47, 48, 49, 50, 51, 52, 53, 54, 55, 56] σ w := by
  unfold o_X9_day at h
  obtain ⟨_, -, h⟩ := bt_elim h
  rcases ite_elim h with h | h
  · exact (Fm.rf).tr (frl_X9_day_14 N N _ _ _ _ _ h)
  · obtain ⟨-, h⟩ := oeq h
    rw [← h]
    exact Fm.rf
theorem frl_X10_copy_2 (N : Nat) : ∀ (n : Nat) (v1 : Int32) (v2 : Int32) (v3 : Int32) (σ : St) (v : Unit) (w : St), l_X10_copy_2 N n v1 v2 v3 σ = some (v, w) → Fm [80] σ w := by
  intro n
  induction n with
  | zero =>
    intro v1 v2 v3 σ v w h
    rw [l_X10_copy_2] at h
    cases h
  | succ n ih =>
    intro v1 v2 v3 σ v w h
    rw [l_X10_copy_2] at h
    rcases ite_elim h with h | h
    · obtain ⟨-, h⟩ := oeq h
      rw [← h]
      exact Fm.rf
    · obtain ⟨-, h⟩ := ckA_elim h
      obtain ⟨-, h⟩ := ckA_elim h
      obtain ⟨σ4, e9, h⟩ := bt_elim h
      have f_σ4 : Fm [80] σ σ4 := (Fm.rf).tr (by rw [e9]; exact Fm.st (by decide))
      obtain ⟨_, -, h⟩ := bt_elim h
      exact (f_σ4).tr (ih _ _ _ _ _ _ h)
theorem fr_X10_copy {N : Nat} {a1 : Int32} {a2 : Int32} {σ : St} {v : Unit} {w : St} (h : o_X10_copy N a1 a2 σ = some (v, w)) : Fm [80] σ w := by
  unfold o_X10_copy at h
  exact (Fm.rf).tr (frl_X10_copy_2 N N _ _ _ _ _ _ h)
theorem frj_X10_remember_55 (N : Nat)  (σ : St) (v : Unit) (w : St) (h : j_X10_remember_55 N  σ = some (v, w)) : Fm [79, 80] σ w := by
  unfold j_X10_remember_55 at h
  obtain ⟨u1, σ2, g3, h⟩ := bd_elim h
  have f_σ2 : Fm [79, 80] σ σ2 := (Fm.rf).tr ((fr_X10_copy g3).mono rfl)
  obtain ⟨σ4, e9, h⟩ := bt_elim h
  have f_σ4 : Fm [79, 80] σ σ4 := (f_σ2).tr (by rw [e9]; exact Fm.st (by decide))
  obtain ⟨-, h⟩ := oeq h
  rw [← h]
  exact f_σ4
theorem frl_X10_remember_11 (N : Nat) : ∀ (n : Nat) (v1 : Int32) (σ : St) (v : Unit) (w : St), l_X10_remember_11 N n v1 σ = some (v, w) → Fm [79, 80] σ w := by
  intro n
  induction n with
  | zero =>
    intro v1 σ v w h
    rw [l_X10_remember_11] at h
    cases h
  | succ n ih =>
    intro v1 σ v w h
    rw [l_X10_remember_11] at h
    rcases ite_elim h with h | h
    · obtain ⟨σ2, e9, h⟩ := bt_elim h
      have f_σ2 : Fm [79, 80] σ σ2 := (Fm.rf).tr (by rw [e9]; exact Fm.st (by decide))
      exact (f_σ2).tr (frj_X10_remember_55 N _ _ _ h)
    · obtain ⟨u3, σ4, g5, h⟩ := bd_elim h
      have f_σ4 : Fm [79, 80] σ σ4 := (Fm.rf).tr ((fr_X10_copy g5).mono rfl)
      obtain ⟨_, -, h⟩ := bt_elim h
      exact (f_σ4).tr (ih _ _ _ _ h)
theorem fr_X10_remember {N : Nat}  {σ : St} {v : Unit} {w : St} (h : o_X10_remember N  σ = some (v, w)) : Fm [79, 80] σ w := by
  unfold o_X10_remember at h
  rcases ite_elim h with h | h
  · exact (Fm.rf).tr (frl_X10_remember_11 N N _ _ _ _ h)
  · exact (Fm.rf).tr (frj_X10_remember_55 N _ _ _ h)
theorem fr_X10_fallOn {N : Nat} {a1 : Int32} {a2 : Int32} {σ : St} {v : Unit} {w : St} (h : o_X10_fallOn N a1 a2 σ = some (v, w)) : Fm [80] σ w := by
  unfold o_X10_fallOn at h
  obtain ⟨-, h⟩ := ckA_elim h
  obtain ⟨-, h⟩ := ckA_elim h
  obtain ⟨_, -, h⟩ := bt_elim h
  obtain ⟨-, h⟩ := ckA_elim h
  obtain ⟨-, h⟩ := ckA_elim h
  obtain ⟨σ6, e9, h⟩ := bt_elim h
  have f_σ6 : Fm [80] σ σ6 := (Fm.rf).tr (by rw [e9]; exact Fm.st (by decide))
  obtain ⟨-, h⟩ := oeq h
  rw [← h]
  exact f_σ6
theorem frj_X10_takeWith_78 (N : Nat) (K_8 : Int32 → Int32 → St → Option (Unit × St)) (hK_8 : ∀ (v2 : Int32) (v3 : Int32) (σ : St) (v : Unit) (w : St), K_8 v2 v3 σ = some (v, w) → Fm [80] σ w) (v2 : Int32) (v3 : Int32) (σ : St) (v : Unit) (w : St) (h : j_X10_takeWith_78 N K_8 v2 v3 σ = some (v, w)) : Fm [80] σ w := by
  unfold j_X10_takeWith_78 at h
  obtain ⟨_, -, h⟩ := bt_elim h
  exact (Fm.rf).tr (hK_8 _ _ _ _ _ h)
theorem frl_X10_takeWith_8 (N : Nat) : ∀ (n : Nat) (v2 : Int32) (v3 : Int32) (σ : St) (v : Unit) (w : St), l_X10_takeWith_8 N n v2 v3 σ = some (v, w) → Fm [80] σ w := by
  intro n
  induction n with
  | zero =>
    intro v2 v3 σ v w h
    rw [l_X10_takeWith_8] at h
    cases h
  | succ n ih =>
    intro v2 v3 σ v w h
    rw [l_X10_takeWith_8] at h
    rcases ite_elim h with h | h
    · obtain ⟨-, h⟩ := oeq h
      rw [← h]
      exact Fm.rf
    · obtain ⟨-, h⟩ := ckA_elim h
      rcases ite_elim h with h | h
      · exact (Fm.rf).tr (frj_X10_takeWith_78 N (l_X10_takeWith_8 N n) ih _ _ _ _ _ h)
      · obtain ⟨-, h⟩ := ckA_elim h
        rcases ite_elim h with h | h
        · exact (Fm.rf).tr (frj_X10_takeWith_78 N (l_X10_takeWith_8 N n) ih _ _ _ _ _ h)
        · obtain ⟨_, -, h⟩ := bt_elim h
          obtain ⟨-, h⟩ := ckA_elim h
          rcases ite_elim h with h | h
          · obtain ⟨-, h⟩ := ckA_elim h
            obtain ⟨σ10, e9, h⟩ := bt_elim h
            have f_σ10 : Fm [80] σ σ10 := (Fm.rf).tr (by rw [e9]; exact Fm.st (by decide))
            obtain ⟨-, h⟩ := ckA_elim h
            obtain ⟨σ12, e9, h⟩ := bt_elim h
            have f_σ12 : Fm [80] σ σ12 := (f_σ10).tr (by rw [e9]; exact Fm.st (by decide))
            exact (f_σ12).tr (frj_X10_takeWith_78 N (l_X10_takeWith_8 N n) ih _ _ _ _ _ h)
          · exact (Fm.rf).tr (frj_X10_takeWith_78 N (l_X10_takeWith_8 N n) ih _ _ _ _ _ h)
theorem fr_X10_takeWith {N : Nat} {a1 : Int32} {σ : St} {v : Unit} {w : St} (h : o_X10_takeWith N a1 σ = some (v, w)) : Fm [80] σ w := by
  unfold o_X10_takeWith at h
  obtain ⟨_, -, h⟩ := bt_elim h
  obtain ⟨_, -, h⟩ := bt_elim h
  exact (Fm.rf).tr (frl_X10_takeWith_8 N N _ _ _ _ _ h)
theorem frj_X10_passDay_97 (N : Nat) (K_6 : Int32 → St → Option (Unit × St)) (hK_6 : ∀ (v1 : Int32) (σ : St) (v : Unit) (w : St), K_6 v1 σ = some (v, w) → Fm [79, 80] σ w) (v1 : Int32) (σ : St) (v : Unit) (w : St) (h : j_X10_passDay_97 N K_6 v1 σ = some (v, w)) : Fm [79, 80] σ w := by
  unfold j_X10_passDay_97 at h
  obtain ⟨_, -, h⟩ := bt_elim h
  exact (Fm.rf).tr (hK_6 _ _ _ _ h)
theorem frl_X10_passDay_6 (N : Nat) : ∀ (n : Nat) (v1 : Int32) (σ : St) (v : Unit) (w : St), l_X10_passDay_6 N n v1 σ = some (v, w) → Fm [79, 80] σ w := by
  intro n
  induction n with
  | zero =>
    intro v1 σ v w h
    rw [l_X10_passDay_6] at h
    cases h
  | succ n ih =>
    intro v1 σ v w h
    rw [l_X10_passDay_6] at h
    rcases ite_elim h with h | h
    · obtain ⟨σ2, e9, h⟩ := bt_elim h
      have f_σ2 : Fm [79, 80] σ σ2 := (Fm.rf).tr (by rw [e9]; exact Fm.st (by decide))
      obtain ⟨-, h⟩ := oeq h
      rw [← h]
      exact f_σ2
    · obtain ⟨-, h⟩ := ckA_elim h
      rcases ite_elim h with h | h
      · obtain ⟨-, h⟩ := ckA_elim h
        rcases ite_elim h with h | h
        · exact (Fm.rf).tr (frj_X10_passDay_97 N (l_X10_passDay_6 N n) ih _ _ _ _ h)
        · obtain ⟨x7, σ8, g9, h⟩ := bd_elim h
          have f_σ8 : Fm [79, 80] σ σ8 := (Fm.rf).tr ((fr_X10_ripe g9).mono rfl)
          obtain ⟨-, h⟩ := ckA_elim h
          rcases ite_elim h with h | h
          · obtain ⟨-, h⟩ := ckA_elim h
            obtain ⟨σ13, e9, h⟩ := bt_elim h
            have f_σ13 : Fm [79, 80] σ σ13 := (f_σ8).tr (by rw [e9]; exact Fm.st (by decide))
            obtain ⟨-, h⟩ := ckA_elim h
            obtain ⟨σ15, e9, h⟩ := bt_elim h
            have f_σ15 : Fm [79, 80] σ σ15 := (f_σ13).tr (by rw [e9]; exact Fm.st (by decide))
            obtain ⟨-, h⟩ := ckA_elim h
            obtain ⟨u17, σ18, g19, h⟩ := bd_elim h
            have f_σ18 : Fm [79, 80] σ σ18 := (f_σ15).tr ((fr_X10_fallOn g19).mono rfl)
            obtain ⟨u20, σ21, g22, h⟩ := bd_elim h
            have f_σ21 : Fm [79, 80] σ σ21 := (f_σ18).tr ((fr_X10_takeWith g22).mono rfl)
            exact (f_σ21).tr (frj_X10_passDay_97 N (l_X10_passDay_6 N n) ih _ _ _ _ h)
          · exact (f_σ8).tr (frj_X10_passDay_97 N (l_X10_passDay_6 N n) ih _ _ _ _ h)
      · exact (Fm.rf).tr (frj_X10_passDay_97 N (l_X10_passDay_6 N n) ih _ _ _ _ h)
theorem fr_X10_passDay {N : Nat}  {σ : St} {v : Unit} {w : St} (h : o_X10_passDay N  σ = some (v, w)) : Fm [79, 80] σ w := by
  unfold o_X10_passDay at h
  obtain ⟨u1, σ2, g3, h⟩ := bd_elim h
  have f_σ2 : Fm [79, 80] σ σ2 := (Fm.rf).tr ((fr_X10_remember g3).mono rfl)
  exact (f_σ2).tr (frl_X10_passDay_6 N N _ _ _ _ h)
theorem frl_X10_day_16 (N : Nat) : ∀ (n : Nat) (v1 : Int32) (v2 : Int32) (σ : St) (v : Int32) (w : St), l_X10_day_16 N n v1 v2 σ = some (v, w) → Fm [79, 80] σ w := by
  intro n
  induction n with
  | zero =>
    intro v1 v2 σ v w h
    rw [l_X10_day_16] at h
    cases h
  | succ n ih =>
    intro v1 v2 σ v w h
    rw [l_X10_day_16] at h
    rcases ite_elim h with h | h
    · obtain ⟨-, h⟩ := oeq h
      rw [← h]
      exact Fm.rf
    · obtain ⟨u2, σ3, g4, h⟩ := bd_elim h
      have f_σ3 : Fm [79, 80] σ σ3 := (Fm.rf).tr ((fr_X10_passDay g4).mono rfl)
      obtain ⟨_, -, h⟩ := bt_elim h
      exact (f_σ3).tr (ih _ _ _ _ _ h)
theorem fr_X10_day {N : Nat} {a1 : Int32} {σ : St} {v : Int32} {w : St} (h : o_X10_day N a1 σ = some (v, w)) : Fm [79, 80] σ w := by
  unfold o_X10_day at h
  rcases ite_elim h with h | h
  · exact (Fm.rf).tr (frl_X10_day_16 N N _ _ _ _ _ h)
  · obtain ⟨-, h⟩ := oeq h
    rw [← h]
    exact Fm.rf
theorem frj_X1_mayBeKeptOn_23_37 (N : Nat)  (σ : St) (v : Int32) (w : St) (h : j_X1_mayBeKeptOn_23_37 N  σ = some (v, w)) : Fm [] σ w := by
  unfold j_X1_mayBeKeptOn_23_37 at h
  obtain ⟨-, h⟩ := oeq h
  rw [← h]
  exact Fm.rf
theorem fr_X1_mayBeKeptOn_23 {N : Nat} {a1 : Int32} {a2 : Int32} {σ : St} {v : Int32} {w : St} (h : o_X1_mayBeKeptOn_23 N a1 a2 σ = some (v, w)) : Fm [] σ w := by
  unfold o_X1_mayBeKeptOn_23 at h
  obtain ⟨x1, σ2, g3, h⟩ := bd_elim h
  have f_σ2 : Fm [] σ σ2 := (Fm.rf).tr ((fr_X1_ripeOn_23 g3).mono rfl)
  rcases ite_elim h with h | h
  · exact (f_σ2).tr (frj_X1_mayBeKeptOn_23_37 N _ _ _ h)
  · rcases ite_elim h with h | h
    · exact (f_σ2).tr (frj_X1_mayBeKeptOn_23_37 N _ _ _ h)
    · rcases ite_elim h with h | h
      · exact (f_σ2).tr (frj_X1_mayBeKeptOn_23_37 N _ _ _ h)
      · obtain ⟨-, h⟩ := oeq h
        rw [← h]
        exact f_σ2
theorem frj_X1_canKeep_57 (N : Nat)  (σ : St) (v : Int32) (w : St) (h : j_X1_canKeep_57 N  σ = some (v, w)) : Fm [] σ w := by
  unfold j_X1_canKeep_57 at h
  obtain ⟨-, h⟩ := oeq h
  rw [← h]
  exact Fm.rf
theorem fr_X1_canKeep {N : Nat} {a1 : Int32} {σ : St} {v : Int32} {w : St} (h : o_X1_canKeep N a1 σ = some (v, w)) : Fm [] σ w := by
  unfold o_X1_canKeep at h
  obtain ⟨_, -, h⟩ := bt_elim h
  rcases ite_elim h with h | h
  · exact (Fm.rf).tr (frj_X1_canKeep_57 N _ _ _ h)
  · rcases ite_elim h with h | h
    · rcases ite_elim h with h | h
      · obtain ⟨x5, σ6, g7, h⟩ := bd_elim h
        have f_σ6 : Fm [] σ σ6 := (Fm.rf).tr ((fr_X1_mayBeKeptOn_23 g7).mono rfl)
        rcases ite_elim h with h | h
        · exact (f_σ6).tr (frj_X1_canKeep_57 N _ _ _ h)
        · obtain ⟨-, h⟩ := oeq h
          rw [← h]
          exact f_σ6
      · exact (Fm.rf).tr (frj_X1_canKeep_57 N _ _ _ h)
    · exact (Fm.rf).tr (frj_X1_canKeep_57 N _ _ _ h)
theorem fr_X9_keep {N : Nat} {a1 : Int32} {σ : St} {v : Int32} {w : St} (h : o_X9_keep N a1 σ = some (v, w)) : Fm [24] σ w := by
  unfold o_X9_keep at h
  rcases ite_elim h with h | h
  · obtain ⟨-, h⟩ := oeq h
    rw [← h]
    exact Fm.rf
  · obtain ⟨x2, σ3, g4, h⟩ := bd_elim h
    have f_σ3 : Fm [24] σ σ3 := (Fm.rf).tr ((fr_X1_canKeep g4).mono rfl)
    rcases ite_elim h with h | h
    · obtain ⟨-, h⟩ := oeq h
      rw [← h]
      exact f_σ3
    · obtain ⟨σ6, e9, h⟩ := bt_elim h
      have f_σ6 : Fm [24] σ σ6 := (f_σ3).tr (by rw [e9]; exact (fr_X1_end_23 _ _ _ _ _ rfl).mono rfl)
      obtain ⟨-, h⟩ := oeq h
      rw [← h]
      exact f_σ6
theorem frj_X10_canKeep_77 (N : Nat)  (σ : St) (v : Int32) (w : St) (h : j_X10_canKeep_77 N  σ = some (v, w)) : Fm [] σ w := by
  unfold j_X10_canKeep_77 at h
  obtain ⟨-, h⟩ := oeq h
  rw [← h]
  exact Fm.rf
theorem fr_X10_canKeep {N : Nat} {a1 : Int32} {σ : St} {v : Int32} {w : St} (h : o_X10_canKeep N a1 σ = some (v, w)) : Fm [] σ w := by
  unfold o_X10_canKeep at h
  obtain ⟨-, h⟩ := ckA_elim h
  obtain ⟨_, -, h⟩ := bt_elim h
  obtain ⟨-, h⟩ := ckA_elim h
  rcases ite_elim h with h | h
  · obtain ⟨x5, σ6, g7, h⟩ := bd_elim h
    have f_σ6 : Fm [] σ σ6 := (Fm.rf).tr ((fr_X10_isOnWay g7).mono rfl)
    rcases ite_elim h with h | h
    · obtain ⟨-, h⟩ := ckA_elim h
      obtain ⟨-, h⟩ := ckA_elim h
      rcases ite_elim h with h | h
      · obtain ⟨-, h⟩ := ckA_elim h
        rcases ite_elim h with h | h
        · exact (f_σ6).tr (frj_X10_canKeep_77 N _ _ _ h)
        · obtain ⟨x14, σ15, g16, h⟩ := bd_elim h
          have f_σ15 : Fm [] σ σ15 := (f_σ6).tr ((fr_X10_ripe g16).mono rfl)
          rcases ite_elim h with h | h
          · exact (f_σ15).tr (frj_X10_canKeep_77 N _ _ _ h)
          · obtain ⟨-, h⟩ := oeq h
            rw [← h]
            exact f_σ15
      · exact (f_σ6).tr (frj_X10_canKeep_77 N _ _ _ h)
    · exact (f_σ6).tr (frj_X10_canKeep_77 N _ _ _ h)
  · exact (Fm.rf).tr (frj_X10_canKeep_77 N _ _ _ h)
theorem frj_X10_keepNow_70 (N : Nat) (K_25 : Int32 → Int32 → St → Option (Unit × St)) (hK_25 : ∀ (v1 : Int32) (v2 : Int32) (σ : St) (v : Unit) (w : St), K_25 v1 v2 σ = some (v, w) → Fm [80] σ w) (v1 : Int32) (v2 : Int32) (s1 : Int32) (s2 : Int32) (σ : St) (v : Unit) (w : St) (h : j_X10_keepNow_70 N K_25 v1 v2 s1 s2 σ = some (v, w)) : Fm [80] σ w := by
  unfold j_X10_keepNow_70 at h
  obtain ⟨-, h⟩ := ckA_elim h
  obtain ⟨σ2, e9, h⟩ := bt_elim h
  have f_σ2 : Fm [80] σ σ2 := (Fm.rf).tr (by rw [e9]; exact Fm.st (by decide))
  obtain ⟨_, -, h⟩ := bt_elim h
  exact (f_σ2).tr (hK_25 _ _ _ _ _ h)
theorem frl_X10_keepNow_25 (N : Nat) : ∀ (n : Nat) (v1 : Int32) (v2 : Int32) (σ : St) (v : Unit) (w : St), l_X10_keepNow_25 N n v1 v2 σ = some (v, w) → Fm [80] σ w := by
  intro n
  induction n with
  | zero =>
    intro v1 v2 σ v w h
    rw [l_X10_keepNow_25] at h
    cases h
  | succ n ih =>
    intro v1 v2 σ v w h
    rw [l_X10_keepNow_25] at h
    rcases ite_elim h with h | h
    · obtain ⟨-, h⟩ := oeq h
      rw [← h]
      exact Fm.rf
    · obtain ⟨-, h⟩ := ckA_elim h
      rcases ite_elim h with h | h
      · exact (Fm.rf).tr (frj_X10_keepNow_70 N (l_X10_keepNow_25 N n) ih _ _ _ _ _ _ _ h)
      · obtain ⟨-, h⟩ := ckA_elim h
        exact (Fm.rf).tr (frj_X10_keepNow_70 N (l_X10_keepNow_25 N n) ih _ _ _ _ _ _ _ h)
theorem fr_X10_keepNow {N : Nat} {a1 : Int32} {σ : St} {v : Unit} {w : St} (h : o_X10_keepNow N a1 σ = some (v, w)) : Fm [80] σ w := by
  unfold o_X10_keepNow at h
  obtain ⟨-, h⟩ := ckA_elim h
  obtain ⟨σ2, e9, h⟩ := bt_elim h
  have f_σ2 : Fm [80] σ σ2 := (Fm.rf).tr (by rw [e9]; exact Fm.st (by decide))
  obtain ⟨-, h⟩ := ckA_elim h
  obtain ⟨σ4, e9, h⟩ := bt_elim h
  have f_σ4 : Fm [80] σ σ4 := (f_σ2).tr (by rw [e9]; exact Fm.st (by decide))
  exact (f_σ4).tr (frl_X10_keepNow_25 N N _ _ _ _ _ h)
theorem fr_X10_keep {N : Nat} {a1 : Int32} {σ : St} {v : Int32} {w : St} (h : o_X10_keep N a1 σ = some (v, w)) : Fm [80] σ w := by
  unfold o_X10_keep at h
  obtain ⟨x1, σ2, g3, h⟩ := bd_elim h
  have f_σ2 : Fm [80] σ σ2 := (Fm.rf).tr ((fr_X10_isPromise g3).mono rfl)
  rcases ite_elim h with h | h
  · obtain ⟨-, h⟩ := oeq h
    rw [← h]
    exact f_σ2
  · obtain ⟨x5, σ6, g7, h⟩ := bd_elim h
    have f_σ6 : Fm [80] σ σ6 := (f_σ2).tr ((fr_X10_canKeep g7).mono rfl)
    rcases ite_elim h with h | h
    · obtain ⟨-, h⟩ := oeq h
      rw [← h]
      exact f_σ6
    · obtain ⟨u9, σ10, g11, h⟩ := bd_elim h
      have f_σ10 : Fm [80] σ σ10 := (f_σ6).tr ((fr_X10_keepNow g11).mono rfl)
      obtain ⟨-, h⟩ := ckA_elim h
      obtain ⟨-, h⟩ := oeq h
      rw [← h]
      exact f_σ10
theorem frj_X1_isRipe_23 (N : Nat)  (σ : St) (v : Int32) (w : St) (h : j_X1_isRipe_23 N  σ = some (v, w)) : Fm [] σ w := by
  unfold j_X1_isRipe_23 at h
  obtain ⟨-, h⟩ := oeq h
  rw [← h]
  exact Fm.rf
theorem fr_X1_isRipe {N : Nat} {a1 : Int32} {σ : St} {v : Int32} {w : St} (h : o_X1_isRipe N a1 σ = some (v, w)) : Fm [] σ w := by
  unfold o_X1_isRipe at h
  obtain ⟨x1, σ2, g3, h⟩ := bd_elim h
  have f_σ2 : Fm [] σ σ2 := (Fm.rf).tr ((fr_X1_ripeOn_23 g3).mono rfl)
  rcases ite_elim h with h | h
  · exact (f_σ2).tr (frj_X1_isRipe_23 N _ _ _ h)
  · rcases ite_elim h with h | h
    · exact (f_σ2).tr (frj_X1_isRipe_23 N _ _ _ h)
    · obtain ⟨-, h⟩ := oeq h
      rw [← h]
      exact f_σ2
theorem fr_X9_takeDown {N : Nat} {a1 : Int32} {σ : St} {v : Int32} {w : St} (h : o_X9_takeDown N a1 σ = some (v, w)) : Fm [24] σ w := by
  unfold o_X9_takeDown at h
  rcases ite_elim h with h | h
  · obtain ⟨-, h⟩ := oeq h
    rw [← h]
    exact Fm.rf
  · rcases ite_elim h with h | h
    · obtain ⟨-, h⟩ := oeq h
      rw [← h]
      exact Fm.rf
    · obtain ⟨x3, σ4, g5, h⟩ := bd_elim h
      have f_σ4 : Fm [24] σ σ4 := (Fm.rf).tr ((fr_X1_isRipe g5).mono rfl)
      rcases ite_elim h with h | h
      · obtain ⟨_, -, h⟩ := bt_elim h
        obtain ⟨u8, σ9, g10, h⟩ := bd_elim h
        have f_σ9 : Fm [24] σ σ9 := (f_σ4).tr ((fr_X1_lose g10).mono rfl)
        obtain ⟨-, h⟩ := oeq h
        rw [← h]
        exact f_σ9
      · obtain ⟨-, h⟩ := oeq h
        rw [← h]
        exact f_σ4
theorem frj_X10_takeDown_51 (N : Nat) (v1 : Int32) (σ : St) (v : Int32) (w : St) (h : j_X10_takeDown_51 N v1 σ = some (v, w)) : Fm [80] σ w := by
  unfold j_X10_takeDown_51 at h
  obtain ⟨-, h⟩ := ckA_elim h
  obtain ⟨σ2, e9, h⟩ := bt_elim h
  have f_σ2 : Fm [80] σ σ2 := (Fm.rf).tr (by rw [e9]; exact Fm.st (by decide))
  obtain ⟨-, h⟩ := ckA_elim h
  obtain ⟨σ4, e9, h⟩ := bt_elim h
  have f_σ4 : Fm [80] σ σ4 := (f_σ2).tr (by rw [e9]; exact Fm.st (by decide))
  obtain ⟨-, h⟩ := ckA_elim h
  obtain ⟨u6, σ7, g8, h⟩ := bd_elim h
  have f_σ7 : Fm [80] σ σ7 := (f_σ4).tr ((fr_X10_fallOn g8).mono rfl)
  obtain ⟨u9, σ10, g11, h⟩ := bd_elim h
  have f_σ10 : Fm [80] σ σ10 := (f_σ7).tr ((fr_X10_takeWith g11).mono rfl)
  obtain ⟨-, h⟩ := ckA_elim h
  obtain ⟨-, h⟩ := oeq h
  rw [← h]
  exact f_σ10
theorem fr_X10_takeDown {N : Nat} {a1 : Int32} {σ : St} {v : Int32} {w : St} (h : o_X10_takeDown N a1 σ = some (v, w)) : Fm [80] σ w := by
  unfold o_X10_takeDown at h
  obtain ⟨x1, σ2, g3, h⟩ := bd_elim h
  have f_σ2 : Fm [80] σ σ2 := (Fm.rf).tr ((fr_X10_isPromise g3).mono rfl)
  rcases ite_elim h with h | h
  · obtain ⟨-, h⟩ := oeq h
    rw [← h]
    exact f_σ2
  · obtain ⟨-, h⟩ := ckA_elim h
    rcases ite_elim h with h | h
    · obtain ⟨-, h⟩ := ckA_elim h
      rcases ite_elim h with h | h
      · exact (f_σ2).tr (frj_X10_takeDown_51 N _ _ _ _ h)
      · obtain ⟨x9, σ10, g11, h⟩ := bd_elim h
        have f_σ10 : Fm [80] σ σ10 := (f_σ2).tr ((fr_X10_ripe g11).mono rfl)
        rcases ite_elim h with h | h
        · exact (f_σ10).tr (frj_X10_takeDown_51 N _ _ _ _ h)
        · obtain ⟨-, h⟩ := oeq h
          rw [← h]
          exact f_σ10
    · obtain ⟨-, h⟩ := oeq h
      rw [← h]
      exact f_σ2
theorem fr_X1_exchange (a1 : Int32) (a2 : Int32) (σ : St) (q : St) (h : t_X1_exchange a1 a2 σ = q) : Fm [24] σ q := by
  unfold t_X1_exchange at h
  obtain ⟨_, -, h⟩ := bt_elim h
  obtain ⟨σ2, e9, h⟩ := bt_elim h
  have f_σ2 : Fm [24] σ σ2 := (Fm.rf).tr (by rw [e9]; exact Fm.put (by decide))
  obtain ⟨σ3, e9, h⟩ := bt_elim h
  have f_σ3 : Fm [24] σ σ3 := (f_σ2).tr (by rw [e9]; exact Fm.put (by decide))
  rw [← h]
  exact f_σ3
theorem fr_X9_swap (a1 : Int32) (a2 : Int32) (σ : St) (q : Int32 × St) (h : t_X9_swap a1 a2 σ = q) : Fm [24] σ q.2 := by
  unfold t_X9_swap at h
  rcases ite_elim h with h | h
  · rw [← h]
    exact Fm.rf
  · rcases ite_elim h with h | h
    · rw [← h]
      exact Fm.rf
    · rcases ite_elim h with h | h
      · rw [← h]
        exact Fm.rf
      · rcases ite_elim h with h | h
        · rw [← h]
          exact Fm.rf
        · rcases ite_elim h with h | h
          · rw [← h]
            exact Fm.rf
          · rcases ite_elim h with h | h
            · obtain ⟨σ7, e9, h⟩ := bt_elim h
              have f_σ7 : Fm [24] σ σ7 := (Fm.rf).tr (by rw [e9]; exact (fr_X1_exchange _ _ _ _ rfl).mono rfl)
              rw [← h]
              exact f_σ7
            · rw [← h]
              exact Fm.rf
theorem fr_X10_swap {N : Nat} {a1 : Int32} {a2 : Int32} {σ : St} {v : Int32} {w : St} (h : o_X10_swap N a1 a2 σ = some (v, w)) : Fm [80] σ w := by
  unfold o_X10_swap at h
  obtain ⟨x1, σ2, g3, h⟩ := bd_elim h
  have f_σ2 : Fm [80] σ σ2 := (Fm.rf).tr ((fr_X10_isPromise g3).mono rfl)
  rcases ite_elim h with h | h
  · obtain ⟨-, h⟩ := oeq h
    rw [← h]
    exact f_σ2
  · obtain ⟨x5, σ6, g7, h⟩ := bd_elim h
    have f_σ6 : Fm [80] σ σ6 := (f_σ2).tr ((fr_X10_isPromise g7).mono rfl)
    rcases ite_elim h with h | h
    · obtain ⟨-, h⟩ := oeq h
      rw [← h]
      exact f_σ6
    · rcases ite_elim h with h | h
      · obtain ⟨-, h⟩ := oeq h
        rw [← h]
        exact f_σ6
      · obtain ⟨-, h⟩ := ckA_elim h
        rcases ite_elim h with h | h
        · obtain ⟨-, h⟩ := ckA_elim h
          rcases ite_elim h with h | h
          · obtain ⟨-, h⟩ := ckA_elim h
            obtain ⟨-, h⟩ := ckA_elim h
            rcases ite_elim h with h | h
            · obtain ⟨-, h⟩ := ckA_elim h
              obtain ⟨_, -, h⟩ := bt_elim h
              obtain ⟨-, h⟩ := ckA_elim h
              obtain ⟨-, h⟩ := ckA_elim h
              obtain ⟨σ21, e9, h⟩ := bt_elim h
              have f_σ21 : Fm [80] σ σ21 := (f_σ6).tr (by rw [e9]; exact Fm.st (by decide))
              obtain ⟨-, h⟩ := ckA_elim h
              obtain ⟨σ23, e9, h⟩ := bt_elim h
              have f_σ23 : Fm [80] σ σ23 := (f_σ21).tr (by rw [e9]; exact Fm.st (by decide))
              obtain ⟨-, h⟩ := oeq h
              rw [← h]
              exact f_σ23
            · obtain ⟨-, h⟩ := oeq h
              rw [← h]
              exact f_σ6
          · obtain ⟨-, h⟩ := oeq h
            rw [← h]
            exact f_σ6
        · obtain ⟨-, h⟩ := oeq h
          rw [← h]
          exact f_σ6
theorem fr_X2_draw {N : Nat} {a1 : Int32} {σ : St} {v : Int32} {w : St} (h : o_X2_draw N a1 σ = some (v, w)) : Fm [62] σ w := by
  unfold o_X2_draw at h
  obtain ⟨σ1, e9, h⟩ := bt_elim h
  have f_σ1 : Fm [62] σ σ1 := (Fm.rf).tr (by rw [e9]; exact Fm.st (by decide))
  rcases ite_elim h with h | h
  · obtain ⟨-, h⟩ := ckDI_elim h
    obtain ⟨-, h⟩ := oeq h
    rw [← h]
    exact f_σ1
  · obtain ⟨-, h⟩ := oeq h
    rw [← h]
    exact f_σ1
theorem frj_X9_drawFor_64 (N : Nat) (K_14 : Int32 → Int32 → St → Option (Unit × St)) (hK_14 : ∀ (v1 : Int32) (v2 : Int32) (σ : St) (v : Unit) (w : St), K_14 v1 v2 σ = some (v, w) → Fm [24, 62] σ w) (v1 : Int32) (v2 : Int32) (σ : St) (v : Unit) (w : St) (h : j_X9_drawFor_64 N K_14 v1 v2 σ = some (v, w)) : Fm [24, 62] σ w := by
  unfold j_X9_drawFor_64 at h
  obtain ⟨_, -, h⟩ := bt_elim h
  exact (Fm.rf).tr (hK_14 _ _ _ _ _ h)
theorem frl_X9_drawFor_14 (N : Nat) : ∀ (n : Nat) (v1 : Int32) (v2 : Int32) (σ : St) (v : Unit) (w : St), l_X9_drawFor_14 N n v1 v2 σ = some (v, w) → Fm [24, 62] σ w := by
  intro n
  induction n with
  | zero =>
    intro v1 v2 σ v w h
    rw [l_X9_drawFor_14] at h
    cases h
  | succ n ih =>
    intro v1 v2 σ v w h
    rw [l_X9_drawFor_14] at h
    rcases ite_elim h with h | h
    · obtain ⟨x2, σ3, g4, h⟩ := bd_elim h
      have f_σ3 : Fm [24, 62] σ σ3 := (Fm.rf).tr ((fr_X2_draw g4).mono rfl)
      rcases ite_elim h with h | h
      · obtain ⟨-, h⟩ := oeq h
        rw [← h]
        exact f_σ3
      · obtain ⟨q6, e9, h⟩ := bt_elim h
        have f_q6 : Fm [24, 62] σ q6.2 := (f_σ3).tr (by rw [e9]; exact (fr_X1_depart _ _ _ _ rfl).mono rfl)
        obtain ⟨-, h⟩ := oeq h
        rw [← h]
        exact f_q6
    · rcases ite_elim h with h | h
      · obtain ⟨x8, σ9, g10, h⟩ := bd_elim h
        have f_σ9 : Fm [24, 62] σ σ9 := (Fm.rf).tr ((fr_X1_canKeep g10).mono rfl)
        rcases ite_elim h with h | h
        · exact (f_σ9).tr (frj_X9_drawFor_64 N (l_X9_drawFor_14 N n) ih _ _ _ _ _ h)
        · obtain ⟨σ12, e9, h⟩ := bt_elim h
          have f_σ12 : Fm [24, 62] σ σ12 := (f_σ9).tr (by rw [e9]; exact (fr_X1_end_23 _ _ _ _ _ rfl).mono rfl)
          exact (f_σ12).tr (frj_X9_drawFor_64 N (l_X9_drawFor_14 N n) ih _ _ _ _ _ h)
      · exact (Fm.rf).tr (frj_X9_drawFor_64 N (l_X9_drawFor_14 N n) ih _ _ _ _ _ h)
theorem fr_X9_drawFor {N : Nat} {a1 : Int32} {σ : St} {v : Unit} {w : St} (h : o_X9_drawFor N a1 σ = some (v, w)) : Fm [24, 62] σ w := by
  unfold o_X9_drawFor at h
  rcases ite_elim h with h | h
  · exact (Fm.rf).tr (frl_X9_drawFor_14 N N _ _ _ _ _ h)
  · obtain ⟨-, h⟩ := oeq h
    rw [← h]
    exact Fm.rf
theorem frl_X9_drift_22 (N : Nat) (K_14 : Int32 → Int32 → St → Option (Int32 × St)) (hK_14 : ∀ (v1 : Int32) (v3 : Int32) (σ : St) (v : Int32) (w : St), K_14 v1 v3 σ = some (v, w) → Fm [24, 25, 27, 28, 29, 30, 31, 32, 33, 34, 35, 36, 37, 38, 39, 40, 41, 42, 43, 44, 45, 46, 47, 48, 49, 50, 51, 52, 53, 54, 55, 56, 62] σ w) : ∀ (n : Nat) (v1 : Int32) (v3 : Int32) (v4 : Int32) (σ : St) (v : Int32) (w : St), l_X9_drift_22 N K_14 n v1 v3 v4 σ = some (v, w) → Fm [24, 25, 27, 28, 29, 30, 31, 32, 33, 34, 35, 36, 37, 38, 39, 40, 41, 42, 43, 44, 45, 46, 47, 48, 49, 50, 51, 52, 53, 54, 55, 56, 62] σ w := by
  intro n
  induction n with
  | zero =>
    intro v1 v3 v4 σ v w h
    rw [l_X9_drift_22] at h
    cases h
  | succ n ih =>
    intro v1 v3 v4 σ v w h
    rw [l_X9_drift_22] at h
    rcases ite_elim h with h | h
    · obtain ⟨u2, σ3, g4, h⟩ := bd_elim h
      have f_σ3 : Fm [24, 25, 27, 28, 29, 30, 31, 32, 33, 34, 35, 36, 37, 38, 39, 40, 41, 42, 43, 44, 45, 46, 47, 48, 49, 50, 51, 52, 53, 54, 55, 56, 62] σ σ3 := (Fm.rf).tr ((fr_X9_endDay g4).mono rfl)
      obtain ⟨_, -, h⟩ := bt_elim h
      exact (f_σ3).tr (hK_14 _ _ _ _ _ h)
    · obtain ⟨u6, σ7, g8, h⟩ := bd_elim h
      have f_σ7 : Fm [24, 25, 27, 28, 29, 30, 31, 32, 33, 34, 35, 36, 37, 38, 39, 40, 41, 42, 43, 44, 45, 46, 47, 48, 49, 50, 51, 52, 53, 54, 55, 56, 62] σ σ7 := (Fm.rf).tr ((fr_X9_drawFor g8).mono rfl)
      obtain ⟨_, -, h⟩ := bt_elim h
      exact (f_σ7).tr (ih _ _ _ _ _ _ h)
theorem frl_X9_drift_14 (N : Nat) : ∀ (n : Nat) (v1 : Int32) (v3 : Int32) (σ : St) (v : Int32) (w : St), l_X9_drift_14 N n v1 v3 σ = some (v, w) → Fm [24, 25, 27, 28, 29, 30, 31, 32, 33, 34, 35, 36, 37, 38, 39, 40, 41, 42, 43, 44, 45, 46, 47, 48, 49, 50, 51, 52, 53, 54, 55, 56, 62] σ w := by
  intro n
  induction n with
  | zero =>
    intro v1 v3 σ v w h
    rw [l_X9_drift_14] at h
    cases h
  | succ n ih =>
    intro v1 v3 σ v w h
    rw [l_X9_drift_14] at h
    rcases ite_elim h with h | h
    · obtain ⟨-, h⟩ := oeq h
      rw [← h]
      exact Fm.rf
    · exact (Fm.rf).tr (frl_X9_drift_22 N (l_X9_drift_14 N n) ih N _ _ _ _ _ _ h)
theorem fr_X9_drift {N : Nat} {a1 : Int32} {σ : St} {v : Int32} {w : St} (h : o_X9_drift N a1 σ = some (v, w)) : Fm [24, 25, 27, 28, 29, 30, 31, 32, 33, 34, 35, 36, 37, 38, 39, 40, 41, 42, 43, 44, 45, 46, 47, 48, 49, 50, 51, 52, 53, 54, 55, 56, 62] σ w := by
  unfold o_X9_drift at h
  obtain ⟨_, -, h⟩ := bt_elim h
  rcases ite_elim h with h | h
  · exact (Fm.rf).tr (frl_X9_drift_14 N N _ _ _ _ _ h)
  · obtain ⟨-, h⟩ := oeq h
    rw [← h]
    exact Fm.rf
theorem fr_X10_draw {N : Nat} {a1 : Int32} {σ : St} {v : Int32} {w : St} (h : o_X10_draw N a1 σ = some (v, w)) : Fm [80] σ w := by
  unfold o_X10_draw at h
  obtain ⟨σ1, e9, h⟩ := bt_elim h
  have f_σ1 : Fm [80] σ σ1 := (Fm.rf).tr (by rw [e9]; exact Fm.st (by decide))
  obtain ⟨-, h⟩ := ckDI_elim h
  obtain ⟨-, h⟩ := oeq h
  rw [← h]
  exact f_σ1
theorem frj_X10_keeperByDraws_36 (N : Nat) (K_2 : Int32 → Int32 → St → Option (Unit × St)) (hK_2 : ∀ (v1 : Int32) (v2 : Int32) (σ : St) (v : Unit) (w : St), K_2 v1 v2 σ = some (v, w) → Fm [80] σ w) (v1 : Int32) (v2 : Int32) (σ : St) (v : Unit) (w : St) (h : j_X10_keeperByDraws_36 N K_2 v1 v2 σ = some (v, w)) : Fm [80] σ w := by
  unfold j_X10_keeperByDraws_36 at h
  obtain ⟨_, -, h⟩ := bt_elim h
  exact (Fm.rf).tr (hK_2 _ _ _ _ _ h)
theorem frl_X10_keeperByDraws_2 (N : Nat) : ∀ (n : Nat) (v1 : Int32) (v2 : Int32) (σ : St) (v : Unit) (w : St), l_X10_keeperByDraws_2 N n v1 v2 σ = some (v, w) → Fm [80] σ w := by
  intro n
  induction n with
  | zero =>
    intro v1 v2 σ v w h
    rw [l_X10_keeperByDraws_2] at h
    cases h
  | succ n ih =>
    intro v1 v2 σ v w h
    rw [l_X10_keeperByDraws_2] at h
    rcases ite_elim h with h | h
    · obtain ⟨x2, σ3, g4, h⟩ := bd_elim h
      have f_σ3 : Fm [80] σ σ3 := (Fm.rf).tr ((fr_X10_draw g4).mono rfl)
      rcases ite_elim h with h | h
      · obtain ⟨-, h⟩ := oeq h
        rw [← h]
        exact f_σ3
      · obtain ⟨x6, σ7, g8, h⟩ := bd_elim h
        have f_σ7 : Fm [80] σ σ7 := (f_σ3).tr ((fr_X10_canGo g8).mono rfl)
        rcases ite_elim h with h | h
        · obtain ⟨-, h⟩ := oeq h
          rw [← h]
          exact f_σ7
        · obtain ⟨u10, σ11, g12, h⟩ := bd_elim h
          have f_σ11 : Fm [80] σ σ11 := (f_σ7).tr ((fr_X10_goTo g12).mono rfl)
          obtain ⟨-, h⟩ := oeq h
          rw [← h]
          exact f_σ11
    · obtain ⟨-, h⟩ := ckA_elim h
      rcases ite_elim h with h | h
      · obtain ⟨x15, σ16, g17, h⟩ := bd_elim h
        have f_σ16 : Fm [80] σ σ16 := (Fm.rf).tr ((fr_X10_canKeep g17).mono rfl)
        rcases ite_elim h with h | h
        · exact (f_σ16).tr (frj_X10_keeperByDraws_36 N (l_X10_keeperByDraws_2 N n) ih _ _ _ _ _ h)
        · obtain ⟨u19, σ20, g21, h⟩ := bd_elim h
          have f_σ20 : Fm [80] σ σ20 := (f_σ16).tr ((fr_X10_keepNow g21).mono rfl)
          exact (f_σ20).tr (frj_X10_keeperByDraws_36 N (l_X10_keeperByDraws_2 N n) ih _ _ _ _ _ h)
      · exact (Fm.rf).tr (frj_X10_keeperByDraws_36 N (l_X10_keeperByDraws_2 N n) ih _ _ _ _ _ h)
theorem fr_X10_keeperByDraws {N : Nat} {a1 : Int32} {σ : St} {v : Unit} {w : St} (h : o_X10_keeperByDraws N a1 σ = some (v, w)) : Fm [80] σ w := by
  unfold o_X10_keeperByDraws at h
  exact (Fm.rf).tr (frl_X10_keeperByDraws_2 N N _ _ _ _ _ h)
theorem frj_X10_drift_44 (N : Nat) (K_16 : Int32 → Int32 → St → Option (Int32 × St)) (K_23 : Int32 → Int32 → Int32 → St → Option (Int32 × St)) (hK_16 : ∀ (v1 : Int32) (v2 : Int32) (σ : St) (v : Int32) (w : St), K_16 v1 v2 σ = some (v, w) → Fm [79, 80] σ w) (hK_23 : ∀ (v1 : Int32) (v2 : Int32) (v3 : Int32) (σ : St) (v : Int32) (w : St), K_23 v1 v2 v3 σ = some (v, w) → Fm [79, 80] σ w) (v1 : Int32) (v2 : Int32) (v3 : Int32) (σ : St) (v : Int32) (w : St) (h : j_X10_drift_44 N K_16 K_23 v1 v2 v3 σ = some (v, w)) : Fm [79, 80] σ w := by
  unfold j_X10_drift_44 at h
  obtain ⟨_, -, h⟩ := bt_elim h
  exact (Fm.rf).tr (hK_23 _ _ _ _ _ _ h)
theorem frl_X10_drift_23 (N : Nat) (K_16 : Int32 → Int32 → St → Option (Int32 × St)) (hK_16 : ∀ (v1 : Int32) (v2 : Int32) (σ : St) (v : Int32) (w : St), K_16 v1 v2 σ = some (v, w) → Fm [79, 80] σ w) : ∀ (n : Nat) (v1 : Int32) (v2 : Int32) (v3 : Int32) (σ : St) (v : Int32) (w : St), l_X10_drift_23 N K_16 n v1 v2 v3 σ = some (v, w) → Fm [79, 80] σ w := by
  intro n
  induction n with
  | zero =>
    intro v1 v2 v3 σ v w h
    rw [l_X10_drift_23] at h
    cases h
  | succ n ih =>
    intro v1 v2 v3 σ v w h
    rw [l_X10_drift_23] at h
    rcases ite_elim h with h | h
    · obtain ⟨u2, σ3, g4, h⟩ := bd_elim h
      have f_σ3 : Fm [79, 80] σ σ3 := (Fm.rf).tr ((fr_X10_passDay g4).mono rfl)
      obtain ⟨_, -, h⟩ := bt_elim h
      exact (f_σ3).tr (hK_16 _ _ _ _ _ h)
    · obtain ⟨x6, σ7, g8, h⟩ := bd_elim h
      have f_σ7 : Fm [79, 80] σ σ7 := (Fm.rf).tr ((fr_X10_isOnWay g8).mono rfl)
      rcases ite_elim h with h | h
      · obtain ⟨u10, σ11, g12, h⟩ := bd_elim h
        have f_σ11 : Fm [79, 80] σ σ11 := (f_σ7).tr ((fr_X10_keeperByDraws g12).mono rfl)
        exact (f_σ11).tr (frj_X10_drift_44 N K_16 (l_X10_drift_23 N K_16 n) hK_16 ih _ _ _ _ _ _ h)
      · exact (f_σ7).tr (frj_X10_drift_44 N K_16 (l_X10_drift_23 N K_16 n) hK_16 ih _ _ _ _ _ _ h)
theorem frl_X10_drift_16 (N : Nat) : ∀ (n : Nat) (v1 : Int32) (v2 : Int32) (σ : St) (v : Int32) (w : St), l_X10_drift_16 N n v1 v2 σ = some (v, w) → Fm [79, 80] σ w := by
  intro n
  induction n with
  | zero =>
    intro v1 v2 σ v w h
    rw [l_X10_drift_16] at h
    cases h
  | succ n ih =>
    intro v1 v2 σ v w h
    rw [l_X10_drift_16] at h
    rcases ite_elim h with h | h
    · obtain ⟨-, h⟩ := oeq h
      rw [← h]
      exact Fm.rf
    · exact (Fm.rf).tr (frl_X10_drift_23 N (l_X10_drift_16 N n) ih N _ _ _ _ _ _ h)
theorem fr_X10_drift {N : Nat} {a1 : Int32} {σ : St} {v : Int32} {w : St} (h : o_X10_drift N a1 σ = some (v, w)) : Fm [79, 80] σ w := by
  unfold o_X10_drift at h
  rcases ite_elim h with h | h
  · exact (Fm.rf).tr (frl_X10_drift_16 N N _ _ _ _ _ h)
  · obtain ⟨-, h⟩ := oeq h
    rw [← h]
    exact Fm.rf
theorem fr_X6_takeBack {N : Nat} {a1 : Int32} {σ : St} {v : Int32} {w : St} (h : o_X6_takeBack N a1 σ = some (v, w)) : Fm [24, 25] σ w := by
  unfold o_X6_takeBack at h
  rcases ite_elim h with h | h
  · obtain ⟨-, h⟩ := oeq h
    rw [← h]
    exact Fm.rf
  · rcases ite_elim h with h | h
    · obtain ⟨x3, σ4, g5, h⟩ := bd_elim h
      have f_σ4 : Fm [24, 25] σ σ4 := (Fm.rf).tr ((fr_J9_floorMod_7cf53 g5).mono rfl)
      obtain ⟨σ6, e9, h⟩ := bt_elim h
      have f_σ6 : Fm [24, 25] σ σ6 := (f_σ4).tr (by rw [e9]; exact Fm.st (by decide))
      obtain ⟨σ7, e9, h⟩ := bt_elim h
      have f_σ7 : Fm [24, 25] σ σ7 := (f_σ6).tr (by rw [e9]; exact Fm.st (by decide))
      obtain ⟨σ8, e9, h⟩ := bt_elim h
      have f_σ8 : Fm [24, 25] σ σ8 := (f_σ7).tr (by rw [e9]; exact Fm.cpS (by decide))
      obtain ⟨-, h⟩ := oeq h
      rw [← h]
      exact f_σ8
    · obtain ⟨-, h⟩ := oeq h
      rw [← h]
      exact Fm.rf
theorem fr_X9_undo {N : Nat} {a1 : Int32} {σ : St} {v : Int32} {w : St} (h : o_X9_undo N a1 σ = some (v, w)) : Fm [24, 25] σ w := by
  unfold o_X9_undo at h
  rcases ite_elim h with h | h
  · obtain ⟨-, h⟩ := oeq h
    rw [← h]
    exact Fm.rf
  · rcases ite_elim h with h | h
    · obtain ⟨x3, σ4, g5, h⟩ := bd_elim h
      have f_σ4 : Fm [24, 25] σ σ4 := (Fm.rf).tr ((fr_X6_takeBack g5).mono rfl)
      rcases ite_elim h with h | h
      · obtain ⟨-, h⟩ := oeq h
        rw [← h]
        exact f_σ4
      · obtain ⟨-, h⟩ := oeq h
        rw [← h]
        exact f_σ4
    · obtain ⟨-, h⟩ := oeq h
      rw [← h]
      exact Fm.rf
theorem fr_X10_undo {N : Nat} {a1 : Int32} {σ : St} {v : Int32} {w : St} (h : o_X10_undo N a1 σ = some (v, w)) : Fm [79, 80] σ w := by
  unfold o_X10_undo at h
  rcases ite_elim h with h | h
  · obtain ⟨-, h⟩ := oeq h
    rw [← h]
    exact Fm.rf
  · rcases ite_elim h with h | h
    · obtain ⟨σ3, e9, h⟩ := bt_elim h
      have f_σ3 : Fm [79, 80] σ σ3 := (Fm.rf).tr (by rw [e9]; exact Fm.st (by decide))
      obtain ⟨_, -, h⟩ := bt_elim h
      obtain ⟨u5, σ6, g7, h⟩ := bd_elim h
      have f_σ6 : Fm [79, 80] σ σ6 := (f_σ3).tr ((fr_X10_copy g7).mono rfl)
      obtain ⟨σ8, e9, h⟩ := bt_elim h
      have f_σ8 : Fm [79, 80] σ σ8 := (f_σ6).tr (by rw [e9]; exact Fm.st (by decide))
      obtain ⟨-, h⟩ := oeq h
      rw [← h]
      exact f_σ8
    · obtain ⟨-, h⟩ := oeq h
      rw [← h]
      exact Fm.rf
theorem fr_X1_openOf {N : Nat} {a1 : Int32} {σ : St} {v : Int32} {w : St} (h : o_X1_openOf N a1 σ = some (v, w)) : Fm [] σ w := by
  unfold o_X1_openOf at h
  obtain ⟨x1, σ2, g3, h⟩ := bd_elim h
  have f_σ2 : Fm [] σ σ2 := (Fm.rf).tr ((fr_X1_heldBy g3).mono rfl)
  obtain ⟨x4, σ5, g6, h⟩ := bd_elim h
  have f_σ5 : Fm [] σ σ5 := (f_σ2).tr ((fr_X1_setOf g6).mono rfl)
  obtain ⟨-, h⟩ := oeq h
  rw [← h]
  exact f_σ5
theorem frj_X8_prepare_107 (N : Nat) (K_2 : Int32 → Int32 → St → Option (Int32 × St)) (hK_2 : ∀ (v1 : Int32) (v2 : Int32) (σ : St) (v : Int32) (w : St), K_2 v1 v2 σ = some (v, w) → Fm [64, 65, 66] σ w) (v1 : Int32) (v2 : Int32) (σ : St) (v : Int32) (w : St) (h : j_X8_prepare_107 N K_2 v1 v2 σ = some (v, w)) : Fm [64, 65, 66] σ w := by
  unfold j_X8_prepare_107 at h
  obtain ⟨_, -, h⟩ := bt_elim h
  exact (Fm.rf).tr (hK_2 _ _ _ _ _ h)
theorem frl_X8_prepare_2 (N : Nat) : ∀ (n : Nat) (v1 : Int32) (v2 : Int32) (σ : St) (v : Int32) (w : St), l_X8_prepare_2 N n v1 v2 σ = some (v, w) → Fm [64, 65, 66] σ w := by
  intro n
  induction n with
  | zero =>
    intro v1 v2 σ v w h
    rw [l_X8_prepare_2] at h
    cases h
  | succ n ih =>
    intro v1 v2 σ v w h
    rw [l_X8_prepare_2] at h
    rcases ite_elim h with h | h
    · obtain ⟨-, h⟩ := oeq h
      rw [← h]
      exact Fm.rf
    · rcases ite_elim h with h | h
      · exact (Fm.rf).tr (frj_X8_prepare_107 N (l_X8_prepare_2 N n) ih _ _ _ _ _ h)
      · obtain ⟨σ3, e9, h⟩ := bt_elim h
        have f_σ3 : Fm [64, 65, 66] σ σ3 := (Fm.rf).tr (by rw [e9]; exact Fm.put (by decide))
        obtain ⟨σ4, e9, h⟩ := bt_elim h
        have f_σ4 : Fm [64, 65, 66] σ σ4 := (f_σ3).tr (by rw [e9]; exact Fm.put (by decide))
        obtain ⟨x5, σ6, g7, h⟩ := bd_elim h
        have f_σ6 : Fm [64, 65, 66] σ σ6 := (f_σ4).tr ((fr_X1_ripeOn_23 g7).mono rfl)
        obtain ⟨σ8, e9, h⟩ := bt_elim h
        have f_σ8 : Fm [64, 65, 66] σ σ8 := (f_σ6).tr (by rw [e9]; exact Fm.put (by decide))
        rcases ite_elim h with h | h
        · rcases ite_elim h with h | h
          · obtain ⟨-, h⟩ := oeq h
            rw [← h]
            exact f_σ8
          · exact (f_σ8).tr (frj_X8_prepare_107 N (l_X8_prepare_2 N n) ih _ _ _ _ _ h)
        · exact (f_σ8).tr (frj_X8_prepare_107 N (l_X8_prepare_2 N n) ih _ _ _ _ _ h)
theorem fr_X8_prepare {N : Nat} {a1 : Int32} {σ : St} {v : Int32} {w : St} (h : o_X8_prepare N a1 σ = some (v, w)) : Fm [64, 65, 66] σ w := by
  unfold o_X8_prepare at h
  exact (Fm.rf).tr (frl_X8_prepare_2 N N _ _ _ _ _ h)
theorem frj_X8_misses_89 (N : Nat) (K_3 : Int32 → Int32 → Int32 → Int32 → St → Option (Int32 × St)) (hK_3 : ∀ (v1 : Int32) (v2 : Int32) (v3 : Int32) (v4 : Int32) (σ : St) (v : Int32) (w : St), K_3 v1 v2 v3 v4 σ = some (v, w) → Fm [] σ w) (v1 : Int32) (v2 : Int32) (v3 : Int32) (v4 : Int32) (σ : St) (v : Int32) (w : St) (h : j_X8_misses_89 N K_3 v1 v2 v3 v4 σ = some (v, w)) : Fm [] σ w := by
  unfold j_X8_misses_89 at h
  obtain ⟨_, -, h⟩ := bt_elim h
  exact (Fm.rf).tr (hK_3 _ _ _ _ _ _ _ h)
theorem frl_X8_misses_3 (N : Nat) : ∀ (n : Nat) (v1 : Int32) (v2 : Int32) (v3 : Int32) (v4 : Int32) (σ : St) (v : Int32) (w : St), l_X8_misses_3 N n v1 v2 v3 v4 σ = some (v, w) → Fm [] σ w := by
  intro n
  induction n with
  | zero =>
    intro v1 v2 v3 v4 σ v w h
    rw [l_X8_misses_3] at h
    cases h
  | succ n ih =>
    intro v1 v2 v3 v4 σ v w h
    rw [l_X8_misses_3] at h
    rcases ite_elim h with h | h
    · obtain ⟨-, h⟩ := oeq h
      rw [← h]
      exact Fm.rf
    · rcases ite_elim h with h | h
      · exact (Fm.rf).tr (frj_X8_misses_89 N (l_X8_misses_3 N n) ih _ _ _ _ _ _ _ h)
      · obtain ⟨_, -, h⟩ := bt_elim h
        obtain ⟨_, -, h⟩ := bt_elim h
        rcases ite_elim h with h | h
        · obtain ⟨-, h⟩ := oeq h
          rw [← h]
          exact Fm.rf
        · rcases ite_elim h with h | h
          · exact (Fm.rf).tr (frj_X8_misses_89 N (l_X8_misses_3 N n) ih _ _ _ _ _ _ _ h)
          · rcases ite_elim h with h | h
            · exact (Fm.rf).tr (frj_X8_misses_89 N (l_X8_misses_3 N n) ih _ _ _ _ _ _ _ h)
            · obtain ⟨-, h⟩ := oeq h
              rw [← h]
              exact Fm.rf
theorem fr_X8_misses {N : Nat} {a1 : Int32} {a2 : Int32} {a3 : Int32} {σ : St} {v : Int32} {w : St} (h : o_X8_misses N a1 a2 a3 σ = some (v, w)) : Fm [] σ w := by
  unfold o_X8_misses at h
  exact (Fm.rf).tr (frl_X8_misses_3 N N _ _ _ _ _ _ _ h)
theorem fr_X8_takeAsBest (a1 : Int32) (a2 : Int32) (σ : St) (q : St) (h : t_X8_takeAsBest a1 a2 σ = q) : Fm [63, 68] σ q := by
  unfold t_X8_takeAsBest at h
  obtain ⟨σ1, e9, h⟩ := bt_elim h
  have f_σ1 : Fm [63, 68] σ σ1 := (Fm.rf).tr (by rw [e9]; exact Fm.st (by decide))
  obtain ⟨σ2, e9, h⟩ := bt_elim h
  have f_σ2 : Fm [63, 68] σ σ2 := (f_σ1).tr (by rw [e9]; exact Fm.st (by decide))
  obtain ⟨σ3, e9, h⟩ := bt_elim h
  have f_σ3 : Fm [63, 68] σ σ3 := (f_σ2).tr (by rw [e9]; exact Fm.cpS (by decide))
  rw [← h]
  exact f_σ3
theorem frj_X8_ripen_80 (N : Nat) (K_5 : Int32 → Int32 → Int32 → Int32 → St → Option (Unit × St)) (hK_5 : ∀ (v1 : Int32) (v2 : Int32) (v3 : Int32) (v4 : Int32) (σ : St) (v : Unit) (w : St), K_5 v1 v2 v3 v4 σ = some (v, w) → Fm [66] σ w) (v1 : Int32) (v2 : Int32) (v3 : Int32) (v4 : Int32) (σ : St) (v : Unit) (w : St) (h : j_X8_ripen_80 N K_5 v1 v2 v3 v4 σ = some (v, w)) : Fm [66] σ w := by
  unfold j_X8_ripen_80 at h
  obtain ⟨_, -, h⟩ := bt_elim h
  exact (Fm.rf).tr (hK_5 _ _ _ _ _ _ _ h)
theorem frj_X8_ripen_77 (N : Nat) (K_5 : Int32 → Int32 → Int32 → Int32 → St → Option (Unit × St)) (hK_5 : ∀ (v1 : Int32) (v2 : Int32) (v3 : Int32) (v4 : Int32) (σ : St) (v : Unit) (w : St), K_5 v1 v2 v3 v4 σ = some (v, w) → Fm [66] σ w) (v1 : Int32) (v2 : Int32) (v3 : Int32) (v4 : Int32) (s1 : Int32) (s2 : Int32) (σ : St) (v : Unit) (w : St) (h : j_X8_ripen_77 N K_5 v1 v2 v3 v4 s1 s2 σ = some (v, w)) : Fm [66] σ w := by
  unfold j_X8_ripen_77 at h
  obtain ⟨σ1, e9, h⟩ := bt_elim h
  have f_σ1 : Fm [66] σ σ1 := (Fm.rf).tr (by rw [e9]; exact Fm.put (by decide))
  exact (f_σ1).tr (frj_X8_ripen_80 N K_5 hK_5 _ _ _ _ _ _ _ h)
theorem frl_X8_ripen_5 (N : Nat) : ∀ (n : Nat) (v1 : Int32) (v2 : Int32) (v3 : Int32) (v4 : Int32) (σ : St) (v : Unit) (w : St), l_X8_ripen_5 N n v1 v2 v3 v4 σ = some (v, w) → Fm [66] σ w := by
  intro n
  induction n with
  | zero =>
    intro v1 v2 v3 v4 σ v w h
    rw [l_X8_ripen_5] at h
    cases h
  | succ n ih =>
    intro v1 v2 v3 v4 σ v w h
    rw [l_X8_ripen_5] at h
    rcases ite_elim h with h | h
    · obtain ⟨-, h⟩ := oeq h
      rw [← h]
      exact Fm.rf
    · rcases ite_elim h with h | h
      · exact (Fm.rf).tr (frj_X8_ripen_80 N (l_X8_ripen_5 N n) ih _ _ _ _ _ _ _ h)
      · rcases ite_elim h with h | h
        · rcases ite_elim h with h | h
          · exact (Fm.rf).tr (frj_X8_ripen_77 N (l_X8_ripen_5 N n) ih _ _ _ _ _ _ _ _ _ h)
          · obtain ⟨x5, σ6, g7, h⟩ := bd_elim h
            have f_σ6 : Fm [66] σ σ6 := (Fm.rf).tr ((fr_X5_ripeDay g7).mono rfl)
            exact (f_σ6).tr (frj_X8_ripen_77 N (l_X8_ripen_5 N n) ih _ _ _ _ _ _ _ _ _ h)
        · exact (Fm.rf).tr (frj_X8_ripen_80 N (l_X8_ripen_5 N n) ih _ _ _ _ _ _ _ h)
theorem fr_X8_ripen {N : Nat} {a1 : Int32} {a2 : Int32} {a3 : Int32} {σ : St} {v : Unit} {w : St} (h : o_X8_ripen N a1 a2 a3 σ = some (v, w)) : Fm [66] σ w := by
  unfold o_X8_ripen at h
  obtain ⟨_, -, h⟩ := bt_elim h
  exact (Fm.rf).tr (frl_X8_ripen_5 N N _ _ _ _ _ _ _ h)
theorem frj_X8_extend_173 (N : Nat) (REC : Int32 → Int32 → Int32 → Int32 → Int32 → St → Option (Unit × St)) (hREC : ∀ (a1 : Int32) (a2 : Int32) (a3 : Int32) (a4 : Int32) (a5 : Int32) (σ : St) (v : Unit) (w : St), REC a1 a2 a3 a4 a5 σ = some (v, w) → Fm [63, 66, 67, 68] σ w) (K_44 : Int32 → Int32 → Int32 → Int32 → Int32 → Int32 → St → Option (Unit × St)) (hK_44 : ∀ (v1 : Int32) (v2 : Int32) (v3 : Int32) (v4 : Int32) (v5 : Int32) (v6 : Int32) (σ : St) (v : Unit) (w : St), K_44 v1 v2 v3 v4 v5 v6 σ = some (v, w) → Fm [63, 66, 67, 68] σ w) (v1 : Int32) (v2 : Int32) (v3 : Int32) (v4 : Int32) (v5 : Int32) (v6 : Int32) (σ : St) (v : Unit) (w : St) (h : j_X8_extend_173 N REC K_44 v1 v2 v3 v4 v5 v6 σ = some (v, w)) : Fm [63, 66, 67, 68] σ w := by
  unfold j_X8_extend_173 at h
  obtain ⟨_, -, h⟩ := bt_elim h
  exact (Fm.rf).tr (hK_44 _ _ _ _ _ _ _ _ _ h)
theorem frl_X8_extend_44 (N : Nat) (REC : Int32 → Int32 → Int32 → Int32 → Int32 → St → Option (Unit × St)) (hREC : ∀ (a1 : Int32) (a2 : Int32) (a3 : Int32) (a4 : Int32) (a5 : Int32) (σ : St) (v : Unit) (w : St), REC a1 a2 a3 a4 a5 σ = some (v, w) → Fm [63, 66, 67, 68] σ w) : ∀ (n : Nat) (v1 : Int32) (v2 : Int32) (v3 : Int32) (v4 : Int32) (v5 : Int32) (v6 : Int32) (σ : St) (v : Unit) (w : St), l_X8_extend_44 N REC n v1 v2 v3 v4 v5 v6 σ = some (v, w) → Fm [63, 66, 67, 68] σ w := by
  intro n
  induction n with
  | zero =>
    intro v1 v2 v3 v4 v5 v6 σ v w h
    rw [l_X8_extend_44] at h
    cases h
  | succ n ih =>
    intro v1 v2 v3 v4 v5 v6 σ v w h
    rw [l_X8_extend_44] at h
    rcases ite_elim h with h | h
    · obtain ⟨-, h⟩ := oeq h
      rw [← h]
      exact Fm.rf
    · rcases ite_elim h with h | h
      · exact (Fm.rf).tr (frj_X8_extend_173 N REC hREC (l_X8_extend_44 N REC n) ih _ _ _ _ _ _ _ _ _ h)
      · rcases ite_elim h with h | h
        · exact (Fm.rf).tr (frj_X8_extend_173 N REC hREC (l_X8_extend_44 N REC n) ih _ _ _ _ _ _ _ _ _ h)
        · obtain ⟨_, -, h⟩ := bt_elim h
          obtain ⟨_, -, h⟩ := bt_elim h
          obtain ⟨_, -, h⟩ := bt_elim h
          obtain ⟨_, -, h⟩ := bt_elim h
          obtain ⟨σ8, e9, h⟩ := bt_elim h
          have f_σ8 : Fm [63, 66, 67, 68] σ σ8 := (Fm.rf).tr (by rw [e9]; exact Fm.put (by decide))
          obtain ⟨u9, σ10, g11, h⟩ := bd_elim h
          have f_σ10 : Fm [63, 66, 67, 68] σ σ10 := (f_σ8).tr ((fr_X8_ripen g11).mono rfl)
          obtain ⟨u12, σ13, g14, h⟩ := bd_elim h
          have f_σ13 : Fm [63, 66, 67, 68] σ σ13 := (f_σ10).tr (hREC _ _ _ _ _ _ _ _ g14)
          obtain ⟨u15, σ16, g17, h⟩ := bd_elim h
          have f_σ16 : Fm [63, 66, 67, 68] σ σ16 := (f_σ13).tr ((fr_X8_ripen g17).mono rfl)
          exact (f_σ16).tr (frj_X8_extend_173 N REC hREC (l_X8_extend_44 N REC n) ih _ _ _ _ _ _ _ _ _ h)
theorem frb_X8_extend {N : Nat} {REC : Int32 → Int32 → Int32 → Int32 → Int32 → St → Option (Unit × St)} (hREC : ∀ (a1 : Int32) (a2 : Int32) (a3 : Int32) (a4 : Int32) (a5 : Int32) (σ : St) (v : Unit) (w : St), REC a1 a2 a3 a4 a5 σ = some (v, w) → Fm [63, 66, 67, 68] σ w) {a1 : Int32} {a2 : Int32} {a3 : Int32} {a4 : Int32} {a5 : Int32} {σ : St} {v : Unit} {w : St} (h : ob_X8_extend N REC a1 a2 a3 a4 a5 σ = some (v, w)) : Fm [63, 66, 67, 68] σ w := by
  unfold ob_X8_extend at h
  rcases ite_elim h with h | h
  · obtain ⟨-, h⟩ := oeq h
    rw [← h]
    exact Fm.rf
  · rcases ite_elim h with h | h
    · rcases ite_elim h with h | h
      · obtain ⟨σ8, e9, h⟩ := bt_elim h
        have f_σ8 : Fm [63, 66, 67, 68] σ σ8 := (Fm.rf).tr (by rw [e9]; exact (fr_X8_takeAsBest _ _ _ _ rfl).mono rfl)
        obtain ⟨-, h⟩ := oeq h
        rw [← h]
        exact f_σ8
      · obtain ⟨x4, σ5, g6, h⟩ := bd_elim h
        have f_σ5 : Fm [63, 66, 67, 68] σ σ5 := (Fm.rf).tr ((fr_X8_misses g6).mono rfl)
        rcases ite_elim h with h | h
        · exact (f_σ5).tr (frl_X8_extend_44 N REC hREC N _ _ _ _ _ _ _ _ _ h)
        · obtain ⟨-, h⟩ := oeq h
          rw [← h]
          exact f_σ5
    · obtain ⟨-, h⟩ := oeq h
      rw [← h]
      exact Fm.rf
theorem fre_X8_extend (N : Nat) : ∀ (n : Nat) (a1 : Int32) (a2 : Int32) (a3 : Int32) (a4 : Int32) (a5 : Int32) (σ : St) (v : Unit) (w : St), oe_X8_extend N n a1 a2 a3 a4 a5 σ = some (v, w) → Fm [63, 66, 67, 68] σ w := by
  intro n
  induction n with
  | zero =>
    intro a1 a2 a3 a4 a5 σ v w h
    rw [oe_X8_extend] at h
    cases h
  | succ n ih =>
    intro a1 a2 a3 a4 a5 σ v w h
    rw [oe_X8_extend] at h
    exact frb_X8_extend ih h
theorem fr_X8_extend {N : Nat} {a1 : Int32} {a2 : Int32} {a3 : Int32} {a4 : Int32} {a5 : Int32} {σ : St} {v : Unit} {w : St} (h : o_X8_extend N a1 a2 a3 a4 a5 σ = some (v, w)) : Fm [63, 66, 67, 68] σ w := fre_X8_extend N 10 a1 a2 a3 a4 a5 σ v w h
theorem frj_X8_canKeepAll_45 (N : Nat)  (σ : St) (v : Int32) (w : St) (h : j_X8_canKeepAll_45 N  σ = some (v, w)) : Fm [63, 64, 65, 66, 67, 68] σ w := by
  unfold j_X8_canKeepAll_45 at h
  rcases ite_elim h with h | h
  · obtain ⟨-, h⟩ := oeq h
    rw [← h]
    exact Fm.rf
  · obtain ⟨-, h⟩ := oeq h
    rw [← h]
    exact Fm.rf
theorem fr_X8_canKeepAll {N : Nat} {a1 : Int32} {a2 : Int32} {a3 : Int32} {σ : St} {v : Int32} {w : St} (h : o_X8_canKeepAll N a1 a2 a3 σ = some (v, w)) : Fm [63, 64, 65, 66, 67, 68] σ w := by
  unfold o_X8_canKeepAll at h
  obtain ⟨σ1, e9, h⟩ := bt_elim h
  have f_σ1 : Fm [63, 64, 65, 66, 67, 68] σ σ1 := (Fm.rf).tr (by rw [e9]; exact Fm.st (by decide))
  obtain ⟨σ2, e9, h⟩ := bt_elim h
  have f_σ2 : Fm [63, 64, 65, 66, 67, 68] σ σ2 := (f_σ1).tr (by rw [e9]; exact Fm.st (by decide))
  obtain ⟨-, h⟩ := ckB_elim h
  obtain ⟨σ4, e9, h⟩ := bt_elim h
  have f_σ4 : Fm [63, 64, 65, 66, 67, 68] σ σ4 := (f_σ2).tr (by rw [e9]; exact Fm.st (by decide))
  obtain ⟨x5, σ6, g7, h⟩ := bd_elim h
  have f_σ6 : Fm [63, 64, 65, 66, 67, 68] σ σ6 := (f_σ4).tr ((fr_X8_prepare g7).mono rfl)
  rcases ite_elim h with h | h
  · exact (f_σ6).tr (frj_X8_canKeepAll_45 N _ _ _ h)
  · obtain ⟨u9, σ10, g11, h⟩ := bd_elim h
    have f_σ10 : Fm [63, 64, 65, 66, 67, 68] σ σ10 := (f_σ6).tr ((fr_X8_extend g11).mono rfl)
    exact (f_σ10).tr (frj_X8_canKeepAll_45 N _ _ _ h)
theorem fr_X9_plan {N : Nat} {a1 : Int32} {a2 : Int32} {σ : St} {v : Int32} {w : St} (h : o_X9_plan N a1 a2 σ = some (v, w)) : Fm [63, 64, 65, 66, 67, 68] σ w := by
  unfold o_X9_plan at h
  obtain ⟨_, -, h⟩ := bt_elim h
  rcases ite_elim h with h | h
  · obtain ⟨x3, σ4, g5, h⟩ := bd_elim h
    have f_σ4 : Fm [63, 64, 65, 66, 67, 68] σ σ4 := (Fm.rf).tr ((fr_X1_openOf g5).mono rfl)
    obtain ⟨x6, σ7, g8, h⟩ := bd_elim h
    have f_σ7 : Fm [63, 64, 65, 66, 67, 68] σ σ7 := (f_σ4).tr ((fr_X8_canKeepAll g8).mono rfl)
    rcases ite_elim h with h | h
    · obtain ⟨-, h⟩ := oeq h
      rw [← h]
      exact f_σ7
    · rcases ite_elim h with h | h
      · obtain ⟨-, h⟩ := oeq h
        rw [← h]
        exact f_σ7
      · obtain ⟨-, h⟩ := oeq h
        rw [← h]
        exact f_σ7
  · obtain ⟨-, h⟩ := oeq h
    rw [← h]
    exact Fm.rf
theorem fr_X10_openOf {N : Nat} {a1 : Int32} {σ : St} {v : Int32} {w : St} (h : o_X10_openOf N a1 σ = some (v, w)) : Fm [] σ w := by
  unfold o_X10_openOf at h
  obtain ⟨x1, σ2, g3, h⟩ := bd_elim h
  have f_σ2 : Fm [] σ σ2 := (Fm.rf).tr ((fr_X10_ofKeeper g3).mono rfl)
  obtain ⟨x4, σ5, g6, h⟩ := bd_elim h
  have f_σ5 : Fm [] σ σ5 := (f_σ2).tr ((fr_X10_inWay g6).mono rfl)
  obtain ⟨-, h⟩ := oeq h
  rw [← h]
  exact f_σ5
theorem fr_X10_townBy {N : Nat} {a1 : Int32} {σ : St} {v : Int32} {w : St} (h : o_X10_townBy N a1 σ = some (v, w)) : Fm [] σ w := by
  unfold o_X10_townBy at h
  rcases ite_elim h with h | h
  · obtain ⟨-, h⟩ := oeq h
    rw [← h]
    exact Fm.rf
  · obtain ⟨-, h⟩ := ckA_elim h
    obtain ⟨-, h⟩ := oeq h
    rw [← h]
    exact Fm.rf
theorem frj_X10_givenBy_18 (N : Nat) (v1 : Int32) (σ : St) (v : Int32) (w : St) (h : j_X10_givenBy_18 N v1 σ = some (v, w)) : Fm [] σ w := by
  unfold j_X10_givenBy_18 at h
  rcases ite_elim h with h | h
  · obtain ⟨-, h⟩ := oeq h
    rw [← h]
    exact Fm.rf
  · obtain ⟨-, h⟩ := ckA_elim h
    obtain ⟨-, h⟩ := oeq h
    rw [← h]
    exact Fm.rf
theorem frj_X10_givenBy_82 (N : Nat) (K_49 : Int32 → Int32 → Int32 → Int32 → St → Option (Int32 × St)) (hK_49 : ∀ (v1 : Int32) (v2 : Int32) (v3 : Int32) (v4 : Int32) (σ : St) (v : Int32) (w : St), K_49 v1 v2 v3 v4 σ = some (v, w) → Fm [] σ w) (v1 : Int32) (v2 : Int32) (v4 : Int32) (s0 : Int32) (σ : St) (v : Int32) (w : St) (h : j_X10_givenBy_82 N K_49 v1 v2 v4 s0 σ = some (v, w)) : Fm [] σ w := by
  unfold j_X10_givenBy_82 at h
  obtain ⟨_, -, h⟩ := bt_elim h
  exact (Fm.rf).tr (hK_49 _ _ _ _ _ _ _ h)
theorem frl_X10_givenBy_49 (N : Nat) : ∀ (n : Nat) (v1 : Int32) (v2 : Int32) (v3 : Int32) (v4 : Int32) (σ : St) (v : Int32) (w : St), l_X10_givenBy_49 N n v1 v2 v3 v4 σ = some (v, w) → Fm [] σ w := by
  intro n
  induction n with
  | zero =>
    intro v1 v2 v3 v4 σ v w h
    rw [l_X10_givenBy_49] at h
    cases h
  | succ n ih =>
    intro v1 v2 v3 v4 σ v w h
    rw [l_X10_givenBy_49] at h
    rcases ite_elim h with h | h
    · obtain ⟨-, h⟩ := oeq h
      rw [← h]
      exact Fm.rf
    · obtain ⟨-, h⟩ := ckA_elim h
      obtain ⟨-, h⟩ := ckA_elim h
      rcases ite_elim h with h | h
      · obtain ⟨-, h⟩ := ckA_elim h
        exact (Fm.rf).tr (frj_X10_givenBy_82 N (l_X10_givenBy_49 N n) ih _ _ _ _ _ _ _ h)
      · exact (Fm.rf).tr (frj_X10_givenBy_82 N (l_X10_givenBy_49 N n) ih _ _ _ _ _ _ _ h)
theorem fr_X10_givenBy {N : Nat} {a1 : Int32} {a2 : Int32} {σ : St} {v : Int32} {w : St} (h : o_X10_givenBy N a1 a2 σ = some (v, w)) : Fm [] σ w := by
  unfold o_X10_givenBy at h
  rcases ite_elim h with h | h
  · exact (Fm.rf).tr (frj_X10_givenBy_18 N _ _ _ _ h)
  · obtain ⟨-, h⟩ := ckA_elim h
    rcases ite_elim h with h | h
    · exact (Fm.rf).tr (frl_X10_givenBy_49 N N _ _ _ _ _ _ _ h)
    · exact (Fm.rf).tr (frj_X10_givenBy_18 N _ _ _ _ h)
theorem fr_X10_ageBy {N : Nat} {a1 : Int32} {σ : St} {v : Int32} {w : St} (h : o_X10_ageBy N a1 σ = some (v, w)) : Fm [] σ w := by
  unfold o_X10_ageBy at h
  rcases ite_elim h with h | h
  · obtain ⟨-, h⟩ := oeq h
    rw [← h]
    exact Fm.rf
  · obtain ⟨-, h⟩ := ckA_elim h
    obtain ⟨-, h⟩ := oeq h
    rw [← h]
    exact Fm.rf
theorem fr_X10_slackBy {N : Nat} {a1 : Int32} {σ : St} {v : Int32} {w : St} (h : o_X10_slackBy N a1 σ = some (v, w)) : Fm [] σ w := by
  unfold o_X10_slackBy at h
  rcases ite_elim h with h | h
  · obtain ⟨-, h⟩ := oeq h
    rw [← h]
    exact Fm.rf
  · obtain ⟨-, h⟩ := ckA_elim h
    obtain ⟨-, h⟩ := oeq h
    rw [← h]
    exact Fm.rf
theorem frj_X10_put_108 (N : Nat) (v1 : Int32) (v2 : Int32) (v7 : Int32) (s1 : Int32) (s2 : Int32) (s3 : Int32) (σ : St) (v : Int32) (w : St) (h : j_X10_put_108 N v1 v2 v7 s1 s2 s3 σ = some (v, w)) : Fm [95, 96, 97] σ w := by
  unfold j_X10_put_108 at h
  obtain ⟨-, h⟩ := ckA_elim h
  obtain ⟨σ2, e9, h⟩ := bt_elim h
  have f_σ2 : Fm [95, 96, 97] σ σ2 := (Fm.rf).tr (by rw [e9]; exact Fm.st (by decide))
  obtain ⟨-, h⟩ := ckA_elim h
  obtain ⟨x4, σ5, g6, h⟩ := bd_elim h
  have f_σ5 : Fm [95, 96, 97] σ σ5 := (f_σ2).tr ((fr_X10_slackBy g6).mono rfl)
  rcases ite_elim h with h | h
  · obtain ⟨-, h⟩ := oeq h
    rw [← h]
    exact f_σ5
  · obtain ⟨-, h⟩ := oeq h
    rw [← h]
    exact f_σ5
theorem frj_X10_put_84 (N : Nat) (v1 : Int32) (v2 : Int32) (v6 : Int32) (v7 : Int32) (s1 : Int32) (s2 : Int32) (σ : St) (v : Int32) (w : St) (h : j_X10_put_84 N v1 v2 v6 v7 s1 s2 σ = some (v, w)) : Fm [95, 96, 97] σ w := by
  unfold j_X10_put_84 at h
  obtain ⟨-, h⟩ := ckA_elim h
  obtain ⟨σ2, e9, h⟩ := bt_elim h
  have f_σ2 : Fm [95, 96, 97] σ σ2 := (Fm.rf).tr (by rw [e9]; exact Fm.st (by decide))
  rcases ite_elim h with h | h
  · exact (f_σ2).tr (frj_X10_put_108 N _ _ _ _ _ _ _ _ _ h)
  · obtain ⟨-, h⟩ := ckA_elim h
    exact (f_σ2).tr (frj_X10_put_108 N _ _ _ _ _ _ _ _ _ h)
theorem fr_X10_put {N : Nat} {a1 : Int32} {a2 : Int32} {a3 : Int32} {a4 : Int32} {σ : St} {v : Int32} {w : St} (h : o_X10_put N a1 a2 a3 a4 σ = some (v, w)) : Fm [95, 96, 97] σ w := by
  unfold o_X10_put at h
  obtain ⟨x1, σ2, g3, h⟩ := bd_elim h
  have f_σ2 : Fm [95, 96, 97] σ σ2 := (Fm.rf).tr ((fr_X10_givenBy g3).mono rfl)
  obtain ⟨x4, σ5, g6, h⟩ := bd_elim h
  have f_σ5 : Fm [95, 96, 97] σ σ5 := (f_σ2).tr ((fr_X10_townBy g6).mono rfl)
  obtain ⟨-, h⟩ := ckA_elim h
  obtain ⟨_, -, h⟩ := bt_elim h
  rcases ite_elim h with h | h
  · obtain ⟨-, h⟩ := oeq h
    rw [← h]
    exact f_σ5
  · rcases ite_elim h with h | h
    · obtain ⟨x11, σ12, g13, h⟩ := bd_elim h
      have f_σ12 : Fm [95, 96, 97] σ σ12 := (f_σ5).tr ((fr_X10_ageBy g13).mono rfl)
      obtain ⟨x14, σ15, g16, h⟩ := bd_elim h
      have f_σ15 : Fm [95, 96, 97] σ σ15 := (f_σ12).tr ((fr_X10_ripeBy g16).mono rfl)
      obtain ⟨_, -, h⟩ := bt_elim h
      obtain ⟨-, h⟩ := ckA_elim h
      obtain ⟨σ19, e9, h⟩ := bt_elim h
      have f_σ19 : Fm [95, 96, 97] σ σ19 := (f_σ15).tr (by rw [e9]; exact Fm.st (by decide))
      rcases ite_elim h with h | h
      · exact (f_σ19).tr (frj_X10_put_84 N _ _ _ _ _ _ _ _ _ h)
      · exact (f_σ19).tr (frj_X10_put_84 N _ _ _ _ _ _ _ _ _ h)
    · obtain ⟨-, h⟩ := oeq h
      rw [← h]
      exact f_σ5
theorem frl_X10_look_35 (N : Nat) : ∀ (n : Nat) (v1 : Int32) (σ : St) (v : Unit) (w : St), l_X10_look_35 N n v1 σ = some (v, w) → Fm [79, 98] σ w := by
  intro n
  induction n with
  | zero =>
    intro v1 σ v w h
    rw [l_X10_look_35] at h
    cases h
  | succ n ih =>
    intro v1 σ v w h
    rw [l_X10_look_35] at h
    rcases ite_elim h with h | h
    · obtain ⟨-, h⟩ := oeq h
      rw [← h]
      exact Fm.rf
    · obtain ⟨-, h⟩ := ckA_elim h
      obtain ⟨-, h⟩ := ckA_elim h
      obtain ⟨σ4, e9, h⟩ := bt_elim h
      have f_σ4 : Fm [79, 98] σ σ4 := (Fm.rf).tr (by rw [e9]; exact Fm.st (by decide))
      obtain ⟨_, -, h⟩ := bt_elim h
      exact (f_σ4).tr (ih _ _ _ _ h)
theorem fr_X10_look {N : Nat}  {σ : St} {v : Unit} {w : St} (h : o_X10_look N  σ = some (v, w)) : Fm [79, 98] σ w := by
  unfold o_X10_look at h
  obtain ⟨-, h⟩ := ckA_elim h
  rcases ite_elim h with h | h
  · obtain ⟨-, h⟩ := oeq h
    rw [← h]
    exact Fm.rf
  · obtain ⟨-, h⟩ := ckA_elim h
    obtain ⟨σ4, e9, h⟩ := bt_elim h
    have f_σ4 : Fm [79, 98] σ σ4 := (Fm.rf).tr (by rw [e9]; exact Fm.st (by decide))
    exact (f_σ4).tr (frl_X10_look_35 N N _ _ _ _ h)
theorem frj_X10_findOrder_292 (N : Nat)  (σ : St) (v : Int32) (w : St) (h : j_X10_findOrder_292 N  σ = some (v, w)) : Fm [79, 95, 96, 97, 98] σ w := by
  unfold j_X10_findOrder_292 at h
  obtain ⟨-, h⟩ := oeq h
  rw [← h]
  exact Fm.rf
theorem frj_X10_findOrder_182 (N : Nat) (K_63 : Int32 → Int32 → Int32 → Int32 → Int32 → St → Option (Int32 × St)) (K_150 : Int32 → Int32 → Int32 → Int32 → Int32 → Int32 → Int32 → Int32 → St → Option (Int32 × St)) (hK_63 : ∀ (v1 : Int32) (v3 : Int32) (v4 : Int32) (v5 : Int32) (v6 : Int32) (σ : St) (v : Int32) (w : St), K_63 v1 v3 v4 v5 v6 σ = some (v, w) → Fm [79, 95, 96, 97, 98] σ w) (hK_150 : ∀ (v1 : Int32) (v3 : Int32) (v4 : Int32) (v5 : Int32) (v6 : Int32) (v7 : Int32) (v8 : Int32) (v9 : Int32) (σ : St) (v : Int32) (w : St), K_150 v1 v3 v4 v5 v6 v7 v8 v9 σ = some (v, w) → Fm [79, 95, 96, 97, 98] σ w) (v1 : Int32) (v3 : Int32) (v4 : Int32) (v5 : Int32) (v6 : Int32) (v7 : Int32) (v8 : Int32) (v9 : Int32) (σ : St) (v : Int32) (w : St) (h : j_X10_findOrder_182 N K_63 K_150 v1 v3 v4 v5 v6 v7 v8 v9 σ = some (v, w)) : Fm [79, 95, 96, 97, 98] σ w := by
  unfold j_X10_findOrder_182 at h
  obtain ⟨_, -, h⟩ := bt_elim h
  exact (Fm.rf).tr (hK_150 _ _ _ _ _ _ _ _ _ _ _ h)
theorem frj_X10_findOrder_289 (N : Nat) (K_63 : Int32 → Int32 → Int32 → Int32 → Int32 → St → Option (Int32 × St)) (hK_63 : ∀ (v1 : Int32) (v3 : Int32) (v4 : Int32) (v5 : Int32) (v6 : Int32) (σ : St) (v : Int32) (w : St), K_63 v1 v3 v4 v5 v6 σ = some (v, w) → Fm [79, 95, 96, 97, 98] σ w) (v1 : Int32) (v3 : Int32) (v4 : Int32) (v5 : Int32) (v6 : Int32) (σ : St) (v : Int32) (w : St) (h : j_X10_findOrder_289 N K_63 v1 v3 v4 v5 v6 σ = some (v, w)) : Fm [79, 95, 96, 97, 98] σ w := by
  unfold j_X10_findOrder_289 at h
  exact (Fm.rf).tr (hK_63 _ _ _ _ _ _ _ _ h)
theorem frj_X10_findOrder_188 (N : Nat) (K_63 : Int32 → Int32 → Int32 → Int32 → Int32 → St → Option (Int32 × St)) (hK_63 : ∀ (v1 : Int32) (v3 : Int32) (v4 : Int32) (v5 : Int32) (v6 : Int32) (σ : St) (v : Int32) (w : St), K_63 v1 v3 v4 v5 v6 σ = some (v, w) → Fm [79, 95, 96, 97, 98] σ w) (v1 : Int32) (v3 : Int32) (v4 : Int32) (v5 : Int32) (v6 : Int32) (v9 : Int32) (σ : St) (v : Int32) (w : St) (h : j_X10_findOrder_188 N K_63 v1 v3 v4 v5 v6 v9 σ = some (v, w)) : Fm [79, 95, 96, 97, 98] σ w := by
  unfold j_X10_findOrder_188 at h
  rcases ite_elim h with h | h
  · obtain ⟨_, -, h⟩ := bt_elim h
    obtain ⟨_, -, h⟩ := bt_elim h
    rcases ite_elim h with h | h
    · obtain ⟨u5, σ6, g7, h⟩ := bd_elim h
      have f_σ6 : Fm [79, 95, 96, 97, 98] σ σ6 := (Fm.rf).tr ((fr_X10_look g7).mono rfl)
      obtain ⟨_, -, h⟩ := bt_elim h
      obtain ⟨-, h⟩ := ckA_elim h
      obtain ⟨_, -, h⟩ := bt_elim h
      obtain ⟨-, h⟩ := ckA_elim h
      obtain ⟨_, -, h⟩ := bt_elim h
      exact (f_σ6).tr (frj_X10_findOrder_289 N K_63 hK_63 _ _ _ _ _ _ _ _ h)
    · exact (Fm.rf).tr (frj_X10_findOrder_289 N K_63 hK_63 _ _ _ _ _ _ _ _ h)
  · obtain ⟨_, -, h⟩ := bt_elim h
    rcases ite_elim h with h | h
    · exact (Fm.rf).tr (frj_X10_findOrder_289 N K_63 hK_63 _ _ _ _ _ _ _ _ h)
    · obtain ⟨-, h⟩ := ckA_elim h
      obtain ⟨_, -, h⟩ := bt_elim h
      obtain ⟨-, h⟩ := ckA_elim h
      obtain ⟨_, -, h⟩ := bt_elim h
      exact (Fm.rf).tr (frj_X10_findOrder_289 N K_63 hK_63 _ _ _ _ _ _ _ _ h)
theorem frl_X10_findOrder_150 (N : Nat) (K_63 : Int32 → Int32 → Int32 → Int32 → Int32 → St → Option (Int32 × St)) (hK_63 : ∀ (v1 : Int32) (v3 : Int32) (v4 : Int32) (v5 : Int32) (v6 : Int32) (σ : St) (v : Int32) (w : St), K_63 v1 v3 v4 v5 v6 σ = some (v, w) → Fm [79, 95, 96, 97, 98] σ w) : ∀ (n : Nat) (v1 : Int32) (v3 : Int32) (v4 : Int32) (v5 : Int32) (v6 : Int32) (v7 : Int32) (v8 : Int32) (v9 : Int32) (σ : St) (v : Int32) (w : St), l_X10_findOrder_150 N K_63 n v1 v3 v4 v5 v6 v7 v8 v9 σ = some (v, w) → Fm [79, 95, 96, 97, 98] σ w := by
  intro n
  induction n with
  | zero =>
    intro v1 v3 v4 v5 v6 v7 v8 v9 σ v w h
    rw [l_X10_findOrder_150] at h
    cases h
  | succ n ih =>
    intro v1 v3 v4 v5 v6 v7 v8 v9 σ v w h
    rw [l_X10_findOrder_150] at h
    rcases ite_elim h with h | h
    · exact (Fm.rf).tr (frj_X10_findOrder_188 N K_63 hK_63 _ _ _ _ _ _ _ _ _ h)
    · rcases ite_elim h with h | h
      · exact (Fm.rf).tr (frj_X10_findOrder_182 N K_63 (l_X10_findOrder_150 N K_63 n) hK_63 ih _ _ _ _ _ _ _ _ _ _ _ h)
      · obtain ⟨x3, σ4, g5, h⟩ := bd_elim h
        have f_σ4 : Fm [79, 95, 96, 97, 98] σ σ4 := (Fm.rf).tr ((fr_X10_put g5).mono rfl)
        rcases ite_elim h with h | h
        · exact (f_σ4).tr (frj_X10_findOrder_182 N K_63 (l_X10_findOrder_150 N K_63 n) hK_63 ih _ _ _ _ _ _ _ _ _ _ _ h)
        · exact (f_σ4).tr (frj_X10_findOrder_188 N K_63 hK_63 _ _ _ _ _ _ _ _ _ h)
theorem frj_X10_findOrder_144 (N : Nat) (K_63 : Int32 → Int32 → Int32 → Int32 → Int32 → St → Option (Int32 × St)) (hK_63 : ∀ (v1 : Int32) (v3 : Int32) (v4 : Int32) (v5 : Int32) (v6 : Int32) (σ : St) (v : Int32) (w : St), K_63 v1 v3 v4 v5 v6 σ = some (v, w) → Fm [79, 95, 96, 97, 98] σ w) (v1 : Int32) (v3 : Int32) (v4 : Int32) (v5 : Int32) (v6 : Int32) (v7 : Int32) (s0 : Int32) (σ : St) (v : Int32) (w : St) (h : j_X10_findOrder_144 N K_63 v1 v3 v4 v5 v6 v7 s0 σ = some (v, w)) : Fm [79, 95, 96, 97, 98] σ w := by
  unfold j_X10_findOrder_144 at h
  exact (Fm.rf).tr (frl_X10_findOrder_150 N K_63 hK_63 N _ _ _ _ _ _ _ _ _ _ _ h)
theorem frj_X10_findOrder_118 (N : Nat) (K_63 : Int32 → Int32 → Int32 → Int32 → Int32 → St → Option (Int32 × St)) (hK_63 : ∀ (v1 : Int32) (v3 : Int32) (v4 : Int32) (v5 : Int32) (v6 : Int32) (σ : St) (v : Int32) (w : St), K_63 v1 v3 v4 v5 v6 σ = some (v, w) → Fm [79, 95, 96, 97, 98] σ w) (v1 : Int32) (v3 : Int32) (v4 : Int32) (v5 : Int32) (v6 : Int32) (s0 : Int32) (σ : St) (v : Int32) (w : St) (h : j_X10_findOrder_118 N K_63 v1 v3 v4 v5 v6 s0 σ = some (v, w)) : Fm [79, 95, 96, 97, 98] σ w := by
  unfold j_X10_findOrder_118 at h
  rcases ite_elim h with h | h
  · exact (Fm.rf).tr (frj_X10_findOrder_144 N K_63 hK_63 _ _ _ _ _ _ _ _ _ _ h)
  · obtain ⟨-, h⟩ := ckA_elim h
    exact (Fm.rf).tr (frj_X10_findOrder_144 N K_63 hK_63 _ _ _ _ _ _ _ _ _ _ h)
theorem frj_X10_findOrder_88 (N : Nat) (K_63 : Int32 → Int32 → Int32 → Int32 → Int32 → St → Option (Int32 × St)) (hK_63 : ∀ (v1 : Int32) (v3 : Int32) (v4 : Int32) (v5 : Int32) (v6 : Int32) (σ : St) (v : Int32) (w : St), K_63 v1 v3 v4 v5 v6 σ = some (v, w) → Fm [79, 95, 96, 97, 98] σ w) (v1 : Int32) (v3 : Int32) (v4 : Int32) (v5 : Int32) (v6 : Int32) (σ : St) (v : Int32) (w : St) (h : j_X10_findOrder_88 N K_63 v1 v3 v4 v5 v6 σ = some (v, w)) : Fm [79, 95, 96, 97, 98] σ w := by
  unfold j_X10_findOrder_88 at h
  rcases ite_elim h with h | h
  · obtain ⟨-, h⟩ := ckA_elim h
    exact (Fm.rf).tr (frj_X10_findOrder_118 N K_63 hK_63 _ _ _ _ _ _ _ _ _ h)
  · obtain ⟨-, h⟩ := ckA_elim h
    obtain ⟨x3, σ4, g5, h⟩ := bd_elim h
    have f_σ4 : Fm [79, 95, 96, 97, 98] σ σ4 := (Fm.rf).tr ((fr_X10_townBy g5).mono rfl)
    exact (f_σ4).tr (frj_X10_findOrder_118 N K_63 hK_63 _ _ _ _ _ _ _ _ _ h)
theorem frl_X10_findOrder_63 (N : Nat) : ∀ (n : Nat) (v1 : Int32) (v3 : Int32) (v4 : Int32) (v5 : Int32) (v6 : Int32) (σ : St) (v : Int32) (w : St), l_X10_findOrder_63 N n v1 v3 v4 v5 v6 σ = some (v, w) → Fm [79, 95, 96, 97, 98] σ w := by
  intro n
  induction n with
  | zero =>
    intro v1 v3 v4 v5 v6 σ v w h
    rw [l_X10_findOrder_63] at h
    cases h
  | succ n ih =>
    intro v1 v3 v4 v5 v6 σ v w h
    rw [l_X10_findOrder_63] at h
    rcases ite_elim h with h | h
    · exact (Fm.rf).tr (frj_X10_findOrder_292 N _ _ _ h)
    · rcases ite_elim h with h | h
      · exact (Fm.rf).tr (frj_X10_findOrder_292 N _ _ _ h)
      · rcases ite_elim h with h | h
        · exact (Fm.rf).tr (frj_X10_findOrder_88 N (l_X10_findOrder_63 N n) ih _ _ _ _ _ _ _ _ h)
        · rcases ite_elim h with h | h
          · exact (Fm.rf).tr (frj_X10_findOrder_292 N _ _ _ h)
          · exact (Fm.rf).tr (frj_X10_findOrder_88 N (l_X10_findOrder_63 N n) ih _ _ _ _ _ _ _ _ h)
theorem frj_X10_findOrder_54 (N : Nat) (v1 : Int32) (v2 : Int32) (v3 : Int32) (σ : St) (v : Int32) (w : St) (h : j_X10_findOrder_54 N v1 v2 v3 σ = some (v, w)) : Fm [79, 95, 96, 97, 98] σ w := by
  unfold j_X10_findOrder_54 at h
  exact (Fm.rf).tr (frl_X10_findOrder_63 N N _ _ _ _ _ _ _ _ h)
theorem frl_X10_findOrder_14 (N : Nat) : ∀ (n : Nat) (v1 : Int32) (v2 : Int32) (v3 : Int32) (v4 : Int32) (σ : St) (v : Int32) (w : St), l_X10_findOrder_14 N n v1 v2 v3 v4 σ = some (v, w) → Fm [79, 95, 96, 97, 98] σ w := by
  intro n
  induction n with
  | zero =>
    intro v1 v2 v3 v4 σ v w h
    rw [l_X10_findOrder_14] at h
    cases h
  | succ n ih =>
    intro v1 v2 v3 v4 σ v w h
    rw [l_X10_findOrder_14] at h
    rcases ite_elim h with h | h
    · rcases ite_elim h with h | h
      · obtain ⟨σ3, e9, h⟩ := bt_elim h
        have f_σ3 : Fm [79, 95, 96, 97, 98] σ σ3 := (Fm.rf).tr (by rw [e9]; exact Fm.st (by decide))
        exact (f_σ3).tr (frj_X10_findOrder_54 N _ _ _ _ _ _ h)
      · exact (Fm.rf).tr (frj_X10_findOrder_54 N _ _ _ _ _ _ h)
    · obtain ⟨σ4, e9, h⟩ := bt_elim h
      have f_σ4 : Fm [79, 95, 96, 97, 98] σ σ4 := (Fm.rf).tr (by rw [e9]; exact Fm.st (by decide))
      obtain ⟨_, -, h⟩ := bt_elim h
      exact (f_σ4).tr (ih _ _ _ _ _ _ _ h)
theorem fr_X10_findOrder {N : Nat} {a1 : Int32} {a2 : Int32} {a3 : Int32} {σ : St} {v : Int32} {w : St} (h : o_X10_findOrder N a1 a2 a3 σ = some (v, w)) : Fm [79, 95, 96, 97, 98] σ w := by
  unfold o_X10_findOrder at h
  obtain ⟨σ1, e9, h⟩ := bt_elim h
  have f_σ1 : Fm [79, 95, 96, 97, 98] σ σ1 := (Fm.rf).tr (by rw [e9]; exact Fm.st (by decide))
  obtain ⟨σ2, e9, h⟩ := bt_elim h
  have f_σ2 : Fm [79, 95, 96, 97, 98] σ σ2 := (f_σ1).tr (by rw [e9]; exact Fm.st (by decide))
  exact (f_σ2).tr (frl_X10_findOrder_14 N N _ _ _ _ _ _ _ h)
theorem frj_X10_plan_45 (N : Nat) (v3 : Int32) (σ : St) (v : Int32) (w : St) (h : j_X10_plan_45 N v3 σ = some (v, w)) : Fm [79, 95, 96, 97, 98] σ w := by
  unfold j_X10_plan_45 at h
  rcases ite_elim h with h | h
  · obtain ⟨-, h⟩ := oeq h
    rw [← h]
    exact Fm.rf
  · obtain ⟨-, h⟩ := oeq h
    rw [← h]
    exact Fm.rf
theorem fr_X10_plan {N : Nat} {a1 : Int32} {a2 : Int32} {σ : St} {v : Int32} {w : St} (h : o_X10_plan N a1 a2 σ = some (v, w)) : Fm [79, 95, 96, 97, 98] σ w := by
  unfold o_X10_plan at h
  obtain ⟨x1, σ2, g3, h⟩ := bd_elim h
  have f_σ2 : Fm [79, 95, 96, 97, 98] σ σ2 := (Fm.rf).tr ((fr_X10_isKeeper g3).mono rfl)
  rcases ite_elim h with h | h
  · obtain ⟨-, h⟩ := oeq h
    rw [← h]
    exact f_σ2
  · obtain ⟨x5, σ6, g7, h⟩ := bd_elim h
    have f_σ6 : Fm [79, 95, 96, 97, 98] σ σ6 := (f_σ2).tr ((fr_X10_isOnWay g7).mono rfl)
    rcases ite_elim h with h | h
    · obtain ⟨x9, σ10, g11, h⟩ := bd_elim h
      have f_σ10 : Fm [79, 95, 96, 97, 98] σ σ10 := (f_σ6).tr ((fr_X10_openOf g11).mono rfl)
      obtain ⟨x12, σ13, g14, h⟩ := bd_elim h
      have f_σ13 : Fm [79, 95, 96, 97, 98] σ σ13 := (f_σ10).tr ((fr_X10_findOrder g14).mono rfl)
      rcases ite_elim h with h | h
      · exact (f_σ13).tr (frj_X10_plan_45 N _ _ _ _ h)
      · rcases ite_elim h with h | h
        · exact (f_σ13).tr (frj_X10_plan_45 N _ _ _ _ h)
        · rcases ite_elim h with h | h
          · obtain ⟨-, h⟩ := oeq h
            rw [← h]
            exact f_σ13
          · obtain ⟨-, h⟩ := ckA_elim h
            obtain ⟨-, h⟩ := oeq h
            rw [← h]
            exact f_σ13
    · obtain ⟨-, h⟩ := oeq h
      rw [← h]
      exact f_σ6
theorem frl_X8_withOlder_8 (N : Nat) : ∀ (n : Nat) (v2 : Int32) (v3 : Int32) (v4 : Int32) (v5 : Int32) (σ : St) (v : Int32) (w : St), l_X8_withOlder_8 N n v2 v3 v4 v5 σ = some (v, w) → Fm [] σ w := by
  intro n
  induction n with
  | zero =>
    intro v2 v3 v4 v5 σ v w h
    rw [l_X8_withOlder_8] at h
    cases h
  | succ n ih =>
    intro v2 v3 v4 v5 σ v w h
    rw [l_X8_withOlder_8] at h
    rcases ite_elim h with h | h
    · obtain ⟨-, h⟩ := oeq h
      rw [← h]
      exact Fm.rf
    · rcases ite_elim h with h | h
      · obtain ⟨-, h⟩ := oeq h
        rw [← h]
        exact Fm.rf
      · rcases ite_elim h with h | h
        · obtain ⟨-, h⟩ := oeq h
          rw [← h]
          exact Fm.rf
        · obtain ⟨_, -, h⟩ := bt_elim h
          obtain ⟨_, -, h⟩ := bt_elim h
          obtain ⟨_, -, h⟩ := bt_elim h
          exact (Fm.rf).tr (ih _ _ _ _ _ _ _ h)
theorem fr_X8_withOlder {N : Nat} {a1 : Int32} {a2 : Int32} {σ : St} {v : Int32} {w : St} (h : o_X8_withOlder N a1 a2 σ = some (v, w)) : Fm [] σ w := by
  unfold o_X8_withOlder at h
  exact (Fm.rf).tr (frl_X8_withOlder_8 N N _ _ _ _ _ _ _ h)
theorem frj_X8_firstClash_87 (N : Nat) (K_11 : Int32 → Int32 → Int32 → St → Option (Int32 × St)) (K_27 : Int32 → Int32 → Int32 → Int32 → St → Option (Int32 × St)) (hK_11 : ∀ (v1 : Int32) (v2 : Int32) (v3 : Int32) (σ : St) (v : Int32) (w : St), K_11 v1 v2 v3 σ = some (v, w) → Fm [63, 64, 65, 66, 67, 68] σ w) (hK_27 : ∀ (v1 : Int32) (v2 : Int32) (v3 : Int32) (v4 : Int32) (σ : St) (v : Int32) (w : St), K_27 v1 v2 v3 v4 σ = some (v, w) → Fm [63, 64, 65, 66, 67, 68] σ w) (v1 : Int32) (v2 : Int32) (v3 : Int32) (v4 : Int32) (σ : St) (v : Int32) (w : St) (h : j_X8_firstClash_87 N K_11 K_27 v1 v2 v3 v4 σ = some (v, w)) : Fm [63, 64, 65, 66, 67, 68] σ w := by
  unfold j_X8_firstClash_87 at h
  obtain ⟨_, -, h⟩ := bt_elim h
  exact (Fm.rf).tr (hK_27 _ _ _ _ _ _ _ h)
theorem frl_X8_firstClash_27 (N : Nat) (K_11 : Int32 → Int32 → Int32 → St → Option (Int32 × St)) (hK_11 : ∀ (v1 : Int32) (v2 : Int32) (v3 : Int32) (σ : St) (v : Int32) (w : St), K_11 v1 v2 v3 σ = some (v, w) → Fm [63, 64, 65, 66, 67, 68] σ w) : ∀ (n : Nat) (v1 : Int32) (v2 : Int32) (v3 : Int32) (v4 : Int32) (σ : St) (v : Int32) (w : St), l_X8_firstClash_27 N K_11 n v1 v2 v3 v4 σ = some (v, w) → Fm [63, 64, 65, 66, 67, 68] σ w := by
  intro n
  induction n with
  | zero =>
    intro v1 v2 v3 v4 σ v w h
    rw [l_X8_firstClash_27] at h
    cases h
  | succ n ih =>
    intro v1 v2 v3 v4 σ v w h
    rw [l_X8_firstClash_27] at h
    rcases ite_elim h with h | h
    · obtain ⟨_, -, h⟩ := bt_elim h
      exact (Fm.rf).tr (hK_11 _ _ _ _ _ _ h)
    · rcases ite_elim h with h | h
      · exact (Fm.rf).tr (frj_X8_firstClash_87 N K_11 (l_X8_firstClash_27 N K_11 n) hK_11 ih _ _ _ _ _ _ _ h)
      · rcases ite_elim h with h | h
        · exact (Fm.rf).tr (frj_X8_firstClash_87 N K_11 (l_X8_firstClash_27 N K_11 n) hK_11 ih _ _ _ _ _ _ _ h)
        · obtain ⟨x5, σ6, g7, h⟩ := bd_elim h
          have f_σ6 : Fm [63, 64, 65, 66, 67, 68] σ σ6 := (Fm.rf).tr ((fr_X8_withOlder g7).mono rfl)
          obtain ⟨x8, σ9, g10, h⟩ := bd_elim h
          have f_σ9 : Fm [63, 64, 65, 66, 67, 68] σ σ9 := (f_σ6).tr ((fr_X8_withOlder g10).mono rfl)
          obtain ⟨x11, σ12, g13, h⟩ := bd_elim h
          have f_σ12 : Fm [63, 64, 65, 66, 67, 68] σ σ12 := (f_σ9).tr ((fr_X8_canKeepAll g13).mono rfl)
          rcases ite_elim h with h | h
          · obtain ⟨-, h⟩ := oeq h
            rw [← h]
            exact f_σ12
          · exact (f_σ12).tr (frj_X8_firstClash_87 N K_11 (l_X8_firstClash_27 N K_11 n) hK_11 ih _ _ _ _ _ _ _ h)
theorem frl_X8_firstClash_11 (N : Nat) : ∀ (n : Nat) (v1 : Int32) (v2 : Int32) (v3 : Int32) (σ : St) (v : Int32) (w : St), l_X8_firstClash_11 N n v1 v2 v3 σ = some (v, w) → Fm [63, 64, 65, 66, 67, 68] σ w := by
  intro n
  induction n with
  | zero =>
    intro v1 v2 v3 σ v w h
    rw [l_X8_firstClash_11] at h
    cases h
  | succ n ih =>
    intro v1 v2 v3 σ v w h
    rw [l_X8_firstClash_11] at h
    rcases ite_elim h with h | h
    · obtain ⟨-, h⟩ := oeq h
      rw [← h]
      exact Fm.rf
    · obtain ⟨_, -, h⟩ := bt_elim h
      exact (Fm.rf).tr (frl_X8_firstClash_27 N (l_X8_firstClash_11 N n) ih N _ _ _ _ _ _ _ h)
theorem fr_X8_firstClash {N : Nat} {a1 : Int32} {σ : St} {v : Int32} {w : St} (h : o_X8_firstClash N a1 σ = some (v, w)) : Fm [63, 64, 65, 66, 67, 68] σ w := by
  unfold o_X8_firstClash at h
  obtain ⟨x1, σ2, g3, h⟩ := bd_elim h
  have f_σ2 : Fm [63, 64, 65, 66, 67, 68] σ σ2 := (Fm.rf).tr ((fr_X1_openOf g3).mono rfl)
  exact (f_σ2).tr (frl_X8_firstClash_11 N N _ _ _ _ _ _ h)
theorem fr_X9_clash {N : Nat} {a1 : Int32} {a2 : Int32} {σ : St} {v : Int32} {w : St} (h : o_X9_clash N a1 a2 σ = some (v, w)) : Fm [63, 64, 65, 66, 67, 68] σ w := by
  unfold o_X9_clash at h
  rcases ite_elim h with h | h
  · obtain ⟨-, h⟩ := oeq h
    rw [← h]
    exact Fm.rf
  · rcases ite_elim h with h | h
    · obtain ⟨-, h⟩ := oeq h
      rw [← h]
      exact Fm.rf
    · rcases ite_elim h with h | h
      · rcases ite_elim h with h | h
        · obtain ⟨x5, σ6, g7, h⟩ := bd_elim h
          have f_σ6 : Fm [63, 64, 65, 66, 67, 68] σ σ6 := (Fm.rf).tr ((fr_X8_firstClash g7).mono rfl)
          rcases ite_elim h with h | h
          · obtain ⟨-, h⟩ := oeq h
            rw [← h]
            exact f_σ6
          · rcases ite_elim h with h | h
            · obtain ⟨-, h⟩ := oeq h
              rw [← h]
              exact f_σ6
            · obtain ⟨-, h⟩ := oeq h
              rw [← h]
              exact f_σ6
        · obtain ⟨-, h⟩ := oeq h
          rw [← h]
          exact Fm.rf
      · obtain ⟨-, h⟩ := oeq h
        rw [← h]
        exact Fm.rf
theorem frj_X10_withGrafts_72 (N : Nat) (K_17 : Int32 → Int32 → Int32 → St → Option (Int32 × St)) (hK_17 : ∀ (v3 : Int32) (v4 : Int32) (v5 : Int32) (σ : St) (v : Int32) (w : St), K_17 v3 v4 v5 σ = some (v, w) → Fm [] σ w) (v4 : Int32) (v5 : Int32) (s0 : Int32) (s1 : Int32) (σ : St) (v : Int32) (w : St) (h : j_X10_withGrafts_72 N K_17 v4 v5 s0 s1 σ = some (v, w)) : Fm [] σ w := by
  unfold j_X10_withGrafts_72 at h
  obtain ⟨_, -, h⟩ := bt_elim h
  obtain ⟨_, -, h⟩ := bt_elim h
  exact (Fm.rf).tr (hK_17 _ _ _ _ _ _ h)
theorem frj_X10_withGrafts_71 (N : Nat) (K_17 : Int32 → Int32 → Int32 → St → Option (Int32 × St)) (hK_17 : ∀ (v3 : Int32) (v4 : Int32) (v5 : Int32) (σ : St) (v : Int32) (w : St), K_17 v3 v4 v5 σ = some (v, w) → Fm [] σ w) (v4 : Int32) (v5 : Int32) (s0 : Int32) (σ : St) (v : Int32) (w : St) (h : j_X10_withGrafts_71 N K_17 v4 v5 s0 σ = some (v, w)) : Fm [] σ w := by
  unfold j_X10_withGrafts_71 at h
  exact (Fm.rf).tr (frj_X10_withGrafts_72 N K_17 hK_17 _ _ _ _ _ _ _ h)
theorem frl_X10_withGrafts_17 (N : Nat) : ∀ (n : Nat) (v3 : Int32) (v4 : Int32) (v5 : Int32) (σ : St) (v : Int32) (w : St), l_X10_withGrafts_17 N n v3 v4 v5 σ = some (v, w) → Fm [] σ w := by
  intro n
  induction n with
  | zero =>
    intro v3 v4 v5 σ v w h
    rw [l_X10_withGrafts_17] at h
    cases h
  | succ n ih =>
    intro v3 v4 v5 σ v w h
    rw [l_X10_withGrafts_17] at h
    rcases ite_elim h with h | h
    · obtain ⟨-, h⟩ := oeq h
      rw [← h]
      exact Fm.rf
    · rcases ite_elim h with h | h
      · exact (Fm.rf).tr (frj_X10_withGrafts_71 N (l_X10_withGrafts_17 N n) ih _ _ _ _ _ _ h)
      · obtain ⟨-, h⟩ := ckA_elim h
        rcases ite_elim h with h | h
        · exact (Fm.rf).tr (frj_X10_withGrafts_71 N (l_X10_withGrafts_17 N n) ih _ _ _ _ _ _ h)
        · obtain ⟨-, h⟩ := ckA_elim h
          rcases ite_elim h with h | h
          · exact (Fm.rf).tr (frj_X10_withGrafts_71 N (l_X10_withGrafts_17 N n) ih _ _ _ _ _ _ h)
          · obtain ⟨-, h⟩ := ckA_elim h
            exact (Fm.rf).tr (frj_X10_withGrafts_72 N (l_X10_withGrafts_17 N n) ih _ _ _ _ _ _ _ h)
theorem fr_X10_withGrafts {N : Nat} {a1 : Int32} {a2 : Int32} {σ : St} {v : Int32} {w : St} (h : o_X10_withGrafts N a1 a2 σ = some (v, w)) : Fm [] σ w := by
  unfold o_X10_withGrafts at h
  obtain ⟨x1, σ2, g3, h⟩ := bd_elim h
  have f_σ2 : Fm [] σ σ2 := (Fm.rf).tr ((fr_X10_openOf g3).mono rfl)
  obtain ⟨_, -, h⟩ := bt_elim h
  exact (f_σ2).tr (frl_X10_withGrafts_17 N N _ _ _ _ _ _ h)
theorem frj_X10_clash_135 (N : Nat) (K_44 : Int32 → Int32 → Int32 → Int32 → St → Option (Int32 × St)) (K_59 : Int32 → Int32 → Int32 → Int32 → Int32 → St → Option (Int32 × St)) (hK_44 : ∀ (v1 : Int32) (v2 : Int32) (v3 : Int32) (v4 : Int32) (σ : St) (v : Int32) (w : St), K_44 v1 v2 v3 v4 σ = some (v, w) → Fm [79, 95, 96, 97, 98] σ w) (hK_59 : ∀ (v1 : Int32) (v2 : Int32) (v3 : Int32) (v4 : Int32) (v5 : Int32) (σ : St) (v : Int32) (w : St), K_59 v1 v2 v3 v4 v5 σ = some (v, w) → Fm [79, 95, 96, 97, 98] σ w) (v1 : Int32) (v2 : Int32) (v3 : Int32) (v4 : Int32) (v5 : Int32) (σ : St) (v : Int32) (w : St) (h : j_X10_clash_135 N K_44 K_59 v1 v2 v3 v4 v5 σ = some (v, w)) : Fm [79, 95, 96, 97, 98] σ w := by
  unfold j_X10_clash_135 at h
  obtain ⟨_, -, h⟩ := bt_elim h
  exact (Fm.rf).tr (hK_59 _ _ _ _ _ _ _ _ h)
theorem frj_X10_clash_91 (N : Nat) (K_44 : Int32 → Int32 → Int32 → Int32 → St → Option (Int32 × St)) (K_59 : Int32 → Int32 → Int32 → Int32 → Int32 → St → Option (Int32 × St)) (hK_44 : ∀ (v1 : Int32) (v2 : Int32) (v3 : Int32) (v4 : Int32) (σ : St) (v : Int32) (w : St), K_44 v1 v2 v3 v4 σ = some (v, w) → Fm [79, 95, 96, 97, 98] σ w) (hK_59 : ∀ (v1 : Int32) (v2 : Int32) (v3 : Int32) (v4 : Int32) (v5 : Int32) (σ : St) (v : Int32) (w : St), K_59 v1 v2 v3 v4 v5 σ = some (v, w) → Fm [79, 95, 96, 97, 98] σ w) (v1 : Int32) (v2 : Int32) (v3 : Int32) (v4 : Int32) (v5 : Int32) (s0 : Int32) (σ : St) (v : Int32) (w : St) (h : j_X10_clash_91 N K_44 K_59 v1 v2 v3 v4 v5 s0 σ = some (v, w)) : Fm [79, 95, 96, 97, 98] σ w := by
  unfold j_X10_clash_91 at h
  rcases ite_elim h with h | h
  · exact (Fm.rf).tr (frj_X10_clash_135 N K_44 K_59 hK_44 hK_59 _ _ _ _ _ _ _ _ h)
  · obtain ⟨x2, σ3, g4, h⟩ := bd_elim h
    have f_σ3 : Fm [79, 95, 96, 97, 98] σ σ3 := (Fm.rf).tr ((fr_X10_withGrafts g4).mono rfl)
    obtain ⟨x5, σ6, g7, h⟩ := bd_elim h
    have f_σ6 : Fm [79, 95, 96, 97, 98] σ σ6 := (f_σ3).tr ((fr_X10_findOrder g7).mono rfl)
    rcases ite_elim h with h | h
    · rcases ite_elim h with h | h
      · obtain ⟨-, h⟩ := oeq h
        rw [← h]
        exact f_σ6
      · obtain ⟨-, h⟩ := oeq h
        rw [← h]
        exact f_σ6
    · exact (f_σ6).tr (frj_X10_clash_135 N K_44 K_59 hK_44 hK_59 _ _ _ _ _ _ _ _ h)
theorem frj_X10_clash_90 (N : Nat) (K_44 : Int32 → Int32 → Int32 → Int32 → St → Option (Int32 × St)) (K_59 : Int32 → Int32 → Int32 → Int32 → Int32 → St → Option (Int32 × St)) (hK_44 : ∀ (v1 : Int32) (v2 : Int32) (v3 : Int32) (v4 : Int32) (σ : St) (v : Int32) (w : St), K_44 v1 v2 v3 v4 σ = some (v, w) → Fm [79, 95, 96, 97, 98] σ w) (hK_59 : ∀ (v1 : Int32) (v2 : Int32) (v3 : Int32) (v4 : Int32) (v5 : Int32) (σ : St) (v : Int32) (w : St), K_59 v1 v2 v3 v4 v5 σ = some (v, w) → Fm [79, 95, 96, 97, 98] σ w) (v1 : Int32) (v2 : Int32) (v3 : Int32) (v4 : Int32) (v5 : Int32) (σ : St) (v : Int32) (w : St) (h : j_X10_clash_90 N K_44 K_59 v1 v2 v3 v4 v5 σ = some (v, w)) : Fm [79, 95, 96, 97, 98] σ w := by
  unfold j_X10_clash_90 at h
  exact (Fm.rf).tr (frj_X10_clash_91 N K_44 K_59 hK_44 hK_59 _ _ _ _ _ _ _ _ _ h)
theorem frl_X10_clash_59 (N : Nat) (K_44 : Int32 → Int32 → Int32 → Int32 → St → Option (Int32 × St)) (hK_44 : ∀ (v1 : Int32) (v2 : Int32) (v3 : Int32) (v4 : Int32) (σ : St) (v : Int32) (w : St), K_44 v1 v2 v3 v4 σ = some (v, w) → Fm [79, 95, 96, 97, 98] σ w) : ∀ (n : Nat) (v1 : Int32) (v2 : Int32) (v3 : Int32) (v4 : Int32) (v5 : Int32) (σ : St) (v : Int32) (w : St), l_X10_clash_59 N K_44 n v1 v2 v3 v4 v5 σ = some (v, w) → Fm [79, 95, 96, 97, 98] σ w := by
  intro n
  induction n with
  | zero =>
    intro v1 v2 v3 v4 v5 σ v w h
    rw [l_X10_clash_59] at h
    cases h
  | succ n ih =>
    intro v1 v2 v3 v4 v5 σ v w h
    rw [l_X10_clash_59] at h
    rcases ite_elim h with h | h
    · obtain ⟨_, -, h⟩ := bt_elim h
      exact (Fm.rf).tr (hK_44 _ _ _ _ _ _ _ h)
    · rcases ite_elim h with h | h
      · exact (Fm.rf).tr (frj_X10_clash_90 N K_44 (l_X10_clash_59 N K_44 n) hK_44 ih _ _ _ _ _ _ _ _ h)
      · rcases ite_elim h with h | h
        · exact (Fm.rf).tr (frj_X10_clash_90 N K_44 (l_X10_clash_59 N K_44 n) hK_44 ih _ _ _ _ _ _ _ _ h)
        · exact (Fm.rf).tr (frj_X10_clash_91 N K_44 (l_X10_clash_59 N K_44 n) hK_44 ih _ _ _ _ _ _ _ _ _ h)
theorem frl_X10_clash_44 (N : Nat) : ∀ (n : Nat) (v1 : Int32) (v2 : Int32) (v3 : Int32) (v4 : Int32) (σ : St) (v : Int32) (w : St), l_X10_clash_44 N n v1 v2 v3 v4 σ = some (v, w) → Fm [79, 95, 96, 97, 98] σ w := by
  intro n
  induction n with
  | zero =>
    intro v1 v2 v3 v4 σ v w h
    rw [l_X10_clash_44] at h
    cases h
  | succ n ih =>
    intro v1 v2 v3 v4 σ v w h
    rw [l_X10_clash_44] at h
    rcases ite_elim h with h | h
    · obtain ⟨-, h⟩ := oeq h
      rw [← h]
      exact Fm.rf
    · obtain ⟨_, -, h⟩ := bt_elim h
      exact (Fm.rf).tr (frl_X10_clash_59 N (l_X10_clash_44 N n) ih N _ _ _ _ _ _ _ _ h)
theorem fr_X10_clash {N : Nat} {a1 : Int32} {a2 : Int32} {σ : St} {v : Int32} {w : St} (h : o_X10_clash N a1 a2 σ = some (v, w)) : Fm [79, 95, 96, 97, 98] σ w := by
  unfold o_X10_clash at h
  obtain ⟨x1, σ2, g3, h⟩ := bd_elim h
  have f_σ2 : Fm [79, 95, 96, 97, 98] σ σ2 := (Fm.rf).tr ((fr_X10_isKeeper g3).mono rfl)
  rcases ite_elim h with h | h
  · obtain ⟨-, h⟩ := oeq h
    rw [← h]
    exact f_σ2
  · rcases ite_elim h with h | h
    · obtain ⟨-, h⟩ := oeq h
      rw [← h]
      exact f_σ2
    · obtain ⟨x6, σ7, g8, h⟩ := bd_elim h
      have f_σ7 : Fm [79, 95, 96, 97, 98] σ σ7 := (f_σ2).tr ((fr_X10_isOnWay g8).mono rfl)
      rcases ite_elim h with h | h
      · obtain ⟨x10, σ11, g12, h⟩ := bd_elim h
        have f_σ11 : Fm [79, 95, 96, 97, 98] σ σ11 := (f_σ7).tr ((fr_X10_openOf g12).mono rfl)
        exact (f_σ11).tr (frl_X10_clash_44 N N _ _ _ _ _ _ _ h)
      · obtain ⟨-, h⟩ := oeq h
        rw [← h]
        exact f_σ7
theorem fr_X8_tryOne (a1 : Int32) (a2 : Int32) (a3 : Int32) (σ : St) (q : St) (h : t_X8_tryOne a1 a2 a3 σ = q) : Fm [64, 65, 66] σ q := by
  unfold t_X8_tryOne at h
  obtain ⟨σ1, e9, h⟩ := bt_elim h
  have f_σ1 : Fm [64, 65, 66] σ σ1 := (Fm.rf).tr (by rw [e9]; exact Fm.put (by decide))
  obtain ⟨σ2, e9, h⟩ := bt_elim h
  have f_σ2 : Fm [64, 65, 66] σ σ2 := (f_σ1).tr (by rw [e9]; exact Fm.put (by decide))
  obtain ⟨σ3, e9, h⟩ := bt_elim h
  have f_σ3 : Fm [64, 65, 66] σ σ3 := (f_σ2).tr (by rw [e9]; exact Fm.put (by decide))
  rw [← h]
  exact f_σ3
theorem frj_X9_still_123 (N : Nat) (K_58 : Int32 → Int32 → Int32 → Int32 → Int32 → St → Option (Int32 × St)) (hK_58 : ∀ (v1 : Int32) (v2 : Int32) (v3 : Int32) (v4 : Int32) (v5 : Int32) (σ : St) (v : Int32) (w : St), K_58 v1 v2 v3 v4 v5 σ = some (v, w) → Fm [63, 64, 65, 66, 67, 68] σ w) (v1 : Int32) (v2 : Int32) (v3 : Int32) (v4 : Int32) (v5 : Int32) (σ : St) (v : Int32) (w : St) (h : j_X9_still_123 N K_58 v1 v2 v3 v4 v5 σ = some (v, w)) : Fm [63, 64, 65, 66, 67, 68] σ w := by
  unfold j_X9_still_123 at h
  obtain ⟨_, -, h⟩ := bt_elim h
  exact (Fm.rf).tr (hK_58 _ _ _ _ _ _ _ _ h)
theorem frl_X9_still_58 (N : Nat) : ∀ (n : Nat) (v1 : Int32) (v2 : Int32) (v3 : Int32) (v4 : Int32) (v5 : Int32) (σ : St) (v : Int32) (w : St), l_X9_still_58 N n v1 v2 v3 v4 v5 σ = some (v, w) → Fm [63, 64, 65, 66, 67, 68] σ w := by
  intro n
  induction n with
  | zero =>
    intro v1 v2 v3 v4 v5 σ v w h
    rw [l_X9_still_58] at h
    cases h
  | succ n ih =>
    intro v1 v2 v3 v4 v5 σ v w h
    rw [l_X9_still_58] at h
    rcases ite_elim h with h | h
    · obtain ⟨-, h⟩ := oeq h
      rw [← h]
      exact Fm.rf
    · obtain ⟨x2, σ3, g4, h⟩ := bd_elim h
      have f_σ3 : Fm [63, 64, 65, 66, 67, 68] σ σ3 := (Fm.rf).tr ((fr_X5_ripeDay g4).mono rfl)
      obtain ⟨σ5, e9, h⟩ := bt_elim h
      have f_σ5 : Fm [63, 64, 65, 66, 67, 68] σ σ5 := (f_σ3).tr (by rw [e9]; exact (fr_X8_tryOne _ _ _ _ _ rfl).mono rfl)
      obtain ⟨x6, σ7, g8, h⟩ := bd_elim h
      have f_σ7 : Fm [63, 64, 65, 66, 67, 68] σ σ7 := (f_σ5).tr ((fr_X1_openOf g8).mono rfl)
      obtain ⟨x9, σ10, g11, h⟩ := bd_elim h
      have f_σ10 : Fm [63, 64, 65, 66, 67, 68] σ σ10 := (f_σ7).tr ((fr_X8_canKeepAll g11).mono rfl)
      rcases ite_elim h with h | h
      · exact (f_σ10).tr (frj_X9_still_123 N (l_X9_still_58 N n) ih _ _ _ _ _ _ _ _ h)
      · obtain ⟨_, -, h⟩ := bt_elim h
        exact (f_σ10).tr (frj_X9_still_123 N (l_X9_still_58 N n) ih _ _ _ _ _ _ _ _ h)
theorem fr_X9_still {N : Nat} {a1 : Int32} {a2 : Int32} {a3 : Int32} {σ : St} {v : Int32} {w : St} (h : o_X9_still N a1 a2 a3 σ = some (v, w)) : Fm [63, 64, 65, 66, 67, 68] σ w := by
  unfold o_X9_still at h
  rcases ite_elim h with h | h
  · obtain ⟨-, h⟩ := oeq h
    rw [← h]
    exact Fm.rf
  · rcases ite_elim h with h | h
    · obtain ⟨-, h⟩ := oeq h
      rw [← h]
      exact Fm.rf
    · rcases ite_elim h with h | h
      · obtain ⟨-, h⟩ := oeq h
        rw [← h]
        exact Fm.rf
      · rcases ite_elim h with h | h
        · rcases ite_elim h with h | h
          · exact (Fm.rf).tr (frl_X9_still_58 N N _ _ _ _ _ _ _ _ h)
          · obtain ⟨-, h⟩ := oeq h
            rw [← h]
            exact Fm.rf
        · obtain ⟨-, h⟩ := oeq h
          rw [← h]
          exact Fm.rf
theorem frj_X10_still_101 (N : Nat) (K_61 : Int32 → Int32 → Int32 → St → Option (Int32 × St)) (hK_61 : ∀ (v1 : Int32) (v4 : Int32) (v5 : Int32) (σ : St) (v : Int32) (w : St), K_61 v1 v4 v5 σ = some (v, w) → Fm [79, 95, 96, 97, 98] σ w) (v1 : Int32) (v5 : Int32) (s0 : Int32) (s1 : Int32) (σ : St) (v : Int32) (w : St) (h : j_X10_still_101 N K_61 v1 v5 s0 s1 σ = some (v, w)) : Fm [79, 95, 96, 97, 98] σ w := by
  unfold j_X10_still_101 at h
  obtain ⟨_, -, h⟩ := bt_elim h
  obtain ⟨_, -, h⟩ := bt_elim h
  exact (Fm.rf).tr (hK_61 _ _ _ _ _ _ h)
theorem frl_X10_still_61 (N : Nat) : ∀ (n : Nat) (v1 : Int32) (v4 : Int32) (v5 : Int32) (σ : St) (v : Int32) (w : St), l_X10_still_61 N n v1 v4 v5 σ = some (v, w) → Fm [79, 95, 96, 97, 98] σ w := by
  intro n
  induction n with
  | zero =>
    intro v1 v4 v5 σ v w h
    rw [l_X10_still_61] at h
    cases h
  | succ n ih =>
    intro v1 v4 v5 σ v w h
    rw [l_X10_still_61] at h
    rcases ite_elim h with h | h
    · obtain ⟨-, h⟩ := oeq h
      rw [← h]
      exact Fm.rf
    · obtain ⟨σ2, e9, h⟩ := bt_elim h
      have f_σ2 : Fm [79, 95, 96, 97, 98] σ σ2 := (Fm.rf).tr (by rw [e9]; exact Fm.st (by decide))
      obtain ⟨x3, σ4, g5, h⟩ := bd_elim h
      have f_σ4 : Fm [79, 95, 96, 97, 98] σ σ4 := (f_σ2).tr ((fr_X10_openOf g5).mono rfl)
      obtain ⟨x6, σ7, g8, h⟩ := bd_elim h
      have f_σ7 : Fm [79, 95, 96, 97, 98] σ σ7 := (f_σ4).tr ((fr_X10_findOrder g8).mono rfl)
      rcases ite_elim h with h | h
      · exact (f_σ7).tr (frj_X10_still_101 N (l_X10_still_61 N n) ih _ _ _ _ _ _ _ h)
      · exact (f_σ7).tr (frj_X10_still_101 N (l_X10_still_61 N n) ih _ _ _ _ _ _ _ h)
theorem fr_X10_still {N : Nat} {a1 : Int32} {a2 : Int32} {a3 : Int32} {σ : St} {v : Int32} {w : St} (h : o_X10_still N a1 a2 a3 σ = some (v, w)) : Fm [79, 95, 96, 97, 98] σ w := by
  unfold o_X10_still at h
  obtain ⟨x1, σ2, g3, h⟩ := bd_elim h
  have f_σ2 : Fm [79, 95, 96, 97, 98] σ σ2 := (Fm.rf).tr ((fr_X10_isKeeper g3).mono rfl)
  rcases ite_elim h with h | h
  · obtain ⟨-, h⟩ := oeq h
    rw [← h]
    exact f_σ2
  · obtain ⟨x5, σ6, g7, h⟩ := bd_elim h
    have f_σ6 : Fm [79, 95, 96, 97, 98] σ σ6 := (f_σ2).tr ((fr_X10_isTown g7).mono rfl)
    rcases ite_elim h with h | h
    · obtain ⟨-, h⟩ := oeq h
      rw [← h]
      exact f_σ6
    · rcases ite_elim h with h | h
      · obtain ⟨-, h⟩ := oeq h
        rw [← h]
        exact f_σ6
      · obtain ⟨x10, σ11, g12, h⟩ := bd_elim h
        have f_σ11 : Fm [79, 95, 96, 97, 98] σ σ11 := (f_σ6).tr ((fr_X10_isOnWay g12).mono rfl)
        rcases ite_elim h with h | h
        · obtain ⟨σ14, e9, h⟩ := bt_elim h
          have f_σ14 : Fm [79, 95, 96, 97, 98] σ σ14 := (f_σ11).tr (by rw [e9]; exact Fm.st (by decide))
          obtain ⟨σ15, e9, h⟩ := bt_elim h
          have f_σ15 : Fm [79, 95, 96, 97, 98] σ σ15 := (f_σ14).tr (by rw [e9]; exact Fm.st (by decide))
          exact (f_σ15).tr (frl_X10_still_61 N N _ _ _ _ _ _ h)
        · obtain ⟨-, h⟩ := oeq h
          rw [← h]
          exact f_σ11
theorem frj_X3_fillFits_68 (N : Nat) (K_11 : Int32 → Int32 → St → Option (Unit × St)) (K_25 : Int32 → Int32 → Int32 → Int32 → St → Option (Unit × St)) (hK_11 : ∀ (v1 : Int32) (v2 : Int32) (σ : St) (v : Unit) (w : St), K_11 v1 v2 σ = some (v, w) → Fm [63, 64, 65, 66, 67, 68, 70] σ w) (hK_25 : ∀ (v1 : Int32) (v2 : Int32) (v3 : Int32) (v4 : Int32) (σ : St) (v : Unit) (w : St), K_25 v1 v2 v3 v4 σ = some (v, w) → Fm [63, 64, 65, 66, 67, 68, 70] σ w) (v1 : Int32) (v2 : Int32) (v4 : Int32) (s0 : Int32) (s1 : Int32) (σ : St) (v : Unit) (w : St) (h : j_X3_fillFits_68 N K_11 K_25 v1 v2 v4 s0 s1 σ = some (v, w)) : Fm [63, 64, 65, 66, 67, 68, 70] σ w := by
  unfold j_X3_fillFits_68 at h
  obtain ⟨_, -, h⟩ := bt_elim h
  obtain ⟨_, -, h⟩ := bt_elim h
  exact (Fm.rf).tr (hK_25 _ _ _ _ _ _ _ h)
theorem frj_X3_fillFits_76 (N : Nat) (K_11 : Int32 → Int32 → St → Option (Unit × St)) (hK_11 : ∀ (v1 : Int32) (v2 : Int32) (σ : St) (v : Unit) (w : St), K_11 v1 v2 σ = some (v, w) → Fm [63, 64, 65, 66, 67, 68, 70] σ w) (v1 : Int32) (v2 : Int32) (v3 : Int32) (σ : St) (v : Unit) (w : St) (h : j_X3_fillFits_76 N K_11 v1 v2 v3 σ = some (v, w)) : Fm [63, 64, 65, 66, 67, 68, 70] σ w := by
  unfold j_X3_fillFits_76 at h
  obtain ⟨-, h⟩ := ckA_elim h
  obtain ⟨σ2, e9, h⟩ := bt_elim h
  have f_σ2 : Fm [63, 64, 65, 66, 67, 68, 70] σ σ2 := (Fm.rf).tr (by rw [e9]; exact Fm.st (by decide))
  obtain ⟨_, -, h⟩ := bt_elim h
  exact (f_σ2).tr (hK_11 _ _ _ _ _ h)
theorem frl_X3_fillFits_25 (N : Nat) (K_11 : Int32 → Int32 → St → Option (Unit × St)) (hK_11 : ∀ (v1 : Int32) (v2 : Int32) (σ : St) (v : Unit) (w : St), K_11 v1 v2 σ = some (v, w) → Fm [63, 64, 65, 66, 67, 68, 70] σ w) : ∀ (n : Nat) (v1 : Int32) (v2 : Int32) (v3 : Int32) (v4 : Int32) (σ : St) (v : Unit) (w : St), l_X3_fillFits_25 N K_11 n v1 v2 v3 v4 σ = some (v, w) → Fm [63, 64, 65, 66, 67, 68, 70] σ w := by
  intro n
  induction n with
  | zero =>
    intro v1 v2 v3 v4 σ v w h
    rw [l_X3_fillFits_25] at h
    cases h
  | succ n ih =>
    intro v1 v2 v3 v4 σ v w h
    rw [l_X3_fillFits_25] at h
    rcases ite_elim h with h | h
    · exact (Fm.rf).tr (frj_X3_fillFits_76 N K_11 hK_11 _ _ _ _ _ _ h)
    · rcases ite_elim h with h | h
      · obtain ⟨x3, σ4, g5, h⟩ := bd_elim h
        have f_σ4 : Fm [63, 64, 65, 66, 67, 68, 70] σ σ4 := (Fm.rf).tr ((fr_X8_canKeepAll g5).mono rfl)
        rcases ite_elim h with h | h
        · exact (f_σ4).tr (frj_X3_fillFits_68 N K_11 (l_X3_fillFits_25 N K_11 n) hK_11 ih _ _ _ _ _ _ _ _ h)
        · exact (f_σ4).tr (frj_X3_fillFits_68 N K_11 (l_X3_fillFits_25 N K_11 n) hK_11 ih _ _ _ _ _ _ _ _ h)
      · exact (Fm.rf).tr (frj_X3_fillFits_76 N K_11 hK_11 _ _ _ _ _ _ h)
theorem frl_X3_fillFits_11 (N : Nat) : ∀ (n : Nat) (v1 : Int32) (v2 : Int32) (σ : St) (v : Unit) (w : St), l_X3_fillFits_11 N n v1 v2 σ = some (v, w) → Fm [63, 64, 65, 66, 67, 68, 70] σ w := by
  intro n
  induction n with
  | zero =>
    intro v1 v2 σ v w h
    rw [l_X3_fillFits_11] at h
    cases h
  | succ n ih =>
    intro v1 v2 σ v w h
    rw [l_X3_fillFits_11] at h
    rcases ite_elim h with h | h
    · obtain ⟨-, h⟩ := oeq h
      rw [← h]
      exact Fm.rf
    · exact (Fm.rf).tr (frl_X3_fillFits_25 N (l_X3_fillFits_11 N n) ih N _ _ _ _ _ _ _ h)
theorem fr_X3_fillFits {N : Nat}  {σ : St} {v : Unit} {w : St} (h : o_X3_fillFits N  σ = some (v, w)) : Fm [63, 64, 65, 66, 67, 68, 70] σ w := by
  unfold o_X3_fillFits at h
  obtain ⟨x1, σ2, g3, h⟩ := bd_elim h
  have f_σ2 : Fm [63, 64, 65, 66, 67, 68, 70] σ σ2 := (Fm.rf).tr ((fr_X1_setOf g3).mono rfl)
  exact (f_σ2).tr (frl_X3_fillFits_11 N N _ _ _ _ _ h)
theorem frj_X3_giveBy_141 (N : Nat) (K_37 : Int32 → Int32 → Int32 → St → Option (Int32 × St)) (hK_37 : ∀ (v2 : Int32) (v3 : Int32) (v4 : Int32) (σ : St) (v : Int32) (w : St), K_37 v2 v3 v4 σ = some (v, w) → Fm [71, 72] σ w) (v2 : Int32) (v3 : Int32) (v4 : Int32) (v5 : Int32) (σ : St) (v : Int32) (w : St) (h : j_X3_giveBy_141 N K_37 v2 v3 v4 v5 σ = some (v, w)) : Fm [71, 72] σ w := by
  unfold j_X3_giveBy_141 at h
  obtain ⟨σ1, e9, h⟩ := bt_elim h
  have f_σ1 : Fm [71, 72] σ σ1 := (Fm.rf).tr (by rw [e9]; exact Fm.put (by decide))
  obtain ⟨_, -, h⟩ := bt_elim h
  exact (f_σ1).tr (hK_37 _ _ _ _ _ _ h)
theorem frj_X3_giveBy_116 (N : Nat) (K_37 : Int32 → Int32 → Int32 → St → Option (Int32 × St)) (hK_37 : ∀ (v2 : Int32) (v3 : Int32) (v4 : Int32) (σ : St) (v : Int32) (w : St), K_37 v2 v3 v4 σ = some (v, w) → Fm [71, 72] σ w) (v3 : Int32) (v4 : Int32) (v5 : Int32) (s0 : Int32) (s1 : Int32) (σ : St) (v : Int32) (w : St) (h : j_X3_giveBy_116 N K_37 v3 v4 v5 s0 s1 σ = some (v, w)) : Fm [71, 72] σ w := by
  unfold j_X3_giveBy_116 at h
  obtain ⟨_, -, h⟩ := bt_elim h
  obtain ⟨σ2, e9, h⟩ := bt_elim h
  have f_σ2 : Fm [71, 72] σ σ2 := (Fm.rf).tr (by rw [e9]; exact Fm.put (by decide))
  exact (f_σ2).tr (frj_X3_giveBy_141 N K_37 hK_37 _ _ _ _ _ _ _ h)
theorem frl_X3_giveBy_37 (N : Nat) : ∀ (n : Nat) (v2 : Int32) (v3 : Int32) (v4 : Int32) (σ : St) (v : Int32) (w : St), l_X3_giveBy_37 N n v2 v3 v4 σ = some (v, w) → Fm [71, 72] σ w := by
  intro n
  induction n with
  | zero =>
    intro v2 v3 v4 σ v w h
    rw [l_X3_giveBy_37] at h
    cases h
  | succ n ih =>
    intro v2 v3 v4 σ v w h
    rw [l_X3_giveBy_37] at h
    rcases ite_elim h with h | h
    · obtain ⟨-, h⟩ := oeq h
      rw [← h]
      exact Fm.rf
    · obtain ⟨_, -, h⟩ := bt_elim h
      rcases ite_elim h with h | h
      · exact (Fm.rf).tr (frj_X3_giveBy_141 N (l_X3_giveBy_37 N n) ih _ _ _ _ _ _ _ h)
      · rcases ite_elim h with h | h
        · exact (Fm.rf).tr (frj_X3_giveBy_141 N (l_X3_giveBy_37 N n) ih _ _ _ _ _ _ _ h)
        · obtain ⟨-, h⟩ := ckDI_elim h
          obtain ⟨_, -, h⟩ := bt_elim h
          obtain ⟨-, h⟩ := ckDI_elim h
          obtain ⟨_, -, h⟩ := bt_elim h
          rcases ite_elim h with h | h
          · exact (Fm.rf).tr (frj_X3_giveBy_116 N (l_X3_giveBy_37 N n) ih _ _ _ _ _ _ _ _ h)
          · exact (Fm.rf).tr (frj_X3_giveBy_116 N (l_X3_giveBy_37 N n) ih _ _ _ _ _ _ _ _ h)
theorem frl_X3_giveBy_2 (N : Nat) : ∀ (n : Nat) (v1 : Int32) (v2 : Int32) (σ : St) (v : Int32) (w : St), l_X3_giveBy_2 N n v1 v2 σ = some (v, w) → Fm [71, 72] σ w := by
  intro n
  induction n with
  | zero =>
    intro v1 v2 σ v w h
    rw [l_X3_giveBy_2] at h
    cases h
  | succ n ih =>
    intro v1 v2 σ v w h
    rw [l_X3_giveBy_2] at h
    rcases ite_elim h with h | h
    · obtain ⟨_, -, h⟩ := bt_elim h
      exact (Fm.rf).tr (frl_X3_giveBy_37 N N _ _ _ _ _ _ h)
    · obtain ⟨σ3, e9, h⟩ := bt_elim h
      have f_σ3 : Fm [71, 72] σ σ3 := (Fm.rf).tr (by rw [e9]; exact Fm.put (by decide))
      obtain ⟨_, -, h⟩ := bt_elim h
      exact (f_σ3).tr (ih _ _ _ _ _ h)
theorem fr_X3_giveBy {N : Nat} {a1 : Int32} {σ : St} {v : Int32} {w : St} (h : o_X3_giveBy N a1 σ = some (v, w)) : Fm [71, 72] σ w := by
  unfold o_X3_giveBy at h
  exact (Fm.rf).tr (frl_X3_giveBy_2 N N _ _ _ _ _ h)
theorem frl_X3_allFit_2 (N : Nat) : ∀ (n : Nat) (v1 : Int32) (σ : St) (v : Int32) (w : St), l_X3_allFit_2 N n v1 σ = some (v, w) → Fm [] σ w := by
  intro n
  induction n with
  | zero =>
    intro v1 σ v w h
    rw [l_X3_allFit_2] at h
    cases h
  | succ n ih =>
    intro v1 σ v w h
    rw [l_X3_allFit_2] at h
    rcases ite_elim h with h | h
    · obtain ⟨-, h⟩ := oeq h
      rw [← h]
      exact Fm.rf
    · rcases ite_elim h with h | h
      · obtain ⟨-, h⟩ := oeq h
        rw [← h]
        exact Fm.rf
      · obtain ⟨_, -, h⟩ := bt_elim h
        exact (Fm.rf).tr (ih _ _ _ _ h)
theorem fr_X3_allFit {N : Nat}  {σ : St} {v : Int32} {w : St} (h : o_X3_allFit N  σ = some (v, w)) : Fm [] σ w := by
  unfold o_X3_allFit at h
  exact (Fm.rf).tr (frl_X3_allFit_2 N N _ _ _ _ h)
theorem frj_X3_fewest_83 (N : Nat) (K_39 : Int32 → Int32 → Int32 → St → Option (Int32 × St)) (hK_39 : ∀ (v1 : Int32) (v2 : Int32) (v3 : Int32) (σ : St) (v : Int32) (w : St), K_39 v1 v2 v3 σ = some (v, w) → Fm [71, 72, 73] σ w) (v1 : Int32) (v2 : Int32) (v3 : Int32) (σ : St) (v : Int32) (w : St) (h : j_X3_fewest_83 N K_39 v1 v2 v3 σ = some (v, w)) : Fm [71, 72, 73] σ w := by
  unfold j_X3_fewest_83 at h
  obtain ⟨_, -, h⟩ := bt_elim h
  exact (Fm.rf).tr (hK_39 _ _ _ _ _ _ h)
theorem frj_X3_fewest_62 (N : Nat) (K_39 : Int32 → Int32 → Int32 → St → Option (Int32 × St)) (hK_39 : ∀ (v1 : Int32) (v2 : Int32) (v3 : Int32) (σ : St) (v : Int32) (w : St), K_39 v1 v2 v3 σ = some (v, w) → Fm [71, 72, 73] σ w) (v1 : Int32) (v2 : Int32) (v3 : Int32) (v4 : Int32) (σ : St) (v : Int32) (w : St) (h : j_X3_fewest_62 N K_39 v1 v2 v3 v4 σ = some (v, w)) : Fm [71, 72, 73] σ w := by
  unfold j_X3_fewest_62 at h
  obtain ⟨x1, σ2, g3, h⟩ := bd_elim h
  have f_σ2 : Fm [71, 72, 73] σ σ2 := (Fm.rf).tr ((fr_X3_allFit g3).mono rfl)
  rcases ite_elim h with h | h
  · exact (f_σ2).tr (frj_X3_fewest_83 N K_39 hK_39 _ _ _ _ _ _ h)
  · obtain ⟨σ5, e9, h⟩ := bt_elim h
    have f_σ5 : Fm [71, 72, 73] σ σ5 := (f_σ2).tr (by rw [e9]; exact Fm.cpS (by decide))
    exact (f_σ5).tr (frj_X3_fewest_83 N K_39 hK_39 _ _ _ _ _ _ h)
theorem frl_X3_fewest_39 (N : Nat) : ∀ (n : Nat) (v1 : Int32) (v2 : Int32) (v3 : Int32) (σ : St) (v : Int32) (w : St), l_X3_fewest_39 N n v1 v2 v3 σ = some (v, w) → Fm [71, 72, 73] σ w := by
  intro n
  induction n with
  | zero =>
    intro v1 v2 v3 σ v w h
    rw [l_X3_fewest_39] at h
    cases h
  | succ n ih =>
    intro v1 v2 v3 σ v w h
    rw [l_X3_fewest_39] at h
    rcases ite_elim h with h | h
    · obtain ⟨-, h⟩ := oeq h
      rw [← h]
      exact Fm.rf
    · obtain ⟨x2, σ3, g4, h⟩ := bd_elim h
      have f_σ3 : Fm [71, 72, 73] σ σ3 := (Fm.rf).tr ((fr_X3_giveBy g4).mono rfl)
      rcases ite_elim h with h | h
      · exact (f_σ3).tr (frj_X3_fewest_62 N (l_X3_fewest_39 N n) ih _ _ _ _ _ _ _ h)
      · rcases ite_elim h with h | h
        · exact (f_σ3).tr (frj_X3_fewest_83 N (l_X3_fewest_39 N n) ih _ _ _ _ _ _ h)
        · exact (f_σ3).tr (frj_X3_fewest_62 N (l_X3_fewest_39 N n) ih _ _ _ _ _ _ _ h)
theorem frl_X3_fewest_4 (N : Nat) : ∀ (n : Nat) (v1 : Int32) (v2 : Int32) (σ : St) (v : Int32) (w : St), l_X3_fewest_4 N n v1 v2 σ = some (v, w) → Fm [71, 72, 73] σ w := by
  intro n
  induction n with
  | zero =>
    intro v1 v2 σ v w h
    rw [l_X3_fewest_4] at h
    cases h
  | succ n ih =>
    intro v1 v2 σ v w h
    rw [l_X3_fewest_4] at h
    obtain ⟨x1, σ2, g3, h⟩ := bd_elim h
    have f_σ2 : Fm [71, 72, 73] σ σ2 := (Fm.rf).tr ((fr_X1_setOf g3).mono rfl)
    rcases ite_elim h with h | h
    · exact (f_σ2).tr (frl_X3_fewest_39 N N _ _ _ _ _ _ h)
    · obtain ⟨_, -, h⟩ := bt_elim h
      obtain ⟨_, -, h⟩ := bt_elim h
      exact (f_σ2).tr (ih _ _ _ _ _ h)
theorem fr_X3_fewest {N : Nat}  {σ : St} {v : Int32} {w : St} (h : o_X3_fewest N  σ = some (v, w)) : Fm [71, 72, 73] σ w := by
  unfold o_X3_fewest at h
  exact (Fm.rf).tr (frl_X3_fewest_4 N N _ _ _ _ _ h)
theorem frl_X9_hands_21 (N : Nat) : ∀ (n : Nat) (v1 : Int32) (v2 : Int32) (σ : St) (v : Int32) (w : St), l_X9_hands_21 N n v1 v2 σ = some (v, w) → Fm [63, 64, 65, 66, 67, 68, 70, 71, 72, 73] σ w := by
  intro n
  induction n with
  | zero =>
    intro v1 v2 σ v w h
    rw [l_X9_hands_21] at h
    cases h
  | succ n ih =>
    intro v1 v2 σ v w h
    rw [l_X9_hands_21] at h
    rcases ite_elim h with h | h
    · obtain ⟨u2, σ3, g4, h⟩ := bd_elim h
      have f_σ3 : Fm [63, 64, 65, 66, 67, 68, 70, 71, 72, 73] σ σ3 := (Fm.rf).tr ((fr_X3_fillFits g4).mono rfl)
      obtain ⟨x5, σ6, g7, h⟩ := bd_elim h
      have f_σ6 : Fm [63, 64, 65, 66, 67, 68, 70, 71, 72, 73] σ σ6 := (f_σ3).tr ((fr_X3_fewest g7).mono rfl)
      rcases ite_elim h with h | h
      · obtain ⟨-, h⟩ := oeq h
        rw [← h]
        exact f_σ6
      · rcases ite_elim h with h | h
        · obtain ⟨-, h⟩ := oeq h
          rw [← h]
          exact f_σ6
        · obtain ⟨-, h⟩ := oeq h
          rw [← h]
          exact f_σ6
    · rcases ite_elim h with h | h
      · obtain ⟨_, -, h⟩ := bt_elim h
        exact (Fm.rf).tr (ih _ _ _ _ _ h)
      · obtain ⟨-, h⟩ := oeq h
        rw [← h]
        exact Fm.rf
theorem frj_X9_hands_19 (N : Nat) (v1 : Int32) (σ : St) (v : Int32) (w : St) (h : j_X9_hands_19 N v1 σ = some (v, w)) : Fm [63, 64, 65, 66, 67, 68, 70, 71, 72, 73] σ w := by
  unfold j_X9_hands_19 at h
  exact (Fm.rf).tr (frl_X9_hands_21 N N _ _ _ _ _ h)
theorem fr_X9_hands {N : Nat} {a1 : Int32} {σ : St} {v : Int32} {w : St} (h : o_X9_hands N a1 σ = some (v, w)) : Fm [63, 64, 65, 66, 67, 68, 70, 71, 72, 73] σ w := by
  unfold o_X9_hands at h
  rcases ite_elim h with h | h
  · exact (Fm.rf).tr (frj_X9_hands_19 N _ _ _ _ h)
  · rcases ite_elim h with h | h
    · obtain ⟨-, h⟩ := oeq h
      rw [← h]
      exact Fm.rf
    · exact (Fm.rf).tr (frj_X9_hands_19 N _ _ _ _ h)
theorem frl_X10_handOf_10 (N : Nat) : ∀ (n : Nat) (v2 : Int32) (v3 : Int32) (v4 : Int32) (σ : St) (v : Int32) (w : St), l_X10_handOf_10 N n v2 v3 v4 σ = some (v, w) → Fm [] σ w := by
  intro n
  induction n with
  | zero =>
    intro v2 v3 v4 σ v w h
    rw [l_X10_handOf_10] at h
    cases h
  | succ n ih =>
    intro v2 v3 v4 σ v w h
    rw [l_X10_handOf_10] at h
    rcases ite_elim h with h | h
    · obtain ⟨-, h⟩ := ckDI_elim h
      obtain ⟨-, h⟩ := oeq h
      rw [← h]
      exact Fm.rf
    · obtain ⟨-, h⟩ := ckDI_elim h
      obtain ⟨_, -, h⟩ := bt_elim h
      obtain ⟨_, -, h⟩ := bt_elim h
      exact (Fm.rf).tr (ih _ _ _ _ _ _ h)
theorem fr_X10_handOf {N : Nat} {a1 : Int32} {a2 : Int32} {σ : St} {v : Int32} {w : St} (h : o_X10_handOf N a1 a2 σ = some (v, w)) : Fm [] σ w := by
  unfold o_X10_handOf at h
  obtain ⟨_, -, h⟩ := bt_elim h
  exact (Fm.rf).tr (frl_X10_handOf_10 N N _ _ _ _ _ _ h)
theorem frj_X10_canHave_40 (N : Nat) (v3 : Int32) (σ : St) (v : Int32) (w : St) (h : j_X10_canHave_40 N v3 σ = some (v, w)) : Fm [79, 95, 96, 97, 98, 99] σ w := by
  unfold j_X10_canHave_40 at h
  obtain ⟨-, h⟩ := ckA_elim h
  rcases ite_elim h with h | h
  · obtain ⟨-, h⟩ := oeq h
    rw [← h]
    exact Fm.rf
  · obtain ⟨-, h⟩ := oeq h
    rw [← h]
    exact Fm.rf
theorem frj_X10_canHave_39 (N : Nat) (v3 : Int32) (s1 : Int32) (s2 : Int32) (σ : St) (v : Int32) (w : St) (h : j_X10_canHave_39 N v3 s1 s2 σ = some (v, w)) : Fm [79, 95, 96, 97, 98, 99] σ w := by
  unfold j_X10_canHave_39 at h
  obtain ⟨-, h⟩ := ckA_elim h
  obtain ⟨σ2, e9, h⟩ := bt_elim h
  have f_σ2 : Fm [79, 95, 96, 97, 98, 99] σ σ2 := (Fm.rf).tr (by rw [e9]; exact Fm.st (by decide))
  exact (f_σ2).tr (frj_X10_canHave_40 N _ _ _ _ h)
theorem fr_X10_canHave {N : Nat} {a1 : Int32} {a2 : Int32} {σ : St} {v : Int32} {w : St} (h : o_X10_canHave N a1 a2 σ = some (v, w)) : Fm [79, 95, 96, 97, 98, 99] σ w := by
  unfold o_X10_canHave at h
  obtain ⟨_, -, h⟩ := bt_elim h
  obtain ⟨-, h⟩ := ckA_elim h
  rcases ite_elim h with h | h
  · obtain ⟨x4, σ5, g6, h⟩ := bd_elim h
    have f_σ5 : Fm [79, 95, 96, 97, 98, 99] σ σ5 := (Fm.rf).tr ((fr_X10_findOrder g6).mono rfl)
    rcases ite_elim h with h | h
    · exact (f_σ5).tr (frj_X10_canHave_39 N _ _ _ _ _ _ h)
    · exact (f_σ5).tr (frj_X10_canHave_39 N _ _ _ _ _ _ h)
  · exact (Fm.rf).tr (frj_X10_canHave_40 N _ _ _ _ h)
theorem frj_X10_changesBy_76 (N : Nat) (K_8 : Int32 → Int32 → Int32 → Int32 → Int32 → St → Option (Int32 × St)) (hK_8 : ∀ (v1 : Int32) (v2 : Int32) (v3 : Int32) (v4 : Int32) (v5 : Int32) (σ : St) (v : Int32) (w : St), K_8 v1 v2 v3 v4 v5 σ = some (v, w) → Fm [79, 95, 96, 97, 98, 99] σ w) (v1 : Int32) (v2 : Int32) (v3 : Int32) (v5 : Int32) (s0 : Int32) (σ : St) (v : Int32) (w : St) (h : j_X10_changesBy_76 N K_8 v1 v2 v3 v5 s0 σ = some (v, w)) : Fm [79, 95, 96, 97, 98, 99] σ w := by
  unfold j_X10_changesBy_76 at h
  obtain ⟨_, -, h⟩ := bt_elim h
  exact (Fm.rf).tr (hK_8 _ _ _ _ _ _ _ _ h)
theorem frj_X10_changesBy_71 (N : Nat) (K_8 : Int32 → Int32 → Int32 → Int32 → Int32 → St → Option (Int32 × St)) (hK_8 : ∀ (v1 : Int32) (v2 : Int32) (v3 : Int32) (v4 : Int32) (v5 : Int32) (σ : St) (v : Int32) (w : St), K_8 v1 v2 v3 v4 v5 σ = some (v, w) → Fm [79, 95, 96, 97, 98, 99] σ w) (v1 : Int32) (v2 : Int32) (v3 : Int32) (v5 : Int32) (σ : St) (v : Int32) (w : St) (h : j_X10_changesBy_71 N K_8 v1 v2 v3 v5 σ = some (v, w)) : Fm [79, 95, 96, 97, 98, 99] σ w := by
  unfold j_X10_changesBy_71 at h
  exact (Fm.rf).tr (frj_X10_changesBy_76 N K_8 hK_8 _ _ _ _ _ _ _ _ h)
theorem frj_X10_changesBy_75 (N : Nat) (K_8 : Int32 → Int32 → Int32 → Int32 → Int32 → St → Option (Int32 × St)) (hK_8 : ∀ (v1 : Int32) (v2 : Int32) (v3 : Int32) (v4 : Int32) (v5 : Int32) (σ : St) (v : Int32) (w : St), K_8 v1 v2 v3 v4 v5 σ = some (v, w) → Fm [79, 95, 96, 97, 98, 99] σ w) (v1 : Int32) (v2 : Int32) (v3 : Int32) (v5 : Int32) (σ : St) (v : Int32) (w : St) (h : j_X10_changesBy_75 N K_8 v1 v2 v3 v5 σ = some (v, w)) : Fm [79, 95, 96, 97, 98, 99] σ w := by
  unfold j_X10_changesBy_75 at h
  exact (Fm.rf).tr (frj_X10_changesBy_76 N K_8 hK_8 _ _ _ _ _ _ _ _ h)
theorem frj_X10_changesBy_42 (N : Nat) (K_8 : Int32 → Int32 → Int32 → Int32 → Int32 → St → Option (Int32 × St)) (hK_8 : ∀ (v1 : Int32) (v2 : Int32) (v3 : Int32) (v4 : Int32) (v5 : Int32) (σ : St) (v : Int32) (w : St), K_8 v1 v2 v3 v4 v5 σ = some (v, w) → Fm [79, 95, 96, 97, 98, 99] σ w) (v1 : Int32) (v2 : Int32) (v3 : Int32) (v4 : Int32) (v5 : Int32) (s0 : Int32) (σ : St) (v : Int32) (w : St) (h : j_X10_changesBy_42 N K_8 v1 v2 v3 v4 v5 s0 σ = some (v, w)) : Fm [79, 95, 96, 97, 98, 99] σ w := by
  unfold j_X10_changesBy_42 at h
  obtain ⟨_, -, h⟩ := bt_elim h
  rcases ite_elim h with h | h
  · exact (Fm.rf).tr (frj_X10_changesBy_75 N K_8 hK_8 _ _ _ _ _ _ _ h)
  · rcases ite_elim h with h | h
    · rcases ite_elim h with h | h
      · exact (Fm.rf).tr (frj_X10_changesBy_71 N K_8 hK_8 _ _ _ _ _ _ _ h)
      · exact (Fm.rf).tr (frj_X10_changesBy_75 N K_8 hK_8 _ _ _ _ _ _ _ h)
    · exact (Fm.rf).tr (frj_X10_changesBy_71 N K_8 hK_8 _ _ _ _ _ _ _ h)
theorem frj_X10_changesBy_175 (N : Nat) (v3 : Int32) (v4 : Int32) (σ : St) (v : Int32) (w : St) (h : j_X10_changesBy_175 N v3 v4 σ = some (v, w)) : Fm [79, 95, 96, 97, 98, 99] σ w := by
  unfold j_X10_changesBy_175 at h
  rcases ite_elim h with h | h
  · obtain ⟨-, h⟩ := oeq h
    rw [← h]
    exact Fm.rf
  · obtain ⟨-, h⟩ := oeq h
    rw [← h]
    exact Fm.rf
theorem frj_X10_changesBy_144 (N : Nat) (K_87 : Int32 → Int32 → Int32 → Int32 → Int32 → St → Option (Int32 × St)) (K_107 : Int32 → Int32 → Int32 → Int32 → Int32 → Int32 → St → Option (Int32 × St)) (hK_87 : ∀ (v1 : Int32) (v2 : Int32) (v3 : Int32) (v4 : Int32) (v5 : Int32) (σ : St) (v : Int32) (w : St), K_87 v1 v2 v3 v4 v5 σ = some (v, w) → Fm [79, 95, 96, 97, 98, 99] σ w) (hK_107 : ∀ (v1 : Int32) (v2 : Int32) (v3 : Int32) (v5 : Int32) (v6 : Int32) (v7 : Int32) (σ : St) (v : Int32) (w : St), K_107 v1 v2 v3 v5 v6 v7 σ = some (v, w) → Fm [79, 95, 96, 97, 98, 99] σ w) (v1 : Int32) (v2 : Int32) (v3 : Int32) (v5 : Int32) (v7 : Int32) (s0 : Int32) (s1 : Int32) (σ : St) (v : Int32) (w : St) (h : j_X10_changesBy_144 N K_87 K_107 v1 v2 v3 v5 v7 s0 s1 σ = some (v, w)) : Fm [79, 95, 96, 97, 98, 99] σ w := by
  unfold j_X10_changesBy_144 at h
  obtain ⟨_, -, h⟩ := bt_elim h
  obtain ⟨_, -, h⟩ := bt_elim h
  exact (Fm.rf).tr (hK_107 _ _ _ _ _ _ _ _ _ h)
theorem frj_X10_changesBy_143 (N : Nat) (K_87 : Int32 → Int32 → Int32 → Int32 → Int32 → St → Option (Int32 × St)) (K_107 : Int32 → Int32 → Int32 → Int32 → Int32 → Int32 → St → Option (Int32 × St)) (hK_87 : ∀ (v1 : Int32) (v2 : Int32) (v3 : Int32) (v4 : Int32) (v5 : Int32) (σ : St) (v : Int32) (w : St), K_87 v1 v2 v3 v4 v5 σ = some (v, w) → Fm [79, 95, 96, 97, 98, 99] σ w) (hK_107 : ∀ (v1 : Int32) (v2 : Int32) (v3 : Int32) (v5 : Int32) (v6 : Int32) (v7 : Int32) (σ : St) (v : Int32) (w : St), K_107 v1 v2 v3 v5 v6 v7 σ = some (v, w) → Fm [79, 95, 96, 97, 98, 99] σ w) (v1 : Int32) (v2 : Int32) (v3 : Int32) (v5 : Int32) (v7 : Int32) (s0 : Int32) (σ : St) (v : Int32) (w : St) (h : j_X10_changesBy_143 N K_87 K_107 v1 v2 v3 v5 v7 s0 σ = some (v, w)) : Fm [79, 95, 96, 97, 98, 99] σ w := by
  unfold j_X10_changesBy_143 at h
  exact (Fm.rf).tr (frj_X10_changesBy_144 N K_87 K_107 hK_87 hK_107 _ _ _ _ _ _ _ _ _ _ h)
theorem frl_X10_changesBy_107 (N : Nat) (K_87 : Int32 → Int32 → Int32 → Int32 → Int32 → St → Option (Int32 × St)) (hK_87 : ∀ (v1 : Int32) (v2 : Int32) (v3 : Int32) (v4 : Int32) (v5 : Int32) (σ : St) (v : Int32) (w : St), K_87 v1 v2 v3 v4 v5 σ = some (v, w) → Fm [79, 95, 96, 97, 98, 99] σ w) : ∀ (n : Nat) (v1 : Int32) (v2 : Int32) (v3 : Int32) (v5 : Int32) (v6 : Int32) (v7 : Int32) (σ : St) (v : Int32) (w : St), l_X10_changesBy_107 N K_87 n v1 v2 v3 v5 v6 v7 σ = some (v, w) → Fm [79, 95, 96, 97, 98, 99] σ w := by
  intro n
  induction n with
  | zero =>
    intro v1 v2 v3 v5 v6 v7 σ v w h
    rw [l_X10_changesBy_107] at h
    cases h
  | succ n ih =>
    intro v1 v2 v3 v5 v6 v7 σ v w h
    rw [l_X10_changesBy_107] at h
    rcases ite_elim h with h | h
    · obtain ⟨x2, σ3, g4, h⟩ := bd_elim h
      have f_σ3 : Fm [79, 95, 96, 97, 98, 99] σ σ3 := (Fm.rf).tr ((fr_X10_canHave g4).mono rfl)
      obtain ⟨_, -, h⟩ := bt_elim h
      exact (f_σ3).tr (hK_87 _ _ _ _ _ _ _ _ h)
    · rcases ite_elim h with h | h
      · exact (Fm.rf).tr (frj_X10_changesBy_143 N K_87 (l_X10_changesBy_107 N K_87 n) hK_87 ih _ _ _ _ _ _ _ _ _ h)
      · obtain ⟨x7, σ8, g9, h⟩ := bd_elim h
        have f_σ8 : Fm [79, 95, 96, 97, 98, 99] σ σ8 := (Fm.rf).tr ((fr_X10_handOf g9).mono rfl)
        rcases ite_elim h with h | h
        · exact (f_σ8).tr (frj_X10_changesBy_144 N K_87 (l_X10_changesBy_107 N K_87 n) hK_87 ih _ _ _ _ _ _ _ _ _ _ h)
        · exact (f_σ8).tr (frj_X10_changesBy_143 N K_87 (l_X10_changesBy_107 N K_87 n) hK_87 ih _ _ _ _ _ _ _ _ _ h)
theorem frl_X10_changesBy_87 (N : Nat) : ∀ (n : Nat) (v1 : Int32) (v2 : Int32) (v3 : Int32) (v4 : Int32) (v5 : Int32) (σ : St) (v : Int32) (w : St), l_X10_changesBy_87 N n v1 v2 v3 v4 v5 σ = some (v, w) → Fm [79, 95, 96, 97, 98, 99] σ w := by
  intro n
  induction n with
  | zero =>
    intro v1 v2 v3 v4 v5 σ v w h
    rw [l_X10_changesBy_87] at h
    cases h
  | succ n ih =>
    intro v1 v2 v3 v4 v5 σ v w h
    rw [l_X10_changesBy_87] at h
    rcases ite_elim h with h | h
    · exact (Fm.rf).tr (frj_X10_changesBy_175 N _ _ _ _ _ h)
    · rcases ite_elim h with h | h
      · exact (Fm.rf).tr (frj_X10_changesBy_175 N _ _ _ _ _ h)
      · exact (Fm.rf).tr (frl_X10_changesBy_107 N (l_X10_changesBy_87 N n) ih N _ _ _ _ _ _ _ _ _ h)
theorem frl_X10_changesBy_8 (N : Nat) : ∀ (n : Nat) (v1 : Int32) (v2 : Int32) (v3 : Int32) (v4 : Int32) (v5 : Int32) (σ : St) (v : Int32) (w : St), l_X10_changesBy_8 N n v1 v2 v3 v4 v5 σ = some (v, w) → Fm [79, 95, 96, 97, 98, 99] σ w := by
  intro n
  induction n with
  | zero =>
    intro v1 v2 v3 v4 v5 σ v w h
    rw [l_X10_changesBy_8] at h
    cases h
  | succ n ih =>
    intro v1 v2 v3 v4 v5 σ v w h
    rw [l_X10_changesBy_8] at h
    rcases ite_elim h with h | h
    · exact (Fm.rf).tr (frl_X10_changesBy_87 N N _ _ _ _ _ _ _ _ h)
    · obtain ⟨x2, σ3, g4, h⟩ := bd_elim h
      have f_σ3 : Fm [79, 95, 96, 97, 98, 99] σ σ3 := (Fm.rf).tr ((fr_X10_handOf g4).mono rfl)
      obtain ⟨-, h⟩ := ckA_elim h
      rcases ite_elim h with h | h
      · exact (f_σ3).tr (frj_X10_changesBy_42 N (l_X10_changesBy_8 N n) ih _ _ _ _ _ _ _ _ _ h)
      · exact (f_σ3).tr (frj_X10_changesBy_42 N (l_X10_changesBy_8 N n) ih _ _ _ _ _ _ _ _ _ h)
theorem fr_X10_changesBy {N : Nat} {a1 : Int32} {a2 : Int32} {σ : St} {v : Int32} {w : St} (h : o_X10_changesBy N a1 a2 σ = some (v, w)) : Fm [79, 95, 96, 97, 98, 99] σ w := by
  unfold o_X10_changesBy at h
  exact (Fm.rf).tr (frl_X10_changesBy_8 N N _ _ _ _ _ _ _ _ h)
theorem frj_X10_hands_136 (N : Nat) (K_106 : Int32 → Int32 → Int32 → Int32 → Int32 → Int32 → St → Option (Int32 × St)) (hK_106 : ∀ (v1 : Int32) (v2 : Int32) (v3 : Int32) (v4 : Int32) (v5 : Int32) (v6 : Int32) (σ : St) (v : Int32) (w : St), K_106 v1 v2 v3 v4 v5 v6 σ = some (v, w) → Fm [79, 95, 96, 97, 98, 99] σ w) (v1 : Int32) (v2 : Int32) (v3 : Int32) (v4 : Int32) (v5 : Int32) (v6 : Int32) (σ : St) (v : Int32) (w : St) (h : j_X10_hands_136 N K_106 v1 v2 v3 v4 v5 v6 σ = some (v, w)) : Fm [79, 95, 96, 97, 98, 99] σ w := by
  unfold j_X10_hands_136 at h
  obtain ⟨_, -, h⟩ := bt_elim h
  exact (Fm.rf).tr (hK_106 _ _ _ _ _ _ _ _ _ h)
theorem frl_X10_hands_106 (N : Nat) : ∀ (n : Nat) (v1 : Int32) (v2 : Int32) (v3 : Int32) (v4 : Int32) (v5 : Int32) (v6 : Int32) (σ : St) (v : Int32) (w : St), l_X10_hands_106 N n v1 v2 v3 v4 v5 v6 σ = some (v, w) → Fm [79, 95, 96, 97, 98, 99] σ w := by
  intro n
  induction n with
  | zero =>
    intro v1 v2 v3 v4 v5 v6 σ v w h
    rw [l_X10_hands_106] at h
    cases h
  | succ n ih =>
    intro v1 v2 v3 v4 v5 v6 σ v w h
    rw [l_X10_hands_106] at h
    rcases ite_elim h with h | h
    · rcases ite_elim h with h | h
      · rcases ite_elim h with h | h
        · obtain ⟨-, h⟩ := oeq h
          rw [← h]
          exact Fm.rf
        · obtain ⟨x4, σ5, g6, h⟩ := bd_elim h
          have f_σ5 : Fm [79, 95, 96, 97, 98, 99] σ σ5 := (Fm.rf).tr ((fr_X10_handOf g6).mono rfl)
          obtain ⟨-, h⟩ := oeq h
          rw [← h]
          exact f_σ5
      · obtain ⟨-, h⟩ := oeq h
        rw [← h]
        exact Fm.rf
    · obtain ⟨x7, σ8, g9, h⟩ := bd_elim h
      have f_σ8 : Fm [79, 95, 96, 97, 98, 99] σ σ8 := (Fm.rf).tr ((fr_X10_changesBy g9).mono rfl)
      rcases ite_elim h with h | h
      · exact (f_σ8).tr (frj_X10_hands_136 N (l_X10_hands_106 N n) ih _ _ _ _ _ _ _ _ _ h)
      · exact (f_σ8).tr (frj_X10_hands_136 N (l_X10_hands_106 N n) ih _ _ _ _ _ _ _ _ _ h)
theorem frl_X10_hands_70 (N : Nat) : ∀ (n : Nat) (v1 : Int32) (v2 : Int32) (v3 : Int32) (σ : St) (v : Int32) (w : St), l_X10_hands_70 N n v1 v2 v3 σ = some (v, w) → Fm [79, 95, 96, 97, 98, 99] σ w := by
  intro n
  induction n with
  | zero =>
    intro v1 v2 v3 σ v w h
    rw [l_X10_hands_70] at h
    cases h
  | succ n ih =>
    intro v1 v2 v3 σ v w h
    rw [l_X10_hands_70] at h
    rcases ite_elim h with h | h
    · obtain ⟨x2, σ3, g4, h⟩ := bd_elim h
      have f_σ3 : Fm [79, 95, 96, 97, 98, 99] σ σ3 := (Fm.rf).tr ((fr_X10_inWay g4).mono rfl)
      exact (f_σ3).tr (frl_X10_hands_106 N N _ _ _ _ _ _ _ _ _ h)
    · obtain ⟨-, h⟩ := ckA_elim h
      obtain ⟨σ6, e9, h⟩ := bt_elim h
      have f_σ6 : Fm [79, 95, 96, 97, 98, 99] σ σ6 := (Fm.rf).tr (by rw [e9]; exact Fm.st (by decide))
      obtain ⟨_, -, h⟩ := bt_elim h
      exact (f_σ6).tr (ih _ _ _ _ _ _ h)
theorem frl_X10_hands_47 (N : Nat) : ∀ (n : Nat) (v1 : Int32) (v2 : Int32) (v3 : Int32) (σ : St) (v : Int32) (w : St), l_X10_hands_47 N n v1 v2 v3 σ = some (v, w) → Fm [79, 95, 96, 97, 98, 99] σ w := by
  intro n
  induction n with
  | zero =>
    intro v1 v2 v3 σ v w h
    rw [l_X10_hands_47] at h
    cases h
  | succ n ih =>
    intro v1 v2 v3 σ v w h
    rw [l_X10_hands_47] at h
    rcases ite_elim h with h | h
    · exact (Fm.rf).tr (frl_X10_hands_70 N N _ _ _ _ _ _ h)
    · obtain ⟨_, -, h⟩ := bt_elim h
      obtain ⟨_, -, h⟩ := bt_elim h
      exact (Fm.rf).tr (ih _ _ _ _ _ _ h)
theorem frl_X10_hands_20 (N : Nat) : ∀ (n : Nat) (v1 : Int32) (v2 : Int32) (v3 : Int32) (σ : St) (v : Int32) (w : St), l_X10_hands_20 N n v1 v2 v3 σ = some (v, w) → Fm [79, 95, 96, 97, 98, 99] σ w := by
  intro n
  induction n with
  | zero =>
    intro v1 v2 v3 σ v w h
    rw [l_X10_hands_20] at h
    cases h
  | succ n ih =>
    intro v1 v2 v3 σ v w h
    rw [l_X10_hands_20] at h
    rcases ite_elim h with h | h
    · exact (Fm.rf).tr (frl_X10_hands_47 N N _ _ _ _ _ _ h)
    · obtain ⟨x2, σ3, g4, h⟩ := bd_elim h
      have f_σ3 : Fm [79, 95, 96, 97, 98, 99] σ σ3 := (Fm.rf).tr ((fr_X10_isOnWay g4).mono rfl)
      rcases ite_elim h with h | h
      · obtain ⟨_, -, h⟩ := bt_elim h
        exact (f_σ3).tr (ih _ _ _ _ _ _ h)
      · obtain ⟨-, h⟩ := oeq h
        rw [← h]
        exact f_σ3
theorem frj_X10_hands_16 (N : Nat) (v1 : Int32) (σ : St) (v : Int32) (w : St) (h : j_X10_hands_16 N v1 σ = some (v, w)) : Fm [79, 95, 96, 97, 98, 99] σ w := by
  unfold j_X10_hands_16 at h
  exact (Fm.rf).tr (frl_X10_hands_20 N N _ _ _ _ _ _ h)
theorem fr_X10_hands {N : Nat} {a1 : Int32} {σ : St} {v : Int32} {w : St} (h : o_X10_hands N a1 σ = some (v, w)) : Fm [79, 95, 96, 97, 98, 99] σ w := by
  unfold o_X10_hands at h
  rcases ite_elim h with h | h
  · exact (Fm.rf).tr (frj_X10_hands_16 N _ _ _ _ h)
  · obtain ⟨x2, σ3, g4, h⟩ := bd_elim h
    have f_σ3 : Fm [79, 95, 96, 97, 98, 99] σ σ3 := (Fm.rf).tr ((fr_X10_isPromise g4).mono rfl)
    rcases ite_elim h with h | h
    · obtain ⟨-, h⟩ := oeq h
      rw [← h]
      exact f_σ3
    · exact (f_σ3).tr (frj_X10_hands_16 N _ _ _ _ h)
theorem frj_X1_dueOn_52 (N : Nat) (K_5 : Int32 → Int32 → Int32 → Int32 → St → Option (Int32 × St)) (hK_5 : ∀ (v1 : Int32) (v2 : Int32) (v3 : Int32) (v4 : Int32) (σ : St) (v : Int32) (w : St), K_5 v1 v2 v3 v4 σ = some (v, w) → Fm [] σ w) (v1 : Int32) (v2 : Int32) (v4 : Int32) (s0 : Int32) (s1 : Int32) (σ : St) (v : Int32) (w : St) (h : j_X1_dueOn_52 N K_5 v1 v2 v4 s0 s1 σ = some (v, w)) : Fm [] σ w := by
  unfold j_X1_dueOn_52 at h
  obtain ⟨_, -, h⟩ := bt_elim h
  obtain ⟨_, -, h⟩ := bt_elim h
  exact (Fm.rf).tr (hK_5 _ _ _ _ _ _ _ h)
theorem frj_X1_dueOn_51 (N : Nat) (K_5 : Int32 → Int32 → Int32 → Int32 → St → Option (Int32 × St)) (hK_5 : ∀ (v1 : Int32) (v2 : Int32) (v3 : Int32) (v4 : Int32) (σ : St) (v : Int32) (w : St), K_5 v1 v2 v3 v4 σ = some (v, w) → Fm [] σ w) (v1 : Int32) (v2 : Int32) (v4 : Int32) (s0 : Int32) (σ : St) (v : Int32) (w : St) (h : j_X1_dueOn_51 N K_5 v1 v2 v4 s0 σ = some (v, w)) : Fm [] σ w := by
  unfold j_X1_dueOn_51 at h
  exact (Fm.rf).tr (frj_X1_dueOn_52 N K_5 hK_5 _ _ _ _ _ _ _ _ h)
theorem frl_X1_dueOn_5 (N : Nat) : ∀ (n : Nat) (v1 : Int32) (v2 : Int32) (v3 : Int32) (v4 : Int32) (σ : St) (v : Int32) (w : St), l_X1_dueOn_5 N n v1 v2 v3 v4 σ = some (v, w) → Fm [] σ w := by
  intro n
  induction n with
  | zero =>
    intro v1 v2 v3 v4 σ v w h
    rw [l_X1_dueOn_5] at h
    cases h
  | succ n ih =>
    intro v1 v2 v3 v4 σ v w h
    rw [l_X1_dueOn_5] at h
    rcases ite_elim h with h | h
    · obtain ⟨-, h⟩ := oeq h
      rw [← h]
      exact Fm.rf
    · rcases ite_elim h with h | h
      · exact (Fm.rf).tr (frj_X1_dueOn_51 N (l_X1_dueOn_5 N n) ih _ _ _ _ _ _ _ h)
      · rcases ite_elim h with h | h
        · obtain ⟨x4, σ5, g6, h⟩ := bd_elim h
          have f_σ5 : Fm [] σ σ5 := (Fm.rf).tr ((fr_X1_mayBeKeptOn_23 g6).mono rfl)
          rcases ite_elim h with h | h
          · exact (f_σ5).tr (frj_X1_dueOn_51 N (l_X1_dueOn_5 N n) ih _ _ _ _ _ _ _ h)
          · exact (f_σ5).tr (frj_X1_dueOn_52 N (l_X1_dueOn_5 N n) ih _ _ _ _ _ _ _ _ h)
        · exact (Fm.rf).tr (frj_X1_dueOn_51 N (l_X1_dueOn_5 N n) ih _ _ _ _ _ _ _ h)
theorem fr_X1_dueOn {N : Nat} {a1 : Int32} {a2 : Int32} {σ : St} {v : Int32} {w : St} (h : o_X1_dueOn N a1 a2 σ = some (v, w)) : Fm [] σ w := by
  unfold o_X1_dueOn at h
  exact (Fm.rf).tr (frl_X1_dueOn_5 N N _ _ _ _ _ _ _ h)
theorem frj_X9_calendar_25 (N : Nat)  (σ : St) (v : Int32) (w : St) (h : j_X9_calendar_25 N  σ = some (v, w)) : Fm [] σ w := by
  unfold j_X9_calendar_25 at h
  obtain ⟨-, h⟩ := oeq h
  rw [← h]
  exact Fm.rf
theorem fr_X9_calendar {N : Nat} {a1 : Int32} {a2 : Int32} {σ : St} {v : Int32} {w : St} (h : o_X9_calendar N a1 a2 σ = some (v, w)) : Fm [] σ w := by
  unfold o_X9_calendar at h
  rcases ite_elim h with h | h
  · obtain ⟨-, h⟩ := oeq h
    rw [← h]
    exact Fm.rf
  · rcases ite_elim h with h | h
    · exact (Fm.rf).tr (frj_X9_calendar_25 N _ _ _ h)
    · rcases ite_elim h with h | h
      · obtain ⟨x4, σ5, g6, h⟩ := bd_elim h
        have f_σ5 : Fm [] σ σ5 := (Fm.rf).tr ((fr_X1_dueOn g6).mono rfl)
        obtain ⟨-, h⟩ := oeq h
        rw [← h]
        exact f_σ5
      · exact (Fm.rf).tr (frj_X9_calendar_25 N _ _ _ h)
theorem frj_X10_mayKeepOn_98 (N : Nat) (K_5 : Int32 → Int32 → Int32 → Int32 → St → Option (Int32 × St)) (hK_5 : ∀ (v1 : Int32) (v2 : Int32) (v3 : Int32) (v4 : Int32) (σ : St) (v : Int32) (w : St), K_5 v1 v2 v3 v4 σ = some (v, w) → Fm [] σ w) (v1 : Int32) (v2 : Int32) (v4 : Int32) (s0 : Int32) (s1 : Int32) (σ : St) (v : Int32) (w : St) (h : j_X10_mayKeepOn_98 N K_5 v1 v2 v4 s0 s1 σ = some (v, w)) : Fm [] σ w := by
  unfold j_X10_mayKeepOn_98 at h
  obtain ⟨_, -, h⟩ := bt_elim h
  obtain ⟨_, -, h⟩ := bt_elim h
  exact (Fm.rf).tr (hK_5 _ _ _ _ _ _ _ h)
theorem frj_X10_mayKeepOn_97 (N : Nat) (K_5 : Int32 → Int32 → Int32 → Int32 → St → Option (Int32 × St)) (hK_5 : ∀ (v1 : Int32) (v2 : Int32) (v3 : Int32) (v4 : Int32) (σ : St) (v : Int32) (w : St), K_5 v1 v2 v3 v4 σ = some (v, w) → Fm [] σ w) (v1 : Int32) (v2 : Int32) (v4 : Int32) (s0 : Int32) (σ : St) (v : Int32) (w : St) (h : j_X10_mayKeepOn_97 N K_5 v1 v2 v4 s0 σ = some (v, w)) : Fm [] σ w := by
  unfold j_X10_mayKeepOn_97 at h
  exact (Fm.rf).tr (frj_X10_mayKeepOn_98 N K_5 hK_5 _ _ _ _ _ _ _ _ h)
theorem frj_X10_mayKeepOn_60 (N : Nat) (K_5 : Int32 → Int32 → Int32 → Int32 → St → Option (Int32 × St)) (hK_5 : ∀ (v1 : Int32) (v2 : Int32) (v3 : Int32) (v4 : Int32) (σ : St) (v : Int32) (w : St), K_5 v1 v2 v3 v4 σ = some (v, w) → Fm [] σ w) (v1 : Int32) (v2 : Int32) (v3 : Int32) (v4 : Int32) (s0 : Int32) (σ : St) (v : Int32) (w : St) (h : j_X10_mayKeepOn_60 N K_5 v1 v2 v3 v4 s0 σ = some (v, w)) : Fm [] σ w := by
  unfold j_X10_mayKeepOn_60 at h
  rcases ite_elim h with h | h
  · exact (Fm.rf).tr (frj_X10_mayKeepOn_97 N K_5 hK_5 _ _ _ _ _ _ _ h)
  · obtain ⟨x2, σ3, g4, h⟩ := bd_elim h
    have f_σ3 : Fm [] σ σ3 := (Fm.rf).tr ((fr_X10_ripe g4).mono rfl)
    obtain ⟨-, h⟩ := ckA_elim h
    rcases ite_elim h with h | h
    · exact (f_σ3).tr (frj_X10_mayKeepOn_97 N K_5 hK_5 _ _ _ _ _ _ _ h)
    · exact (f_σ3).tr (frj_X10_mayKeepOn_98 N K_5 hK_5 _ _ _ _ _ _ _ _ h)
theorem frj_X10_mayKeepOn_55 (N : Nat) (K_5 : Int32 → Int32 → Int32 → Int32 → St → Option (Int32 × St)) (hK_5 : ∀ (v1 : Int32) (v2 : Int32) (v3 : Int32) (v4 : Int32) (σ : St) (v : Int32) (w : St), K_5 v1 v2 v3 v4 σ = some (v, w) → Fm [] σ w) (v1 : Int32) (v2 : Int32) (v3 : Int32) (v4 : Int32) (σ : St) (v : Int32) (w : St) (h : j_X10_mayKeepOn_55 N K_5 v1 v2 v3 v4 σ = some (v, w)) : Fm [] σ w := by
  unfold j_X10_mayKeepOn_55 at h
  exact (Fm.rf).tr (frj_X10_mayKeepOn_60 N K_5 hK_5 _ _ _ _ _ _ _ _ h)
theorem frj_X10_mayKeepOn_59 (N : Nat) (K_5 : Int32 → Int32 → Int32 → Int32 → St → Option (Int32 × St)) (hK_5 : ∀ (v1 : Int32) (v2 : Int32) (v3 : Int32) (v4 : Int32) (σ : St) (v : Int32) (w : St), K_5 v1 v2 v3 v4 σ = some (v, w) → Fm [] σ w) (v1 : Int32) (v2 : Int32) (v3 : Int32) (v4 : Int32) (σ : St) (v : Int32) (w : St) (h : j_X10_mayKeepOn_59 N K_5 v1 v2 v3 v4 σ = some (v, w)) : Fm [] σ w := by
  unfold j_X10_mayKeepOn_59 at h
  exact (Fm.rf).tr (frj_X10_mayKeepOn_60 N K_5 hK_5 _ _ _ _ _ _ _ _ h)
theorem frl_X10_mayKeepOn_5 (N : Nat) : ∀ (n : Nat) (v1 : Int32) (v2 : Int32) (v3 : Int32) (v4 : Int32) (σ : St) (v : Int32) (w : St), l_X10_mayKeepOn_5 N n v1 v2 v3 v4 σ = some (v, w) → Fm [] σ w := by
  intro n
  induction n with
  | zero =>
    intro v1 v2 v3 v4 σ v w h
    rw [l_X10_mayKeepOn_5] at h
    cases h
  | succ n ih =>
    intro v1 v2 v3 v4 σ v w h
    rw [l_X10_mayKeepOn_5] at h
    rcases ite_elim h with h | h
    · obtain ⟨-, h⟩ := oeq h
      rw [← h]
      exact Fm.rf
    · obtain ⟨-, h⟩ := ckA_elim h
      rcases ite_elim h with h | h
      · obtain ⟨-, h⟩ := ckA_elim h
        rcases ite_elim h with h | h
        · exact (Fm.rf).tr (frj_X10_mayKeepOn_59 N (l_X10_mayKeepOn_5 N n) ih _ _ _ _ _ _ _ h)
        · rcases ite_elim h with h | h
          · exact (Fm.rf).tr (frj_X10_mayKeepOn_55 N (l_X10_mayKeepOn_5 N n) ih _ _ _ _ _ _ _ h)
          · obtain ⟨-, h⟩ := ckA_elim h
            rcases ite_elim h with h | h
            · exact (Fm.rf).tr (frj_X10_mayKeepOn_55 N (l_X10_mayKeepOn_5 N n) ih _ _ _ _ _ _ _ h)
            · exact (Fm.rf).tr (frj_X10_mayKeepOn_59 N (l_X10_mayKeepOn_5 N n) ih _ _ _ _ _ _ _ h)
      · exact (Fm.rf).tr (frj_X10_mayKeepOn_59 N (l_X10_mayKeepOn_5 N n) ih _ _ _ _ _ _ _ h)
theorem fr_X10_mayKeepOn {N : Nat} {a1 : Int32} {a2 : Int32} {σ : St} {v : Int32} {w : St} (h : o_X10_mayKeepOn N a1 a2 σ = some (v, w)) : Fm [] σ w := by
  unfold o_X10_mayKeepOn at h
  exact (Fm.rf).tr (frl_X10_mayKeepOn_5 N N _ _ _ _ _ _ _ h)
theorem fr_X10_calendar {N : Nat} {a1 : Int32} {a2 : Int32} {σ : St} {v : Int32} {w : St} (h : o_X10_calendar N a1 a2 σ = some (v, w)) : Fm [] σ w := by
  unfold o_X10_calendar at h
  obtain ⟨x1, σ2, g3, h⟩ := bd_elim h
  have f_σ2 : Fm [] σ σ2 := (Fm.rf).tr ((fr_X10_isKeeper g3).mono rfl)
  rcases ite_elim h with h | h
  · obtain ⟨-, h⟩ := oeq h
    rw [← h]
    exact f_σ2
  · rcases ite_elim h with h | h
    · obtain ⟨-, h⟩ := oeq h
      rw [← h]
      exact f_σ2
    · obtain ⟨x6, σ7, g8, h⟩ := bd_elim h
      have f_σ7 : Fm [] σ σ7 := (f_σ2).tr ((fr_X10_mayKeepOn g8).mono rfl)
      obtain ⟨-, h⟩ := oeq h
      rw [← h]
      exact f_σ7
theorem frl_X9_dueOfAll_4 (N : Nat) : ∀ (n : Nat) (v1 : Int32) (v2 : Int32) (v3 : Int32) (σ : St) (v : Int32) (w : St), l_X9_dueOfAll_4 N n v1 v2 v3 σ = some (v, w) → Fm [] σ w := by
  intro n
  induction n with
  | zero =>
    intro v1 v2 v3 σ v w h
    rw [l_X9_dueOfAll_4] at h
    cases h
  | succ n ih =>
    intro v1 v2 v3 σ v w h
    rw [l_X9_dueOfAll_4] at h
    rcases ite_elim h with h | h
    · obtain ⟨-, h⟩ := oeq h
      rw [← h]
      exact Fm.rf
    · obtain ⟨x2, σ3, g4, h⟩ := bd_elim h
      have f_σ3 : Fm [] σ σ3 := (Fm.rf).tr ((fr_X1_dueOn g4).mono rfl)
      obtain ⟨_, -, h⟩ := bt_elim h
      obtain ⟨_, -, h⟩ := bt_elim h
      exact (f_σ3).tr (ih _ _ _ _ _ _ h)
theorem fr_X9_dueOfAll {N : Nat} {a1 : Int32} {σ : St} {v : Int32} {w : St} (h : o_X9_dueOfAll N a1 σ = some (v, w)) : Fm [] σ w := by
  unfold o_X9_dueOfAll at h
  exact (Fm.rf).tr (frl_X9_dueOfAll_4 N N _ _ _ _ _ _ h)
theorem frj_X9_busiest_82 (N : Nat) (K_38 : Int32 → Int32 → Int32 → Int32 → St → Option (Int32 × St)) (hK_38 : ∀ (v1 : Int32) (v2 : Int32) (v3 : Int32) (v4 : Int32) (σ : St) (v : Int32) (w : St), K_38 v1 v2 v3 v4 σ = some (v, w) → Fm [] σ w) (v1 : Int32) (v2 : Int32) (v3 : Int32) (v4 : Int32) (σ : St) (v : Int32) (w : St) (h : j_X9_busiest_82 N K_38 v1 v2 v3 v4 σ = some (v, w)) : Fm [] σ w := by
  unfold j_X9_busiest_82 at h
  obtain ⟨_, -, h⟩ := bt_elim h
  exact (Fm.rf).tr (hK_38 _ _ _ _ _ _ _ h)
theorem frl_X9_busiest_38 (N : Nat) : ∀ (n : Nat) (v1 : Int32) (v2 : Int32) (v3 : Int32) (v4 : Int32) (σ : St) (v : Int32) (w : St), l_X9_busiest_38 N n v1 v2 v3 v4 σ = some (v, w) → Fm [] σ w := by
  intro n
  induction n with
  | zero =>
    intro v1 v2 v3 v4 σ v w h
    rw [l_X9_busiest_38] at h
    cases h
  | succ n ih =>
    intro v1 v2 v3 v4 σ v w h
    rw [l_X9_busiest_38] at h
    rcases ite_elim h with h | h
    · rcases ite_elim h with h | h
      · obtain ⟨-, h⟩ := oeq h
        rw [← h]
        exact Fm.rf
      · obtain ⟨-, h⟩ := oeq h
        rw [← h]
        exact Fm.rf
    · obtain ⟨x3, σ4, g5, h⟩ := bd_elim h
      have f_σ4 : Fm [] σ σ4 := (Fm.rf).tr ((fr_X9_dueOfAll g5).mono rfl)
      rcases ite_elim h with h | h
      · exact (f_σ4).tr (frj_X9_busiest_82 N (l_X9_busiest_38 N n) ih _ _ _ _ _ _ _ h)
      · obtain ⟨_, -, h⟩ := bt_elim h
        exact (f_σ4).tr (frj_X9_busiest_82 N (l_X9_busiest_38 N n) ih _ _ _ _ _ _ _ h)
theorem fr_X9_busiest {N : Nat} {a1 : Int32} {σ : St} {v : Int32} {w : St} (h : o_X9_busiest N a1 σ = some (v, w)) : Fm [] σ w := by
  unfold o_X9_busiest at h
  rcases ite_elim h with h | h
  · obtain ⟨-, h⟩ := oeq h
    rw [← h]
    exact Fm.rf
  · rcases ite_elim h with h | h
    · rcases ite_elim h with h | h
      · obtain ⟨-, h⟩ := oeq h
        rw [← h]
        exact Fm.rf
      · obtain ⟨_, -, h⟩ := bt_elim h
        exact (Fm.rf).tr (frl_X9_busiest_38 N N _ _ _ _ _ _ _ h)
    · obtain ⟨-, h⟩ := oeq h
      rw [← h]
      exact Fm.rf
theorem frj_X10_busiest_75 (N : Nat) (K_30 : Int32 → Int32 → Int32 → Int32 → St → Option (Int32 × St)) (hK_30 : ∀ (v1 : Int32) (v2 : Int32) (v3 : Int32) (v4 : Int32) (σ : St) (v : Int32) (w : St), K_30 v1 v2 v3 v4 σ = some (v, w) → Fm [] σ w) (v1 : Int32) (v2 : Int32) (v3 : Int32) (v4 : Int32) (σ : St) (v : Int32) (w : St) (h : j_X10_busiest_75 N K_30 v1 v2 v3 v4 σ = some (v, w)) : Fm [] σ w := by
  unfold j_X10_busiest_75 at h
  obtain ⟨_, -, h⟩ := bt_elim h
  exact (Fm.rf).tr (hK_30 _ _ _ _ _ _ _ h)
theorem frl_X10_busiest_30 (N : Nat) : ∀ (n : Nat) (v1 : Int32) (v2 : Int32) (v3 : Int32) (v4 : Int32) (σ : St) (v : Int32) (w : St), l_X10_busiest_30 N n v1 v2 v3 v4 σ = some (v, w) → Fm [] σ w := by
  intro n
  induction n with
  | zero =>
    intro v1 v2 v3 v4 σ v w h
    rw [l_X10_busiest_30] at h
    cases h
  | succ n ih =>
    intro v1 v2 v3 v4 σ v w h
    rw [l_X10_busiest_30] at h
    rcases ite_elim h with h | h
    · rcases ite_elim h with h | h
      · obtain ⟨-, h⟩ := oeq h
        rw [← h]
        exact Fm.rf
      · obtain ⟨-, h⟩ := oeq h
        rw [← h]
        exact Fm.rf
    · obtain ⟨x3, σ4, g5, h⟩ := bd_elim h
      have f_σ4 : Fm [] σ σ4 := (Fm.rf).tr ((fr_X10_mayKeepOn g5).mono rfl)
      rcases ite_elim h with h | h
      · exact (f_σ4).tr (frj_X10_busiest_75 N (l_X10_busiest_30 N n) ih _ _ _ _ _ _ _ h)
      · obtain ⟨_, -, h⟩ := bt_elim h
        exact (f_σ4).tr (frj_X10_busiest_75 N (l_X10_busiest_30 N n) ih _ _ _ _ _ _ _ h)
theorem fr_X10_busiest {N : Nat} {a1 : Int32} {σ : St} {v : Int32} {w : St} (h : o_X10_busiest N a1 σ = some (v, w)) : Fm [] σ w := by
  unfold o_X10_busiest at h
  rcases ite_elim h with h | h
  · obtain ⟨-, h⟩ := oeq h
    rw [← h]
    exact Fm.rf
  · rcases ite_elim h with h | h
    · obtain ⟨-, h⟩ := oeq h
      rw [← h]
      exact Fm.rf
    · exact (Fm.rf).tr (frl_X10_busiest_30 N N _ _ _ _ _ _ _ h)
theorem frl_X9_lives_69 (N : Nat) : ∀ (n : Nat) (v2 : Int32) (v3 : Int32) (v4 : Int64) (v6 : Int32) (σ : St) (v : Int32) (w : St), l_X9_lives_69 N n v2 v3 v4 v6 σ = some (v, w) → Fm [] σ w := by
  intro n
  induction n with
  | zero =>
    intro v2 v3 v4 v6 σ v w h
    rw [l_X9_lives_69] at h
    cases h
  | succ n ih =>
    intro v2 v3 v4 v6 σ v w h
    rw [l_X9_lives_69] at h
    rcases ite_elim h with h | h
    · obtain ⟨-, h⟩ := oeq h
      rw [← h]
      exact Fm.rf
    · obtain ⟨_, -, h⟩ := bt_elim h
      obtain ⟨_, -, h⟩ := bt_elim h
      exact (Fm.rf).tr (ih _ _ _ _ _ _ _ h)
theorem fr_X9_lives {N : Nat} {a1 : Int32} {a2 : Int32} {σ : St} {v : Int32} {w : St} (h : o_X9_lives N a1 a2 σ = some (v, w)) : Fm [] σ w := by
  unfold o_X9_lives at h
  rcases ite_elim h with h | h
  · obtain ⟨-, h⟩ := oeq h
    rw [← h]
    exact Fm.rf
  · rcases ite_elim h with h | h
    · obtain ⟨-, h⟩ := oeq h
      rw [← h]
      exact Fm.rf
    · rcases ite_elim h with h | h
      · obtain ⟨x4, σ5, g6, h⟩ := bd_elim h
        have f_σ5 : Fm [] σ σ5 := (Fm.rf).tr ((fr_X1_ripeOn_23 g6).mono rfl)
        rcases ite_elim h with h | h
        · obtain ⟨-, h⟩ := oeq h
          rw [← h]
          exact f_σ5
        · rcases ite_elim h with h | h
          · obtain ⟨-, h⟩ := oeq h
            rw [← h]
            exact f_σ5
          · obtain ⟨_, -, h⟩ := bt_elim h
            exact (f_σ5).tr (frl_X9_lives_69 N N _ _ _ _ _ _ _ h)
      · obtain ⟨-, h⟩ := oeq h
        rw [← h]
        exact Fm.rf
theorem frl_X10_lives_62 (N : Nat) : ∀ (n : Nat) (v1 : Int32) (v2 : Int32) (v3 : Int64) (v5 : Int32) (σ : St) (v : Int32) (w : St), l_X10_lives_62 N n v1 v2 v3 v5 σ = some (v, w) → Fm [] σ w := by
  intro n
  induction n with
  | zero =>
    intro v1 v2 v3 v5 σ v w h
    rw [l_X10_lives_62] at h
    cases h
  | succ n ih =>
    intro v1 v2 v3 v5 σ v w h
    rw [l_X10_lives_62] at h
    obtain ⟨x1, σ2, g3, h⟩ := bd_elim h
    have f_σ2 : Fm [] σ σ2 := (Fm.rf).tr ((fr_X10_ripe g3).mono rfl)
    rcases ite_elim h with h | h
    · obtain ⟨-, h⟩ := oeq h
      rw [← h]
      exact f_σ2
    · obtain ⟨_, -, h⟩ := bt_elim h
      obtain ⟨_, -, h⟩ := bt_elim h
      exact (f_σ2).tr (ih _ _ _ _ _ _ _ h)
theorem fr_X10_lives {N : Nat} {a1 : Int32} {a2 : Int32} {σ : St} {v : Int32} {w : St} (h : o_X10_lives N a1 a2 σ = some (v, w)) : Fm [] σ w := by
  unfold o_X10_lives at h
  obtain ⟨x1, σ2, g3, h⟩ := bd_elim h
  have f_σ2 : Fm [] σ σ2 := (Fm.rf).tr ((fr_X10_isPromise g3).mono rfl)
  rcases ite_elim h with h | h
  · obtain ⟨-, h⟩ := oeq h
    rw [← h]
    exact f_σ2
  · rcases ite_elim h with h | h
    · obtain ⟨-, h⟩ := oeq h
      rw [← h]
      exact f_σ2
    · obtain ⟨-, h⟩ := ckA_elim h
      rcases ite_elim h with h | h
      · obtain ⟨-, h⟩ := ckA_elim h
        rcases ite_elim h with h | h
        · obtain ⟨_, -, h⟩ := bt_elim h
          exact (f_σ2).tr (frl_X10_lives_62 N N _ _ _ _ _ _ _ h)
        · obtain ⟨-, h⟩ := oeq h
          rw [← h]
          exact f_σ2
      · obtain ⟨-, h⟩ := oeq h
        rw [← h]
        exact f_σ2
theorem frj_X5_sizesIn_33 (N : Nat) (K_4 : Int32 → Int32 → Int32 → St → Option (Int32 × St)) (hK_4 : ∀ (v1 : Int32) (v2 : Int32) (v3 : Int32) (σ : St) (v : Int32) (w : St), K_4 v1 v2 v3 σ = some (v, w) → Fm [] σ w) (v1 : Int32) (v3 : Int32) (s0 : Int32) (s1 : Int32) (σ : St) (v : Int32) (w : St) (h : j_X5_sizesIn_33 N K_4 v1 v3 s0 s1 σ = some (v, w)) : Fm [] σ w := by
  unfold j_X5_sizesIn_33 at h
  obtain ⟨_, -, h⟩ := bt_elim h
  obtain ⟨_, -, h⟩ := bt_elim h
  exact (Fm.rf).tr (hK_4 _ _ _ _ _ _ h)
theorem frl_X5_sizesIn_4 (N : Nat) : ∀ (n : Nat) (v1 : Int32) (v2 : Int32) (v3 : Int32) (σ : St) (v : Int32) (w : St), l_X5_sizesIn_4 N n v1 v2 v3 σ = some (v, w) → Fm [] σ w := by
  intro n
  induction n with
  | zero =>
    intro v1 v2 v3 σ v w h
    rw [l_X5_sizesIn_4] at h
    cases h
  | succ n ih =>
    intro v1 v2 v3 σ v w h
    rw [l_X5_sizesIn_4] at h
    rcases ite_elim h with h | h
    · obtain ⟨-, h⟩ := oeq h
      rw [← h]
      exact Fm.rf
    · rcases ite_elim h with h | h
      · exact (Fm.rf).tr (frj_X5_sizesIn_33 N (l_X5_sizesIn_4 N n) ih _ _ _ _ _ _ _ h)
      · exact (Fm.rf).tr (frj_X5_sizesIn_33 N (l_X5_sizesIn_4 N n) ih _ _ _ _ _ _ _ h)
theorem fr_X5_sizesIn {N : Nat} {a1 : Int32} {σ : St} {v : Int32} {w : St} (h : o_X5_sizesIn N a1 σ = some (v, w)) : Fm [] σ w := by
  unfold o_X5_sizesIn at h
  exact (Fm.rf).tr (frl_X5_sizesIn_4 N N _ _ _ _ _ _ h)
theorem fr_X1_sizesOf {N : Nat} {a1 : Int32} {σ : St} {v : Int32} {w : St} (h : o_X1_sizesOf N a1 σ = some (v, w)) : Fm [] σ w := by
  unfold o_X1_sizesOf at h
  obtain ⟨x1, σ2, g3, h⟩ := bd_elim h
  have f_σ2 : Fm [] σ σ2 := (Fm.rf).tr ((fr_X1_heldBy g3).mono rfl)
  obtain ⟨x4, σ5, g6, h⟩ := bd_elim h
  have f_σ5 : Fm [] σ σ5 := (f_σ2).tr ((fr_X5_sizesIn g6).mono rfl)
  obtain ⟨-, h⟩ := oeq h
  rw [← h]
  exact f_σ5
theorem frl_X9_firstOfFamily_2 (N : Nat) : ∀ (n : Nat) (v1 : Int32) (v2 : Int32) (σ : St) (v : Int32) (w : St), l_X9_firstOfFamily_2 N n v1 v2 σ = some (v, w) → Fm [] σ w := by
  intro n
  induction n with
  | zero =>
    intro v1 v2 σ v w h
    rw [l_X9_firstOfFamily_2] at h
    cases h
  | succ n ih =>
    intro v1 v2 σ v w h
    rw [l_X9_firstOfFamily_2] at h
    rcases ite_elim h with h | h
    · obtain ⟨-, h⟩ := oeq h
      rw [← h]
      exact Fm.rf
    · rcases ite_elim h with h | h
      · obtain ⟨-, h⟩ := oeq h
        rw [← h]
        exact Fm.rf
      · obtain ⟨_, -, h⟩ := bt_elim h
        exact (Fm.rf).tr (ih _ _ _ _ _ h)
theorem fr_X9_firstOfFamily {N : Nat} {a1 : Int32} {σ : St} {v : Int32} {w : St} (h : o_X9_firstOfFamily N a1 σ = some (v, w)) : Fm [] σ w := by
  unfold o_X9_firstOfFamily at h
  exact (Fm.rf).tr (frl_X9_firstOfFamily_2 N N _ _ _ _ _ h)
theorem frj_X9_share_84 (N : Nat) (K_41 : Int32 → Int32 → Int32 → Int32 → Int32 → St → Option (Int32 × St)) (hK_41 : ∀ (v1 : Int32) (v2 : Int32) (v3 : Int32) (v4 : Int32) (v5 : Int32) (σ : St) (v : Int32) (w : St), K_41 v1 v2 v3 v4 v5 σ = some (v, w) → Fm [] σ w) (v1 : Int32) (v2 : Int32) (v3 : Int32) (v5 : Int32) (s0 : Int32) (s1 : Int32) (σ : St) (v : Int32) (w : St) (h : j_X9_share_84 N K_41 v1 v2 v3 v5 s0 s1 σ = some (v, w)) : Fm [] σ w := by
  unfold j_X9_share_84 at h
  obtain ⟨_, -, h⟩ := bt_elim h
  obtain ⟨_, -, h⟩ := bt_elim h
  exact (Fm.rf).tr (hK_41 _ _ _ _ _ _ _ _ h)
theorem frj_X9_share_230 (N : Nat) (K_137 : Int32 → Int32 → Int32 → Int32 → Int32 → Int32 → Int32 → Int32 → St → Option (Int32 × St)) (hK_137 : ∀ (v1 : Int32) (v2 : Int32) (v3 : Int32) (v4 : Int32) (v5 : Int32) (v6 : Int32) (v7 : Int32) (v8 : Int32) (σ : St) (v : Int32) (w : St), K_137 v1 v2 v3 v4 v5 v6 v7 v8 σ = some (v, w) → Fm [] σ w) (v1 : Int32) (v2 : Int32) (v3 : Int32) (v4 : Int32) (v5 : Int32) (v6 : Int32) (v7 : Int32) (v8 : Int32) (σ : St) (v : Int32) (w : St) (h : j_X9_share_230 N K_137 v1 v2 v3 v4 v5 v6 v7 v8 σ = some (v, w)) : Fm [] σ w := by
  unfold j_X9_share_230 at h
  obtain ⟨_, -, h⟩ := bt_elim h
  exact (Fm.rf).tr (hK_137 _ _ _ _ _ _ _ _ _ _ _ h)
theorem frj_X9_share_227 (N : Nat) (K_137 : Int32 → Int32 → Int32 → Int32 → Int32 → Int32 → Int32 → Int32 → St → Option (Int32 × St)) (hK_137 : ∀ (v1 : Int32) (v2 : Int32) (v3 : Int32) (v4 : Int32) (v5 : Int32) (v6 : Int32) (v7 : Int32) (v8 : Int32) (σ : St) (v : Int32) (w : St), K_137 v1 v2 v3 v4 v5 v6 v7 v8 σ = some (v, w) → Fm [] σ w) (v1 : Int32) (v2 : Int32) (v3 : Int32) (v4 : Int32) (v5 : Int32) (v7 : Int32) (v8 : Int32) (s0 : Int32) (s1 : Int32) (σ : St) (v : Int32) (w : St) (h : j_X9_share_227 N K_137 v1 v2 v3 v4 v5 v7 v8 s0 s1 σ = some (v, w)) : Fm [] σ w := by
  unfold j_X9_share_227 at h
  obtain ⟨_, -, h⟩ := bt_elim h
  exact (Fm.rf).tr (frj_X9_share_230 N K_137 hK_137 _ _ _ _ _ _ _ _ _ _ _ h)
theorem frj_X9_share_222 (N : Nat) (K_137 : Int32 → Int32 → Int32 → Int32 → Int32 → Int32 → Int32 → Int32 → St → Option (Int32 × St)) (hK_137 : ∀ (v1 : Int32) (v2 : Int32) (v3 : Int32) (v4 : Int32) (v5 : Int32) (v6 : Int32) (v7 : Int32) (v8 : Int32) (σ : St) (v : Int32) (w : St), K_137 v1 v2 v3 v4 v5 v6 v7 v8 σ = some (v, w) → Fm [] σ w) (v1 : Int32) (v2 : Int32) (v3 : Int32) (v4 : Int32) (v5 : Int32) (v7 : Int32) (v8 : Int32) (s0 : Int32) (σ : St) (v : Int32) (w : St) (h : j_X9_share_222 N K_137 v1 v2 v3 v4 v5 v7 v8 s0 σ = some (v, w)) : Fm [] σ w := by
  unfold j_X9_share_222 at h
  exact (Fm.rf).tr (frj_X9_share_227 N K_137 hK_137 _ _ _ _ _ _ _ _ _ _ _ _ h)
theorem frj_X9_share_226 (N : Nat) (K_137 : Int32 → Int32 → Int32 → Int32 → Int32 → Int32 → Int32 → Int32 → St → Option (Int32 × St)) (hK_137 : ∀ (v1 : Int32) (v2 : Int32) (v3 : Int32) (v4 : Int32) (v5 : Int32) (v6 : Int32) (v7 : Int32) (v8 : Int32) (σ : St) (v : Int32) (w : St), K_137 v1 v2 v3 v4 v5 v6 v7 v8 σ = some (v, w) → Fm [] σ w) (v1 : Int32) (v2 : Int32) (v3 : Int32) (v4 : Int32) (v5 : Int32) (v7 : Int32) (v8 : Int32) (s0 : Int32) (σ : St) (v : Int32) (w : St) (h : j_X9_share_226 N K_137 v1 v2 v3 v4 v5 v7 v8 s0 σ = some (v, w)) : Fm [] σ w := by
  unfold j_X9_share_226 at h
  exact (Fm.rf).tr (frj_X9_share_227 N K_137 hK_137 _ _ _ _ _ _ _ _ _ _ _ _ h)
theorem frl_X9_share_137 (N : Nat) : ∀ (n : Nat) (v1 : Int32) (v2 : Int32) (v3 : Int32) (v4 : Int32) (v5 : Int32) (v6 : Int32) (v7 : Int32) (v8 : Int32) (σ : St) (v : Int32) (w : St), l_X9_share_137 N n v1 v2 v3 v4 v5 v6 v7 v8 σ = some (v, w) → Fm [] σ w := by
  intro n
  induction n with
  | zero =>
    intro v1 v2 v3 v4 v5 v6 v7 v8 σ v w h
    rw [l_X9_share_137] at h
    cases h
  | succ n ih =>
    intro v1 v2 v3 v4 v5 v6 v7 v8 σ v w h
    rw [l_X9_share_137] at h
    rcases ite_elim h with h | h
    · obtain ⟨x2, σ3, g4, h⟩ := bd_elim h
      have f_σ3 : Fm [] σ σ3 := (Fm.rf).tr ((fr_X1_sizesOf g4).mono rfl)
      obtain ⟨-, h⟩ := ckDI_elim h
      rcases ite_elim h with h | h
      · obtain ⟨-, h⟩ := oeq h
        rw [← h]
        exact f_σ3
      · obtain ⟨-, h⟩ := oeq h
        rw [← h]
        exact f_σ3
    · rcases ite_elim h with h | h
      · obtain ⟨x8, σ9, g10, h⟩ := bd_elim h
        have f_σ9 : Fm [] σ σ9 := (Fm.rf).tr ((fr_X1_sizesOf g10).mono rfl)
        obtain ⟨-, h⟩ := ckDI_elim h
        obtain ⟨_, -, h⟩ := bt_elim h
        obtain ⟨x13, σ14, g15, h⟩ := bd_elim h
        have f_σ14 : Fm [] σ σ14 := (f_σ9).tr ((fr_X1_sizesOf g15).mono rfl)
        obtain ⟨-, h⟩ := ckDI_elim h
        obtain ⟨_, -, h⟩ := bt_elim h
        rcases ite_elim h with h | h
        · exact (f_σ14).tr (frj_X9_share_222 N (l_X9_share_137 N n) ih _ _ _ _ _ _ _ _ _ _ _ h)
        · rcases ite_elim h with h | h
          · rcases ite_elim h with h | h
            · exact (f_σ14).tr (frj_X9_share_226 N (l_X9_share_137 N n) ih _ _ _ _ _ _ _ _ _ _ _ h)
            · exact (f_σ14).tr (frj_X9_share_222 N (l_X9_share_137 N n) ih _ _ _ _ _ _ _ _ _ _ _ h)
          · exact (f_σ14).tr (frj_X9_share_226 N (l_X9_share_137 N n) ih _ _ _ _ _ _ _ _ _ _ _ h)
      · exact (Fm.rf).tr (frj_X9_share_230 N (l_X9_share_137 N n) ih _ _ _ _ _ _ _ _ _ _ _ h)
theorem frl_X9_share_41 (N : Nat) : ∀ (n : Nat) (v1 : Int32) (v2 : Int32) (v3 : Int32) (v4 : Int32) (v5 : Int32) (σ : St) (v : Int32) (w : St), l_X9_share_41 N n v1 v2 v3 v4 v5 σ = some (v, w) → Fm [] σ w := by
  intro n
  induction n with
  | zero =>
    intro v1 v2 v3 v4 v5 σ v w h
    rw [l_X9_share_41] at h
    cases h
  | succ n ih =>
    intro v1 v2 v3 v4 v5 σ v w h
    rw [l_X9_share_41] at h
    rcases ite_elim h with h | h
    · rcases ite_elim h with h | h
      · obtain ⟨x3, σ4, g5, h⟩ := bd_elim h
        have f_σ4 : Fm [] σ σ4 := (Fm.rf).tr ((fr_X1_sizesOf g5).mono rfl)
        obtain ⟨-, h⟩ := ckDI_elim h
        obtain ⟨_, -, h⟩ := bt_elim h
        exact (f_σ4).tr (frl_X9_share_137 N N _ _ _ _ _ _ _ _ _ _ _ h)
      · obtain ⟨x8, σ9, g10, h⟩ := bd_elim h
        have f_σ9 : Fm [] σ σ9 := (Fm.rf).tr ((fr_X9_firstOfFamily g10).mono rfl)
        rcases ite_elim h with h | h
        · obtain ⟨-, h⟩ := oeq h
          rw [← h]
          exact f_σ9
        · obtain ⟨-, h⟩ := oeq h
          rw [← h]
          exact f_σ9
    · rcases ite_elim h with h | h
      · obtain ⟨x13, σ14, g15, h⟩ := bd_elim h
        have f_σ14 : Fm [] σ σ14 := (Fm.rf).tr ((fr_X1_sizesOf g15).mono rfl)
        exact (f_σ14).tr (frj_X9_share_84 N (l_X9_share_41 N n) ih _ _ _ _ _ _ _ _ _ h)
      · exact (Fm.rf).tr (frj_X9_share_84 N (l_X9_share_41 N n) ih _ _ _ _ _ _ _ _ _ h)
theorem fr_X9_share {N : Nat} {a1 : Int32} {σ : St} {v : Int32} {w : St} (h : o_X9_share N a1 σ = some (v, w)) : Fm [] σ w := by
  unfold o_X9_share at h
  rcases ite_elim h with h | h
  · obtain ⟨-, h⟩ := oeq h
    rw [← h]
    exact Fm.rf
  · obtain ⟨_, -, h⟩ := bt_elim h
    obtain ⟨_, -, h⟩ := bt_elim h
    exact (Fm.rf).tr (frl_X9_share_41 N N _ _ _ _ _ _ _ _ h)
theorem frj_X10_sizesOf_36 (N : Nat) (K_4 : Int32 → Int32 → Int32 → St → Option (Int32 × St)) (hK_4 : ∀ (v1 : Int32) (v2 : Int32) (v3 : Int32) (σ : St) (v : Int32) (w : St), K_4 v1 v2 v3 σ = some (v, w) → Fm [] σ w) (v1 : Int32) (v3 : Int32) (s0 : Int32) (s1 : Int32) (σ : St) (v : Int32) (w : St) (h : j_X10_sizesOf_36 N K_4 v1 v3 s0 s1 σ = some (v, w)) : Fm [] σ w := by
  unfold j_X10_sizesOf_36 at h
  obtain ⟨_, -, h⟩ := bt_elim h
  obtain ⟨_, -, h⟩ := bt_elim h
  exact (Fm.rf).tr (hK_4 _ _ _ _ _ _ h)
theorem frl_X10_sizesOf_4 (N : Nat) : ∀ (n : Nat) (v1 : Int32) (v2 : Int32) (v3 : Int32) (σ : St) (v : Int32) (w : St), l_X10_sizesOf_4 N n v1 v2 v3 σ = some (v, w) → Fm [] σ w := by
  intro n
  induction n with
  | zero =>
    intro v1 v2 v3 σ v w h
    rw [l_X10_sizesOf_4] at h
    cases h
  | succ n ih =>
    intro v1 v2 v3 σ v w h
    rw [l_X10_sizesOf_4] at h
    rcases ite_elim h with h | h
    · obtain ⟨-, h⟩ := oeq h
      rw [← h]
      exact Fm.rf
    · obtain ⟨-, h⟩ := ckA_elim h
      rcases ite_elim h with h | h
      · obtain ⟨-, h⟩ := ckA_elim h
        exact (Fm.rf).tr (frj_X10_sizesOf_36 N (l_X10_sizesOf_4 N n) ih _ _ _ _ _ _ _ h)
      · exact (Fm.rf).tr (frj_X10_sizesOf_36 N (l_X10_sizesOf_4 N n) ih _ _ _ _ _ _ _ h)
theorem fr_X10_sizesOf {N : Nat} {a1 : Int32} {σ : St} {v : Int32} {w : St} (h : o_X10_sizesOf N a1 σ = some (v, w)) : Fm [] σ w := by
  unfold o_X10_sizesOf at h
  exact (Fm.rf).tr (frl_X10_sizesOf_4 N N _ _ _ _ _ _ h)
theorem frj_X10_findShares_58 (N : Nat) (K_12 : Int32 → Int32 → Int32 → Int32 → St → Option (Unit × St)) (hK_12 : ∀ (v1 : Int32) (v2 : Int32) (v3 : Int32) (v4 : Int32) (σ : St) (v : Unit) (w : St), K_12 v1 v2 v3 v4 σ = some (v, w) → Fm [100, 101] σ w) (v1 : Int32) (v2 : Int32) (v4 : Int32) (s0 : Int32) (σ : St) (v : Unit) (w : St) (h : j_X10_findShares_58 N K_12 v1 v2 v4 s0 σ = some (v, w)) : Fm [100, 101] σ w := by
  unfold j_X10_findShares_58 at h
  obtain ⟨_, -, h⟩ := bt_elim h
  exact (Fm.rf).tr (hK_12 _ _ _ _ _ _ _ h)
theorem frj_X10_findShares_39 (N : Nat) (K_12 : Int32 → Int32 → Int32 → Int32 → St → Option (Unit × St)) (hK_12 : ∀ (v1 : Int32) (v2 : Int32) (v3 : Int32) (v4 : Int32) (σ : St) (v : Unit) (w : St), K_12 v1 v2 v3 v4 σ = some (v, w) → Fm [100, 101] σ w) (v1 : Int32) (v3 : Int32) (v4 : Int32) (s0 : Int32) (s1 : Int32) (σ : St) (v : Unit) (w : St) (h : j_X10_findShares_39 N K_12 v1 v3 v4 s0 s1 σ = some (v, w)) : Fm [100, 101] σ w := by
  unfold j_X10_findShares_39 at h
  obtain ⟨_, -, h⟩ := bt_elim h
  obtain ⟨-, h⟩ := ckA_elim h
  rcases ite_elim h with h | h
  · exact (Fm.rf).tr (frj_X10_findShares_58 N K_12 hK_12 _ _ _ _ _ _ _ h)
  · exact (Fm.rf).tr (frj_X10_findShares_58 N K_12 hK_12 _ _ _ _ _ _ _ h)
theorem frj_X10_findShares_183 (N : Nat) (K_79 : Int32 → Int32 → Int32 → Int32 → Int32 → St → Option (Unit × St)) (hK_79 : ∀ (v1 : Int32) (v2 : Int32) (v3 : Int32) (v4 : Int32) (v5 : Int32) (σ : St) (v : Unit) (w : St), K_79 v1 v2 v3 v4 v5 σ = some (v, w) → Fm [100, 101] σ w) (v1 : Int32) (v2 : Int32) (v3 : Int32) (v4 : Int32) (v5 : Int32) (s1 : Int32) (s2 : Int32) (σ : St) (v : Unit) (w : St) (h : j_X10_findShares_183 N K_79 v1 v2 v3 v4 v5 s1 s2 σ = some (v, w)) : Fm [100, 101] σ w := by
  unfold j_X10_findShares_183 at h
  obtain ⟨-, h⟩ := ckA_elim h
  obtain ⟨σ2, e9, h⟩ := bt_elim h
  have f_σ2 : Fm [100, 101] σ σ2 := (Fm.rf).tr (by rw [e9]; exact Fm.st (by decide))
  obtain ⟨-, h⟩ := ckA_elim h
  obtain ⟨_, -, h⟩ := bt_elim h
  obtain ⟨_, -, h⟩ := bt_elim h
  exact (f_σ2).tr (hK_79 _ _ _ _ _ _ _ _ h)
theorem frj_X10_findShares_149 (N : Nat) (K_79 : Int32 → Int32 → Int32 → Int32 → Int32 → St → Option (Unit × St)) (hK_79 : ∀ (v1 : Int32) (v2 : Int32) (v3 : Int32) (v4 : Int32) (v5 : Int32) (σ : St) (v : Unit) (w : St), K_79 v1 v2 v3 v4 v5 σ = some (v, w) → Fm [100, 101] σ w) (v1 : Int32) (v2 : Int32) (v3 : Int32) (v4 : Int32) (v5 : Int32) (v6 : Int32) (s1 : Int32) (s2 : Int32) (σ : St) (v : Unit) (w : St) (h : j_X10_findShares_149 N K_79 v1 v2 v3 v4 v5 v6 s1 s2 σ = some (v, w)) : Fm [100, 101] σ w := by
  unfold j_X10_findShares_149 at h
  obtain ⟨-, h⟩ := ckA_elim h
  obtain ⟨σ2, e9, h⟩ := bt_elim h
  have f_σ2 : Fm [100, 101] σ σ2 := (Fm.rf).tr (by rw [e9]; exact Fm.st (by decide))
  rcases ite_elim h with h | h
  · exact (f_σ2).tr (frj_X10_findShares_183 N K_79 hK_79 _ _ _ _ _ _ _ _ _ _ h)
  · obtain ⟨-, h⟩ := ckA_elim h
    obtain ⟨x5, σ6, g7, h⟩ := bd_elim h
    have f_σ6 : Fm [100, 101] σ σ6 := (f_σ2).tr ((fr_X10_sizesOf g7).mono rfl)
    obtain ⟨-, h⟩ := ckDI_elim h
    exact (f_σ6).tr (frj_X10_findShares_183 N K_79 hK_79 _ _ _ _ _ _ _ _ _ _ h)
theorem frj_X10_findShares_114 (N : Nat) (K_79 : Int32 → Int32 → Int32 → Int32 → Int32 → St → Option (Unit × St)) (hK_79 : ∀ (v1 : Int32) (v2 : Int32) (v3 : Int32) (v4 : Int32) (v5 : Int32) (σ : St) (v : Unit) (w : St), K_79 v1 v2 v3 v4 v5 σ = some (v, w) → Fm [100, 101] σ w) (v1 : Int32) (v2 : Int32) (v3 : Int32) (v4 : Int32) (v5 : Int32) (s0 : Int32) (σ : St) (v : Unit) (w : St) (h : j_X10_findShares_114 N K_79 v1 v2 v3 v4 v5 s0 σ = some (v, w)) : Fm [100, 101] σ w := by
  unfold j_X10_findShares_114 at h
  rcases ite_elim h with h | h
  · exact (Fm.rf).tr (frj_X10_findShares_149 N K_79 hK_79 _ _ _ _ _ _ _ _ _ _ _ h)
  · obtain ⟨-, h⟩ := ckA_elim h
    obtain ⟨x3, σ4, g5, h⟩ := bd_elim h
    have f_σ4 : Fm [100, 101] σ σ4 := (Fm.rf).tr ((fr_X10_sizesOf g5).mono rfl)
    obtain ⟨-, h⟩ := ckDI_elim h
    exact (f_σ4).tr (frj_X10_findShares_149 N K_79 hK_79 _ _ _ _ _ _ _ _ _ _ _ h)
theorem frj_X10_findShares_113 (N : Nat) (K_79 : Int32 → Int32 → Int32 → Int32 → Int32 → St → Option (Unit × St)) (hK_79 : ∀ (v1 : Int32) (v2 : Int32) (v3 : Int32) (v4 : Int32) (v5 : Int32) (σ : St) (v : Unit) (w : St), K_79 v1 v2 v3 v4 v5 σ = some (v, w) → Fm [100, 101] σ w) (v1 : Int32) (v2 : Int32) (v3 : Int32) (v4 : Int32) (v5 : Int32) (σ : St) (v : Unit) (w : St) (h : j_X10_findShares_113 N K_79 v1 v2 v3 v4 v5 σ = some (v, w)) : Fm [100, 101] σ w := by
  unfold j_X10_findShares_113 at h
  exact (Fm.rf).tr (frj_X10_findShares_114 N K_79 hK_79 _ _ _ _ _ _ _ _ _ h)
theorem frj_X10_findShares_269 (N : Nat) (K_221 : Int32 → Int32 → St → Option (Unit × St)) (K_236 : Int32 → Int32 → Int32 → Int32 → St → Option (Unit × St)) (hK_221 : ∀ (v3 : Int32) (v4 : Int32) (σ : St) (v : Unit) (w : St), K_221 v3 v4 σ = some (v, w) → Fm [100, 101] σ w) (hK_236 : ∀ (v3 : Int32) (v4 : Int32) (v5 : Int32) (v6 : Int32) (σ : St) (v : Unit) (w : St), K_236 v3 v4 v5 v6 σ = some (v, w) → Fm [100, 101] σ w) (v3 : Int32) (v4 : Int32) (v6 : Int32) (s0 : Int32) (σ : St) (v : Unit) (w : St) (h : j_X10_findShares_269 N K_221 K_236 v3 v4 v6 s0 σ = some (v, w)) : Fm [100, 101] σ w := by
  unfold j_X10_findShares_269 at h
  obtain ⟨_, -, h⟩ := bt_elim h
  exact (Fm.rf).tr (hK_236 _ _ _ _ _ _ _ h)
theorem frl_X10_findShares_236 (N : Nat) (K_221 : Int32 → Int32 → St → Option (Unit × St)) (hK_221 : ∀ (v3 : Int32) (v4 : Int32) (σ : St) (v : Unit) (w : St), K_221 v3 v4 σ = some (v, w) → Fm [100, 101] σ w) : ∀ (n : Nat) (v3 : Int32) (v4 : Int32) (v5 : Int32) (v6 : Int32) (σ : St) (v : Unit) (w : St), l_X10_findShares_236 N K_221 n v3 v4 v5 v6 σ = some (v, w) → Fm [100, 101] σ w := by
  intro n
  induction n with
  | zero =>
    intro v3 v4 v5 v6 σ v w h
    rw [l_X10_findShares_236] at h
    cases h
  | succ n ih =>
    intro v3 v4 v5 v6 σ v w h
    rw [l_X10_findShares_236] at h
    rcases ite_elim h with h | h
    · obtain ⟨-, h⟩ := ckA_elim h
      obtain ⟨-, h⟩ := ckA_elim h
      obtain ⟨σ4, e9, h⟩ := bt_elim h
      have f_σ4 : Fm [100, 101] σ σ4 := (Fm.rf).tr (by rw [e9]; exact Fm.st (by decide))
      obtain ⟨-, h⟩ := ckA_elim h
      obtain ⟨σ6, e9, h⟩ := bt_elim h
      have f_σ6 : Fm [100, 101] σ σ6 := (f_σ4).tr (by rw [e9]; exact Fm.st (by decide))
      obtain ⟨_, -, h⟩ := bt_elim h
      exact (f_σ6).tr (hK_221 _ _ _ _ _ h)
    · obtain ⟨-, h⟩ := ckA_elim h
      obtain ⟨-, h⟩ := ckA_elim h
      rcases ite_elim h with h | h
      · exact (Fm.rf).tr (frj_X10_findShares_269 N K_221 (l_X10_findShares_236 N K_221 n) hK_221 ih _ _ _ _ _ _ _ h)
      · exact (Fm.rf).tr (frj_X10_findShares_269 N K_221 (l_X10_findShares_236 N K_221 n) hK_221 ih _ _ _ _ _ _ _ h)
theorem frl_X10_findShares_221 (N : Nat) : ∀ (n : Nat) (v3 : Int32) (v4 : Int32) (σ : St) (v : Unit) (w : St), l_X10_findShares_221 N n v3 v4 σ = some (v, w) → Fm [100, 101] σ w := by
  intro n
  induction n with
  | zero =>
    intro v3 v4 σ v w h
    rw [l_X10_findShares_221] at h
    cases h
  | succ n ih =>
    intro v3 v4 σ v w h
    rw [l_X10_findShares_221] at h
    rcases ite_elim h with h | h
    · obtain ⟨-, h⟩ := oeq h
      rw [← h]
      exact Fm.rf
    · rcases ite_elim h with h | h
      · obtain ⟨-, h⟩ := oeq h
        rw [← h]
        exact Fm.rf
      · exact (Fm.rf).tr (frl_X10_findShares_236 N (l_X10_findShares_221 N n) ih N _ _ _ _ _ _ _ h)
theorem frl_X10_findShares_79 (N : Nat) : ∀ (n : Nat) (v1 : Int32) (v2 : Int32) (v3 : Int32) (v4 : Int32) (v5 : Int32) (σ : St) (v : Unit) (w : St), l_X10_findShares_79 N n v1 v2 v3 v4 v5 σ = some (v, w) → Fm [100, 101] σ w := by
  intro n
  induction n with
  | zero =>
    intro v1 v2 v3 v4 v5 σ v w h
    rw [l_X10_findShares_79] at h
    cases h
  | succ n ih =>
    intro v1 v2 v3 v4 v5 σ v w h
    rw [l_X10_findShares_79] at h
    rcases ite_elim h with h | h
    · rcases ite_elim h with h | h
      · rcases ite_elim h with h | h
        · exact (Fm.rf).tr (frl_X10_findShares_221 N N _ _ _ _ _ h)
        · obtain ⟨-, h⟩ := ckA_elim h
          obtain ⟨σ5, e9, h⟩ := bt_elim h
          have f_σ5 : Fm [100, 101] σ σ5 := (Fm.rf).tr (by rw [e9]; exact Fm.st (by decide))
          exact (f_σ5).tr (frl_X10_findShares_221 N N _ _ _ _ _ h)
      · exact (Fm.rf).tr (frl_X10_findShares_221 N N _ _ _ _ _ h)
    · rcases ite_elim h with h | h
      · exact (Fm.rf).tr (frj_X10_findShares_113 N (l_X10_findShares_79 N n) ih _ _ _ _ _ _ _ _ h)
      · obtain ⟨-, h⟩ := ckA_elim h
        rcases ite_elim h with h | h
        · rcases ite_elim h with h | h
          · exact (Fm.rf).tr (frj_X10_findShares_113 N (l_X10_findShares_79 N n) ih _ _ _ _ _ _ _ _ h)
          · exact (Fm.rf).tr (frj_X10_findShares_114 N (l_X10_findShares_79 N n) ih _ _ _ _ _ _ _ _ _ h)
        · exact (Fm.rf).tr (frj_X10_findShares_113 N (l_X10_findShares_79 N n) ih _ _ _ _ _ _ _ _ h)
theorem frl_X10_findShares_12 (N : Nat) : ∀ (n : Nat) (v1 : Int32) (v2 : Int32) (v3 : Int32) (v4 : Int32) (σ : St) (v : Unit) (w : St), l_X10_findShares_12 N n v1 v2 v3 v4 σ = some (v, w) → Fm [100, 101] σ w := by
  intro n
  induction n with
  | zero =>
    intro v1 v2 v3 v4 σ v w h
    rw [l_X10_findShares_12] at h
    cases h
  | succ n ih =>
    intro v1 v2 v3 v4 σ v w h
    rw [l_X10_findShares_12] at h
    rcases ite_elim h with h | h
    · obtain ⟨-, h⟩ := ckA_elim h
      obtain ⟨_, -, h⟩ := bt_elim h
      exact (Fm.rf).tr (frl_X10_findShares_79 N N _ _ _ _ _ _ _ _ h)
    · obtain ⟨-, h⟩ := ckA_elim h
      rcases ite_elim h with h | h
      · obtain ⟨x6, σ7, g8, h⟩ := bd_elim h
        have f_σ7 : Fm [100, 101] σ σ7 := (Fm.rf).tr ((fr_X10_sizesOf g8).mono rfl)
        exact (f_σ7).tr (frj_X10_findShares_39 N (l_X10_findShares_12 N n) ih _ _ _ _ _ _ _ _ h)
      · exact (Fm.rf).tr (frj_X10_findShares_39 N (l_X10_findShares_12 N n) ih _ _ _ _ _ _ _ _ h)
theorem fr_X10_findShares {N : Nat} {a1 : Int32} {σ : St} {v : Unit} {w : St} (h : o_X10_findShares N a1 σ = some (v, w)) : Fm [100, 101] σ w := by
  unfold o_X10_findShares at h
  obtain ⟨_, -, h⟩ := bt_elim h
  exact (Fm.rf).tr (frl_X10_findShares_12 N N _ _ _ _ _ _ _ h)
theorem fr_X10_share {N : Nat} {a1 : Int32} {σ : St} {v : Int32} {w : St} (h : o_X10_share N a1 σ = some (v, w)) : Fm [100, 101] σ w := by
  unfold o_X10_share at h
  obtain ⟨x1, σ2, g3, h⟩ := bd_elim h
  have f_σ2 : Fm [100, 101] σ σ2 := (Fm.rf).tr ((fr_X10_isKeeper g3).mono rfl)
  rcases ite_elim h with h | h
  · obtain ⟨-, h⟩ := oeq h
    rw [← h]
    exact f_σ2
  · obtain ⟨-, h⟩ := ckA_elim h
    obtain ⟨u6, σ7, g8, h⟩ := bd_elim h
    have f_σ7 : Fm [100, 101] σ σ7 := (f_σ2).tr ((fr_X10_findShares g8).mono rfl)
    obtain ⟨-, h⟩ := ckA_elim h
    obtain ⟨-, h⟩ := oeq h
    rw [← h]
    exact f_σ7
theorem frj_X9_let_114 (N : Nat) (K_59 : Int32 → Int32 → Int32 → Int32 → Int32 → Int32 → Int32 → St → Option (Int32 × St)) (hK_59 : ∀ (v2 : Int32) (v3 : Int32) (v4 : Int32) (v5 : Int32) (v6 : Int32) (v7 : Int32) (v8 : Int32) (σ : St) (v : Int32) (w : St), K_59 v2 v3 v4 v5 v6 v7 v8 σ = some (v, w) → Fm [] σ w) (v2 : Int32) (v3 : Int32) (v4 : Int32) (v5 : Int32) (v6 : Int32) (v7 : Int32) (v8 : Int32) (σ : St) (v : Int32) (w : St) (h : j_X9_let_114 N K_59 v2 v3 v4 v5 v6 v7 v8 σ = some (v, w)) : Fm [] σ w := by
  unfold j_X9_let_114 at h
  obtain ⟨_, -, h⟩ := bt_elim h
  exact (Fm.rf).tr (hK_59 _ _ _ _ _ _ _ _ _ _ h)
theorem frj_X9_let_102 (N : Nat) (K_59 : Int32 → Int32 → Int32 → Int32 → Int32 → Int32 → Int32 → St → Option (Int32 × St)) (hK_59 : ∀ (v2 : Int32) (v3 : Int32) (v4 : Int32) (v5 : Int32) (v6 : Int32) (v7 : Int32) (v8 : Int32) (σ : St) (v : Int32) (w : St), K_59 v2 v3 v4 v5 v6 v7 v8 σ = some (v, w) → Fm [] σ w) (v2 : Int32) (v3 : Int32) (v4 : Int32) (v5 : Int32) (v7 : Int32) (v8 : Int32) (s0 : Int32) (σ : St) (v : Int32) (w : St) (h : j_X9_let_102 N K_59 v2 v3 v4 v5 v7 v8 s0 σ = some (v, w)) : Fm [] σ w := by
  unfold j_X9_let_102 at h
  obtain ⟨_, -, h⟩ := bt_elim h
  obtain ⟨_, -, h⟩ := bt_elim h
  exact (Fm.rf).tr (frj_X9_let_114 N K_59 hK_59 _ _ _ _ _ _ _ _ _ _ h)
theorem frl_X9_let_59 (N : Nat) : ∀ (n : Nat) (v2 : Int32) (v3 : Int32) (v4 : Int32) (v5 : Int32) (v6 : Int32) (v7 : Int32) (v8 : Int32) (σ : St) (v : Int32) (w : St), l_X9_let_59 N n v2 v3 v4 v5 v6 v7 v8 σ = some (v, w) → Fm [] σ w := by
  intro n
  induction n with
  | zero =>
    intro v2 v3 v4 v5 v6 v7 v8 σ v w h
    rw [l_X9_let_59] at h
    cases h
  | succ n ih =>
    intro v2 v3 v4 v5 v6 v7 v8 σ v w h
    rw [l_X9_let_59] at h
    rcases ite_elim h with h | h
    · rcases ite_elim h with h | h
      · obtain ⟨-, h⟩ := oeq h
        rw [← h]
        exact Fm.rf
      · rcases ite_elim h with h | h
        · obtain ⟨-, h⟩ := oeq h
          rw [← h]
          exact Fm.rf
        · rcases ite_elim h with h | h
          · obtain ⟨-, h⟩ := oeq h
            rw [← h]
            exact Fm.rf
          · obtain ⟨-, h⟩ := oeq h
            rw [← h]
            exact Fm.rf
    · rcases ite_elim h with h | h
      · obtain ⟨x6, σ7, g8, h⟩ := bd_elim h
        have f_σ7 : Fm [] σ σ7 := (Fm.rf).tr ((fr_X5_sizesIn g8).mono rfl)
        rcases ite_elim h with h | h
        · rcases ite_elim h with h | h
          · exact (f_σ7).tr (frj_X9_let_102 N (l_X9_let_59 N n) ih _ _ _ _ _ _ _ _ _ _ h)
          · exact (f_σ7).tr (frj_X9_let_102 N (l_X9_let_59 N n) ih _ _ _ _ _ _ _ _ _ _ h)
        · exact (f_σ7).tr (frj_X9_let_114 N (l_X9_let_59 N n) ih _ _ _ _ _ _ _ _ _ _ h)
      · exact (Fm.rf).tr (frj_X9_let_114 N (l_X9_let_59 N n) ih _ _ _ _ _ _ _ _ _ _ h)
theorem fr_X9_let {N : Nat} {a1 : Int32} {a2 : Int32} {a3 : Int32} {σ : St} {v : Int32} {w : St} (h : o_X9_let N a1 a2 a3 σ = some (v, w)) : Fm [] σ w := by
  unfold o_X9_let at h
  rcases ite_elim h with h | h
  · obtain ⟨-, h⟩ := oeq h
    rw [← h]
    exact Fm.rf
  · rcases ite_elim h with h | h
    · obtain ⟨-, h⟩ := oeq h
      rw [← h]
      exact Fm.rf
    · rcases ite_elim h with h | h
      · obtain ⟨-, h⟩ := oeq h
        rw [← h]
        exact Fm.rf
      · rcases ite_elim h with h | h
        · obtain ⟨-, h⟩ := oeq h
          rw [← h]
          exact Fm.rf
        · rcases ite_elim h with h | h
          · obtain ⟨x6, σ7, g8, h⟩ := bd_elim h
            have f_σ7 : Fm [] σ σ7 := (Fm.rf).tr ((fr_X1_heldBy g8).mono rfl)
            exact (f_σ7).tr (frl_X9_let_59 N N _ _ _ _ _ _ _ _ _ _ h)
          · obtain ⟨-, h⟩ := oeq h
            rw [← h]
            exact Fm.rf
theorem frj_X10_let_104 (N : Nat) (K_58 : Int32 → Int32 → Int32 → Int32 → Int32 → Int32 → Int32 → St → Option (Int32 × St)) (K_72 : Int32 → Int32 → Int32 → Int32 → Int32 → Int32 → Int32 → Int32 → Int32 → St → Option (Int32 × St)) (hK_58 : ∀ (v2 : Int32) (v3 : Int32) (v4 : Int32) (v5 : Int32) (v6 : Int32) (v7 : Int32) (v8 : Int32) (σ : St) (v : Int32) (w : St), K_58 v2 v3 v4 v5 v6 v7 v8 σ = some (v, w) → Fm [] σ w) (hK_72 : ∀ (v2 : Int32) (v3 : Int32) (v4 : Int32) (v5 : Int32) (v6 : Int32) (v7 : Int32) (v8 : Int32) (v9 : Int32) (v10 : Int32) (σ : St) (v : Int32) (w : St), K_72 v2 v3 v4 v5 v6 v7 v8 v9 v10 σ = some (v, w) → Fm [] σ w) (v2 : Int32) (v3 : Int32) (v4 : Int32) (v5 : Int32) (v6 : Int32) (v7 : Int32) (v8 : Int32) (v10 : Int32) (s0 : Int32) (s1 : Int32) (σ : St) (v : Int32) (w : St) (h : j_X10_let_104 N K_58 K_72 v2 v3 v4 v5 v6 v7 v8 v10 s0 s1 σ = some (v, w)) : Fm [] σ w := by
  unfold j_X10_let_104 at h
  obtain ⟨_, -, h⟩ := bt_elim h
  obtain ⟨_, -, h⟩ := bt_elim h
  exact (Fm.rf).tr (hK_72 _ _ _ _ _ _ _ _ _ _ _ _ h)
theorem frj_X10_let_153 (N : Nat) (K_58 : Int32 → Int32 → Int32 → Int32 → Int32 → Int32 → Int32 → St → Option (Int32 × St)) (hK_58 : ∀ (v2 : Int32) (v3 : Int32) (v4 : Int32) (v5 : Int32) (v6 : Int32) (v7 : Int32) (v8 : Int32) (σ : St) (v : Int32) (w : St), K_58 v2 v3 v4 v5 v6 v7 v8 σ = some (v, w) → Fm [] σ w) (v2 : Int32) (v3 : Int32) (v4 : Int32) (v5 : Int32) (v6 : Int32) (v7 : Int32) (v8 : Int32) (σ : St) (v : Int32) (w : St) (h : j_X10_let_153 N K_58 v2 v3 v4 v5 v6 v7 v8 σ = some (v, w)) : Fm [] σ w := by
  unfold j_X10_let_153 at h
  obtain ⟨_, -, h⟩ := bt_elim h
  exact (Fm.rf).tr (hK_58 _ _ _ _ _ _ _ _ _ _ h)
theorem frj_X10_let_141 (N : Nat) (K_58 : Int32 → Int32 → Int32 → Int32 → Int32 → Int32 → Int32 → St → Option (Int32 × St)) (hK_58 : ∀ (v2 : Int32) (v3 : Int32) (v4 : Int32) (v5 : Int32) (v6 : Int32) (v7 : Int32) (v8 : Int32) (σ : St) (v : Int32) (w : St), K_58 v2 v3 v4 v5 v6 v7 v8 σ = some (v, w) → Fm [] σ w) (v2 : Int32) (v3 : Int32) (v4 : Int32) (v5 : Int32) (v7 : Int32) (v8 : Int32) (s0 : Int32) (σ : St) (v : Int32) (w : St) (h : j_X10_let_141 N K_58 v2 v3 v4 v5 v7 v8 s0 σ = some (v, w)) : Fm [] σ w := by
  unfold j_X10_let_141 at h
  obtain ⟨_, -, h⟩ := bt_elim h
  obtain ⟨_, -, h⟩ := bt_elim h
  exact (Fm.rf).tr (frj_X10_let_153 N K_58 hK_58 _ _ _ _ _ _ _ _ _ _ h)
theorem frl_X10_let_72 (N : Nat) (K_58 : Int32 → Int32 → Int32 → Int32 → Int32 → Int32 → Int32 → St → Option (Int32 × St)) (hK_58 : ∀ (v2 : Int32) (v3 : Int32) (v4 : Int32) (v5 : Int32) (v6 : Int32) (v7 : Int32) (v8 : Int32) (σ : St) (v : Int32) (w : St), K_58 v2 v3 v4 v5 v6 v7 v8 σ = some (v, w) → Fm [] σ w) : ∀ (n : Nat) (v2 : Int32) (v3 : Int32) (v4 : Int32) (v5 : Int32) (v6 : Int32) (v7 : Int32) (v8 : Int32) (v9 : Int32) (v10 : Int32) (σ : St) (v : Int32) (w : St), l_X10_let_72 N K_58 n v2 v3 v4 v5 v6 v7 v8 v9 v10 σ = some (v, w) → Fm [] σ w := by
  intro n
  induction n with
  | zero =>
    intro v2 v3 v4 v5 v6 v7 v8 v9 v10 σ v w h
    rw [l_X10_let_72] at h
    cases h
  | succ n ih =>
    intro v2 v3 v4 v5 v6 v7 v8 v9 v10 σ v w h
    rw [l_X10_let_72] at h
    rcases ite_elim h with h | h
    · rcases ite_elim h with h | h
      · rcases ite_elim h with h | h
        · rcases ite_elim h with h | h
          · exact (Fm.rf).tr (frj_X10_let_141 N K_58 hK_58 _ _ _ _ _ _ _ _ _ _ h)
          · exact (Fm.rf).tr (frj_X10_let_141 N K_58 hK_58 _ _ _ _ _ _ _ _ _ _ h)
        · exact (Fm.rf).tr (frj_X10_let_153 N K_58 hK_58 _ _ _ _ _ _ _ _ _ _ h)
      · exact (Fm.rf).tr (frj_X10_let_153 N K_58 hK_58 _ _ _ _ _ _ _ _ _ _ h)
    · rcases ite_elim h with h | h
      · exact (Fm.rf).tr (frj_X10_let_104 N K_58 (l_X10_let_72 N K_58 n) hK_58 ih _ _ _ _ _ _ _ _ _ _ _ _ _ h)
      · obtain ⟨-, h⟩ := ckA_elim h
        exact (Fm.rf).tr (frj_X10_let_104 N K_58 (l_X10_let_72 N K_58 n) hK_58 ih _ _ _ _ _ _ _ _ _ _ _ _ _ h)
theorem frl_X10_let_58 (N : Nat) : ∀ (n : Nat) (v2 : Int32) (v3 : Int32) (v4 : Int32) (v5 : Int32) (v6 : Int32) (v7 : Int32) (v8 : Int32) (σ : St) (v : Int32) (w : St), l_X10_let_58 N n v2 v3 v4 v5 v6 v7 v8 σ = some (v, w) → Fm [] σ w := by
  intro n
  induction n with
  | zero =>
    intro v2 v3 v4 v5 v6 v7 v8 σ v w h
    rw [l_X10_let_58] at h
    cases h
  | succ n ih =>
    intro v2 v3 v4 v5 v6 v7 v8 σ v w h
    rw [l_X10_let_58] at h
    rcases ite_elim h with h | h
    · rcases ite_elim h with h | h
      · obtain ⟨-, h⟩ := oeq h
        rw [← h]
        exact Fm.rf
      · rcases ite_elim h with h | h
        · obtain ⟨-, h⟩ := oeq h
          rw [← h]
          exact Fm.rf
        · rcases ite_elim h with h | h
          · obtain ⟨-, h⟩ := oeq h
            rw [← h]
            exact Fm.rf
          · obtain ⟨-, h⟩ := oeq h
            rw [← h]
            exact Fm.rf
    · exact (Fm.rf).tr (frl_X10_let_72 N (l_X10_let_58 N n) ih N _ _ _ _ _ _ _ _ _ _ _ _ h)
theorem fr_X10_let {N : Nat} {a1 : Int32} {a2 : Int32} {a3 : Int32} {σ : St} {v : Int32} {w : St} (h : o_X10_let N a1 a2 a3 σ = some (v, w)) : Fm [] σ w := by
  unfold o_X10_let at h
  obtain ⟨x1, σ2, g3, h⟩ := bd_elim h
  have f_σ2 : Fm [] σ σ2 := (Fm.rf).tr ((fr_X10_isKeeper g3).mono rfl)
  rcases ite_elim h with h | h
  · obtain ⟨-, h⟩ := oeq h
    rw [← h]
    exact f_σ2
  · rcases ite_elim h with h | h
    · obtain ⟨-, h⟩ := oeq h
      rw [← h]
      exact f_σ2
    · rcases ite_elim h with h | h
      · obtain ⟨-, h⟩ := oeq h
        rw [← h]
        exact f_σ2
      · obtain ⟨x7, σ8, g9, h⟩ := bd_elim h
        have f_σ8 : Fm [] σ σ8 := (f_σ2).tr ((fr_X10_ofKeeper g9).mono rfl)
        exact (f_σ8).tr (frl_X10_let_58 N N _ _ _ _ _ _ _ _ _ _ h)
theorem fr_X0_add (a1 : Int32) (a2 : Int32) (σ : St) (q : Int32 × St) (h : t_X0_add a1 a2 σ = q) : Fm [74, 75, 76] σ q.2 := by
  unfold t_X0_add at h
  obtain ⟨σ1, e9, h⟩ := bt_elim h
  have f_σ1 : Fm [74, 75, 76] σ σ1 := (Fm.rf).tr (by rw [e9]; exact Fm.put (by decide))
  obtain ⟨σ2, e9, h⟩ := bt_elim h
  have f_σ2 : Fm [74, 75, 76] σ σ2 := (f_σ1).tr (by rw [e9]; exact Fm.put (by decide))
  obtain ⟨σ3, e9, h⟩ := bt_elim h
  have f_σ3 : Fm [74, 75, 76] σ σ3 := (f_σ2).tr (by rw [e9]; exact Fm.st (by decide))
  rw [← h]
  exact f_σ3
theorem fr_X9_write (a1 : Int32) (a2 : Int32) (σ : St) (q : Int32 × St) (h : t_X9_write a1 a2 σ = q) : Fm [74, 75, 76] σ q.2 := by
  unfold t_X9_write at h
  rcases ite_elim h with h | h
  · rw [← h]
    exact Fm.rf
  · rcases ite_elim h with h | h
    · rw [← h]
      exact Fm.rf
    · rcases ite_elim h with h | h
      · rcases ite_elim h with h | h
        · obtain ⟨q5, e9, h⟩ := bt_elim h
          have f_q5 : Fm [74, 75, 76] σ q5.2 := (Fm.rf).tr (by rw [e9]; exact (fr_X0_add _ _ _ _ rfl).mono rfl)
          rw [← h]
          exact f_q5
        · rw [← h]
          exact Fm.rf
      · rw [← h]
        exact Fm.rf
theorem fr_X10_write {N : Nat} {a1 : Int32} {a2 : Int32} {σ : St} {v : Int32} {w : St} (h : o_X10_write N a1 a2 σ = some (v, w)) : Fm [79, 102, 103] σ w := by
  unfold o_X10_write at h
  obtain ⟨x1, σ2, g3, h⟩ := bd_elim h
  have f_σ2 : Fm [79, 102, 103] σ σ2 := (Fm.rf).tr ((fr_X10_isPromise g3).mono rfl)
  rcases ite_elim h with h | h
  · obtain ⟨-, h⟩ := oeq h
    rw [← h]
    exact f_σ2
  · rcases ite_elim h with h | h
    · obtain ⟨-, h⟩ := oeq h
      rw [← h]
      exact f_σ2
    · rcases ite_elim h with h | h
      · obtain ⟨-, h⟩ := oeq h
        rw [← h]
        exact f_σ2
      · obtain ⟨-, h⟩ := ckA_elim h
        obtain ⟨σ8, e9, h⟩ := bt_elim h
        have f_σ8 : Fm [79, 102, 103] σ σ8 := (f_σ2).tr (by rw [e9]; exact Fm.st (by decide))
        obtain ⟨-, h⟩ := ckA_elim h
        obtain ⟨σ10, e9, h⟩ := bt_elim h
        have f_σ10 : Fm [79, 102, 103] σ σ10 := (f_σ8).tr (by rw [e9]; exact Fm.st (by decide))
        obtain ⟨σ11, e9, h⟩ := bt_elim h
        have f_σ11 : Fm [79, 102, 103] σ σ11 := (f_σ10).tr (by rw [e9]; exact Fm.st (by decide))
        obtain ⟨-, h⟩ := oeq h
        rw [← h]
        exact f_σ11
theorem fr_X1_ripeOn_77 {N : Nat} {a1 : Int32} {σ : St} {v : Int32} {w : St} (h : o_X1_ripeOn_77 N a1 σ = some (v, w)) : Fm [] σ w := by
  unfold o_X1_ripeOn_77 at h
  obtain ⟨_, -, h⟩ := bt_elim h
  rcases ite_elim h with h | h
  · obtain ⟨-, h⟩ := oeq h
    rw [← h]
    exact Fm.rf
  · obtain ⟨x3, σ4, g5, h⟩ := bd_elim h
    have f_σ4 : Fm [] σ σ4 := (Fm.rf).tr ((fr_X5_ripeDay g5).mono rfl)
    obtain ⟨-, h⟩ := oeq h
    rw [← h]
    exact f_σ4
theorem frj_X1_mayBeKeptOn_77_37 (N : Nat)  (σ : St) (v : Int32) (w : St) (h : j_X1_mayBeKeptOn_77_37 N  σ = some (v, w)) : Fm [] σ w := by
  unfold j_X1_mayBeKeptOn_77_37 at h
  obtain ⟨-, h⟩ := oeq h
  rw [← h]
  exact Fm.rf
theorem fr_X1_mayBeKeptOn_77 {N : Nat} {a1 : Int32} {a2 : Int32} {σ : St} {v : Int32} {w : St} (h : o_X1_mayBeKeptOn_77 N a1 a2 σ = some (v, w)) : Fm [] σ w := by
  unfold o_X1_mayBeKeptOn_77 at h
  obtain ⟨x1, σ2, g3, h⟩ := bd_elim h
  have f_σ2 : Fm [] σ σ2 := (Fm.rf).tr ((fr_X1_ripeOn_77 g3).mono rfl)
  rcases ite_elim h with h | h
  · exact (f_σ2).tr (frj_X1_mayBeKeptOn_77_37 N _ _ _ h)
  · rcases ite_elim h with h | h
    · exact (f_σ2).tr (frj_X1_mayBeKeptOn_77_37 N _ _ _ h)
    · rcases ite_elim h with h | h
      · exact (f_σ2).tr (frj_X1_mayBeKeptOn_77_37 N _ _ _ h)
      · obtain ⟨-, h⟩ := oeq h
        rw [← h]
        exact f_σ2
theorem frj_X0_canBeKept_99 (N : Nat)  (σ : St) (v : Int32) (w : St) (h : j_X0_canBeKept_99 N  σ = some (v, w)) : Fm [] σ w := by
  unfold j_X0_canBeKept_99 at h
  obtain ⟨-, h⟩ := oeq h
  rw [← h]
  exact Fm.rf
theorem fr_X0_canBeKept {N : Nat} {a1 : Int32} {a2 : Int32} {σ : St} {v : Int32} {w : St} (h : o_X0_canBeKept N a1 a2 σ = some (v, w)) : Fm [] σ w := by
  unfold o_X0_canBeKept at h
  obtain ⟨_, -, h⟩ := bt_elim h
  obtain ⟨_, -, h⟩ := bt_elim h
  obtain ⟨_, -, h⟩ := bt_elim h
  rcases ite_elim h with h | h
  · exact (Fm.rf).tr (frj_X0_canBeKept_99 N _ _ _ h)
  · obtain ⟨x5, σ6, g7, h⟩ := bd_elim h
    have f_σ6 : Fm [] σ σ6 := (Fm.rf).tr ((fr_X1_mayBeKeptOn_77 g7).mono rfl)
    rcases ite_elim h with h | h
    · exact (f_σ6).tr (frj_X0_canBeKept_99 N _ _ _ h)
    · rcases ite_elim h with h | h
      · exact (f_σ6).tr (frj_X0_canBeKept_99 N _ _ _ h)
      · rcases ite_elim h with h | h
        · exact (f_σ6).tr (frj_X0_canBeKept_99 N _ _ _ h)
        · obtain ⟨-, h⟩ := oeq h
          rw [← h]
          exact f_σ6
theorem fr_X1_end_77 (a1 : Int32) (a2 : Int32) (a3 : Int32) (σ : St) (q : St) (h : t_X1_end_77 a1 a2 a3 σ = q) : Fm [78] σ q := by
  unfold t_X1_end_77 at h
  obtain ⟨σ1, e9, h⟩ := bt_elim h
  have f_σ1 : Fm [78] σ σ1 := (Fm.rf).tr (by rw [e9]; exact Fm.put (by decide))
  obtain ⟨σ2, e9, h⟩ := bt_elim h
  have f_σ2 : Fm [78] σ σ2 := (f_σ1).tr (by rw [e9]; exact Fm.put (by decide))
  rw [← h]
  exact f_σ2
theorem fr_X1_sendTo_77 (a1 : Int32) (a2 : Int32) (a3 : Int32) (σ : St) (q : St) (h : t_X1_sendTo_77 a1 a2 a3 σ = q) : Fm [78] σ q := by
  unfold t_X1_sendTo_77 at h
  obtain ⟨σ1, e9, h⟩ := bt_elim h
  have f_σ1 : Fm [78] σ σ1 := (Fm.rf).tr (by rw [e9]; exact Fm.put (by decide))
  obtain ⟨σ2, e9, h⟩ := bt_elim h
  have f_σ2 : Fm [78] σ σ2 := (f_σ1).tr (by rw [e9]; exact Fm.put (by decide))
  rw [← h]
  exact f_σ2
theorem frl_X0_firstWrong_21 (N : Nat) : ∀ (n : Nat) (v2 : Int32) (v3 : Int32) (σ : St) (v : Int32) (w : St), l_X0_firstWrong_21 N n v2 v3 σ = some (v, w) → Fm [78] σ w := by
  intro n
  induction n with
  | zero =>
    intro v2 v3 σ v w h
    rw [l_X0_firstWrong_21] at h
    cases h
  | succ n ih =>
    intro v2 v3 σ v w h
    rw [l_X0_firstWrong_21] at h
    rcases ite_elim h with h | h
    · obtain ⟨-, h⟩ := oeq h
      rw [← h]
      exact Fm.rf
    · obtain ⟨_, -, h⟩ := bt_elim h
      obtain ⟨_, -, h⟩ := bt_elim h
      rcases ite_elim h with h | h
      · obtain ⟨-, h⟩ := oeq h
        rw [← h]
        exact Fm.rf
      · obtain ⟨x5, σ6, g7, h⟩ := bd_elim h
        have f_σ6 : Fm [78] σ σ6 := (Fm.rf).tr ((fr_X0_canBeKept g7).mono rfl)
        rcases ite_elim h with h | h
        · obtain ⟨-, h⟩ := oeq h
          rw [← h]
          exact f_σ6
        · obtain ⟨σ9, e9, h⟩ := bt_elim h
          have f_σ9 : Fm [78] σ σ9 := (f_σ6).tr (by rw [e9]; exact (fr_X1_end_77 _ _ _ _ _ rfl).mono rfl)
          obtain ⟨σ10, e9, h⟩ := bt_elim h
          have f_σ10 : Fm [78] σ σ10 := (f_σ9).tr (by rw [e9]; exact (fr_X1_sendTo_77 _ _ _ _ _ rfl).mono rfl)
          obtain ⟨_, -, h⟩ := bt_elim h
          exact (f_σ10).tr (ih _ _ _ _ _ h)
theorem fr_X0_firstWrong {N : Nat}  {σ : St} {v : Int32} {w : St} (h : o_X0_firstWrong N  σ = some (v, w)) : Fm [78] σ w := by
  unfold o_X0_firstWrong at h
  obtain ⟨σ1, e9, h⟩ := bt_elim h
  have f_σ1 : Fm [78] σ σ1 := (Fm.rf).tr (by rw [e9]; exact Fm.cpS (by decide))
  obtain ⟨_, -, h⟩ := bt_elim h
  exact (f_σ1).tr (frl_X0_firstWrong_21 N N _ _ _ _ _ h)
theorem fr_X9_judge {N : Nat}  {σ : St} {v : Int32} {w : St} (h : o_X9_judge N  σ = some (v, w)) : Fm [78] σ w := by
  unfold o_X9_judge at h
  obtain ⟨x1, σ2, g3, h⟩ := bd_elim h
  have f_σ2 : Fm [78] σ σ2 := (Fm.rf).tr ((fr_X0_firstWrong g3).mono rfl)
  obtain ⟨-, h⟩ := oeq h
  rw [← h]
  exact f_σ2
theorem frj_X10_keepsSo_263 (N : Nat) (K_216 : Int32 → Int32 → Int32 → Int32 → Int32 → St → Option (Int32 × St)) (hK_216 : ∀ (v1 : Int32) (v2 : Int32) (v3 : Int32) (v7 : Int32) (v8 : Int32) (σ : St) (v : Int32) (w : St), K_216 v1 v2 v3 v7 v8 σ = some (v, w) → Fm [80] σ w) (v1 : Int32) (v2 : Int32) (v3 : Int32) (v7 : Int32) (v8 : Int32) (s1 : Int32) (s2 : Int32) (σ : St) (v : Int32) (w : St) (h : j_X10_keepsSo_263 N K_216 v1 v2 v3 v7 v8 s1 s2 σ = some (v, w)) : Fm [80] σ w := by
  unfold j_X10_keepsSo_263 at h
  obtain ⟨-, h⟩ := ckA_elim h
  obtain ⟨σ2, e9, h⟩ := bt_elim h
  have f_σ2 : Fm [80] σ σ2 := (Fm.rf).tr (by rw [e9]; exact Fm.st (by decide))
  obtain ⟨_, -, h⟩ := bt_elim h
  exact (f_σ2).tr (hK_216 _ _ _ _ _ _ _ _ h)
theorem frl_X10_keepsSo_216 (N : Nat) : ∀ (n : Nat) (v1 : Int32) (v2 : Int32) (v3 : Int32) (v7 : Int32) (v8 : Int32) (σ : St) (v : Int32) (w : St), l_X10_keepsSo_216 N n v1 v2 v3 v7 v8 σ = some (v, w) → Fm [80] σ w := by
  intro n
  induction n with
  | zero =>
    intro v1 v2 v3 v7 v8 σ v w h
    rw [l_X10_keepsSo_216] at h
    cases h
  | succ n ih =>
    intro v1 v2 v3 v7 v8 σ v w h
    rw [l_X10_keepsSo_216] at h
    rcases ite_elim h with h | h
    · obtain ⟨-, h⟩ := ckB_elim h
      obtain ⟨-, h⟩ := oeq h
      rw [← h]
      exact Fm.rf
    · obtain ⟨-, h⟩ := ckA_elim h
      rcases ite_elim h with h | h
      · exact (Fm.rf).tr (frj_X10_keepsSo_263 N (l_X10_keepsSo_216 N n) ih _ _ _ _ _ _ _ _ _ _ h)
      · obtain ⟨-, h⟩ := ckA_elim h
        exact (Fm.rf).tr (frj_X10_keepsSo_263 N (l_X10_keepsSo_216 N n) ih _ _ _ _ _ _ _ _ _ _ h)
theorem frj_X10_keepsSo_171 (N : Nat) (v1 : Int32) (v2 : Int32) (v3 : Int32) (v4 : Int32) (s0 : Int32) (σ : St) (v : Int32) (w : St) (h : j_X10_keepsSo_171 N v1 v2 v3 v4 s0 σ = some (v, w)) : Fm [80] σ w := by
  unfold j_X10_keepsSo_171 at h
  obtain ⟨-, h⟩ := ckA_elim h
  obtain ⟨σ2, e9, h⟩ := bt_elim h
  have f_σ2 : Fm [80] σ σ2 := (Fm.rf).tr (by rw [e9]; exact Fm.st (by decide))
  obtain ⟨-, h⟩ := ckA_elim h
  obtain ⟨-, h⟩ := ckA_elim h
  obtain ⟨σ5, e9, h⟩ := bt_elim h
  have f_σ5 : Fm [80] σ σ5 := (f_σ2).tr (by rw [e9]; exact Fm.st (by decide))
  obtain ⟨-, h⟩ := ckA_elim h
  obtain ⟨σ7, e9, h⟩ := bt_elim h
  have f_σ7 : Fm [80] σ σ7 := (f_σ5).tr (by rw [e9]; exact Fm.st (by decide))
  exact (f_σ7).tr (frl_X10_keepsSo_216 N N _ _ _ _ _ _ _ _ h)
theorem frj_X10_keepsSo_170 (N : Nat) (v1 : Int32) (v2 : Int32) (v3 : Int32) (v4 : Int32) (σ : St) (v : Int32) (w : St) (h : j_X10_keepsSo_170 N v1 v2 v3 v4 σ = some (v, w)) : Fm [80] σ w := by
  unfold j_X10_keepsSo_170 at h
  exact (Fm.rf).tr (frj_X10_keepsSo_171 N _ _ _ _ _ _ _ _ h)
theorem frj_X10_keepsSo_136 (N : Nat) (v1 : Int32) (v2 : Int32) (v3 : Int32) (v4 : Int32) (s0 : Int32) (σ : St) (v : Int32) (w : St) (h : j_X10_keepsSo_136 N v1 v2 v3 v4 s0 σ = some (v, w)) : Fm [80] σ w := by
  unfold j_X10_keepsSo_136 at h
  rcases ite_elim h with h | h
  · exact (Fm.rf).tr (frj_X10_keepsSo_170 N _ _ _ _ _ _ _ h)
  · obtain ⟨x2, σ3, g4, h⟩ := bd_elim h
    have f_σ3 : Fm [80] σ σ3 := (Fm.rf).tr ((fr_X10_ripe g4).mono rfl)
    obtain ⟨-, h⟩ := ckA_elim h
    rcases ite_elim h with h | h
    · exact (f_σ3).tr (frj_X10_keepsSo_170 N _ _ _ _ _ _ _ h)
    · exact (f_σ3).tr (frj_X10_keepsSo_171 N _ _ _ _ _ _ _ _ h)
theorem frj_X10_keepsSo_135 (N : Nat) (v1 : Int32) (v2 : Int32) (v3 : Int32) (v4 : Int32) (σ : St) (v : Int32) (w : St) (h : j_X10_keepsSo_135 N v1 v2 v3 v4 σ = some (v, w)) : Fm [80] σ w := by
  unfold j_X10_keepsSo_135 at h
  exact (Fm.rf).tr (frj_X10_keepsSo_136 N _ _ _ _ _ _ _ _ h)
theorem frj_X10_keepsSo_60 (N : Nat) (v1 : Int32) (v2 : Int32) (v3 : Int32) (v4 : Int32) (s0 : Int32) (σ : St) (v : Int32) (w : St) (h : j_X10_keepsSo_60 N v1 v2 v3 v4 s0 σ = some (v, w)) : Fm [80] σ w := by
  unfold j_X10_keepsSo_60 at h
  obtain ⟨-, h⟩ := ckA_elim h
  obtain ⟨-, h⟩ := ckA_elim h
  obtain ⟨-, h⟩ := ckA_elim h
  obtain ⟨_, -, h⟩ := bt_elim h
  obtain ⟨-, h⟩ := ckA_elim h
  rcases ite_elim h with h | h
  · obtain ⟨-, h⟩ := ckA_elim h
    rcases ite_elim h with h | h
    · exact (Fm.rf).tr (frj_X10_keepsSo_135 N _ _ _ _ _ _ _ h)
    · rcases ite_elim h with h | h
      · exact (Fm.rf).tr (frj_X10_keepsSo_135 N _ _ _ _ _ _ _ h)
      · rcases ite_elim h with h | h
        · exact (Fm.rf).tr (frj_X10_keepsSo_135 N _ _ _ _ _ _ _ h)
        · exact (Fm.rf).tr (frj_X10_keepsSo_136 N _ _ _ _ _ _ _ _ h)
  · exact (Fm.rf).tr (frj_X10_keepsSo_135 N _ _ _ _ _ _ _ h)
theorem fr_X10_keepsSo {N : Nat} {a1 : Int32} {a2 : Int32} {σ : St} {v : Int32} {w : St} (h : o_X10_keepsSo N a1 a2 σ = some (v, w)) : Fm [80] σ w := by
  unfold o_X10_keepsSo at h
  obtain ⟨-, h⟩ := ckA_elim h
  obtain ⟨_, -, h⟩ := bt_elim h
  obtain ⟨-, h⟩ := ckA_elim h
  rcases ite_elim h with h | h
  · exact (Fm.rf).tr (frj_X10_keepsSo_60 N _ _ _ _ _ _ _ _ h)
  · obtain ⟨-, h⟩ := ckA_elim h
    exact (Fm.rf).tr (frj_X10_keepsSo_60 N _ _ _ _ _ _ _ _ h)
theorem frl_X10_judge_17 (N : Nat) : ∀ (n : Nat) (v1 : Int32) (v2 : Int32) (σ : St) (v : Int32) (w : St), l_X10_judge_17 N n v1 v2 σ = some (v, w) → Fm [80] σ w := by
  intro n
  induction n with
  | zero =>
    intro v1 v2 σ v w h
    rw [l_X10_judge_17] at h
    cases h
  | succ n ih =>
    intro v1 v2 σ v w h
    rw [l_X10_judge_17] at h
    rcases ite_elim h with h | h
    · obtain ⟨-, h⟩ := oeq h
      rw [← h]
      exact Fm.rf
    · obtain ⟨-, h⟩ := ckA_elim h
      rcases ite_elim h with h | h
      · obtain ⟨-, h⟩ := oeq h
        rw [← h]
        exact Fm.rf
      · obtain ⟨-, h⟩ := ckA_elim h
        obtain ⟨-, h⟩ := ckA_elim h
        obtain ⟨x6, σ7, g8, h⟩ := bd_elim h
        have f_σ7 : Fm [80] σ σ7 := (Fm.rf).tr ((fr_X10_keepsSo g8).mono rfl)
        rcases ite_elim h with h | h
        · obtain ⟨-, h⟩ := oeq h
          rw [← h]
          exact f_σ7
        · obtain ⟨-, h⟩ := ckA_elim h
          obtain ⟨_, -, h⟩ := bt_elim h
          obtain ⟨_, -, h⟩ := bt_elim h
          exact (f_σ7).tr (ih _ _ _ _ _ h)
theorem fr_X10_judge {N : Nat}  {σ : St} {v : Int32} {w : St} (h : o_X10_judge N  σ = some (v, w)) : Fm [80] σ w := by
  unfold o_X10_judge at h
  obtain ⟨u1, σ2, g3, h⟩ := bd_elim h
  have f_σ2 : Fm [80] σ σ2 := (Fm.rf).tr ((fr_X10_copy g3).mono rfl)
  obtain ⟨_, -, h⟩ := bt_elim h
  exact (f_σ2).tr (frl_X10_judge_17 N N _ _ _ _ _ h)
theorem fr_X9_tear  (σ : St) (q : Int32 × St) (h : t_X9_tear  σ = q) : Fm [74] σ q.2 := by
  unfold t_X9_tear at h
  obtain ⟨_, -, h⟩ := bt_elim h
  obtain ⟨σ2, e9, h⟩ := bt_elim h
  have f_σ2 : Fm [74] σ σ2 := (Fm.rf).tr (by rw [e9]; exact (fr_X0_empty  _ _ rfl).mono rfl)
  rw [← h]
  exact f_σ2
theorem fr_X10_tear  (σ : St) (q : Int32 × St) (h : t_X10_tear  σ = q) : Fm [79] σ q.2 := by
  unfold t_X10_tear at h
  obtain ⟨_, -, h⟩ := bt_elim h
  obtain ⟨σ2, e9, h⟩ := bt_elim h
  have f_σ2 : Fm [79] σ σ2 := (Fm.rf).tr (by rw [e9]; exact Fm.st (by decide))
  rw [← h]
  exact f_σ2
theorem fr_X9_seed (a1 : Int32) (σ : St) (q : Int32 × St) (h : t_X9_seed a1 σ = q) : Fm [62] σ q.2 := by
  unfold t_X9_seed at h
  rcases ite_elim h with h | h
  · obtain ⟨_, -, h⟩ := bt_elim h
    obtain ⟨σ3, e9, h⟩ := bt_elim h
    have f_σ3 : Fm [62] σ σ3 := (Fm.rf).tr (by rw [e9]; exact Fm.st (by decide))
    rw [← h]
    exact f_σ3
  · rw [← h]
    exact Fm.rf
theorem fr_X10_seed (a1 : Int32) (σ : St) (q : Int32 × St) (h : t_X10_seed a1 σ = q) : Fm [80] σ q.2 := by
  unfold t_X10_seed at h
  rcases ite_elim h with h | h
  · obtain ⟨_, -, h⟩ := bt_elim h
    obtain ⟨σ3, e9, h⟩ := bt_elim h
    have f_σ3 : Fm [80] σ σ3 := (Fm.rf).tr (by rw [e9]; exact Fm.st (by decide))
    rw [← h]
    exact f_σ3
  · rw [← h]
    exact Fm.rf
theorem fr_X4_take (a1 : Int32) (σ : St) (q : St) (h : t_X4_take a1 σ = q) : Fm [57, 59, 60, 61] σ q := by
  unfold t_X4_take at h
  obtain ⟨σ1, e9, h⟩ := bt_elim h
  have f_σ1 : Fm [57, 59, 60, 61] σ σ1 := (Fm.rf).tr (by rw [e9]; exact Fm.cpQ (by decide))
  obtain ⟨σ2, e9, h⟩ := bt_elim h
  have f_σ2 : Fm [57, 59, 60, 61] σ σ2 := (f_σ1).tr (by rw [e9]; exact Fm.put (by decide))
  obtain ⟨σ3, e9, h⟩ := bt_elim h
  have f_σ3 : Fm [57, 59, 60, 61] σ σ3 := (f_σ2).tr (by rw [e9]; exact Fm.st (by decide))
  rw [← h]
  exact f_σ3
theorem fr_X9_image (a1 : Int32) (σ : St) (q : Int32 × St) (h : t_X9_image a1 σ = q) : Fm [25, 57, 59, 60, 61] σ q.2 := by
  unfold t_X9_image at h
  rcases ite_elim h with h | h
  · rw [← h]
    exact Fm.rf
  · rcases ite_elim h with h | h
    · obtain ⟨σ3, e9, h⟩ := bt_elim h
      have f_σ3 : Fm [25, 57, 59, 60, 61] σ σ3 := (Fm.rf).tr (by rw [e9]; exact (fr_X4_take _ _ _ rfl).mono rfl)
      obtain ⟨σ4, e9, h⟩ := bt_elim h
      have f_σ4 : Fm [25, 57, 59, 60, 61] σ σ4 := (f_σ3).tr (by rw [e9]; exact (fr_X6_forget  _ _ rfl).mono rfl)
      rw [← h]
      exact f_σ4
    · rw [← h]
      exact Fm.rf
theorem fr_X10_image {N : Nat} {a1 : Int32} {σ : St} {v : Int32} {w : St} (h : o_X10_image N a1 σ = some (v, w)) : Fm [79, 80, 81] σ w := by
  unfold o_X10_image at h
  rcases ite_elim h with h | h
  · obtain ⟨-, h⟩ := oeq h
    rw [← h]
    exact Fm.rf
  · obtain ⟨u2, σ3, g4, h⟩ := bd_elim h
    have f_σ3 : Fm [79, 80, 81] σ σ3 := (Fm.rf).tr ((fr_X10_copy g4).mono rfl)
    obtain ⟨-, h⟩ := ckA_elim h
    obtain ⟨σ6, e9, h⟩ := bt_elim h
    have f_σ6 : Fm [79, 80, 81] σ σ6 := (f_σ3).tr (by rw [e9]; exact Fm.st (by decide))
    obtain ⟨σ7, e9, h⟩ := bt_elim h
    have f_σ7 : Fm [79, 80, 81] σ σ7 := (f_σ6).tr (by rw [e9]; exact Fm.st (by decide))
    obtain ⟨-, h⟩ := oeq h
    rw [← h]
    exact f_σ7
theorem fr_X4_giveBack (a1 : Int32) (σ : St) (q : Int32 × St) (h : t_X4_giveBack a1 σ = q) : Fm [24, 62] σ q.2 := by
  unfold t_X4_giveBack at h
  rcases ite_elim h with h | h
  · rw [← h]
    exact Fm.rf
  · obtain ⟨σ2, e9, h⟩ := bt_elim h
    have f_σ2 : Fm [24, 62] σ σ2 := (Fm.rf).tr (by rw [e9]; exact Fm.cpS (by decide))
    obtain ⟨σ3, e9, h⟩ := bt_elim h
    have f_σ3 : Fm [24, 62] σ σ3 := (f_σ2).tr (by rw [e9]; exact Fm.st (by decide))
    rw [← h]
    exact f_σ3
theorem fr_X9_goBack (a1 : Int32) (σ : St) (q : Int32 × St) (h : t_X9_goBack a1 σ = q) : Fm [24, 25, 62] σ q.2 := by
  unfold t_X9_goBack at h
  rcases ite_elim h with h | h
  · rw [← h]
    exact Fm.rf
  · rcases ite_elim h with h | h
    · obtain ⟨q3, e9, h⟩ := bt_elim h
      have f_q3 : Fm [24, 25, 62] σ q3.2 := (Fm.rf).tr (by rw [e9]; exact (fr_X4_giveBack _ _ _ rfl).mono rfl)
      rcases ite_elim h with h | h
      · rw [← h]
        exact f_q3
      · obtain ⟨σ5, e9, h⟩ := bt_elim h
        have f_σ5 : Fm [24, 25, 62] σ σ5 := (f_q3).tr (by rw [e9]; exact (fr_X6_forget  _ _ rfl).mono rfl)
        rw [← h]
        exact f_σ5
    · rw [← h]
      exact Fm.rf
theorem fr_X10_goBack {N : Nat} {a1 : Int32} {σ : St} {v : Int32} {w : St} (h : o_X10_goBack N a1 σ = some (v, w)) : Fm [79, 80] σ w := by
  unfold o_X10_goBack at h
  rcases ite_elim h with h | h
  · obtain ⟨-, h⟩ := oeq h
    rw [← h]
    exact Fm.rf
  · obtain ⟨-, h⟩ := ckA_elim h
    rcases ite_elim h with h | h
    · obtain ⟨-, h⟩ := oeq h
      rw [← h]
      exact Fm.rf
    · obtain ⟨u4, σ5, g6, h⟩ := bd_elim h
      have f_σ5 : Fm [79, 80] σ σ5 := (Fm.rf).tr ((fr_X10_copy g6).mono rfl)
      obtain ⟨σ7, e9, h⟩ := bt_elim h
      have f_σ7 : Fm [79, 80] σ σ7 := (f_σ5).tr (by rw [e9]; exact Fm.st (by decide))
      obtain ⟨-, h⟩ := oeq h
      rw [← h]
      exact f_σ7
theorem frj_L_law_958 (N : Nat) (L : Nat) (xs : Nat → Int32) (K_18 : Int32 → St → Option (Int32 × St)) (hK_18 : ∀ (v3 : Int32) (σ : St) (v : Int32) (w : St), K_18 v3 σ = some (v, w) → Fm [1, 2, 3, 4, 5, 6, 7, 8, 9, 10, 11, 12, 13, 14, 15, 16, 17, 18, 19, 20, 21, 22, 24, 25, 27, 28, 29, 30, 31, 32, 33, 34, 35, 36, 37, 38, 39, 40, 41, 42, 43, 44, 45, 46, 47, 48, 49, 50, 51, 52, 53, 54, 55, 56, 57, 59, 60, 61, 62, 63, 64, 65, 66, 67, 68, 70, 71, 72, 73, 74, 75, 76, 78, 79, 80, 81, 82, 83, 84, 85, 86, 87, 88, 89, 90, 91, 92, 93, 95, 96, 97, 98, 99, 100, 101, 102, 103] σ w) (v3 : Int32) (σ : St) (v : Int32) (w : St) (h : j_L_law_958 N L xs K_18 v3 σ = some (v, w)) : Fm [1, 2, 3, 4, 5, 6, 7, 8, 9, 10, 11, 12, 13, 14, 15, 16, 17, 18, 19, 20, 21, 22, 24, 25, 27, 28, 29, 30, 31, 32, 33, 34, 35, 36, 37, 38, 39, 40, 41, 42, 43, 44, 45, 46, 47, 48, 49, 50, 51, 52, 53, 54, 55, 56, 57, 59, 60, 61, 62, 63, 64, 65, 66, 67, 68, 70, 71, 72, 73, 74, 75, 76, 78, 79, 80, 81, 82, 83, 84, 85, 86, 87, 88, 89, 90, 91, 92, 93, 95, 96, 97, 98, 99, 100, 101, 102, 103] σ w := by
  unfold j_L_law_958 at h
  obtain ⟨_, -, h⟩ := bt_elim h
  exact (Fm.rf).tr (hK_18 _ _ _ _ h)
theorem frl_L_law_18 (N : Nat) (L : Nat) (xs : Nat → Int32) : ∀ (n : Nat) (v3 : Int32) (σ : St) (v : Int32) (w : St), l_L_law_18 N L xs n v3 σ = some (v, w) → Fm [1, 2, 3, 4, 5, 6, 7, 8, 9, 10, 11, 12, 13, 14, 15, 16, 17, 18, 19, 20, 21, 22, 24, 25, 27, 28, 29, 30, 31, 32, 33, 34, 35, 36, 37, 38, 39, 40, 41, 42, 43, 44, 45, 46, 47, 48, 49, 50, 51, 52, 53, 54, 55, 56, 57, 59, 60, 61, 62, 63, 64, 65, 66, 67, 68, 70, 71, 72, 73, 74, 75, 76, 78, 79, 80, 81, 82, 83, 84, 85, 86, 87, 88, 89, 90, 91, 92, 93, 95, 96, 97, 98, 99, 100, 101, 102, 103] σ w := by
  intro n
  induction n with
  | zero =>
    intro v3 σ v w h
    rw [l_L_law_18] at h
    cases h
  | succ n ih =>
    intro v3 σ v w h
    rw [l_L_law_18] at h
    rcases ite_elim h with h | h
    · obtain ⟨-, h⟩ := oeq h
      rw [← h]
      exact Fm.rf
    · obtain ⟨-, h⟩ := ckA_elim h
      rcases ite_elim h with h | h
      · obtain ⟨-, h⟩ := ckA_elim h
        obtain ⟨q5, e9, h⟩ := bt_elim h
        have f_q5 : Fm [1, 2, 3, 4, 5, 6, 7, 8, 9, 10, 11, 12, 13, 14, 15, 16, 17, 18, 19, 20, 21, 22, 24, 25, 27, 28, 29, 30, 31, 32, 33, 34, 35, 36, 37, 38, 39, 40, 41, 42, 43, 44, 45, 46, 47, 48, 49, 50, 51, 52, 53, 54, 55, 56, 57, 59, 60, 61, 62, 63, 64, 65, 66, 67, 68, 70, 71, 72, 73, 74, 75, 76, 78, 79, 80, 81, 82, 83, 84, 85, 86, 87, 88, 89, 90, 91, 92, 93, 95, 96, 97, 98, 99, 100, 101, 102, 103] σ q5.2 := (Fm.rf).tr (by rw [e9]; exact (fr_X9_feed _ _ _ rfl).mono rfl)
        obtain ⟨-, h⟩ := ckA_elim h
        obtain ⟨x7, σ8, g9, h⟩ := bd_elim h
        have f_σ8 : Fm [1, 2, 3, 4, 5, 6, 7, 8, 9, 10, 11, 12, 13, 14, 15, 16, 17, 18, 19, 20, 21, 22, 24, 25, 27, 28, 29, 30, 31, 32, 33, 34, 35, 36, 37, 38, 39, 40, 41, 42, 43, 44, 45, 46, 47, 48, 49, 50, 51, 52, 53, 54, 55, 56, 57, 59, 60, 61, 62, 63, 64, 65, 66, 67, 68, 70, 71, 72, 73, 74, 75, 76, 78, 79, 80, 81, 82, 83, 84, 85, 86, 87, 88, 89, 90, 91, 92, 93, 95, 96, 97, 98, 99, 100, 101, 102, 103] σ σ8 := (f_q5).tr ((fr_X10_feed g9).mono rfl)
        rcases ite_elim h with h | h
        · exact (f_σ8).tr (frj_L_law_958 N L xs (l_L_law_18 N L xs n) ih _ _ _ _ h)
        · obtain ⟨-, h⟩ := oeq h
          rw [← h]
          exact f_σ8
      · rcases ite_elim h with h | h
        · obtain ⟨x12, σ13, g14, h⟩ := bd_elim h
          have f_σ13 : Fm [1, 2, 3, 4, 5, 6, 7, 8, 9, 10, 11, 12, 13, 14, 15, 16, 17, 18, 19, 20, 21, 22, 24, 25, 27, 28, 29, 30, 31, 32, 33, 34, 35, 36, 37, 38, 39, 40, 41, 42, 43, 44, 45, 46, 47, 48, 49, 50, 51, 52, 53, 54, 55, 56, 57, 59, 60, 61, 62, 63, 64, 65, 66, 67, 68, 70, 71, 72, 73, 74, 75, 76, 78, 79, 80, 81, 82, 83, 84, 85, 86, 87, 88, 89, 90, 91, 92, 93, 95, 96, 97, 98, 99, 100, 101, 102, 103] σ σ13 := (Fm.rf).tr ((fr_X9_land g14).mono rfl)
          obtain ⟨x15, σ16, g17, h⟩ := bd_elim h
          have f_σ16 : Fm [1, 2, 3, 4, 5, 6, 7, 8, 9, 10, 11, 12, 13, 14, 15, 16, 17, 18, 19, 20, 21, 22, 24, 25, 27, 28, 29, 30, 31, 32, 33, 34, 35, 36, 37, 38, 39, 40, 41, 42, 43, 44, 45, 46, 47, 48, 49, 50, 51, 52, 53, 54, 55, 56, 57, 59, 60, 61, 62, 63, 64, 65, 66, 67, 68, 70, 71, 72, 73, 74, 75, 76, 78, 79, 80, 81, 82, 83, 84, 85, 86, 87, 88, 89, 90, 91, 92, 93, 95, 96, 97, 98, 99, 100, 101, 102, 103] σ σ16 := (f_σ13).tr ((fr_X10_land g17).mono rfl)
          rcases ite_elim h with h | h
          · exact (f_σ16).tr (frj_L_law_958 N L xs (l_L_law_18 N L xs n) ih _ _ _ _ h)
          · obtain ⟨-, h⟩ := oeq h
            rw [← h]
            exact f_σ16
        · rcases ite_elim h with h | h
          · rcases ite_elim h with h | h
            · exact (Fm.rf).tr (frj_L_law_958 N L xs (l_L_law_18 N L xs n) ih _ _ _ _ h)
            · obtain ⟨-, h⟩ := oeq h
              rw [← h]
              exact Fm.rf
          · rcases ite_elim h with h | h
            · obtain ⟨-, h⟩ := ckA_elim h
              obtain ⟨x23, σ24, g25, h⟩ := bd_elim h
              have f_σ24 : Fm [1, 2, 3, 4, 5, 6, 7, 8, 9, 10, 11, 12, 13, 14, 15, 16, 17, 18, 19, 20, 21, 22, 24, 25, 27, 28, 29, 30, 31, 32, 33, 34, 35, 36, 37, 38, 39, 40, 41, 42, 43, 44, 45, 46, 47, 48, 49, 50, 51, 52, 53, 54, 55, 56, 57, 59, 60, 61, 62, 63, 64, 65, 66, 67, 68, 70, 71, 72, 73, 74, 75, 76, 78, 79, 80, 81, 82, 83, 84, 85, 86, 87, 88, 89, 90, 91, 92, 93, 95, 96, 97, 98, 99, 100, 101, 102, 103] σ σ24 := (Fm.rf).tr ((fr_X9_told g25).mono rfl)
              obtain ⟨-, h⟩ := ckA_elim h
              obtain ⟨x27, σ28, g29, h⟩ := bd_elim h
              have f_σ28 : Fm [1, 2, 3, 4, 5, 6, 7, 8, 9, 10, 11, 12, 13, 14, 15, 16, 17, 18, 19, 20, 21, 22, 24, 25, 27, 28, 29, 30, 31, 32, 33, 34, 35, 36, 37, 38, 39, 40, 41, 42, 43, 44, 45, 46, 47, 48, 49, 50, 51, 52, 53, 54, 55, 56, 57, 59, 60, 61, 62, 63, 64, 65, 66, 67, 68, 70, 71, 72, 73, 74, 75, 76, 78, 79, 80, 81, 82, 83, 84, 85, 86, 87, 88, 89, 90, 91, 92, 93, 95, 96, 97, 98, 99, 100, 101, 102, 103] σ σ28 := (f_σ24).tr ((fr_X10_told g29).mono rfl)
              rcases ite_elim h with h | h
              · exact (f_σ28).tr (frj_L_law_958 N L xs (l_L_law_18 N L xs n) ih _ _ _ _ h)
              · obtain ⟨-, h⟩ := oeq h
                rw [← h]
                exact f_σ28
            · rcases ite_elim h with h | h
              · obtain ⟨-, h⟩ := ckA_elim h
                obtain ⟨-, h⟩ := ckA_elim h
                obtain ⟨-, h⟩ := ckA_elim h
                obtain ⟨-, h⟩ := ckA_elim h
                obtain ⟨x36, σ37, g38, h⟩ := bd_elim h
                have f_σ37 : Fm [1, 2, 3, 4, 5, 6, 7, 8, 9, 10, 11, 12, 13, 14, 15, 16, 17, 18, 19, 20, 21, 22, 24, 25, 27, 28, 29, 30, 31, 32, 33, 34, 35, 36, 37, 38, 39, 40, 41, 42, 43, 44, 45, 46, 47, 48, 49, 50, 51, 52, 53, 54, 55, 56, 57, 59, 60, 61, 62, 63, 64, 65, 66, 67, 68, 70, 71, 72, 73, 74, 75, 76, 78, 79, 80, 81, 82, 83, 84, 85, 86, 87, 88, 89, 90, 91, 92, 93, 95, 96, 97, 98, 99, 100, 101, 102, 103] σ σ37 := (Fm.rf).tr ((fr_X10_far g38).mono rfl)
                rcases ite_elim h with h | h
                · exact (f_σ37).tr (frj_L_law_958 N L xs (l_L_law_18 N L xs n) ih _ _ _ _ h)
                · obtain ⟨-, h⟩ := oeq h
                  rw [← h]
                  exact f_σ37
              · rcases ite_elim h with h | h
                · obtain ⟨-, h⟩ := ckA_elim h
                  obtain ⟨-, h⟩ := ckA_elim h
                  obtain ⟨x43, σ44, g45, h⟩ := bd_elim h
                  have f_σ44 : Fm [1, 2, 3, 4, 5, 6, 7, 8, 9, 10, 11, 12, 13, 14, 15, 16, 17, 18, 19, 20, 21, 22, 24, 25, 27, 28, 29, 30, 31, 32, 33, 34, 35, 36, 37, 38, 39, 40, 41, 42, 43, 44, 45, 46, 47, 48, 49, 50, 51, 52, 53, 54, 55, 56, 57, 59, 60, 61, 62, 63, 64, 65, 66, 67, 68, 70, 71, 72, 73, 74, 75, 76, 78, 79, 80, 81, 82, 83, 84, 85, 86, 87, 88, 89, 90, 91, 92, 93, 95, 96, 97, 98, 99, 100, 101, 102, 103] σ σ44 := (Fm.rf).tr ((fr_X9_keeper g45).mono rfl)
                  obtain ⟨-, h⟩ := ckA_elim h
                  obtain ⟨-, h⟩ := ckA_elim h
                  obtain ⟨x48, σ49, g50, h⟩ := bd_elim h
                  have f_σ49 : Fm [1, 2, 3, 4, 5, 6, 7, 8, 9, 10, 11, 12, 13, 14, 15, 16, 17, 18, 19, 20, 21, 22, 24, 25, 27, 28, 29, 30, 31, 32, 33, 34, 35, 36, 37, 38, 39, 40, 41, 42, 43, 44, 45, 46, 47, 48, 49, 50, 51, 52, 53, 54, 55, 56, 57, 59, 60, 61, 62, 63, 64, 65, 66, 67, 68, 70, 71, 72, 73, 74, 75, 76, 78, 79, 80, 81, 82, 83, 84, 85, 86, 87, 88, 89, 90, 91, 92, 93, 95, 96, 97, 98, 99, 100, 101, 102, 103] σ σ49 := (f_σ44).tr ((fr_X10_keeper g50).mono rfl)
                  rcases ite_elim h with h | h
                  · exact (f_σ49).tr (frj_L_law_958 N L xs (l_L_law_18 N L xs n) ih _ _ _ _ h)
                  · obtain ⟨-, h⟩ := oeq h
                    rw [← h]
                    exact f_σ49
                · rcases ite_elim h with h | h
                  · obtain ⟨-, h⟩ := ckA_elim h
                    obtain ⟨-, h⟩ := ckA_elim h
                    obtain ⟨x55, σ56, g57, h⟩ := bd_elim h
                    have f_σ56 : Fm [1, 2, 3, 4, 5, 6, 7, 8, 9, 10, 11, 12, 13, 14, 15, 16, 17, 18, 19, 20, 21, 22, 24, 25, 27, 28, 29, 30, 31, 32, 33, 34, 35, 36, 37, 38, 39, 40, 41, 42, 43, 44, 45, 46, 47, 48, 49, 50, 51, 52, 53, 54, 55, 56, 57, 59, 60, 61, 62, 63, 64, 65, 66, 67, 68, 70, 71, 72, 73, 74, 75, 76, 78, 79, 80, 81, 82, 83, 84, 85, 86, 87, 88, 89, 90, 91, 92, 93, 95, 96, 97, 98, 99, 100, 101, 102, 103] σ σ56 := (Fm.rf).tr ((fr_X9_promise g57).mono rfl)
                    obtain ⟨-, h⟩ := ckA_elim h
                    obtain ⟨-, h⟩ := ckA_elim h
                    obtain ⟨x60, σ61, g62, h⟩ := bd_elim h
                    have f_σ61 : Fm [1, 2, 3, 4, 5, 6, 7, 8, 9, 10, 11, 12, 13, 14, 15, 16, 17, 18, 19, 20, 21, 22, 24, 25, 27, 28, 29, 30, 31, 32, 33, 34, 35, 36, 37, 38, 39, 40, 41, 42, 43, 44, 45, 46, 47, 48, 49, 50, 51, 52, 53, 54, 55, 56, 57, 59, 60, 61, 62, 63, 64, 65, 66, 67, 68, 70, 71, 72, 73, 74, 75, 76, 78, 79, 80, 81, 82, 83, 84, 85, 86, 87, 88, 89, 90, 91, 92, 93, 95, 96, 97, 98, 99, 100, 101, 102, 103] σ σ61 := (f_σ56).tr ((fr_X10_promise g62).mono rfl)
                    rcases ite_elim h with h | h
                    · exact (f_σ61).tr (frj_L_law_958 N L xs (l_L_law_18 N L xs n) ih _ _ _ _ h)
                    · obtain ⟨-, h⟩ := oeq h
                      rw [← h]
                      exact f_σ61
                  · rcases ite_elim h with h | h
                    · obtain ⟨-, h⟩ := ckA_elim h
                      obtain ⟨-, h⟩ := ckA_elim h
                      obtain ⟨x67, σ68, g69, h⟩ := bd_elim h
                      have f_σ68 : Fm [1, 2, 3, 4, 5, 6, 7, 8, 9, 10, 11, 12, 13, 14, 15, 16, 17, 18, 19, 20, 21, 22, 24, 25, 27, 28, 29, 30, 31, 32, 33, 34, 35, 36, 37, 38, 39, 40, 41, 42, 43, 44, 45, 46, 47, 48, 49, 50, 51, 52, 53, 54, 55, 56, 57, 59, 60, 61, 62, 63, 64, 65, 66, 67, 68, 70, 71, 72, 73, 74, 75, 76, 78, 79, 80, 81, 82, 83, 84, 85, 86, 87, 88, 89, 90, 91, 92, 93, 95, 96, 97, 98, 99, 100, 101, 102, 103] σ σ68 := (Fm.rf).tr ((fr_X10_fell g69).mono rfl)
                      rcases ite_elim h with h | h
                      · exact (f_σ68).tr (frj_L_law_958 N L xs (l_L_law_18 N L xs n) ih _ _ _ _ h)
                      · obtain ⟨-, h⟩ := oeq h
                        rw [← h]
                        exact f_σ68
                    · rcases ite_elim h with h | h
                      · obtain ⟨-, h⟩ := ckA_elim h
                        obtain ⟨-, h⟩ := ckA_elim h
                        obtain ⟨q74, e9, h⟩ := bt_elim h
                        have f_q74 : Fm [1, 2, 3, 4, 5, 6, 7, 8, 9, 10, 11, 12, 13, 14, 15, 16, 17, 18, 19, 20, 21, 22, 24, 25, 27, 28, 29, 30, 31, 32, 33, 34, 35, 36, 37, 38, 39, 40, 41, 42, 43, 44, 45, 46, 47, 48, 49, 50, 51, 52, 53, 54, 55, 56, 57, 59, 60, 61, 62, 63, 64, 65, 66, 67, 68, 70, 71, 72, 73, 74, 75, 76, 78, 79, 80, 81, 82, 83, 84, 85, 86, 87, 88, 89, 90, 91, 92, 93, 95, 96, 97, 98, 99, 100, 101, 102, 103] σ q74.2 := (Fm.rf).tr (by rw [e9]; exact (fr_X9_go _ _ _ _ rfl).mono rfl)
                        obtain ⟨-, h⟩ := ckA_elim h
                        obtain ⟨-, h⟩ := ckA_elim h
                        obtain ⟨x77, σ78, g79, h⟩ := bd_elim h
                        have f_σ78 : Fm [1, 2, 3, 4, 5, 6, 7, 8, 9, 10, 11, 12, 13, 14, 15, 16, 17, 18, 19, 20, 21, 22, 24, 25, 27, 28, 29, 30, 31, 32, 33, 34, 35, 36, 37, 38, 39, 40, 41, 42, 43, 44, 45, 46, 47, 48, 49, 50, 51, 52, 53, 54, 55, 56, 57, 59, 60, 61, 62, 63, 64, 65, 66, 67, 68, 70, 71, 72, 73, 74, 75, 76, 78, 79, 80, 81, 82, 83, 84, 85, 86, 87, 88, 89, 90, 91, 92, 93, 95, 96, 97, 98, 99, 100, 101, 102, 103] σ σ78 := (f_q74).tr ((fr_X10_go g79).mono rfl)
                        rcases ite_elim h with h | h
                        · exact (f_σ78).tr (frj_L_law_958 N L xs (l_L_law_18 N L xs n) ih _ _ _ _ h)
                        · obtain ⟨-, h⟩ := oeq h
                          rw [← h]
                          exact f_σ78
                      · rcases ite_elim h with h | h
                        · obtain ⟨-, h⟩ := ckA_elim h
                          obtain ⟨x83, σ84, g85, h⟩ := bd_elim h
                          have f_σ84 : Fm [1, 2, 3, 4, 5, 6, 7, 8, 9, 10, 11, 12, 13, 14, 15, 16, 17, 18, 19, 20, 21, 22, 24, 25, 27, 28, 29, 30, 31, 32, 33, 34, 35, 36, 37, 38, 39, 40, 41, 42, 43, 44, 45, 46, 47, 48, 49, 50, 51, 52, 53, 54, 55, 56, 57, 59, 60, 61, 62, 63, 64, 65, 66, 67, 68, 70, 71, 72, 73, 74, 75, 76, 78, 79, 80, 81, 82, 83, 84, 85, 86, 87, 88, 89, 90, 91, 92, 93, 95, 96, 97, 98, 99, 100, 101, 102, 103] σ σ84 := (Fm.rf).tr ((fr_X9_day g85).mono rfl)
                          obtain ⟨-, h⟩ := ckA_elim h
                          obtain ⟨x87, σ88, g89, h⟩ := bd_elim h
                          have f_σ88 : Fm [1, 2, 3, 4, 5, 6, 7, 8, 9, 10, 11, 12, 13, 14, 15, 16, 17, 18, 19, 20, 21, 22, 24, 25, 27, 28, 29, 30, 31, 32, 33, 34, 35, 36, 37, 38, 39, 40, 41, 42, 43, 44, 45, 46, 47, 48, 49, 50, 51, 52, 53, 54, 55, 56, 57, 59, 60, 61, 62, 63, 64, 65, 66, 67, 68, 70, 71, 72, 73, 74, 75, 76, 78, 79, 80, 81, 82, 83, 84, 85, 86, 87, 88, 89, 90, 91, 92, 93, 95, 96, 97, 98, 99, 100, 101, 102, 103] σ σ88 := (f_σ84).tr ((fr_X10_day g89).mono rfl)
                          rcases ite_elim h with h | h
                          · exact (f_σ88).tr (frj_L_law_958 N L xs (l_L_law_18 N L xs n) ih _ _ _ _ h)
                          · obtain ⟨-, h⟩ := oeq h
                            rw [← h]
                            exact f_σ88
                        · rcases ite_elim h with h | h
                          · obtain ⟨-, h⟩ := ckA_elim h
                            obtain ⟨x93, σ94, g95, h⟩ := bd_elim h
                            have f_σ94 : Fm [1, 2, 3, 4, 5, 6, 7, 8, 9, 10, 11, 12, 13, 14, 15, 16, 17, 18, 19, 20, 21, 22, 24, 25, 27, 28, 29, 30, 31, 32, 33, 34, 35, 36, 37, 38, 39, 40, 41, 42, 43, 44, 45, 46, 47, 48, 49, 50, 51, 52, 53, 54, 55, 56, 57, 59, 60, 61, 62, 63, 64, 65, 66, 67, 68, 70, 71, 72, 73, 74, 75, 76, 78, 79, 80, 81, 82, 83, 84, 85, 86, 87, 88, 89, 90, 91, 92, 93, 95, 96, 97, 98, 99, 100, 101, 102, 103] σ σ94 := (Fm.rf).tr ((fr_X9_keep g95).mono rfl)
                            obtain ⟨-, h⟩ := ckA_elim h
                            obtain ⟨x97, σ98, g99, h⟩ := bd_elim h
                            have f_σ98 : Fm [1, 2, 3, 4, 5, 6, 7, 8, 9, 10, 11, 12, 13, 14, 15, 16, 17, 18, 19, 20, 21, 22, 24, 25, 27, 28, 29, 30, 31, 32, 33, 34, 35, 36, 37, 38, 39, 40, 41, 42, 43, 44, 45, 46, 47, 48, 49, 50, 51, 52, 53, 54, 55, 56, 57, 59, 60, 61, 62, 63, 64, 65, 66, 67, 68, 70, 71, 72, 73, 74, 75, 76, 78, 79, 80, 81, 82, 83, 84, 85, 86, 87, 88, 89, 90, 91, 92, 93, 95, 96, 97, 98, 99, 100, 101, 102, 103] σ σ98 := (f_σ94).tr ((fr_X10_keep g99).mono rfl)
                            rcases ite_elim h with h | h
                            · exact (f_σ98).tr (frj_L_law_958 N L xs (l_L_law_18 N L xs n) ih _ _ _ _ h)
                            · obtain ⟨-, h⟩ := oeq h
                              rw [← h]
                              exact f_σ98
                          · rcases ite_elim h with h | h
                            · obtain ⟨-, h⟩ := ckA_elim h
                              obtain ⟨x103, σ104, g105, h⟩ := bd_elim h
                              have f_σ104 : Fm [1, 2, 3, 4, 5, 6, 7, 8, 9, 10, 11, 12, 13, 14, 15, 16, 17, 18, 19, 20, 21, 22, 24, 25, 27, 28, 29, 30, 31, 32, 33, 34, 35, 36, 37, 38, 39, 40, 41, 42, 43, 44, 45, 46, 47, 48, 49, 50, 51, 52, 53, 54, 55, 56, 57, 59, 60, 61, 62, 63, 64, 65, 66, 67, 68, 70, 71, 72, 73, 74, 75, 76, 78, 79, 80, 81, 82, 83, 84, 85, 86, 87, 88, 89, 90, 91, 92, 93, 95, 96, 97, 98, 99, 100, 101, 102, 103] σ σ104 := (Fm.rf).tr ((fr_X9_takeDown g105).mono rfl)
                              obtain ⟨-, h⟩ := ckA_elim h
                              obtain ⟨x107, σ108, g109, h⟩ := bd_elim h
                              have f_σ108 : Fm [1, 2, 3, 4, 5, 6, 7, 8, 9, 10, 11, 12, 13, 14, 15, 16, 17, 18, 19, 20, 21, 22, 24, 25, 27, 28, 29, 30, 31, 32, 33, 34, 35, 36, 37, 38, 39, 40, 41, 42, 43, 44, 45, 46, 47, 48, 49, 50, 51, 52, 53, 54, 55, 56, 57, 59, 60, 61, 62, 63, 64, 65, 66, 67, 68, 70, 71, 72, 73, 74, 75, 76, 78, 79, 80, 81, 82, 83, 84, 85, 86, 87, 88, 89, 90, 91, 92, 93, 95, 96, 97, 98, 99, 100, 101, 102, 103] σ σ108 := (f_σ104).tr ((fr_X10_takeDown g109).mono rfl)
                              rcases ite_elim h with h | h
                              · exact (f_σ108).tr (frj_L_law_958 N L xs (l_L_law_18 N L xs n) ih _ _ _ _ h)
                              · obtain ⟨-, h⟩ := oeq h
                                rw [← h]
                                exact f_σ108
                            · rcases ite_elim h with h | h
                              · obtain ⟨-, h⟩ := ckA_elim h
                                obtain ⟨-, h⟩ := ckA_elim h
                                obtain ⟨q114, e9, h⟩ := bt_elim h
                                have f_q114 : Fm [1, 2, 3, 4, 5, 6, 7, 8, 9, 10, 11, 12, 13, 14, 15, 16, 17, 18, 19, 20, 21, 22, 24, 25, 27, 28, 29, 30, 31, 32, 33, 34, 35, 36, 37, 38, 39, 40, 41, 42, 43, 44, 45, 46, 47, 48, 49, 50, 51, 52, 53, 54, 55, 56, 57, 59, 60, 61, 62, 63, 64, 65, 66, 67, 68, 70, 71, 72, 73, 74, 75, 76, 78, 79, 80, 81, 82, 83, 84, 85, 86, 87, 88, 89, 90, 91, 92, 93, 95, 96, 97, 98, 99, 100, 101, 102, 103] σ q114.2 := (Fm.rf).tr (by rw [e9]; exact (fr_X9_swap _ _ _ _ rfl).mono rfl)
                                obtain ⟨-, h⟩ := ckA_elim h
                                obtain ⟨-, h⟩ := ckA_elim h
                                obtain ⟨x117, σ118, g119, h⟩ := bd_elim h
                                have f_σ118 : Fm [1, 2, 3, 4, 5, 6, 7, 8, 9, 10, 11, 12, 13, 14, 15, 16, 17, 18, 19, 20, 21, 22, 24, 25, 27, 28, 29, 30, 31, 32, 33, 34, 35, 36, 37, 38, 39, 40, 41, 42, 43, 44, 45, 46, 47, 48, 49, 50, 51, 52, 53, 54, 55, 56, 57, 59, 60, 61, 62, 63, 64, 65, 66, 67, 68, 70, 71, 72, 73, 74, 75, 76, 78, 79, 80, 81, 82, 83, 84, 85, 86, 87, 88, 89, 90, 91, 92, 93, 95, 96, 97, 98, 99, 100, 101, 102, 103] σ σ118 := (f_q114).tr ((fr_X10_swap g119).mono rfl)
                                rcases ite_elim h with h | h
                                · exact (f_σ118).tr (frj_L_law_958 N L xs (l_L_law_18 N L xs n) ih _ _ _ _ h)
                                · obtain ⟨-, h⟩ := oeq h
                                  rw [← h]
                                  exact f_σ118
                              · rcases ite_elim h with h | h
                                · obtain ⟨-, h⟩ := ckA_elim h
                                  obtain ⟨x123, σ124, g125, h⟩ := bd_elim h
                                  have f_σ124 : Fm [1, 2, 3, 4, 5, 6, 7, 8, 9, 10, 11, 12, 13, 14, 15, 16, 17, 18, 19, 20, 21, 22, 24, 25, 27, 28, 29, 30, 31, 32, 33, 34, 35, 36, 37, 38, 39, 40, 41, 42, 43, 44, 45, 46, 47, 48, 49, 50, 51, 52, 53, 54, 55, 56, 57, 59, 60, 61, 62, 63, 64, 65, 66, 67, 68, 70, 71, 72, 73, 74, 75, 76, 78, 79, 80, 81, 82, 83, 84, 85, 86, 87, 88, 89, 90, 91, 92, 93, 95, 96, 97, 98, 99, 100, 101, 102, 103] σ σ124 := (Fm.rf).tr ((fr_X9_drift g125).mono rfl)
                                  obtain ⟨-, h⟩ := ckA_elim h
                                  obtain ⟨x127, σ128, g129, h⟩ := bd_elim h
                                  have f_σ128 : Fm [1, 2, 3, 4, 5, 6, 7, 8, 9, 10, 11, 12, 13, 14, 15, 16, 17, 18, 19, 20, 21, 22, 24, 25, 27, 28, 29, 30, 31, 32, 33, 34, 35, 36, 37, 38, 39, 40, 41, 42, 43, 44, 45, 46, 47, 48, 49, 50, 51, 52, 53, 54, 55, 56, 57, 59, 60, 61, 62, 63, 64, 65, 66, 67, 68, 70, 71, 72, 73, 74, 75, 76, 78, 79, 80, 81, 82, 83, 84, 85, 86, 87, 88, 89, 90, 91, 92, 93, 95, 96, 97, 98, 99, 100, 101, 102, 103] σ σ128 := (f_σ124).tr ((fr_X10_drift g129).mono rfl)
                                  rcases ite_elim h with h | h
                                  · exact (f_σ128).tr (frj_L_law_958 N L xs (l_L_law_18 N L xs n) ih _ _ _ _ h)
                                  · obtain ⟨-, h⟩ := oeq h
                                    rw [← h]
                                    exact f_σ128
                                · rcases ite_elim h with h | h
                                  · obtain ⟨-, h⟩ := ckA_elim h
                                    obtain ⟨x133, σ134, g135, h⟩ := bd_elim h
                                    have f_σ134 : Fm [1, 2, 3, 4, 5, 6, 7, 8, 9, 10, 11, 12, 13, 14, 15, 16, 17, 18, 19, 20, 21, 22, 24, 25, 27, 28, 29, 30, 31, 32, 33, 34, 35, 36, 37, 38, 39, 40, 41, 42, 43, 44, 45, 46, 47, 48, 49, 50, 51, 52, 53, 54, 55, 56, 57, 59, 60, 61, 62, 63, 64, 65, 66, 67, 68, 70, 71, 72, 73, 74, 75, 76, 78, 79, 80, 81, 82, 83, 84, 85, 86, 87, 88, 89, 90, 91, 92, 93, 95, 96, 97, 98, 99, 100, 101, 102, 103] σ σ134 := (Fm.rf).tr ((fr_X9_undo g135).mono rfl)
                                    obtain ⟨-, h⟩ := ckA_elim h
                                    obtain ⟨x137, σ138, g139, h⟩ := bd_elim h
                                    have f_σ138 : Fm [1, 2, 3, 4, 5, 6, 7, 8, 9, 10, 11, 12, 13, 14, 15, 16, 17, 18, 19, 20, 21, 22, 24, 25, 27, 28, 29, 30, 31, 32, 33, 34, 35, 36, 37, 38, 39, 40, 41, 42, 43, 44, 45, 46, 47, 48, 49, 50, 51, 52, 53, 54, 55, 56, 57, 59, 60, 61, 62, 63, 64, 65, 66, 67, 68, 70, 71, 72, 73, 74, 75, 76, 78, 79, 80, 81, 82, 83, 84, 85, 86, 87, 88, 89, 90, 91, 92, 93, 95, 96, 97, 98, 99, 100, 101, 102, 103] σ σ138 := (f_σ134).tr ((fr_X10_undo g139).mono rfl)
                                    rcases ite_elim h with h | h
                                    · exact (f_σ138).tr (frj_L_law_958 N L xs (l_L_law_18 N L xs n) ih _ _ _ _ h)
                                    · obtain ⟨-, h⟩ := oeq h
                                      rw [← h]
                                      exact f_σ138
                                  · rcases ite_elim h with h | h
                                    · obtain ⟨-, h⟩ := ckA_elim h
                                      obtain ⟨-, h⟩ := ckA_elim h
                                      obtain ⟨x144, σ145, g146, h⟩ := bd_elim h
                                      have f_σ145 : Fm [1, 2, 3, 4, 5, 6, 7, 8, 9, 10, 11, 12, 13, 14, 15, 16, 17, 18, 19, 20, 21, 22, 24, 25, 27, 28, 29, 30, 31, 32, 33, 34, 35, 36, 37, 38, 39, 40, 41, 42, 43, 44, 45, 46, 47, 48, 49, 50, 51, 52, 53, 54, 55, 56, 57, 59, 60, 61, 62, 63, 64, 65, 66, 67, 68, 70, 71, 72, 73, 74, 75, 76, 78, 79, 80, 81, 82, 83, 84, 85, 86, 87, 88, 89, 90, 91, 92, 93, 95, 96, 97, 98, 99, 100, 101, 102, 103] σ σ145 := (Fm.rf).tr ((fr_X9_plan g146).mono rfl)
                                      obtain ⟨-, h⟩ := ckA_elim h
                                      obtain ⟨-, h⟩ := ckA_elim h
                                      obtain ⟨x149, σ150, g151, h⟩ := bd_elim h
                                      have f_σ150 : Fm [1, 2, 3, 4, 5, 6, 7, 8, 9, 10, 11, 12, 13, 14, 15, 16, 17, 18, 19, 20, 21, 22, 24, 25, 27, 28, 29, 30, 31, 32, 33, 34, 35, 36, 37, 38, 39, 40, 41, 42, 43, 44, 45, 46, 47, 48, 49, 50, 51, 52, 53, 54, 55, 56, 57, 59, 60, 61, 62, 63, 64, 65, 66, 67, 68, 70, 71, 72, 73, 74, 75, 76, 78, 79, 80, 81, 82, 83, 84, 85, 86, 87, 88, 89, 90, 91, 92, 93, 95, 96, 97, 98, 99, 100, 101, 102, 103] σ σ150 := (f_σ145).tr ((fr_X10_plan g151).mono rfl)
                                      rcases ite_elim h with h | h
                                      · exact (f_σ150).tr (frj_L_law_958 N L xs (l_L_law_18 N L xs n) ih _ _ _ _ h)
                                      · obtain ⟨-, h⟩ := oeq h
                                        rw [← h]
                                        exact f_σ150
                                    · rcases ite_elim h with h | h
                                      · obtain ⟨-, h⟩ := ckA_elim h
                                        obtain ⟨-, h⟩ := ckA_elim h
                                        obtain ⟨x156, σ157, g158, h⟩ := bd_elim h
                                        have f_σ157 : Fm [1, 2, 3, 4, 5, 6, 7, 8, 9, 10, 11, 12, 13, 14, 15, 16, 17, 18, 19, 20, 21, 22, 24, 25, 27, 28, 29, 30, 31, 32, 33, 34, 35, 36, 37, 38, 39, 40, 41, 42, 43, 44, 45, 46, 47, 48, 49, 50, 51, 52, 53, 54, 55, 56, 57, 59, 60, 61, 62, 63, 64, 65, 66, 67, 68, 70, 71, 72, 73, 74, 75, 76, 78, 79, 80, 81, 82, 83, 84, 85, 86, 87, 88, 89, 90, 91, 92, 93, 95, 96, 97, 98, 99, 100, 101, 102, 103] σ σ157 := (Fm.rf).tr ((fr_X9_clash g158).mono rfl)
                                        obtain ⟨-, h⟩ := ckA_elim h
                                        obtain ⟨-, h⟩ := ckA_elim h
                                        obtain ⟨x161, σ162, g163, h⟩ := bd_elim h
                                        have f_σ162 : Fm [1, 2, 3, 4, 5, 6, 7, 8, 9, 10, 11, 12, 13, 14, 15, 16, 17, 18, 19, 20, 21, 22, 24, 25, 27, 28, 29, 30, 31, 32, 33, 34, 35, 36, 37, 38, 39, 40, 41, 42, 43, 44, 45, 46, 47, 48, 49, 50, 51, 52, 53, 54, 55, 56, 57, 59, 60, 61, 62, 63, 64, 65, 66, 67, 68, 70, 71, 72, 73, 74, 75, 76, 78, 79, 80, 81, 82, 83, 84, 85, 86, 87, 88, 89, 90, 91, 92, 93, 95, 96, 97, 98, 99, 100, 101, 102, 103] σ σ162 := (f_σ157).tr ((fr_X10_clash g163).mono rfl)
                                        rcases ite_elim h with h | h
                                        · exact (f_σ162).tr (frj_L_law_958 N L xs (l_L_law_18 N L xs n) ih _ _ _ _ h)
                                        · obtain ⟨-, h⟩ := oeq h
                                          rw [← h]
                                          exact f_σ162
                                      · rcases ite_elim h with h | h
                                        · obtain ⟨-, h⟩ := ckA_elim h
                                          obtain ⟨-, h⟩ := ckA_elim h
                                          obtain ⟨-, h⟩ := ckA_elim h
                                          obtain ⟨x169, σ170, g171, h⟩ := bd_elim h
                                          have f_σ170 : Fm [1, 2, 3, 4, 5, 6, 7, 8, 9, 10, 11, 12, 13, 14, 15, 16, 17, 18, 19, 20, 21, 22, 24, 25, 27, 28, 29, 30, 31, 32, 33, 34, 35, 36, 37, 38, 39, 40, 41, 42, 43, 44, 45, 46, 47, 48, 49, 50, 51, 52, 53, 54, 55, 56, 57, 59, 60, 61, 62, 63, 64, 65, 66, 67, 68, 70, 71, 72, 73, 74, 75, 76, 78, 79, 80, 81, 82, 83, 84, 85, 86, 87, 88, 89, 90, 91, 92, 93, 95, 96, 97, 98, 99, 100, 101, 102, 103] σ σ170 := (Fm.rf).tr ((fr_X9_still g171).mono rfl)
                                          obtain ⟨-, h⟩ := ckA_elim h
                                          obtain ⟨-, h⟩ := ckA_elim h
                                          obtain ⟨-, h⟩ := ckA_elim h
                                          obtain ⟨x175, σ176, g177, h⟩ := bd_elim h
                                          have f_σ176 : Fm [1, 2, 3, 4, 5, 6, 7, 8, 9, 10, 11, 12, 13, 14, 15, 16, 17, 18, 19, 20, 21, 22, 24, 25, 27, 28, 29, 30, 31, 32, 33, 34, 35, 36, 37, 38, 39, 40, 41, 42, 43, 44, 45, 46, 47, 48, 49, 50, 51, 52, 53, 54, 55, 56, 57, 59, 60, 61, 62, 63, 64, 65, 66, 67, 68, 70, 71, 72, 73, 74, 75, 76, 78, 79, 80, 81, 82, 83, 84, 85, 86, 87, 88, 89, 90, 91, 92, 93, 95, 96, 97, 98, 99, 100, 101, 102, 103] σ σ176 := (f_σ170).tr ((fr_X10_still g177).mono rfl)
                                          rcases ite_elim h with h | h
                                          · exact (f_σ176).tr (frj_L_law_958 N L xs (l_L_law_18 N L xs n) ih _ _ _ _ h)
                                          · obtain ⟨-, h⟩ := oeq h
                                            rw [← h]
                                            exact f_σ176
                                        · rcases ite_elim h with h | h
                                          · obtain ⟨-, h⟩ := ckA_elim h
                                            obtain ⟨x181, σ182, g183, h⟩ := bd_elim h
                                            have f_σ182 : Fm [1, 2, 3, 4, 5, 6, 7, 8, 9, 10, 11, 12, 13, 14, 15, 16, 17, 18, 19, 20, 21, 22, 24, 25, 27, 28, 29, 30, 31, 32, 33, 34, 35, 36, 37, 38, 39, 40, 41, 42, 43, 44, 45, 46, 47, 48, 49, 50, 51, 52, 53, 54, 55, 56, 57, 59, 60, 61, 62, 63, 64, 65, 66, 67, 68, 70, 71, 72, 73, 74, 75, 76, 78, 79, 80, 81, 82, 83, 84, 85, 86, 87, 88, 89, 90, 91, 92, 93, 95, 96, 97, 98, 99, 100, 101, 102, 103] σ σ182 := (Fm.rf).tr ((fr_X9_hands g183).mono rfl)
                                            obtain ⟨-, h⟩ := ckA_elim h
                                            obtain ⟨x185, σ186, g187, h⟩ := bd_elim h
                                            have f_σ186 : Fm [1, 2, 3, 4, 5, 6, 7, 8, 9, 10, 11, 12, 13, 14, 15, 16, 17, 18, 19, 20, 21, 22, 24, 25, 27, 28, 29, 30, 31, 32, 33, 34, 35, 36, 37, 38, 39, 40, 41, 42, 43, 44, 45, 46, 47, 48, 49, 50, 51, 52, 53, 54, 55, 56, 57, 59, 60, 61, 62, 63, 64, 65, 66, 67, 68, 70, 71, 72, 73, 74, 75, 76, 78, 79, 80, 81, 82, 83, 84, 85, 86, 87, 88, 89, 90, 91, 92, 93, 95, 96, 97, 98, 99, 100, 101, 102, 103] σ σ186 := (f_σ182).tr ((fr_X10_hands g187).mono rfl)
                                            rcases ite_elim h with h | h
                                            · exact (f_σ186).tr (frj_L_law_958 N L xs (l_L_law_18 N L xs n) ih _ _ _ _ h)
                                            · obtain ⟨-, h⟩ := oeq h
                                              rw [← h]
                                              exact f_σ186
                                          · rcases ite_elim h with h | h
                                            · obtain ⟨-, h⟩ := ckA_elim h
                                              obtain ⟨-, h⟩ := ckA_elim h
                                              obtain ⟨x192, σ193, g194, h⟩ := bd_elim h
                                              have f_σ193 : Fm [1, 2, 3, 4, 5, 6, 7, 8, 9, 10, 11, 12, 13, 14, 15, 16, 17, 18, 19, 20, 21, 22, 24, 25, 27, 28, 29, 30, 31, 32, 33, 34, 35, 36, 37, 38, 39, 40, 41, 42, 43, 44, 45, 46, 47, 48, 49, 50, 51, 52, 53, 54, 55, 56, 57, 59, 60, 61, 62, 63, 64, 65, 66, 67, 68, 70, 71, 72, 73, 74, 75, 76, 78, 79, 80, 81, 82, 83, 84, 85, 86, 87, 88, 89, 90, 91, 92, 93, 95, 96, 97, 98, 99, 100, 101, 102, 103] σ σ193 := (Fm.rf).tr ((fr_X9_calendar g194).mono rfl)
                                              obtain ⟨-, h⟩ := ckA_elim h
                                              obtain ⟨-, h⟩ := ckA_elim h
                                              obtain ⟨x197, σ198, g199, h⟩ := bd_elim h
                                              have f_σ198 : Fm [1, 2, 3, 4, 5, 6, 7, 8, 9, 10, 11, 12, 13, 14, 15, 16, 17, 18, 19, 20, 21, 22, 24, 25, 27, 28, 29, 30, 31, 32, 33, 34, 35, 36, 37, 38, 39, 40, 41, 42, 43, 44, 45, 46, 47, 48, 49, 50, 51, 52, 53, 54, 55, 56, 57, 59, 60, 61, 62, 63, 64, 65, 66, 67, 68, 70, 71, 72, 73, 74, 75, 76, 78, 79, 80, 81, 82, 83, 84, 85, 86, 87, 88, 89, 90, 91, 92, 93, 95, 96, 97, 98, 99, 100, 101, 102, 103] σ σ198 := (f_σ193).tr ((fr_X10_calendar g199).mono rfl)
                                              rcases ite_elim h with h | h
                                              · exact (f_σ198).tr (frj_L_law_958 N L xs (l_L_law_18 N L xs n) ih _ _ _ _ h)
                                              · obtain ⟨-, h⟩ := oeq h
                                                rw [← h]
                                                exact f_σ198
                                            · rcases ite_elim h with h | h
                                              · obtain ⟨-, h⟩ := ckA_elim h
                                                obtain ⟨x203, σ204, g205, h⟩ := bd_elim h
                                                have f_σ204 : Fm [1, 2, 3, 4, 5, 6, 7, 8, 9, 10, 11, 12, 13, 14, 15, 16, 17, 18, 19, 20, 21, 22, 24, 25, 27, 28, 29, 30, 31, 32, 33, 34, 35, 36, 37, 38, 39, 40, 41, 42, 43, 44, 45, 46, 47, 48, 49, 50, 51, 52, 53, 54, 55, 56, 57, 59, 60, 61, 62, 63, 64, 65, 66, 67, 68, 70, 71, 72, 73, 74, 75, 76, 78, 79, 80, 81, 82, 83, 84, 85, 86, 87, 88, 89, 90, 91, 92, 93, 95, 96, 97, 98, 99, 100, 101, 102, 103] σ σ204 := (Fm.rf).tr ((fr_X9_busiest g205).mono rfl)
                                                obtain ⟨-, h⟩ := ckA_elim h
                                                obtain ⟨x207, σ208, g209, h⟩ := bd_elim h
                                                have f_σ208 : Fm [1, 2, 3, 4, 5, 6, 7, 8, 9, 10, 11, 12, 13, 14, 15, 16, 17, 18, 19, 20, 21, 22, 24, 25, 27, 28, 29, 30, 31, 32, 33, 34, 35, 36, 37, 38, 39, 40, 41, 42, 43, 44, 45, 46, 47, 48, 49, 50, 51, 52, 53, 54, 55, 56, 57, 59, 60, 61, 62, 63, 64, 65, 66, 67, 68, 70, 71, 72, 73, 74, 75, 76, 78, 79, 80, 81, 82, 83, 84, 85, 86, 87, 88, 89, 90, 91, 92, 93, 95, 96, 97, 98, 99, 100, 101, 102, 103] σ σ208 := (f_σ204).tr ((fr_X10_busiest g209).mono rfl)
                                                rcases ite_elim h with h | h
                                                · exact (f_σ208).tr (frj_L_law_958 N L xs (l_L_law_18 N L xs n) ih _ _ _ _ h)
                                                · obtain ⟨-, h⟩ := oeq h
                                                  rw [← h]
                                                  exact f_σ208
                                              · rcases ite_elim h with h | h
                                                · obtain ⟨-, h⟩ := ckA_elim h
                                                  obtain ⟨-, h⟩ := ckA_elim h
                                                  obtain ⟨x214, σ215, g216, h⟩ := bd_elim h
                                                  have f_σ215 : Fm [1, 2, 3, 4, 5, 6, 7, 8, 9, 10, 11, 12, 13, 14, 15, 16, 17, 18, 19, 20, 21, 22, 24, 25, 27, 28, 29, 30, 31, 32, 33, 34, 35, 36, 37, 38, 39, 40, 41, 42, 43, 44, 45, 46, 47, 48, 49, 50, 51, 52, 53, 54, 55, 56, 57, 59, 60, 61, 62, 63, 64, 65, 66, 67, 68, 70, 71, 72, 73, 74, 75, 76, 78, 79, 80, 81, 82, 83, 84, 85, 86, 87, 88, 89, 90, 91, 92, 93, 95, 96, 97, 98, 99, 100, 101, 102, 103] σ σ215 := (Fm.rf).tr ((fr_X9_lives g216).mono rfl)
                                                  obtain ⟨-, h⟩ := ckA_elim h
                                                  obtain ⟨-, h⟩ := ckA_elim h
                                                  obtain ⟨x219, σ220, g221, h⟩ := bd_elim h
                                                  have f_σ220 : Fm [1, 2, 3, 4, 5, 6, 7, 8, 9, 10, 11, 12, 13, 14, 15, 16, 17, 18, 19, 20, 21, 22, 24, 25, 27, 28, 29, 30, 31, 32, 33, 34, 35, 36, 37, 38, 39, 40, 41, 42, 43, 44, 45, 46, 47, 48, 49, 50, 51, 52, 53, 54, 55, 56, 57, 59, 60, 61, 62, 63, 64, 65, 66, 67, 68, 70, 71, 72, 73, 74, 75, 76, 78, 79, 80, 81, 82, 83, 84, 85, 86, 87, 88, 89, 90, 91, 92, 93, 95, 96, 97, 98, 99, 100, 101, 102, 103] σ σ220 := (f_σ215).tr ((fr_X10_lives g221).mono rfl)
                                                  rcases ite_elim h with h | h
                                                  · exact (f_σ220).tr (frj_L_law_958 N L xs (l_L_law_18 N L xs n) ih _ _ _ _ h)
                                                  · obtain ⟨-, h⟩ := oeq h
                                                    rw [← h]
                                                    exact f_σ220
                                                · rcases ite_elim h with h | h
                                                  · obtain ⟨-, h⟩ := ckA_elim h
                                                    obtain ⟨x225, σ226, g227, h⟩ := bd_elim h
                                                    have f_σ226 : Fm [1, 2, 3, 4, 5, 6, 7, 8, 9, 10, 11, 12, 13, 14, 15, 16, 17, 18, 19, 20, 21, 22, 24, 25, 27, 28, 29, 30, 31, 32, 33, 34, 35, 36, 37, 38, 39, 40, 41, 42, 43, 44, 45, 46, 47, 48, 49, 50, 51, 52, 53, 54, 55, 56, 57, 59, 60, 61, 62, 63, 64, 65, 66, 67, 68, 70, 71, 72, 73, 74, 75, 76, 78, 79, 80, 81, 82, 83, 84, 85, 86, 87, 88, 89, 90, 91, 92, 93, 95, 96, 97, 98, 99, 100, 101, 102, 103] σ σ226 := (Fm.rf).tr ((fr_X9_share g227).mono rfl)
                                                    obtain ⟨-, h⟩ := ckA_elim h
                                                    obtain ⟨x229, σ230, g231, h⟩ := bd_elim h
                                                    have f_σ230 : Fm [1, 2, 3, 4, 5, 6, 7, 8, 9, 10, 11, 12, 13, 14, 15, 16, 17, 18, 19, 20, 21, 22, 24, 25, 27, 28, 29, 30, 31, 32, 33, 34, 35, 36, 37, 38, 39, 40, 41, 42, 43, 44, 45, 46, 47, 48, 49, 50, 51, 52, 53, 54, 55, 56, 57, 59, 60, 61, 62, 63, 64, 65, 66, 67, 68, 70, 71, 72, 73, 74, 75, 76, 78, 79, 80, 81, 82, 83, 84, 85, 86, 87, 88, 89, 90, 91, 92, 93, 95, 96, 97, 98, 99, 100, 101, 102, 103] σ σ230 := (f_σ226).tr ((fr_X10_share g231).mono rfl)
                                                    rcases ite_elim h with h | h
                                                    · exact (f_σ230).tr (frj_L_law_958 N L xs (l_L_law_18 N L xs n) ih _ _ _ _ h)
                                                    · obtain ⟨-, h⟩ := oeq h
                                                      rw [← h]
                                                      exact f_σ230
                                                  · rcases ite_elim h with h | h
                                                    · obtain ⟨-, h⟩ := ckA_elim h
                                                      obtain ⟨-, h⟩ := ckA_elim h
                                                      obtain ⟨-, h⟩ := ckA_elim h
                                                      obtain ⟨x237, σ238, g239, h⟩ := bd_elim h
                                                      have f_σ238 : Fm [1, 2, 3, 4, 5, 6, 7, 8, 9, 10, 11, 12, 13, 14, 15, 16, 17, 18, 19, 20, 21, 22, 24, 25, 27, 28, 29, 30, 31, 32, 33, 34, 35, 36, 37, 38, 39, 40, 41, 42, 43, 44, 45, 46, 47, 48, 49, 50, 51, 52, 53, 54, 55, 56, 57, 59, 60, 61, 62, 63, 64, 65, 66, 67, 68, 70, 71, 72, 73, 74, 75, 76, 78, 79, 80, 81, 82, 83, 84, 85, 86, 87, 88, 89, 90, 91, 92, 93, 95, 96, 97, 98, 99, 100, 101, 102, 103] σ σ238 := (Fm.rf).tr ((fr_X9_let g239).mono rfl)
                                                      obtain ⟨-, h⟩ := ckA_elim h
                                                      obtain ⟨-, h⟩ := ckA_elim h
                                                      obtain ⟨-, h⟩ := ckA_elim h
                                                      obtain ⟨x243, σ244, g245, h⟩ := bd_elim h
                                                      have f_σ244 : Fm [1, 2, 3, 4, 5, 6, 7, 8, 9, 10, 11, 12, 13, 14, 15, 16, 17, 18, 19, 20, 21, 22, 24, 25, 27, 28, 29, 30, 31, 32, 33, 34, 35, 36, 37, 38, 39, 40, 41, 42, 43, 44, 45, 46, 47, 48, 49, 50, 51, 52, 53, 54, 55, 56, 57, 59, 60, 61, 62, 63, 64, 65, 66, 67, 68, 70, 71, 72, 73, 74, 75, 76, 78, 79, 80, 81, 82, 83, 84, 85, 86, 87, 88, 89, 90, 91, 92, 93, 95, 96, 97, 98, 99, 100, 101, 102, 103] σ σ244 := (f_σ238).tr ((fr_X10_let g245).mono rfl)
                                                      rcases ite_elim h with h | h
                                                      · exact (f_σ244).tr (frj_L_law_958 N L xs (l_L_law_18 N L xs n) ih _ _ _ _ h)
                                                      · obtain ⟨-, h⟩ := oeq h
                                                        rw [← h]
                                                        exact f_σ244
                                                    · rcases ite_elim h with h | h
                                                      · obtain ⟨-, h⟩ := ckA_elim h
                                                        obtain ⟨-, h⟩ := ckA_elim h
                                                        obtain ⟨q250, e9, h⟩ := bt_elim h
                                                        have f_q250 : Fm [1, 2, 3, 4, 5, 6, 7, 8, 9, 10, 11, 12, 13, 14, 15, 16, 17, 18, 19, 20, 21, 22, 24, 25, 27, 28, 29, 30, 31, 32, 33, 34, 35, 36, 37, 38, 39, 40, 41, 42, 43, 44, 45, 46, 47, 48, 49, 50, 51, 52, 53, 54, 55, 56, 57, 59, 60, 61, 62, 63, 64, 65, 66, 67, 68, 70, 71, 72, 73, 74, 75, 76, 78, 79, 80, 81, 82, 83, 84, 85, 86, 87, 88, 89, 90, 91, 92, 93, 95, 96, 97, 98, 99, 100, 101, 102, 103] σ q250.2 := (Fm.rf).tr (by rw [e9]; exact (fr_X9_write _ _ _ _ rfl).mono rfl)
                                                        obtain ⟨-, h⟩ := ckA_elim h
                                                        obtain ⟨-, h⟩ := ckA_elim h
                                                        obtain ⟨x253, σ254, g255, h⟩ := bd_elim h
                                                        have f_σ254 : Fm [1, 2, 3, 4, 5, 6, 7, 8, 9, 10, 11, 12, 13, 14, 15, 16, 17, 18, 19, 20, 21, 22, 24, 25, 27, 28, 29, 30, 31, 32, 33, 34, 35, 36, 37, 38, 39, 40, 41, 42, 43, 44, 45, 46, 47, 48, 49, 50, 51, 52, 53, 54, 55, 56, 57, 59, 60, 61, 62, 63, 64, 65, 66, 67, 68, 70, 71, 72, 73, 74, 75, 76, 78, 79, 80, 81, 82, 83, 84, 85, 86, 87, 88, 89, 90, 91, 92, 93, 95, 96, 97, 98, 99, 100, 101, 102, 103] σ σ254 := (f_q250).tr ((fr_X10_write g255).mono rfl)
                                                        rcases ite_elim h with h | h
                                                        · exact (f_σ254).tr (frj_L_law_958 N L xs (l_L_law_18 N L xs n) ih _ _ _ _ h)
                                                        · obtain ⟨-, h⟩ := oeq h
                                                          rw [← h]
                                                          exact f_σ254
                                                      · rcases ite_elim h with h | h
                                                        · obtain ⟨x258, σ259, g260, h⟩ := bd_elim h
                                                          have f_σ259 : Fm [1, 2, 3, 4, 5, 6, 7, 8, 9, 10, 11, 12, 13, 14, 15, 16, 17, 18, 19, 20, 21, 22, 24, 25, 27, 28, 29, 30, 31, 32, 33, 34, 35, 36, 37, 38, 39, 40, 41, 42, 43, 44, 45, 46, 47, 48, 49, 50, 51, 52, 53, 54, 55, 56, 57, 59, 60, 61, 62, 63, 64, 65, 66, 67, 68, 70, 71, 72, 73, 74, 75, 76, 78, 79, 80, 81, 82, 83, 84, 85, 86, 87, 88, 89, 90, 91, 92, 93, 95, 96, 97, 98, 99, 100, 101, 102, 103] σ σ259 := (Fm.rf).tr ((fr_X9_judge g260).mono rfl)
                                                          obtain ⟨x261, σ262, g263, h⟩ := bd_elim h
                                                          have f_σ262 : Fm [1, 2, 3, 4, 5, 6, 7, 8, 9, 10, 11, 12, 13, 14, 15, 16, 17, 18, 19, 20, 21, 22, 24, 25, 27, 28, 29, 30, 31, 32, 33, 34, 35, 36, 37, 38, 39, 40, 41, 42, 43, 44, 45, 46, 47, 48, 49, 50, 51, 52, 53, 54, 55, 56, 57, 59, 60, 61, 62, 63, 64, 65, 66, 67, 68, 70, 71, 72, 73, 74, 75, 76, 78, 79, 80, 81, 82, 83, 84, 85, 86, 87, 88, 89, 90, 91, 92, 93, 95, 96, 97, 98, 99, 100, 101, 102, 103] σ σ262 := (f_σ259).tr ((fr_X10_judge g263).mono rfl)
                                                          rcases ite_elim h with h | h
                                                          · exact (f_σ262).tr (frj_L_law_958 N L xs (l_L_law_18 N L xs n) ih _ _ _ _ h)
                                                          · obtain ⟨-, h⟩ := oeq h
                                                            rw [← h]
                                                            exact f_σ262
                                                        · rcases ite_elim h with h | h
                                                          · obtain ⟨q266, e9, h⟩ := bt_elim h
                                                            have f_q266 : Fm [1, 2, 3, 4, 5, 6, 7, 8, 9, 10, 11, 12, 13, 14, 15, 16, 17, 18, 19, 20, 21, 22, 24, 25, 27, 28, 29, 30, 31, 32, 33, 34, 35, 36, 37, 38, 39, 40, 41, 42, 43, 44, 45, 46, 47, 48, 49, 50, 51, 52, 53, 54, 55, 56, 57, 59, 60, 61, 62, 63, 64, 65, 66, 67, 68, 70, 71, 72, 73, 74, 75, 76, 78, 79, 80, 81, 82, 83, 84, 85, 86, 87, 88, 89, 90, 91, 92, 93, 95, 96, 97, 98, 99, 100, 101, 102, 103] σ q266.2 := (Fm.rf).tr (by rw [e9]; exact (fr_X9_tear  _ _ rfl).mono rfl)
                                                            obtain ⟨q267, e9, h⟩ := bt_elim h
                                                            have f_q267 : Fm [1, 2, 3, 4, 5, 6, 7, 8, 9, 10, 11, 12, 13, 14, 15, 16, 17, 18, 19, 20, 21, 22, 24, 25, 27, 28, 29, 30, 31, 32, 33, 34, 35, 36, 37, 38, 39, 40, 41, 42, 43, 44, 45, 46, 47, 48, 49, 50, 51, 52, 53, 54, 55, 56, 57, 59, 60, 61, 62, 63, 64, 65, 66, 67, 68, 70, 71, 72, 73, 74, 75, 76, 78, 79, 80, 81, 82, 83, 84, 85, 86, 87, 88, 89, 90, 91, 92, 93, 95, 96, 97, 98, 99, 100, 101, 102, 103] σ q267.2 := (f_q266).tr (by rw [e9]; exact (fr_X10_tear  _ _ rfl).mono rfl)
                                                            rcases ite_elim h with h | h
                                                            · exact (f_q267).tr (frj_L_law_958 N L xs (l_L_law_18 N L xs n) ih _ _ _ _ h)
                                                            · obtain ⟨-, h⟩ := oeq h
                                                              rw [← h]
                                                              exact f_q267
                                                          · rcases ite_elim h with h | h
                                                            · obtain ⟨-, h⟩ := ckA_elim h
                                                              obtain ⟨q271, e9, h⟩ := bt_elim h
                                                              have f_q271 : Fm [1, 2, 3, 4, 5, 6, 7, 8, 9, 10, 11, 12, 13, 14, 15, 16, 17, 18, 19, 20, 21, 22, 24, 25, 27, 28, 29, 30, 31, 32, 33, 34, 35, 36, 37, 38, 39, 40, 41, 42, 43, 44, 45, 46, 47, 48, 49, 50, 51, 52, 53, 54, 55, 56, 57, 59, 60, 61, 62, 63, 64, 65, 66, 67, 68, 70, 71, 72, 73, 74, 75, 76, 78, 79, 80, 81, 82, 83, 84, 85, 86, 87, 88, 89, 90, 91, 92, 93, 95, 96, 97, 98, 99, 100, 101, 102, 103] σ q271.2 := (Fm.rf).tr (by rw [e9]; exact (fr_X9_seed _ _ _ rfl).mono rfl)
                                                              obtain ⟨-, h⟩ := ckA_elim h
                                                              obtain ⟨q273, e9, h⟩ := bt_elim h
                                                              have f_q273 : Fm [1, 2, 3, 4, 5, 6, 7, 8, 9, 10, 11, 12, 13, 14, 15, 16, 17, 18, 19, 20, 21, 22, 24, 25, 27, 28, 29, 30, 31, 32, 33, 34, 35, 36, 37, 38, 39, 40, 41, 42, 43, 44, 45, 46, 47, 48, 49, 50, 51, 52, 53, 54, 55, 56, 57, 59, 60, 61, 62, 63, 64, 65, 66, 67, 68, 70, 71, 72, 73, 74, 75, 76, 78, 79, 80, 81, 82, 83, 84, 85, 86, 87, 88, 89, 90, 91, 92, 93, 95, 96, 97, 98, 99, 100, 101, 102, 103] σ q273.2 := (f_q271).tr (by rw [e9]; exact (fr_X10_seed _ _ _ rfl).mono rfl)
                                                              rcases ite_elim h with h | h
                                                              · exact (f_q273).tr (frj_L_law_958 N L xs (l_L_law_18 N L xs n) ih _ _ _ _ h)
                                                              · obtain ⟨-, h⟩ := oeq h
                                                                rw [← h]
                                                                exact f_q273
                                                            · rcases ite_elim h with h | h
                                                              · obtain ⟨-, h⟩ := ckA_elim h
                                                                obtain ⟨q277, e9, h⟩ := bt_elim h
                                                                have f_q277 : Fm [1, 2, 3, 4, 5, 6, 7, 8, 9, 10, 11, 12, 13, 14, 15, 16, 17, 18, 19, 20, 21, 22, 24, 25, 27, 28, 29, 30, 31, 32, 33, 34, 35, 36, 37, 38, 39, 40, 41, 42, 43, 44, 45, 46, 47, 48, 49, 50, 51, 52, 53, 54, 55, 56, 57, 59, 60, 61, 62, 63, 64, 65, 66, 67, 68, 70, 71, 72, 73, 74, 75, 76, 78, 79, 80, 81, 82, 83, 84, 85, 86, 87, 88, 89, 90, 91, 92, 93, 95, 96, 97, 98, 99, 100, 101, 102, 103] σ q277.2 := (Fm.rf).tr (by rw [e9]; exact (fr_X9_image _ _ _ rfl).mono rfl)
                                                                obtain ⟨-, h⟩ := ckA_elim h
                                                                obtain ⟨x279, σ280, g281, h⟩ := bd_elim h
                                                                have f_σ280 : Fm [1, 2, 3, 4, 5, 6, 7, 8, 9, 10, 11, 12, 13, 14, 15, 16, 17, 18, 19, 20, 21, 22, 24, 25, 27, 28, 29, 30, 31, 32, 33, 34, 35, 36, 37, 38, 39, 40, 41, 42, 43, 44, 45, 46, 47, 48, 49, 50, 51, 52, 53, 54, 55, 56, 57, 59, 60, 61, 62, 63, 64, 65, 66, 67, 68, 70, 71, 72, 73, 74, 75, 76, 78, 79, 80, 81, 82, 83, 84, 85, 86, 87, 88, 89, 90, 91, 92, 93, 95, 96, 97, 98, 99, 100, 101, 102, 103] σ σ280 := (f_q277).tr ((fr_X10_image g281).mono rfl)
                                                                rcases ite_elim h with h | h
                                                                · exact (f_σ280).tr (frj_L_law_958 N L xs (l_L_law_18 N L xs n) ih _ _ _ _ h)
                                                                · obtain ⟨-, h⟩ := oeq h
                                                                  rw [← h]
                                                                  exact f_σ280
                                                              · rcases ite_elim h with h | h
                                                                · obtain ⟨-, h⟩ := ckA_elim h
                                                                  obtain ⟨q285, e9, h⟩ := bt_elim h
                                                                  have f_q285 : Fm [1, 2, 3, 4, 5, 6, 7, 8, 9, 10, 11, 12, 13, 14, 15, 16, 17, 18, 19, 20, 21, 22, 24, 25, 27, 28, 29, 30, 31, 32, 33, 34, 35, 36, 37, 38, 39, 40, 41, 42, 43, 44, 45, 46, 47, 48, 49, 50, 51, 52, 53, 54, 55, 56, 57, 59, 60, 61, 62, 63, 64, 65, 66, 67, 68, 70, 71, 72, 73, 74, 75, 76, 78, 79, 80, 81, 82, 83, 84, 85, 86, 87, 88, 89, 90, 91, 92, 93, 95, 96, 97, 98, 99, 100, 101, 102, 103] σ q285.2 := (Fm.rf).tr (by rw [e9]; exact (fr_X9_goBack _ _ _ rfl).mono rfl)
                                                                  obtain ⟨-, h⟩ := ckA_elim h
                                                                  obtain ⟨x287, σ288, g289, h⟩ := bd_elim h
                                                                  have f_σ288 : Fm [1, 2, 3, 4, 5, 6, 7, 8, 9, 10, 11, 12, 13, 14, 15, 16, 17, 18, 19, 20, 21, 22, 24, 25, 27, 28, 29, 30, 31, 32, 33, 34, 35, 36, 37, 38, 39, 40, 41, 42, 43, 44, 45, 46, 47, 48, 49, 50, 51, 52, 53, 54, 55, 56, 57, 59, 60, 61, 62, 63, 64, 65, 66, 67, 68, 70, 71, 72, 73, 74, 75, 76, 78, 79, 80, 81, 82, 83, 84, 85, 86, 87, 88, 89, 90, 91, 92, 93, 95, 96, 97, 98, 99, 100, 101, 102, 103] σ σ288 := (f_q285).tr ((fr_X10_goBack g289).mono rfl)
                                                                  rcases ite_elim h with h | h
                                                                  · exact (f_σ288).tr (frj_L_law_958 N L xs (l_L_law_18 N L xs n) ih _ _ _ _ h)
                                                                  · obtain ⟨-, h⟩ := oeq h
                                                                    rw [← h]
                                                                    exact f_σ288
                                                                · exact (Fm.rf).tr (frj_L_law_958 N L xs (l_L_law_18 N L xs n) ih _ _ _ _ h)
