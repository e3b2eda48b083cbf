/-! the day on which one grows ripe: rounds counted at once, days counted singly -/
/-- by the place in the round: the days until `a` days without winter have passed -/
def ripO (n l ph a : Nat) : Nat :=
  if a ≤ n - max ph l then max ph l - ph + a
  else max ph l - ph + (n - max ph l) + (a - (n - max ph l) - 1) / (n - l) * n + l + (a - (n - max ph l) - 1) % (n - l) + 1
def rip (D : LD) (d a : Nat) : Nat := if D 8 2 = 0 then d + a else d + ripO (D 8 2) (D 8 1) (phs D d) a
theorem ripO_pos {n l ph a : Nat} (h : 1 ≤ a) : 1 ≤ ripO n l ph a := by
  unfold ripO
  split <;> omega
theorem ripO_cold {n l ph a : Nat} (hl : l < n) (hp : ph < l) : ripO n l ph a = 1 + ripO n l (ph + 1) a := by
  unfold ripO
  have e1 : max ph l = l := by omega
  have e2 : max (ph + 1) l = l := by omega
  rw [e1, e2]
  generalize (a - (n - l) - 1) / (n - l) * n = x
  generalize (a - (n - l) - 1) % (n - l) = y
  split <;> omega
theorem ripO_last {n l ph : Nat} (hn : ph < n) (hp : l ≤ ph) : ripO n l ph 1 = 1 := by
  unfold ripO
  have e1 : max ph l = ph := by omega
  rw [e1, if_pos (by omega)]
  omega
theorem ripO_warm {n l ph a : Nat} (hl : l < n) (hn : ph + 1 < n) (hp : l ≤ ph) (ha : 2 ≤ a) : ripO n l ph a = 1 + ripO n l (ph + 1) (a - 1) := by
  unfold ripO
  have e1 : max ph l = ph := by omega
  have e2 : max (ph + 1) l = ph + 1 := by omega
  rw [e1, e2]
  have e3 : a - 1 - (n - (ph + 1)) - 1 = a - (n - ph) - 1 := by omega
  rw [e3]
  generalize (a - (n - ph) - 1) / (n - l) * n = x
  generalize (a - (n - ph) - 1) % (n - l) = y
  by_cases h : a ≤ n - ph
  · rw [if_pos h, if_pos (by omega)]
    omega
  · rw [if_neg h, if_neg (by omega)]
    omega
theorem ripO_turn {n l ph a : Nat} (hl : l < n) (hn : ph + 1 = n) (hp : l ≤ ph) (ha : 2 ≤ a) : ripO n l ph a = 1 + ripO n l 0 (a - 1) := by
  unfold ripO
  have e1 : max ph l = ph := by omega
  have e2 : max 0 l = l := by omega
  rw [e1, e2]
  have e3 : n - ph = 1 := by omega
  rw [e3, if_neg (by omega)]
  have e4 : a - 1 - 1 = a - 2 := by omega
  rw [e4]
  by_cases h : a - 1 ≤ n - l
  · rw [if_pos h, Nat.div_eq_of_lt (by omega), Nat.mod_eq_of_lt (by omega)]
    omega
  · rw [if_neg h]
    have e5 : a - 2 = (a - 1 - (n - l) - 1) + (n - l) := by omega
    rw [e5, Nat.add_div_right _ (by omega), Nat.add_mod_right]
    generalize (a - 1 - (n - l) - 1) % (n - l) = y
    generalize (a - 1 - (n - l) - 1) / (n - l) = x
    have e6 : x.succ * n = x * n + n := Nat.succ_mul x n
    rw [e6]
    omega
theorem ripO_le {n l ph a : Nat} (hn : n ≤ 99) (hl : l < n) (ha : a ≤ 60) : ripO n l ph a ≤ 6300 := by
  unfold ripO
  have h1 : (a - (n - max ph l) - 1) / (n - l) ≤ a - (n - max ph l) - 1 := Nat.div_le_self _ _
  have h2 : (a - (n - max ph l) - 1) % (n - l) < n - l := Nat.mod_lt _ (by omega)
  have h3 : (a - (n - max ph l) - 1) / (n - l) * n ≤ 60 * 99 := Nat.mul_le_mul (by omega) hn
  generalize (a - (n - max ph l) - 1) / (n - l) * n = x at h3
  generalize (a - (n - max ph l) - 1) % (n - l) = y at h2
  split <;> omega
section RIP
variable {D : LD} {r : RD} {σ : St} {N : Nat}
theorem phs_succ (ho : LandOk D) (h0 : D 8 2 ≠ 0) (d : Nat) : phs D (d + 1) = if phs D d + 1 = D 8 2 then 0 else phs D d + 1 := by
  unfold phs
  have hw := ho.w
  have e : d + 1 + 99 * D 8 2 - D 8 0 = (d + 99 * D 8 2 - D 8 0) + 1 := by omega
  rw [e]
  generalize d + 99 * D 8 2 - D 8 0 = x
  have h2 : 2 ≤ D 8 2 := by omega
  generalize D 8 2 = n at h2
  have hm : x % n < n := Nat.mod_lt _ (by omega)
  by_cases h : x % n + 1 = n
  · rw [if_pos h, Nat.add_mod, Nat.mod_eq_of_lt (by omega : 1 < n), h, Nat.mod_self]
  · rw [if_neg h, Nat.add_mod, Nat.mod_eq_of_lt (by omega : 1 < n), Nat.mod_eq_of_lt (by omega)]
theorem phs_lt (ho : LandOk D) (h0 : D 8 2 ≠ 0) (d : Nat) : phs D d < D 8 2 := Nat.mod_lt _ (by omega)
theorem rip_pos {d a : Nat} (h : 1 ≤ a) : d + 1 ≤ rip D d a := by
  unfold rip
  have := ripO_pos (n := D 8 2) (l := D 8 1) (ph := phs D d) h
  split <;> omega
theorem rip_le (ho : LandOk D) {d a : Nat} (h : a ≤ 60) : rip D d a ≤ d + 6300 := by
  unfold rip
  have hw := ho.w
  by_cases h0 : D 8 2 = 0
  · rw [if_pos h0]
    omega
  · rw [if_neg h0]
    have := ripO_le (n := D 8 2) (l := D 8 1) (ph := phs D d) (a := a) (by omega) (by omega) h
    omega
theorem rip_cold (ho : LandOk D) {d a : Nat} (hw : win D d = true) : rip D d a = rip D (d + 1) a := by
  unfold win at hw
  rw [Bool.and_eq_true, decide_eq_true_eq, decide_eq_true_eq] at hw
  have h3 := ho.w
  unfold rip
  rw [if_neg hw.1, if_neg hw.1, phs_succ ho hw.1, if_neg (by omega), ripO_cold (by omega) hw.2]
  omega
theorem rip_last (ho : LandOk D) {d : Nat} (hw : win D d = false) : rip D d 1 = d + 1 := by
  unfold win at hw
  unfold rip
  have h3 := ho.w
  by_cases h0 : D 8 2 = 0
  · rw [if_pos h0]
  · rw [if_neg h0, ripO_last (phs_lt ho h0 d)]
    have : decide (D 8 2 ≠ 0) = true := by simpa using h0
    rw [this, Bool.true_and, decide_eq_false_iff_not] at hw
    omega
theorem rip_warm (ho : LandOk D) {d a : Nat} (hw : win D d = false) (ha : 2 ≤ a) : rip D d a = rip D (d + 1) (a - 1) := by
  unfold win at hw
  unfold rip
  have h3 := ho.w
  by_cases h0 : D 8 2 = 0
  · rw [if_pos h0, if_pos h0]
    omega
  · have : decide (D 8 2 ≠ 0) = true := by simpa using h0
    rw [this, Bool.true_and, decide_eq_false_iff_not] at hw
    have hp := phs_lt ho h0 d
    rw [if_neg h0, if_neg h0, phs_succ ho h0]
    by_cases h : phs D d + 1 = D 8 2
    · rw [if_pos h, ripO_turn (by omega) h (by omega) ha]
      omega
    · rw [if_neg h, ripO_warm (by omega) (by omega) (by omega) ha]
      omega
theorem b_ripe_loop (ho : LandOk D) (hb : LandB D σ) : ∀ (k n d a : Nat), 1 ≤ a → a < 2 ^ 20 → rip D d a = d + k → d + k < 2 ^ 30 → k < n →
    l_X10_ripeBy_5 N n (nI d) (nI a) σ = some (nI (d + k), σ)
  | _, 0, _, _, _, _, _, _, h => absurd h (Nat.not_lt_zero _)
  | 0, n + 1, d, a, ha, _, he, _, _ => by
    have := rip_pos (D := D) (d := d) ha
    omega
  | k + 1, n + 1, d, a, ha, ha2, he, hd, hk => by
    have hpos : ¬ nI a ≤ 0 := fun e => absurd ((nI_le_iff (a := a) (b := 0) (by omega) (by omega)).mp e) (by omega)
    rw [l_X10_ripeBy_5, if_neg hpos, b_win ho hb (by omega), bd_some]
    by_cases hw : win D d = true
    · have e1 : ¬ (b01 (win D d)) = 0 := by
        rw [hw]
        decide
      rw [if_neg e1]
      show l_X10_ripeBy_5 N n (nI d + 1) (nI a - 0) σ = _
      rw [← nI_succ, Int32.sub_zero, b_ripe_loop ho hb k n (d + 1) a ha ha2 (by rw [← rip_cold ho hw]; omega) (by omega) (by omega)]
      congr 3
      omega
    · have hw' : win D d = false := by simpa using hw
      have e1 : (b01 (win D d)) = 0 := by
        rw [hw']
        rfl
      rw [if_pos e1]
      show l_X10_ripeBy_5 N n (nI d + 1) (nI a - nI 1) σ = _
      rw [← nI_succ, nI_sub ha]
      by_cases h1 : a = 1
      · subst h1
        rw [rip_last ho hw'] at he
        have hk0 : k = 0 := by omega
        subst hk0
        match n, hk with
        | n + 1, _ =>
          rw [l_X10_ripeBy_5]
          exact if_pos (by decide)
      · rw [b_ripe_loop ho hb k n (d + 1) (a - 1) (by omega) (by omega) (by rw [← rip_warm ho hw' (by omega)]; omega) (by omega) (by omega)]
        congr 3
        omega
theorem b_ripeBy (ho : LandOk D) (hb : LandB D σ) {d a : Nat} (ha : 1 ≤ a) (ha2 : a ≤ 60) (hd : d < 2 ^ 20) (hN : 7000 ≤ N) :
    o_X10_ripeBy N (nI a) (nI d) σ = some (nI (rip D d a), σ) := by
  have h1 := rip_pos (D := D) (d := d) ha
  have h2 := rip_le ho (d := d) ha2
  have e := b_ripe_loop (N := N) ho hb (rip D d a - d) N d a ha (by omega) (by omega) (by omega) (by omega)
  have e2 : d + (rip D d a - d) = rip D d a := by omega
  rw [e2] at e
  exact e
theorem a_ripe (ho : LandOk D) (ha : LandA D σ) {d a : Nat} (ha2 : a ≤ 60) (hd : d < 2 ^ 20) :
    o_X5_ripeDay N (nI d) (nI a) σ = some (nI (rip D d a), σ) := by
  unfold o_X5_ripeDay j_X5_ripeDay_21 rip bt
  dsimp only
  rw [ha.2.1.1, ha.2.1.2.2]
  rcases ho.w with ⟨h0, _, _⟩ | ⟨h1, h2, h3, h4⟩
  · rw [h0, if_pos rfl, if_pos (by decide), nI_add]
  · have hpos : ¬ nI (D 8 2) ≤ 0 := fun e => absurd ((nI_le_iff (a := D 8 2) (b := 0) (by omega) (by omega)).mp e) (by omega)
    have hpos2 : (0 : Int32) < nI (D 8 2 - D 8 1) := (nI_lt_iff (a := 0) (b := D 8 2 - D 8 1) (by omega) (by omega)).mpr (by omega)
    have hne : ¬ nI (D 8 2 - D 8 1) = 0 := fun e => absurd ((nI_eq (a := D 8 2 - D 8 1) (b := 0) (by omega) (by omega)).mp e) (by omega)
    have hp : phs D d < D 8 2 := phs_lt ho (by omega) d
    have hle := ripO_le (n := D 8 2) (l := D 8 1) (ph := phs D d) (a := a) h2 h3 ha2
    have hz : ¬ D 8 2 = 0 := by omega
    rw [if_neg hpos, if_neg hz, ha.2.1.2.1, nI_sub (by omega), if_pos hpos2, fmod_nI h4 (by omega) h2 (by omega), bd_some]
    show (if _ then _ else _) = _
    rw [ha.2.1.2.1, ha.2.1.2.2]
    show (if nI (D 8 2) - p_J9_max_7cf53 (nI (phs D d)) (nI (D 8 1)) σ < nI a then _ else _) = _
    have hmax : p_J9_max_7cf53 (nI (phs D d)) (nI (D 8 1)) σ = nI (max (phs D d) (D 8 1)) := by
      unfold p_J9_max_7cf53
      by_cases h : phs D d < D 8 1
      · rw [if_pos ((nI_lt_iff (by omega) (by omega)).mpr h)]
        congr 1
        omega
      · rw [if_neg (by rw [nI_lt_iff (by omega) (by omega)]; exact h)]
        congr 1
        omega
    have hs : max (phs D d) (D 8 1) < D 8 2 := by omega
    have hs2 : phs D d ≤ max (phs D d) (D 8 1) := by omega
    show (if nI (D 8 2) - p_J9_max_7cf53 (nI (phs D d)) (nI (D 8 1)) σ < nI a then ckDI (nI (D 8 2 - D 8 1)) (ckDI (nI (D 8 2 - D 8 1)) (some ((nI d + p_J9_max_7cf53 (nI (phs D d)) (nI (D 8 1)) σ - nI (phs D d)) + (nI (D 8 2) - p_J9_max_7cf53 (nI (phs D d)) (nI (D 8 1)) σ) + (nI a - (nI (D 8 2) - p_J9_max_7cf53 (nI (phs D d)) (nI (D 8 1)) σ) - nI 1) / nI (D 8 2 - D 8 1) * nI (D 8 2) + nI (D 8 1) + ((nI a - (nI (D 8 2) - p_J9_max_7cf53 (nI (phs D d)) (nI (D 8 1)) σ) - nI 1) - (nI a - (nI (D 8 2) - p_J9_max_7cf53 (nI (phs D d)) (nI (D 8 1)) σ) - nI 1) / nI (D 8 2 - D 8 1) * nI (D 8 2 - D 8 1)) + nI 1, σ))) else some ((nI d + p_J9_max_7cf53 (nI (phs D d)) (nI (D 8 1)) σ - nI (phs D d)) + nI a, σ)) = _
    unfold ripO at hle ⊢
    rw [hmax]
    generalize max (phs D d) (D 8 1) = s at hs hs2 hle
    generalize phs D d = ph at hp hs2 hle
    rw [nI_sub (by omega), nI_add, nI_sub (by omega)]
    by_cases h : a ≤ D 8 2 - s
    · rw [if_neg (by rw [nI_lt_iff (by omega) (by omega)]; omega), if_pos h, nI_add]
      congr 3
      omega
    · rw [if_neg h] at hle ⊢
      rw [if_pos (by rw [nI_lt_iff (by omega) (by omega)]; omega), nI_sub (by omega), nI_sub (by omega)]
      unfold ckDI
      rw [if_neg hne, if_neg hne, nI_mod (by omega) (by omega), nI_div (by omega) (by omega), nI_mul, nI_add, nI_add, nI_add, nI_add, nI_add]
      congr 3
      omega
end RIP
