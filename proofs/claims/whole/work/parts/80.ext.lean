/-! the class's search is that function -/
def SrA (D : LD) (t s : Nat) (ρ : Nat → Nat) (L : Int32) (σ : St) : Prop := LandA D σ ∧ ∀ p, p < 8 → bit L p = true → σ 64 p = nI (twN D t p) ∧ σ 65 p = nI (slN D s p) ∧ σ 66 p = oI (ρ p)
def BdN (ρ : Nat → Nat) (L : Int32) (B : Nat) : Prop := ∀ p, p < 8 → bit L p = true → ρ p ≤ B
def BestA (any : Bool) (Z : Nat) (b : BS) (σ : St) : Prop := σ 63 9 = b01 any ∧ match b with
  | none => σ 63 8 = -1
  | some x => σ 63 8 = nI x.1 ∧ x.1 < 2 ^ 20 ∧ σ 63 7 = nI Z ∧ ∀ i, i < Z → σ 68 i = nI (x.2 i)
section EXT
variable {D : LD} {t s : Nat} {any : Bool} {N : Nat} {ρ : Nat → Nat} {L : Int32} {B : Nat}
theorem gI_eq {g p : Nat} (hg : g ≤ 9) (hp : p < 8) : gI g = nI p ↔ g = p := by
  unfold gI
  by_cases h : g = 9
  · rw [if_pos h]
    constructor
    · intro e
      exact absurd e.symm (nI_neg1 (by omega))
    · intro e
      omega
  · rw [if_neg h]
    exact nI_eq (by omega) (by omega)
theorem slN_le (ho : LandOk D) (hi : ItOk D t s L) {p : Nat} (hp : p < 8) (hb : bit L p = true) : slN D s p ≤ 9 := by
  unfold slN
  by_cases e : p = 7
  · rw [if_pos e]
    exact hi.2.1
  · rw [if_neg e]
    exact (ho.pr (hi.2.2.2 p (by omega) hb)).2.2.1
theorem a_ripen_loop (ho : LandOk D) {p : Nat} (hp : p < 8) (v3 : Int32) (X : Nat → Int32) (hX : ∀ q σ, q < nP D → LandA D σ → (v3 = -1 ∧ X q = -1) ∨ (¬ v3 = -1 ∧ o_X5_ripeDay N v3 (nI (D 3 q)) σ = some (X q, σ))) : ∀ (c n j : Nat) (σ : St), LandA D σ → j ≤ 8 → nP D ≤ j + c → c < n →
    ∃ w, l_X8_ripen_5 N n (nI p) L v3 (nI j) σ = some ((), w) ∧ (∀ q, w 66 q = if j ≤ q ∧ q < nP D ∧ bit L q = true ∧ D 6 q = p then X q else σ 66 q) ∧ ∀ a, ¬ a = 66 → w a = σ a := by
  intro c
  induction c with
  | zero =>
    intro n j σ ha h8 hj hn
    obtain ⟨n, rfl⟩ : ∃ k, n = k + 1 := ⟨n - 1, by omega⟩
    refine ⟨σ, ?_, fun q => by rw [if_neg (by omega)], fun _ _ => rfl⟩
    rw [l_X8_ripen_5, ha.1.2.2.2, if_pos (nI_le (by omega) (by omega))]
  | succ c ih =>
    intro n j σ ha h8 hj hn
    obtain ⟨n, rfl⟩ : ∃ k, n = k + 1 := ⟨n - 1, by omega⟩
    have h7 := ho.p7
    by_cases hlt : j < nP D
    · have hq := ho.pr hlt
      have es : nI (j + 1) = nI j + 1 := by rw [nI_succ]
      have skip : ¬ (bit L j = true ∧ D 6 j = p) → ∃ w, j_X8_ripen_80 N (l_X8_ripen_5 N n) (nI p) L v3 (nI j) σ = some ((), w) ∧ (∀ q, w 66 q = if j ≤ q ∧ q < nP D ∧ bit L q = true ∧ D 6 q = p then X q else σ 66 q) ∧ ∀ a, ¬ a = 66 → w a = σ a := by
        intro hno
        obtain ⟨w, e1, e2, e3⟩ := ih n (j + 1) σ ha (by omega) (by omega) (by omega)
        rw [es] at e1
        refine ⟨w, e1, fun q => ?_, e3⟩
        rw [e2]
        by_cases e : q = j
        · rw [if_neg (by omega), if_neg (fun x => hno (by rw [← e]; exact x.2.2))]
        · by_cases c2 : j + 1 ≤ q ∧ q < nP D ∧ bit L q = true ∧ D 6 q = p
          · rw [if_pos c2, if_pos ⟨by omega, c2.2⟩]
          · rw [if_neg c2, if_neg (fun x => c2 ⟨by omega, x.2⟩)]
      have go : ∀ x, x = X j → bit L j = true ∧ D 6 j = p → ∃ w, j_X8_ripen_77 N (l_X8_ripen_5 N n) (nI p) L v3 (nI j) (nI j) x σ = some ((), w) ∧ (∀ q, w 66 q = if j ≤ q ∧ q < nP D ∧ bit L q = true ∧ D 6 q = p then X q else σ 66 q) ∧ ∀ a, ¬ a = 66 → w a = σ a := by
        intro x hx hyes
        have hw : ∀ a, ¬ a = 66 → st σ 66 j x a = σ a := fun a ha => st_cell ha
        obtain ⟨w, e1, e2, e3⟩ := ih n (j + 1) (st σ 66 j x) (LandA_of (fun a ha => hw a (by omega)) ha) (by omega) (by omega) (by omega)
        rw [es] at e1
        refine ⟨w, ?_, fun q => ?_, fun a ha => (e3 a ha).trans (hw a ha)⟩
        · unfold j_X8_ripen_77 j_X8_ripen_80 bt
          dsimp only
          rw [put_nI (by omega) (by decide)]
          exact e1
        · rw [e2, st_get]
          by_cases e : q = j
          · rw [if_neg (by omega), if_pos e, if_pos ⟨by omega, by omega, by rw [e]; exact hyes⟩, hx, e]
          · rw [if_neg e]
            by_cases c2 : j + 1 ≤ q ∧ q < nP D ∧ bit L q = true ∧ D 6 q = p
            · rw [if_pos c2, if_pos ⟨by omega, c2.2⟩]
            · rw [if_neg c2, if_neg (fun x => c2 ⟨by omega, x.2⟩)]
      rw [l_X8_ripen_5, ha.1.2.2.2, if_neg (nI_ge hlt (by omega)), a_hasb L (g := j) (by omega), at_nI (j := j) (n := 7) (by omega) (by decide), (ha.2.2.2.1 j hlt).2.2.2.2.2]
      have e1 : ¬ b01 true = 0 := one_ne
      have e2 : b01 false = 0 := rfl
      cases hb : bit L j
      · rw [if_pos e2]
        exact skip (fun x => by rw [hb] at x; cases x.1)
      · rw [if_neg e1]
        by_cases hg : D 6 j = p
        · rw [if_pos ((gI_eq (by omega) hp).mpr hg)]
          rcases hX j σ hlt ha with ⟨c1, c2⟩ | ⟨c1, c2⟩
          · rw [if_pos c1]
            exact go _ c2.symm ⟨hb, hg⟩
          · rw [if_neg c1, at_nI (j := j) (n := 7) (by omega) (by decide), (ha.2.2.2.1 j hlt).2.2.1, c2, bd_some]
            exact go _ rfl ⟨hb, hg⟩
        · rw [if_neg (fun e => hg ((gI_eq (by omega) hp).mp e))]
          exact skip (fun x => hg x.2)
    · refine ⟨σ, ?_, fun q => by rw [if_neg (by omega)], fun _ _ => rfl⟩
      rw [l_X8_ripen_5, ha.1.2.2.2, if_pos (nI_le (by omega) (by omega))]
theorem a_misses_loop (ho : LandOk D) (hi : ItOk D t s L) (hB : BdN ρ L B) {a day : Nat} (ha : a < nT D) (hb : B + day ≤ 2 ^ 20) {σ : St} (hS : SrA D t s ρ L σ) : ∀ (c n p : Nat), p + c = 8 → c < n →
    (l_X8_misses_3 N n (nI a) (nI day) L (nI p) σ = some (1, σ) ∧ ∃ q, q < 8 ∧ bit L q = true ∧ (D 7 (5 * a + twN D t q) = 1000 ∨ ρ q ≠ 0 ∧ ρ q - 1 + slN D s q < day + D 7 (5 * a + twN D t q))) ∨
    (l_X8_misses_3 N n (nI a) (nI day) L (nI p) σ = some (0, σ) ∧ ∀ q, p ≤ q → q < 8 → bit L q = true → D 7 (5 * a + twN D t q) ≠ 1000 ∧ (ρ q ≠ 0 → day + D 7 (5 * a + twN D t q) ≤ ρ q - 1 + slN D s q)) := by
  intro c
  induction c with
  | zero =>
    intro n p hp hn
    obtain ⟨n, rfl⟩ : ∃ k, n = k + 1 := ⟨n - 1, by omega⟩
    right
    have e : p = 8 := by omega
    subst e
    refine ⟨?_, fun q h1 h2 => by omega⟩
    rw [l_X8_misses_3, if_pos (show (8 : Int32) ≤ nI 8 from nI_le (a := 8) (by omega) (by omega))]
  | succ c ih =>
    intro n p hp hn
    obtain ⟨n, rfl⟩ : ∃ k, n = k + 1 := ⟨n - 1, by omega⟩
    have es : nI (p + 1) = nI p + 1 := by rw [nI_succ]
    have h5 := ho.t5
    have hlt : ¬ (8 : Int32) ≤ nI p := fun e => absurd ((nI_le_iff (a := 8) (b := p) (by omega) (by omega)).mp e) (by omega)
    have skip : (bit L p = true → D 7 (5 * a + twN D t p) ≠ 1000 ∧ (ρ p ≠ 0 → day + D 7 (5 * a + twN D t p) ≤ ρ p - 1 + slN D s p)) →
        (j_X8_misses_89 N (l_X8_misses_3 N n) (nI a) (nI day) L (nI p) σ = some (1, σ) ∧ ∃ q, q < 8 ∧ bit L q = true ∧ (D 7 (5 * a + twN D t q) = 1000 ∨ ρ q ≠ 0 ∧ ρ q - 1 + slN D s q < day + D 7 (5 * a + twN D t q))) ∨
        (j_X8_misses_89 N (l_X8_misses_3 N n) (nI a) (nI day) L (nI p) σ = some (0, σ) ∧ ∀ q, p ≤ q → q < 8 → bit L q = true → D 7 (5 * a + twN D t q) ≠ 1000 ∧ (ρ q ≠ 0 → day + D 7 (5 * a + twN D t q) ≤ ρ q - 1 + slN D s q)) := by
      intro hh
      rcases ih n (p + 1) (by omega) (by omega) with ⟨i1, i2⟩ | ⟨i1, i2⟩
      · left
        rw [es] at i1
        exact ⟨i1, i2⟩
      · right
        rw [es] at i1
        refine ⟨i1, fun q h1 h2 h3 => ?_⟩
        by_cases e : q = p
        · rw [e] at h3 ⊢
          exact hh h3
        · exact i2 q (by omega) h2 h3
    rw [l_X8_misses_3, if_neg hlt, a_hasb L (g := p) (by omega)]
    have e1 : ¬ b01 true = 0 := one_ne
    have e2 : b01 false = 0 := rfl
    cases hbp : bit L p
    · rw [if_pos e2]
      exact skip (fun x => by rw [hbp] at x; cases x)
    · obtain ⟨c64, c65, c66⟩ := hS.2 p (by omega) hbp
      have tp := twN_lt ho hi (by omega) hbp
      have sp := slN_le ho hi (by omega) hbp
      have rp := hB p (by omega) hbp
      have dp := ho.di (i := 5 * a + twN D t p) (by omega)
      rw [if_neg e1]
      unfold bt
      dsimp only
      rw [at_nI (j := p) (n := 8) (by omega) (by decide), at_nI (j := p) (n := 8) (by omega) (by decide), at_nI (j := p) (n := 8) (by omega) (by decide), c64, c65, c66, a_dist ho hS.1 ha tp]
      by_cases hd : D 7 (5 * a + twN D t p) = 1000
      · left
        rw [if_pos ((dI_neg ho (by omega)).mpr hd)]
        exact ⟨rfl, p, by omega, hbp, Or.inl hd⟩
      · have ed : dI (D 7 (5 * a + twN D t p)) = nI (D 7 (5 * a + twN D t p)) := if_neg hd
        rw [if_neg (fun e => hd ((dI_neg ho (by omega)).mp e)), ed]
        by_cases hr : ρ p = 0
        · rw [if_pos ((oI_neg (by omega)).mpr hr)]
          exact skip (fun _ => ⟨hd, fun x => absurd hr x⟩)
        · rw [if_neg (fun e => hr ((oI_neg (by omega)).mp e)), oI_pos hr, nI_add, nI_add]
          by_cases hl : day + D 7 (5 * a + twN D t p) ≤ ρ p - 1 + slN D s p
          · rw [if_pos (nI_le hl (by omega))]
            exact skip (fun _ => ⟨hd, fun _ => hl⟩)
          · left
            rw [if_neg (by rw [nI_le_iff (by omega) (by omega)]; exact hl)]
            exact ⟨rfl, p, by omega, hbp, Or.inr ⟨hr, by omega⟩⟩
theorem b01_1 {b : Bool} (h : b = true) : ¬ b01 b = 0 := by
  rw [h]
  exact one_ne
theorem a_better {b : BS} {Z tr : Nat} {σ : St} (hb : BestA any Z b σ) (ht : tr < 2 ^ 20) : (p_X8_cannotBeBetter (nI tr) σ = 1 ∧ ∃ x, b = some x ∧ (any = true ∨ x.1 ≤ tr)) ∨ (p_X8_cannotBeBetter (nI tr) σ = 0 ∧ ∀ l, upd9 any b tr l = some (tr, l)) := by
  unfold p_X8_cannotBeBetter j_X8_cannotBeBetter_27 j_X8_cannotBeBetter_23
  obtain ⟨h9, hb⟩ := hb
  rw [h9]
  cases b with
  | none =>
    dsimp only at hb
    rw [if_pos hb]
    exact Or.inr ⟨rfl, fun l => rfl⟩
  | some x =>
    dsimp only at hb
    obtain ⟨h8, hx, -, -⟩ := hb
    rw [h8, if_neg (nI_neg1 (by omega))]
    cases any
    · have e2 : b01 false = 0 := rfl
      rw [if_pos e2]
      by_cases c : tr < x.1
      · rw [if_pos ((nI_lt_iff (by omega) (by omega)).mpr c)]
        refine Or.inr ⟨rfl, fun l => ?_⟩
        unfold upd9
        dsimp only
        rw [if_neg (by decide), if_pos c]
      · rw [if_neg (by rw [nI_lt_iff (by omega) (by omega)]; exact c)]
        exact Or.inl ⟨rfl, x, rfl, Or.inr (by omega)⟩
    · rw [if_neg (b01_1 rfl)]
      exact Or.inl ⟨rfl, x, rfl, Or.inl rfl⟩
end EXT
