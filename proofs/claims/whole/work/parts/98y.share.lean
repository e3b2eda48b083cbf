/-! shares: the class's side -/
section SHARE
variable {D : LD} {r : RD} {N : Nat}
def szK (D : LD) (r : RD) (i : Nat) : Nat := szV D (ownS D r (nI i)) (nP D)
def totF (D : LD) (r : RD) (F : Nat) : Nat → Nat
  | 0 => 0
  | i + 1 => totF D r F i + if D 1 i = F then szK D r i else 0
def gotF (D : LD) (r : RD) (F V T : Nat) : Nat → Nat
  | 0 => 0
  | i + 1 => gotF D r F V T i + if D 1 i = F then V * szK D r i / T else 0
def ahdQ (D : LD) (r : RD) (F V T k : Nat) (i : Nat) : Bool := decide (D 1 i = F) && (decide (V * szK D r k % T < V * szK D r i % T) || (decide (V * szK D r k % T = V * szK D r i % T) && decide (i < k)))
theorem szV_le (ho : LandOk D) (S : Int32) : ∀ p, p ≤ nP D → szV D S p ≤ 9 * p := by
  intro p
  induction p with
  | zero =>
    intro _
    exact Nat.le_refl _
  | succ p ih =>
    intro hp
    have h1 := ih (by omega)
    have h2 := (ho.pr (show p < nP D by omega))
    have h3 : D 5 p ≤ 9 := (ho.2.2.2.2.1 p (by omega)).2.2.2.1.2
    rw [szV]
    split <;> omega
theorem szK_le (ho : LandOk D) (i : Nat) : szK D r i ≤ 63 := by
  have := szV_le ho (ownS D r (nI i)) (nP D) (Nat.le_refl _)
  have h7 := ho.p7
  unfold szK
  omega
theorem totF_le (ho : LandOk D) {F : Nat} : ∀ n, totF D r F n ≤ 63 * n
  | 0 => Nat.le_refl _
  | n + 1 => by
    have h1 := totF_le ho (F := F) n
    have h2 := szK_le (r := r) ho n
    rw [totF]
    split <;> omega
theorem a_sizesOf {σ : St} (h : RlA D r σ) (hN : 7000 ≤ N) (i : Nat) : o_X1_sizesOf N (nI i) σ = some (nI (szK D r i), σ) := by
  have h7 := h.ho.p7
  unfold o_X1_sizesOf o_X5_sizesIn
  rw [a_heldBy h.ho h.ha h.ra (by omega), bd_some]
  have := a_sizes_loop (N := N) h.ho h.ha (ownS D r (nI i)) (nP D) N 0 (by omega) (by omega)
  have e : l_X5_sizesIn_4 N N (ownS D r (nI i)) 0 0 σ = _ := this
  rw [e, bd_some]
  rfl
theorem a_fam {σ : St} (h : RlA D r σ) {i : Nat} (hi : i < nK D) : at_ σ 3 3 (nI i) = nI (D 1 i) := by
  have h3 := h.ho.k3
  rw [at_nI (by omega) (by decide)]
  exact (h.ha.2.2.1 i hi).1
theorem fam_lt (ho : LandOk D) {i : Nat} (hi : i < nK D) : D 1 i < 3 := (ho.2.2.2.1 i hi).1
theorem a_sh41 {σ : St} (h : RlA D r σ) (hN : 7000 ≤ N) {k F : Nat} {V : Int32} (hF : F < 3) : ∀ (c n i : Nat), i + c = nK D → c < n →
    l_X9_share_41 N n (nI k) (nI F) V (nI (totF D r F i)) (nI i) σ = l_X9_share_41 N (n - c) (nI k) (nI F) V (nI (totF D r F (nK D))) (nI (nK D)) σ := by
  intro c
  have h3 := h.ho.k3
  induction c with
  | zero =>
    intro n i hi hn
    have e : i = nK D := by omega
    rw [e]
    rfl
  | succ c ih =>
    intro n i hi hn
    obtain ⟨n, rfl⟩ : ∃ x, n = x + 1 := ⟨n - 1, by omega⟩
    have hlt : i < nK D := by omega
    have hf := fam_lt h.ho hlt
    rw [l_X9_share_41, h.ha.1.2.2.1, if_neg (nI_ge hlt (by omega)), a_fam h hlt]
    unfold j_X9_share_84
    have i1 := ih n (i + 1) (by omega) (by omega)
    have en : n + 1 - (c + 1) = n - c := by omega
    rw [en]
    rw [totF, p1_sub] at i1
    by_cases e : D 1 i = F
    · rw [if_pos (by rw [e]), a_sizesOf h hN, bd_some, bt_eq, bt_eq, nI_add]
      rw [if_pos e] at i1
      exact i1
    · rw [if_neg (fun z => e ((nI_eq (by omega) (by omega)).mp z)), bt_eq, bt_eq, Int32.add_zero]
      rw [if_neg e] at i1
      exact i1
theorem a_sh137 {σ : St} (h : RlA D r σ) (hN : 7000 ≤ N) {k F V T : Nat} (hF : F < 3) (hV : V ≤ 63) (hT : 0 < T ∧ T ≤ 200) (hk : k < nK D) (hg : gotF D r F V T (nK D) ≤ V) : ∀ (c n i : Nat), i + c = nK D → c < n → gotF D r F V T i ≤ V →
    l_X9_share_137 N n (nI k) (nI F) (nI V) (nI T) (nI (V - gotF D r F V T i)) (nI (cnt (ahdQ D r F V T k) i)) (nI (V * szK D r k % T)) (nI i) σ
      = some (nI (V * szK D r k / T + if V - gotF D r F V T (nK D) ≤ cnt (ahdQ D r F V T k) (nK D) then 0 else 1), σ) := by
  intro c
  have h3 := h.ho.k3
  have hz : ∀ i, V * szK D r i ≤ 4000 := fun i => by
    have h1 := szK_le (r := r) h.ho i
    have : V * szK D r i ≤ 63 * 63 := Nat.mul_le_mul hV h1
    omega
  have ck : ∀ (o : Option (Int32 × St)), ckDI (nI T) o = o := fun o => if_neg (fun e => absurd ((nI_eq (a := T) (b := 0) (by omega) (by omega)).mp e) (by omega))
  have ed : ∀ i, nI V * nI (szK D r i) / nI T = nI (V * szK D r i / T) := fun i => by
    have := hz i
    rw [nI_mul, nI_div (by omega) (by omega)]
  have em : ∀ i, nI V * nI (szK D r i) - nI V * nI (szK D r i) / nI T * nI T = nI (V * szK D r i % T) := fun i => by
    have := hz i
    rw [nI_mul, nI_mod (by omega) (by omega)]
  induction c with
  | zero =>
    intro n i hi hn hgi
    obtain ⟨n, rfl⟩ : ∃ x, n = x + 1 := ⟨n - 1, by omega⟩
    have e : i = nK D := by omega
    subst e
    have hc := cnt_le (ahdQ D r F V T k) (nK D)
    rw [l_X9_share_137, h.ha.1.2.2.1, if_pos (nI_le (Nat.le_refl _) (by omega)), a_sizesOf h hN, bd_some, ck, ed]
    by_cases c1 : V - gotF D r F V T (nK D) ≤ cnt (ahdQ D r F V T k) (nK D)
    · rw [if_pos (nI_le c1 (by omega)), if_pos c1, Int32.add_zero, Nat.add_zero]
    · rw [if_neg (by rw [nI_le_iff (by omega) (by omega)]; exact c1), if_neg c1]
      exact congrArg (fun x => some (x, σ)) (nI_add _ 1)
  | succ c ih =>
    generalize hR : V * szK D r k / T + (if V - gotF D r F V T (nK D) ≤ cnt (ahdQ D r F V T k) (nK D) then 0 else 1) = R at ih ⊢
    intro n i hi hn hgi
    obtain ⟨n, rfl⟩ : ∃ x, n = x + 1 := ⟨n - 1, by omega⟩
    have hlt : i < nK D := by omega
    have hf := fam_lt h.ho hlt
    have mono : ∀ a b, a ≤ b → gotF D r F V T a ≤ gotF D r F V T b := by
      intro a b hab
      induction hab with
      | refl => exact Nat.le_refl _
      | step _ ih2 => exact Nat.le_trans ih2 (Nat.le_add_right _ _)
    have hg1 : gotF D r F V T (i + 1) ≤ V := Nat.le_trans (mono _ _ (by omega)) hg
    have i1 := ih n (i + 1) (by omega) (by omega) hg1
    rw [gotF] at hg1
    rw [gotF, cnt, p1_sub] at i1
    rw [l_X9_share_137, h.ha.1.2.2.1, if_neg (nI_ge hlt (by omega)), a_fam h hlt]
    unfold j_X9_share_222 j_X9_share_226 j_X9_share_227 j_X9_share_230
    have rk : ∀ a, V * szK D r a % T < 200 := fun a => Nat.lt_of_lt_of_le (Nat.mod_lt _ hT.1) hT.2
    have r1 := rk k
    have r2 := rk i
    by_cases e : D 1 i = F
    · rw [if_pos e] at i1 hg1
      have ev : nI (V - gotF D r F V T i) - nI (V * szK D r i / T) = nI (V - (gotF D r F V T i + V * szK D r i / T)) := by
        rw [nI_sub (by omega)]
        congr 1
        omega
      rw [if_pos (by rw [e]), a_sizesOf h hN, bd_some, ck, ed, bt_eq, a_sizesOf h hN, bd_some, ck, em, bt_eq, ev]
      have hq : ahdQ D r F V T k i = (decide (V * szK D r k % T < V * szK D r i % T) || (decide (V * szK D r k % T = V * szK D r i % T) && decide (i < k))) := by
        unfold ahdQ
        rw [decide_eq_true e, Bool.true_and]
      rw [hq] at i1
      have a1 : ∀ x : Nat, nI x + 1 = nI (x + 1) := fun x => nI_add x 1
      by_cases c1 : V * szK D r k % T < V * szK D r i % T
      · rw [if_pos ((nI_lt_iff (by omega) (by omega)).mpr c1), bt_eq, bt_eq, a1 (cnt _ _)]
        simp [c1] at i1
        exact i1
      · rw [if_neg (by rw [nI_lt_iff (by omega) (by omega)]; exact c1)]
        by_cases c2 : V * szK D r i % T = V * szK D r k % T
        · rw [if_pos (by rw [c2])]
          by_cases c3 : k ≤ i
          · have n3 : ¬ i < k := by omega
            rw [if_pos (nI_le c3 (by omega)), bt_eq, bt_eq, Int32.add_zero]
            simp [c1, n3] at i1
            exact i1
          · have n3 : i < k := by omega
            rw [if_neg (by rw [nI_le_iff (by omega) (by omega)]; exact c3), bt_eq, bt_eq, a1 (cnt _ _)]
            simp [c2, n3] at i1
            exact i1
        · have n2 : ¬ V * szK D r k % T = V * szK D r i % T := fun z => c2 z.symm
          rw [if_neg (fun z => c2 ((nI_eq (by omega) (by omega)).mp z)), bt_eq, bt_eq, Int32.add_zero]
          simp [c1, n2] at i1
          exact i1
    · rw [if_neg e] at i1
      have hq : ahdQ D r F V T k i = false := by
        unfold ahdQ
        simp [e]
      rw [hq] at i1
      rw [if_neg (fun z => e ((nI_eq (by omega) (by omega)).mp z)), bt_eq]
      exact i1
end SHARE
