section SHARE5
variable {D : LD} {r : RD} {N : Nat}
def aV (D : LD) (r : RD) (F V T j : Nat) : Nat := if (j < nK D ∧ D 1 j = F) ∧ 0 < T then V * szK D r j / T else 0
def xV (D : LD) (r : RD) (F V T j : Nat) : Nat := if (j < nK D ∧ D 1 j = F) ∧ 0 < T then V * szK D r j % T + 1 else 0
def gV (D : LD) (r : RD) (F V T : Nat) : Nat → Nat
  | 0 => 0
  | i + 1 => gV D r F V T i + aV D r F V T i
def FrS (τ w : St) : Prop := ∀ c, ¬ c = 100 → ¬ c = 101 → w c = τ c
theorem RlB.frs {τ w : St} (h : RlB D r τ) (f : FrS τ w) : RlB D r w := ⟨h.ho, LandB_of (fun i _ => by rw [f 79 (by decide) (by decide)]) (fun a h1 h2 => f a (by omega) (by omega)) h.hb, by rw [f 80 (by decide) (by decide)]; exact h.rb, h.ri⟩
theorem gV_mono {F V T : Nat} : ∀ a b, a ≤ b → gV D r F V T a ≤ gV D r F V T b := by
  intro a b hab
  induction hab with
  | refl => exact Nat.le_refl _
  | step _ ih2 => exact Nat.le_trans ih2 (Nat.le_add_right _ _)
theorem b_fs79 {τ : St} (g : RlB D r τ) (hN : 7000 ≤ N) {F : Nat} {v3 : Int32} (hF : F < 3) {V T : Nat} (hVe : r 6 F = V) (hV : V ≤ 63) (hT : T ≤ 200) (hg : gV D r F V T 3 ≤ V) : ∀ (c n i : Nat) (w : St), i + c = 3 → c < n → FrS τ w →
    ∃ w', l_X10_findShares_79 N n (nI F) (nI T) v3 (nI (V - gV D r F V T i)) (nI i) w = l_X10_findShares_79 N (n - c) (nI F) (nI T) v3 (nI (V - gV D r F V T 3)) (nI 3) w' ∧ FrS τ w' ∧ (∀ j, w' 100 j = if i ≤ j ∧ j < 3 then nI (aV D r F V T j) else w 100 j) ∧ ∀ j, w' 101 j = if i ≤ j ∧ j < 3 then oI (xV D r F V T j) else w 101 j := by
  intro c
  have h3 := g.ho.k3
  induction c with
  | zero =>
    intro n i w hi hn hf
    have e : i = 3 := by omega
    subst e
    exact ⟨w, rfl, hf, fun j => by rw [if_neg (by omega)], fun j => by rw [if_neg (by omega)]⟩
  | succ c ih =>
    intro n i w hi hn hf
    obtain ⟨n, rfl⟩ : ∃ k, n = k + 1 := ⟨n - 1, by omega⟩
    have gw := g.frs hf
    have hlt : i < 3 := by omega
    have q1 : ¬ (3 : Int32) ≤ nI i := fun e => absurd ((nI_le_iff (a := 3) (b := i) (by omega) (by omega)).mp e) (by omega)
    have hm := gV_mono (D := D) (r := r) (F := F) (V := V) (T := T) (i + 1) 3 (by omega)
    have hm2 : gV D r F V T i + aV D r F V T i ≤ V := Nat.le_trans hm hg
    have ck : ∀ {o : Option (Unit × St)}, ckA (nI i) 3 o = o := fun {o} => b_cka (x := i) (n := 3) o (by omega) (by decide)
    have ni : (nI i).toNatClampNeg = i := nI_clamp (n := i) (by omega)
    have en : n + 1 - (c + 1) = n - c := by omega
    have z149 : ∀ x y, x = nI (aV D r F V T i) → y = oI (xV D r F V T i) →
        ∃ w', (bt (nI (V - gV D r F V T i) - (st (st w 100 i x) 101 i y) 100 i) fun x4 => bt (nI i + 1) fun x5 => l_X10_findShares_79 N n (nI F) (nI T) v3 x4 x5 (st (st w 100 i x) 101 i y)) = l_X10_findShares_79 N (n - c) (nI F) (nI T) v3 (nI (V - gV D r F V T 3)) (nI 3) w' ∧ FrS τ w' ∧ (∀ j, w' 100 j = if i ≤ j ∧ j < 3 then nI (aV D r F V T j) else w 100 j) ∧ ∀ j, w' 101 j = if i ≤ j ∧ j < 3 then oI (xV D r F V T j) else w 101 j := by
      intro x y hx hy
      obtain ⟨w', y1, y2, y3, y4⟩ := ih n (i + 1) (st (st w 100 i x) 101 i y) (by omega) (by omega) (fun c h1 h2 => by rw [st_cell h2, st_cell h1]; exact hf c h1 h2)
      have e1 : (st (st w 100 i x) 101 i y) 100 i = x := by rw [st_cell (by decide), st_same]
      refine ⟨w', ?_, y2, fun j => ?_, fun j => ?_⟩
      · have ev : nI (V - gV D r F V T i) - x = nI (V - gV D r F V T (i + 1)) := by
          rw [hx, nI_sub (by omega), gV]
          congr 1
          omega
        rw [e1, ev, bt_eq, bt_eq, ← p1_sub]
        exact y1
      · rw [y3, st_cell (by decide), st_get]
        by_cases c1 : i + 1 ≤ j ∧ j < 3
        · have c3 : i ≤ j ∧ j < 3 := ⟨by omega, c1.2⟩
          rw [if_pos c1, if_pos c3]
        · rw [if_neg c1]
          by_cases c2 : j = i
          · have c3 : i ≤ j ∧ j < 3 := ⟨by omega, by omega⟩
            rw [if_pos c2, if_pos c3, c2, hx]
          · rw [if_neg c2, if_neg (by omega)]
      · rw [y4, st_get, st_cell (by decide)]
        by_cases c1 : i + 1 ≤ j ∧ j < 3
        · have c3 : i ≤ j ∧ j < 3 := ⟨by omega, c1.2⟩
          rw [if_pos c1, if_pos c3]
        · rw [if_neg c1]
          by_cases c2 : j = i
          · have c3 : i ≤ j ∧ j < 3 := ⟨by omega, by omega⟩
            rw [if_pos c2, if_pos c3, c2, hy]
          · rw [if_neg c2, if_neg (by omega)]
    have no : ¬ ((i < nK D ∧ D 1 i = F) ∧ 0 < T) → ∃ w', j_X10_findShares_113 N (l_X10_findShares_79 N n) (nI F) (nI T) v3 (nI (V - gV D r F V T i)) (nI i) w = l_X10_findShares_79 N (n - c) (nI F) (nI T) v3 (nI (V - gV D r F V T 3)) (nI 3) w' ∧ FrS τ w' ∧ (∀ j, w' 100 j = if i ≤ j ∧ j < 3 then nI (aV D r F V T j) else w 100 j) ∧ ∀ j, w' 101 j = if i ≤ j ∧ j < 3 then oI (xV D r F V T j) else w 101 j := by
      intro hno
      have e0 : (0 : Int32) = 0 := rfl
      have ha : aV D r F V T i = 0 := if_neg hno
      have hx : xV D r F V T i = 0 := if_neg hno
      unfold j_X10_findShares_113 j_X10_findShares_114 j_X10_findShares_149 j_X10_findShares_183
      rw [if_pos e0, ck, bt_eq, if_pos e0, ck, bt_eq, ck, ni]
      exact z149 0 (-1) (by rw [ha]; rfl) (by rw [hx]; rfl)
    rw [l_X10_findShares_79, if_neg q1, gw.hb.1.2.2.1, en]
    by_cases c1 : i < nK D
    · have hfm := fam_lt g.ho c1
      rw [if_neg (nI_ge c1 (by omega)), b_cka (x := i) (n := 6) _ (by omega) (by decide), ni, (gw.hb.2.2.1 i c1).1]
      by_cases c2 : D 1 i = F
      · rw [if_pos (by rw [c2])]
        by_cases c3 : 0 < T
        · have q3 : ¬ nI T ≤ 0 := fun z => by
            have := (nI_le_iff (a := T) (b := 0) (by omega) (by omega)).mp z
            omega
          have hz1 := szK_le (r := r) g.ho i
          have hz : V * szK D r i ≤ 63 * 63 := Nat.mul_le_mul hV hz1
          have hyes : (i < nK D ∧ D 1 i = F) ∧ 0 < T := ⟨⟨c1, c2⟩, c3⟩
          have ha : aV D r F V T i = V * szK D r i / T := if_pos hyes
          have hx : xV D r F V T i = V * szK D r i % T + 1 := if_pos hyes
          have ckd : ∀ (o : Option (Unit × St)), ckDI (nI T) o = o := fun o => if_neg (fun z => absurd ((nI_eq (a := T) (b := 0) (by omega) (by omega)).mp z) (by omega))
          have e34 : (34 : Int32) + nI F = nI (34 + F) := nI_add 34 F
          have ck34 : ∀ {o : Option (Unit × St)}, ckA (nI (34 + F)) 1360 o = o := fun {o} => b_cka (x := 34 + F) (n := 1360) o (by omega) (by decide)
          have n34 : (nI (34 + F)).toNatClampNeg = 34 + F := nI_clamp (n := 34 + F) (by omega)
          have v34 : ∀ u, FrS τ u → u 80 (34 + F) = nI V := fun u hu => by
            have := (g.frs hu).rb.2.2.2 F hF
            rw [show 0 + 34 + F = 34 + F by omega, hVe] at this
            exact this
          have fu : FrS τ (st w 100 i (nI (V * szK D r i / T))) := fun c h1 h2 => (st_cell h1).trans (hf c h1 h2)
          rw [if_neg q3]
          unfold j_X10_findShares_114 j_X10_findShares_149 j_X10_findShares_183
          rw [if_neg one_ne, e34, ck34, b_sizesOf gw hN, bd_some, ckd, ck, n34, v34 w hf, nI_mul, nI_div (by omega) (by omega), bt_eq, if_neg one_ne, ck34, ni, b_sizesOf (g.frs fu) hN, bd_some, ckd, ck, v34 _ fu, nI_mul, nI_mod (by omega) (by omega), bt_eq, ck]
          exact z149 _ _ (by rw [ha]) (by rw [hx]; rfl)
        · have hT0 : T = 0 := by omega
          have q3 : nI T ≤ 0 := by
            rw [hT0]
            decide
          rw [if_pos q3]
          exact no (fun z => c3 z.2)
      · rw [if_neg (fun z => c2 ((nI_eq (by omega) (by omega)).mp z))]
        exact no (fun z => c2 z.1.2)
    · rw [if_pos (nI_le (by omega) (by omega))]
      exact no (fun z => c1 z.1.1)
end SHARE5
