def o_X9_clash (N : Nat) (a1 : Int32) (a2 : Int32) (σ : St) : Option (Int32 × St) := if (p_X5_hasKeeper a1 σ) = 0 then (some ((-1000000001), σ)) else (if a2 < 0 then (some ((-1000000002), σ)) else (if a2 ≤ 1 then (if (p_X1_onTheWay a1 σ) = 0 then (bd (o_X8_firstClash N a1 σ) fun x5 σ6 => if x5 = (-1) then (some ((-1), σ6)) else (if a2 = 0 then (some ((x5 / 7), σ6)) else (some ((x5 - x5 / 7 * 7), σ6)))) else (some ((-1000000003), σ))) else (some ((-1000000002), σ))))
theorem e_X9_clash (N : Nat) (a1 : Int32) (a2 : Int32) (σ : St) (v : Int32) (w : St) (h : o_X9_clash N a1 a2 σ = some (v, w)) : Ev md_X9_clash 83 0 (lvE [vR 0, vI a1, vI a2] 4) [] SH σ (some (vI v), SH, w) := by
  show Ev md_X9_clash 83 0 [some (vR 0), some (vI a1), some (vI a2), none] [] SH σ (some (vI v), SH, w)
  unfold o_X9_clash at h
  refine Ev.aload_n (pc := 0) dX9_clash_0 rfl rfl ?_
  refine Ev.getR (pc := 1) dX9_clash_1 fl_X9_10 sh_0 rfl ?_
  refine Ev.iload_n (pc := 4) dX9_clash_4 rfl rfl ?_
  refine Ev.cVi (pc := 5) (k := 1) (av := [vI a1]) (rest := []) dX9_clash_5 ce_X5_hasKeeper ml_X9_150 rfl sh_1 cl_X5 sh_sc (Nat.le_of_ble_eq_true rfl) (Nat.le_of_ble_eq_true rfl) (r_X5_hasKeeper _ _) ?_
  by_cases c1 : (p_X5_hasKeeper a1 σ) = 0
  · replace h := (if_pos c1).symm.trans h
    refine Ev.if_ne_f (pc := 8) dX9_clash_8 ⟨14, rfl⟩ c1 ?_
    refine Ev.ldc (pc := 11) dX9_clash_11 kc_X9_145 ?_
    obtain ⟨h1, h2⟩ := oeq h
    subst h1
    subst h2
    exact Ev.ret_i (pc := 13) dX9_clash_13 rfl rfl
  · replace h := (if_neg c1).symm.trans h
    refine Ev.if_ne_t (pc := 8) (tgt := 14) dX9_clash_8 rfl c1 ?_
    refine Ev.iload_n (pc := 14) dX9_clash_14 rfl rfl ?_
    by_cases c2 : a2 < 0
    · replace h := (if_pos c2).symm.trans h
      refine Ev.if_lt_t (pc := 15) (tgt := 23) dX9_clash_15 rfl c2 ?_
      refine Ev.ldc (pc := 23) dX9_clash_23 kc_X9_81 ?_
      obtain ⟨h1, h2⟩ := oeq h
      subst h1
      subst h2
      exact Ev.ret_i (pc := 25) dX9_clash_25 rfl rfl
    · replace h := (if_neg c2).symm.trans h
      refine Ev.if_lt_f (pc := 15) dX9_clash_15 ⟨23, rfl⟩ c2 ?_
      refine Ev.iload_n (pc := 18) dX9_clash_18 rfl rfl ?_
      refine Ev.iconst (pc := 19) (v := 1) dX9_clash_19 ki_1 ?_
      by_cases c3 : a2 ≤ 1
      · replace h := (if_pos c3).symm.trans h
        refine Ev.icmp_le_t (pc := 20) (tgt := 26) dX9_clash_20 rfl c3 ?_
        refine Ev.aload_n (pc := 26) dX9_clash_26 rfl rfl ?_
        refine Ev.getR (pc := 27) dX9_clash_27 fl_X9_31 sh_0 rfl ?_
        refine Ev.iload_n (pc := 30) dX9_clash_30 rfl rfl ?_
        refine Ev.cVi (pc := 31) (k := 23) (av := [vI a1]) (rest := []) dX9_clash_31 ce_X1_onTheWay ml_X9_258 rfl sh_23 cl_X1 sh_sc (Nat.le_of_ble_eq_true rfl) (Nat.le_of_ble_eq_true rfl) (r_X1_onTheWay _ _) ?_
        by_cases c4 : (p_X1_onTheWay a1 σ) = 0
        · replace h := (if_pos c4).symm.trans h
          refine Ev.if_eq_t (pc := 34) (tgt := 40) dX9_clash_34 rfl c4 ?_
          refine Ev.aload_n (pc := 40) dX9_clash_40 rfl rfl ?_
          refine Ev.getR (pc := 41) dX9_clash_41 fl_X9_61 sh_0 rfl ?_
          refine Ev.iload_n (pc := 44) dX9_clash_44 rfl rfl ?_
          obtain ⟨x5, σ6, g7, h⟩ := bd_elim h
          refine Ev.cVi (pc := 45) (k := 63) (av := [vI a1]) (rest := []) dX9_clash_45 ce_X8_firstClash ml_X9_261 rfl sh_63 cl_X8 sh_sc (Nat.le_of_ble_eq_true rfl) (Nat.le_of_ble_eq_true rfl) (r_X8_firstClash g7) ?_
          refine Ev.istore_n (pc := 48) (lv' := [some (vR 0), some (vI a1), some (vI a2), some (vI x5)]) dX9_clash_48 rfl (lt9 rfl) rfl rfl ?_
          refine Ev.iload_n (pc := 49) dX9_clash_49 rfl rfl ?_
          refine Ev.iconst (pc := 50) (v := (-1)) dX9_clash_50 ki_m1 ?_
          by_cases c8 : x5 = (-1)
          · replace h := (if_pos c8).symm.trans h
            refine Ev.icmp_ne_f (pc := 51) dX9_clash_51 ⟨56, rfl⟩ c8 ?_
            refine Ev.iconst (pc := 54) (v := (-1)) dX9_clash_54 ki_m1 ?_
            obtain ⟨h1, h2⟩ := oeq h
            subst h1
            subst h2
            exact Ev.ret_i (pc := 55) dX9_clash_55 rfl rfl
          · replace h := (if_neg c8).symm.trans h
            refine Ev.icmp_ne_t (pc := 51) (tgt := 56) dX9_clash_51 rfl c8 ?_
            refine Ev.iload_n (pc := 56) dX9_clash_56 rfl rfl ?_
            by_cases c9 : a2 = 0
            · replace h := (if_pos c9).symm.trans h
              refine Ev.if_ne_f (pc := 57) dX9_clash_57 ⟨67, rfl⟩ c9 ?_
              refine Ev.iload_n (pc := 60) dX9_clash_60 rfl rfl ?_
              refine Ev.bipush (pc := 61) (v := 7) dX9_clash_61 kb_7 ?_
              refine Ev.idiv (pc := 63) dX9_clash_63 (by decide) ?_
              refine Ev.goto (pc := 64) (tgt := 71) dX9_clash_64 rfl ?_
              obtain ⟨h1, h2⟩ := oeq h
              subst h1
              subst h2
              exact Ev.ret_i (pc := 71) dX9_clash_71 rfl rfl
            · replace h := (if_neg c9).symm.trans h
              refine Ev.if_ne_t (pc := 57) (tgt := 67) dX9_clash_57 rfl c9 ?_
              refine Ev.iload_n (pc := 67) dX9_clash_67 rfl rfl ?_
              refine Ev.bipush (pc := 68) (v := 7) dX9_clash_68 kb_7 ?_
              refine Ev.irem (pc := 70) dX9_clash_70 (by decide) ?_
              obtain ⟨h1, h2⟩ := oeq h
              subst h1
              subst h2
              exact Ev.ret_i (pc := 71) dX9_clash_71 rfl rfl
        · replace h := (if_neg c4).symm.trans h
          refine Ev.if_eq_f (pc := 34) dX9_clash_34 ⟨40, rfl⟩ c4 ?_
          refine Ev.ldc (pc := 37) dX9_clash_37 kc_X9_207 ?_
          obtain ⟨h1, h2⟩ := oeq h
          subst h1
          subst h2
          exact Ev.ret_i (pc := 39) dX9_clash_39 rfl rfl
      · replace h := (if_neg c3).symm.trans h
        refine Ev.icmp_le_f (pc := 20) dX9_clash_20 ⟨26, rfl⟩ c3 ?_
        refine Ev.ldc (pc := 23) dX9_clash_23 kc_X9_81 ?_
        obtain ⟨h1, h2⟩ := oeq h
        subst h1
        subst h2
        exact Ev.ret_i (pc := 25) dX9_clash_25 rfl rfl
theorem r_X9_clash {N : Nat} {a1 : Int32} {a2 : Int32} {σ : St} {v : Int32} {w : St} (h : o_X9_clash N a1 a2 σ = some (v, w)) : Rn md_X9_clash 83 [vR 0, vI a1, vI a2] SH σ (some (vI v), SH, w) := Rn.of ce_X9_clash.1 (Nat.le_of_ble_eq_true rfl) (e_X9_clash N _ _ _ _ _ h)
def j_X10_withGrafts_72 (N : Nat) (K_17 : Int32 → Int32 → Int32 → St → Option (Int32 × St)) (v4 : Int32) (v5 : Int32) (s0 : Int32) (s1 : Int32) (σ : St) : Option (Int32 × St) := bt (s0 ||| s1) fun x1 => bt (v5 + (-1)) fun x2 => K_17 x1 v4 x2 σ
def j_X10_withGrafts_71 (N : Nat) (K_17 : Int32 → Int32 → Int32 → St → Option (Int32 × St)) (v4 : Int32) (v5 : Int32) (s0 : Int32) (σ : St) : Option (Int32 × St) := j_X10_withGrafts_72 N K_17 v4 v5 s0 0 σ
def l_X10_withGrafts_17 (N : Nat) : Nat → Int32 → Int32 → Int32 → St → Option (Int32 × St)
  | 0, _, _, _, _ => none
  | n + 1, v3, v4, v5, σ => if v5 < 0 then (some (v3, σ)) else (if (p_X10_has v3 v5 σ) = 0 then (j_X10_withGrafts_71 N (l_X10_withGrafts_17 N n) v4 v5 v3 σ) else (ckA v5 14 (if (σ 91 v5.toNatClampNeg) = 9 then (j_X10_withGrafts_71 N (l_X10_withGrafts_17 N n) v4 v5 v3 σ) else (ckA v5 14 (if (p_X10_has v4 (σ 91 v5.toNatClampNeg) σ) = 0 then (j_X10_withGrafts_71 N (l_X10_withGrafts_17 N n) v4 v5 v3 σ) else (ckA v5 14 (j_X10_withGrafts_72 N (l_X10_withGrafts_17 N n) v4 v5 v3 (1 <<< ((σ 91 v5.toNatClampNeg) &&& 31)) σ)))))))
def o_X10_withGrafts (N : Nat) (a1 : Int32) (a2 : Int32) (σ : St) : Option (Int32 × St) := bd (o_X10_openOf N a1 σ) fun x1 σ2 => bt ((σ2 79 5) - 1) fun x4 => l_X10_withGrafts_17 N N a2 x1 x4 σ2
theorem lj_X10_withGrafts_72 (N : Nat) (K_17 : Int32 → Int32 → Int32 → St → Option (Int32 × St)) (hK_17 : ∀ (v3 : Int32) (v4 : Int32) (v5 : Int32) (σ : St) (v : Int32) (w : St), K_17 v3 v4 v5 σ = some (v, w) → Ev md_X10_withGrafts 3 17 [some (vR 79), none, none, some (vI v3), some (vI v4), some (vI v5)] [] SH σ (some (vI v), SH, w)) (v4 : Int32) (v5 : Int32) (s0 : Int32) (s1 : Int32) (σ : St) (v : Int32) (w : St) (h : j_X10_withGrafts_72 N K_17 v4 v5 s0 s1 σ = some (v, w)) : Ev md_X10_withGrafts 3 72 [some (vR 79), none, none, none, some (vI v4), some (vI v5)] [vI s1, vI s0] SH σ (some (vI v), SH, w) := by
  unfold j_X10_withGrafts_72 at h
  refine Ev.ior (pc := 72) dX10_withGrafts_72 ?_
  refine Ev.nmI (fun x1 e9 => ?_)
  replace h := bt_app h x1 e9
  refine Ev.istore_n (pc := 73) (lv' := [some (vR 79), none, none, some (vI x1), some (vI v4), some (vI v5)]) dX10_withGrafts_73 rfl (lt9 rfl) rfl rfl ?_
  obtain ⟨x2, e_x2, h⟩ := bt_elim h
  refine Ev.iinc (pc := 74) (v := x2) (lv' := [some (vR 79), none, none, some (vI x1), some (vI v4), some (vI x2)]) dX10_withGrafts_74 rfl (by rw [ki_m1, e_x2]) (lt9 rfl) rfl rfl ?_
  refine Ev.goto (pc := 77) (tgt := 17) dX10_withGrafts_77 rfl ?_
  exact Ev.weak2 (hK_17 _ _ _ _ _ _ h) (lsubS (lsubN (lsubN (lsubS (lsubS (lsubS lsubE))))))
theorem lj_X10_withGrafts_71 (N : Nat) (K_17 : Int32 → Int32 → Int32 → St → Option (Int32 × St)) (hK_17 : ∀ (v3 : Int32) (v4 : Int32) (v5 : Int32) (σ : St) (v : Int32) (w : St), K_17 v3 v4 v5 σ = some (v, w) → Ev md_X10_withGrafts 3 17 [some (vR 79), none, none, some (vI v3), some (vI v4), some (vI v5)] [] SH σ (some (vI v), SH, w)) (v4 : Int32) (v5 : Int32) (s0 : Int32) (σ : St) (v : Int32) (w : St) (h : j_X10_withGrafts_71 N K_17 v4 v5 s0 σ = some (v, w)) : Ev md_X10_withGrafts 3 71 [some (vR 79), none, none, none, some (vI v4), some (vI v5)] [vI s0] SH σ (some (vI v), SH, w) := by
  unfold j_X10_withGrafts_71 at h
  refine Ev.iconst (pc := 71) (v := 0) dX10_withGrafts_71 ki_0 ?_
  exact Ev.weak2 (lj_X10_withGrafts_72 N K_17 hK_17 _ _ _ _ _ _ _ h) (lsubS (lsubN (lsubN (lsubN (lsubS (lsubS lsubE))))))
theorem ll_X10_withGrafts_17 (N : Nat) : ∀ (n : Nat) (v3 : Int32) (v4 : Int32) (v5 : Int32) (σ : St) (v : Int32) (w : St), l_X10_withGrafts_17 N n v3 v4 v5 σ = some (v, w) → Ev md_X10_withGrafts 3 17 [some (vR 79), none, none, some (vI v3), some (vI v4), some (vI v5)] [] SH σ (some (vI v), SH, w) := by
  intro n
  induction n with
  | zero =>
    intro v3 v4 v5 σ v w h
    rw [l_X10_withGrafts_17] at h
    cases h
  | succ n ih =>
    intro v3 v4 v5 σ v w h
    rw [l_X10_withGrafts_17] at h
    refine Ev.iload (pc := 17) dX10_withGrafts_17 rfl ?_
    by_cases c1 : v5 < 0
    · replace h := (if_pos c1).symm.trans h
      refine Ev.if_lt_t (pc := 19) (tgt := 80) dX10_withGrafts_19 rfl c1 ?_
      refine Ev.iload_n (pc := 80) dX10_withGrafts_80 rfl rfl ?_
      obtain ⟨h1, h2⟩ := oeq h
      subst h1
      subst h2
      exact Ev.ret_i (pc := 81) dX10_withGrafts_81 rfl rfl
    · replace h := (if_neg c1).symm.trans h
      refine Ev.if_lt_f (pc := 19) dX10_withGrafts_19 ⟨80, rfl⟩ c1 ?_
      refine Ev.iload_n (pc := 22) dX10_withGrafts_22 rfl rfl ?_
      refine Ev.iload_n (pc := 23) dX10_withGrafts_23 rfl rfl ?_
      refine Ev.iload (pc := 24) dX10_withGrafts_24 rfl ?_
      refine Ev.cTi (pc := 26) (av := [vI v3, vI v5]) (rest := [vI v3]) dX10_withGrafts_26 ce_X10_has ml_X10_232 rfl sh_sc (Nat.le_of_ble_eq_true rfl) (Nat.le_of_ble_eq_true rfl) (r_X10_has _ _ _) ?_
      by_cases c2 : (p_X10_has v3 v5 σ) = 0
      · replace h := (if_pos c2).symm.trans h
        refine Ev.if_eq_t (pc := 29) (tgt := 71) dX10_withGrafts_29 rfl c2 ?_
        exact Ev.weak2 (lj_X10_withGrafts_71 N (l_X10_withGrafts_17 N n) ih _ _ _ _ _ _ h) (lsubS (lsubN (lsubN (lsubN (lsubS (lsubS lsubE))))))
      · replace h := (if_neg c2).symm.trans h
        refine Ev.if_eq_f (pc := 29) dX10_withGrafts_29 ⟨71, rfl⟩ c2 ?_
        refine Ev.aload_n (pc := 32) dX10_withGrafts_32 rfl rfl ?_
        refine Ev.getR (pc := 33) dX10_withGrafts_33 fl_X10_44 sh_79 rfl ?_
        refine Ev.iload (pc := 36) dX10_withGrafts_36 rfl ?_
        obtain ⟨c3, h⟩ := ckA_elim h
        refine Ev.iald (pc := 38) dX10_withGrafts_38 sh_91 c3 ?_
        refine Ev.bipush (pc := 39) (v := 9) dX10_withGrafts_39 kb_9 ?_
        by_cases c4 : (σ 91 v5.toNatClampNeg) = 9
        · replace h := (if_pos c4).symm.trans h
          refine Ev.icmp_eq_t (pc := 41) (tgt := 71) dX10_withGrafts_41 rfl c4 ?_
          exact Ev.weak2 (lj_X10_withGrafts_71 N (l_X10_withGrafts_17 N n) ih _ _ _ _ _ _ h) (lsubS (lsubN (lsubN (lsubN (lsubS (lsubS lsubE))))))
        · replace h := (if_neg c4).symm.trans h
          refine Ev.icmp_eq_f (pc := 41) dX10_withGrafts_41 ⟨71, rfl⟩ c4 ?_
          refine Ev.iload (pc := 44) dX10_withGrafts_44 rfl ?_
          refine Ev.aload_n (pc := 46) dX10_withGrafts_46 rfl rfl ?_
          refine Ev.getR (pc := 47) dX10_withGrafts_47 fl_X10_44 sh_79 rfl ?_
          refine Ev.iload (pc := 50) dX10_withGrafts_50 rfl ?_
          obtain ⟨c5, h⟩ := ckA_elim h
          refine Ev.iald (pc := 52) dX10_withGrafts_52 sh_91 c5 ?_
          refine Ev.cTi (pc := 53) (av := [vI v4, vI (σ 91 v5.toNatClampNeg)]) (rest := [vI v3]) dX10_withGrafts_53 ce_X10_has ml_X10_232 rfl sh_sc (Nat.le_of_ble_eq_true rfl) (Nat.le_of_ble_eq_true rfl) (r_X10_has _ _ _) ?_
          by_cases c6 : (p_X10_has v4 (σ 91 v5.toNatClampNeg) σ) = 0
          · replace h := (if_pos c6).symm.trans h
            refine Ev.if_eq_t (pc := 56) (tgt := 71) dX10_withGrafts_56 rfl c6 ?_
            exact Ev.weak2 (lj_X10_withGrafts_71 N (l_X10_withGrafts_17 N n) ih _ _ _ _ _ _ h) (lsubS (lsubN (lsubN (lsubN (lsubS (lsubS lsubE))))))
          · replace h := (if_neg c6).symm.trans h
            refine Ev.if_eq_f (pc := 56) dX10_withGrafts_56 ⟨71, rfl⟩ c6 ?_
            refine Ev.iconst (pc := 59) (v := 1) dX10_withGrafts_59 ki_1 ?_
            refine Ev.aload_n (pc := 60) dX10_withGrafts_60 rfl rfl ?_
            refine Ev.getR (pc := 61) dX10_withGrafts_61 fl_X10_44 sh_79 rfl ?_
            refine Ev.iload (pc := 64) dX10_withGrafts_64 rfl ?_
            obtain ⟨c7, h⟩ := ckA_elim h
            refine Ev.iald (pc := 66) dX10_withGrafts_66 sh_91 c7 ?_
            refine Ev.ishl (pc := 67) dX10_withGrafts_67 ?_
            refine Ev.goto (pc := 68) (tgt := 72) dX10_withGrafts_68 rfl ?_
            exact Ev.weak2 (lj_X10_withGrafts_72 N (l_X10_withGrafts_17 N n) ih _ _ _ _ _ _ _ h) (lsubS (lsubN (lsubN (lsubN (lsubS (lsubS lsubE))))))
theorem e_X10_withGrafts (N : Nat) (a1 : Int32) (a2 : Int32) (σ : St) (v : Int32) (w : St) (h : o_X10_withGrafts N a1 a2 σ = some (v, w)) : Ev md_X10_withGrafts 3 0 (lvE [vR 79, vI a1, vI a2] 6) [] SH σ (some (vI v), SH, w) := by
  show Ev md_X10_withGrafts 3 0 [some (vR 79), some (vI a1), some (vI a2), none, none, none] [] SH σ (some (vI v), SH, w)
  unfold o_X10_withGrafts at h
  refine Ev.iload_n (pc := 0) dX10_withGrafts_0 rfl rfl ?_
  refine Ev.istore_n (pc := 1) (lv' := [some (vR 79), some (vI a1), some (vI a2), some (vI a2), none, none]) dX10_withGrafts_1 rfl (lt9 rfl) rfl rfl ?_
  refine Ev.aload_n (pc := 2) dX10_withGrafts_2 rfl rfl ?_
  refine Ev.iload_n (pc := 3) dX10_withGrafts_3 rfl rfl ?_
  obtain ⟨x1, σ2, g3, h⟩ := bd_elim h
  refine Ev.cVi (pc := 4) (k := 79) (av := [vI a1]) (rest := []) dX10_withGrafts_4 ce_X10_openOf ml_X10_310 rfl sh_79 cl_X10 sh_sc (Nat.le_of_ble_eq_true rfl) (Nat.le_of_ble_eq_true rfl) (r_X10_openOf g3) ?_
  refine Ev.istore (pc := 7) (lv' := [some (vR 79), some (vI a1), some (vI a2), some (vI a2), some (vI x1), none]) dX10_withGrafts_7 (lt9 rfl) rfl rfl ?_
  refine Ev.aload_n (pc := 9) dX10_withGrafts_9 rfl rfl ?_
  refine Ev.getI (pc := 10) dX10_withGrafts_10 fl_X10_175 sh_79 rfl ?_
  refine Ev.iconst (pc := 13) (v := 1) dX10_withGrafts_13 ki_1 ?_
  refine Ev.isub (pc := 14) dX10_withGrafts_14 ?_
  refine Ev.nmI (fun x4 e9 => ?_)
  replace h := bt_app h x4 e9
  refine Ev.istore (pc := 15) (lv' := [some (vR 79), some (vI a1), some (vI a2), some (vI a2), some (vI x1), some (vI x4)]) dX10_withGrafts_15 (lt9 rfl) rfl rfl ?_
  exact Ev.weak2 (ll_X10_withGrafts_17 N N _ _ _ _ _ _ h) (lsubS (lsubN (lsubN (lsubS (lsubS (lsubS lsubE))))))
theorem r_X10_withGrafts {N : Nat} {a1 : Int32} {a2 : Int32} {σ : St} {v : Int32} {w : St} (h : o_X10_withGrafts N a1 a2 σ = some (v, w)) : Rn md_X10_withGrafts 3 [vR 79, vI a1, vI a2] SH σ (some (vI v), SH, w) := Rn.of ce_X10_withGrafts.1 (Nat.le_of_ble_eq_true rfl) (e_X10_withGrafts N _ _ _ _ _ h)
def j_X10_clash_135 (N : Nat) (K_44 : Int32 → Int32 → Int32 → Int32 → St → Option (Int32 × St)) (K_59 : Int32 → Int32 → Int32 → Int32 → Int32 → St → Option (Int32 × St)) (v1 : Int32) (v2 : Int32) (v3 : Int32) (v4 : Int32) (v5 : Int32) (σ : St) : Option (Int32 × St) := bt (v5 + 1) fun x1 => K_59 v1 v2 v3 v4 x1 σ
def j_X10_clash_91 (N : Nat) (K_44 : Int32 → Int32 → Int32 → Int32 → St → Option (Int32 × St)) (K_59 : Int32 → Int32 → Int32 → Int32 → Int32 → St → Option (Int32 × St)) (v1 : Int32) (v2 : Int32) (v3 : Int32) (v4 : Int32) (v5 : Int32) (s0 : Int32) (σ : St) : Option (Int32 × St) := if s0 = 0 then (j_X10_clash_135 N K_44 K_59 v1 v2 v3 v4 v5 σ) else (bd (o_X10_withGrafts N v1 ((1 <<< (v4 &&& 31)) ||| (1 <<< (v5 &&& 31))) σ) fun x2 σ3 => bd (o_X10_findOrder N v1 x2 1 σ3) fun x5 σ6 => if x5 = 99999999 then (if v2 = 0 then (some (v4, σ6)) else (some (v5, σ6))) else (j_X10_clash_135 N K_44 K_59 v1 v2 v3 v4 v5 σ6))
def j_X10_clash_90 (N : Nat) (K_44 : Int32 → Int32 → Int32 → Int32 → St → Option (Int32 × St)) (K_59 : Int32 → Int32 → Int32 → Int32 → Int32 → St → Option (Int32 × St)) (v1 : Int32) (v2 : Int32) (v3 : Int32) (v4 : Int32) (v5 : Int32) (σ : St) : Option (Int32 × St) := j_X10_clash_91 N K_44 K_59 v1 v2 v3 v4 v5 0 σ
def l_X10_clash_59 (N : Nat) (K_44 : Int32 → Int32 → Int32 → Int32 → St → Option (Int32 × St)) : Nat → Int32 → Int32 → Int32 → Int32 → Int32 → St → Option (Int32 × St)
  | 0, _, _, _, _, _, _ => none
  | n + 1, v1, v2, v3, v4, v5, σ => if (σ 79 5) ≤ v5 then (bt (v4 + 1) fun x2 => K_44 v1 v2 v3 x2 σ) else (if (p_X10_has v3 v4 σ) = 0 then (j_X10_clash_90 N K_44 (l_X10_clash_59 N K_44 n) v1 v2 v3 v4 v5 σ) else (if (p_X10_has v3 v5 σ) = 0 then (j_X10_clash_90 N K_44 (l_X10_clash_59 N K_44 n) v1 v2 v3 v4 v5 σ) else (j_X10_clash_91 N K_44 (l_X10_clash_59 N K_44 n) v1 v2 v3 v4 v5 1 σ)))
def l_X10_clash_44 (N : Nat) : Nat → Int32 → Int32 → Int32 → Int32 → St → Option (Int32 × St)
  | 0, _, _, _, _, _ => none
  | n + 1, v1, v2, v3, v4, σ => if (σ 79 5) ≤ v4 then (some ((-1), σ)) else (bt (v4 + 1) fun x2 => l_X10_clash_59 N (l_X10_clash_44 N n) N v1 v2 v3 v4 x2 σ)
def o_X10_clash (N : Nat) (a1 : Int32) (a2 : Int32) (σ : St) : Option (Int32 × St) := bd (o_X10_isKeeper N a1 σ) fun x1 σ2 => if x1 = 0 then (some ((-1000000001), σ2)) else (if (p_X10_in a2.toInt64 0 1 σ2) = 0 then (some ((-1000000002), σ2)) else (bd (o_X10_isOnWay N a1 σ2) fun x6 σ7 => if x6 = 0 then (bd (o_X10_openOf N a1 σ7) fun x10 σ11 => l_X10_clash_44 N N a1 a2 x10 0 σ11) else (some ((-1000000003), σ7))))
theorem lj_X10_clash_135 (N : Nat) (K_44 : Int32 → Int32 → Int32 → Int32 → St → Option (Int32 × St)) (K_59 : Int32 → Int32 → Int32 → Int32 → Int32 → St → Option (Int32 × St)) (hK_44 : ∀ (v1 : Int32) (v2 : Int32) (v3 : Int32) (v4 : Int32) (σ : St) (v : Int32) (w : St), K_44 v1 v2 v3 v4 σ = some (v, w) → Ev md_X10_clash 4 44 [some (vR 79), some (vI v1), some (vI v2), some (vI v3), some (vI v4), none, none] [] SH σ (some (vI v), SH, w)) (hK_59 : ∀ (v1 : Int32) (v2 : Int32) (v3 : Int32) (v4 : Int32) (v5 : Int32) (σ : St) (v : Int32) (w : St), K_59 v1 v2 v3 v4 v5 σ = some (v, w) → Ev md_X10_clash 4 59 [some (vR 79), some (vI v1), some (vI v2), some (vI v3), some (vI v4), some (vI v5), none] [] SH σ (some (vI v), SH, w)) (v1 : Int32) (v2 : Int32) (v3 : Int32) (v4 : Int32) (v5 : Int32) (σ : St) (v : Int32) (w : St) (h : j_X10_clash_135 N K_44 K_59 v1 v2 v3 v4 v5 σ = some (v, w)) : Ev md_X10_clash 4 135 [some (vR 79), some (vI v1), some (vI v2), some (vI v3), some (vI v4), some (vI v5), none] [] SH σ (some (vI v), SH, w) := by
  unfold j_X10_clash_135 at h
  obtain ⟨x1, e_x1, h⟩ := bt_elim h
  refine Ev.iinc (pc := 135) (v := x1) (lv' := [some (vR 79), some (vI v1), some (vI v2), some (vI v3), some (vI v4), some (vI x1), none]) dX10_clash_135 rfl (by rw [ki_1, e_x1]) (lt9 rfl) rfl rfl ?_
  refine Ev.goto (pc := 138) (tgt := 59) dX10_clash_138 rfl ?_
  exact Ev.weak2 (hK_59 _ _ _ _ _ _ _ _ h) (lsubS (lsubS (lsubS (lsubS (lsubS (lsubS (lsubN lsubE)))))))
theorem lj_X10_clash_91 (N : Nat) (K_44 : Int32 → Int32 → Int32 → Int32 → St → Option (Int32 × St)) (K_59 : Int32 → Int32 → Int32 → Int32 → Int32 → St → Option (Int32 × St)) (hK_44 : ∀ (v1 : Int32) (v2 : Int32) (v3 : Int32) (v4 : Int32) (σ : St) (v : Int32) (w : St), K_44 v1 v2 v3 v4 σ = some (v, w) → Ev md_X10_clash 4 44 [some (vR 79), some (vI v1), some (vI v2), some (vI v3), some (vI v4), none, none] [] SH σ (some (vI v), SH, w)) (hK_59 : ∀ (v1 : Int32) (v2 : Int32) (v3 : Int32) (v4 : Int32) (v5 : Int32) (σ : St) (v : Int32) (w : St), K_59 v1 v2 v3 v4 v5 σ = some (v, w) → Ev md_X10_clash 4 59 [some (vR 79), some (vI v1), some (vI v2), some (vI v3), some (vI v4), some (vI v5), none] [] SH σ (some (vI v), SH, w)) (v1 : Int32) (v2 : Int32) (v3 : Int32) (v4 : Int32) (v5 : Int32) (s0 : Int32) (σ : St) (v : Int32) (w : St) (h : j_X10_clash_91 N K_44 K_59 v1 v2 v3 v4 v5 s0 σ = some (v, w)) : Ev md_X10_clash 4 91 [some (vR 79), some (vI v1), some (vI v2), some (vI v3), some (vI v4), some (vI v5), none] [vI s0] SH σ (some (vI v), SH, w) := by
  unfold j_X10_clash_91 at h
  refine Ev.istore (pc := 91) (lv' := [some (vR 79), some (vI v1), some (vI v2), some (vI v3), some (vI v4), some (vI v5), some (vI s0)]) dX10_clash_91 (lt9 rfl) rfl rfl ?_
  refine Ev.iload (pc := 93) dX10_clash_93 rfl ?_
  by_cases c1 : s0 = 0
  · replace h := (if_pos c1).symm.trans h
    refine Ev.if_eq_t (pc := 95) (tgt := 135) dX10_clash_95 rfl c1 ?_
    exact Ev.weak2 (lj_X10_clash_135 N K_44 K_59 hK_44 hK_59 _ _ _ _ _ _ _ _ h) (lsubS (lsubS (lsubS (lsubS (lsubS (lsubS (lsubN lsubE)))))))
  · replace h := (if_neg c1).symm.trans h
    refine Ev.if_eq_f (pc := 95) dX10_clash_95 ⟨135, rfl⟩ c1 ?_
    refine Ev.aload_n (pc := 98) dX10_clash_98 rfl rfl ?_
    refine Ev.iload_n (pc := 99) dX10_clash_99 rfl rfl ?_
    refine Ev.aload_n (pc := 100) dX10_clash_100 rfl rfl ?_
    refine Ev.iload_n (pc := 101) dX10_clash_101 rfl rfl ?_
    refine Ev.iconst (pc := 102) (v := 1) dX10_clash_102 ki_1 ?_
    refine Ev.iload (pc := 103) dX10_clash_103 rfl ?_
    refine Ev.ishl (pc := 105) dX10_clash_105 ?_
    refine Ev.iconst (pc := 106) (v := 1) dX10_clash_106 ki_1 ?_
    refine Ev.iload (pc := 107) dX10_clash_107 rfl ?_
    refine Ev.ishl (pc := 109) dX10_clash_109 ?_
    refine Ev.ior (pc := 110) dX10_clash_110 ?_
    obtain ⟨x2, σ3, g4, h⟩ := bd_elim h
    refine Ev.cVi (pc := 111) (k := 79) (av := [vI v1, vI ((1 <<< (v4 &&& 31)) ||| (1 <<< (v5 &&& 31)))]) (rest := [vI v1, vR 79]) dX10_clash_111 ce_X10_withGrafts ml_X10_317 rfl sh_79 cl_X10 sh_sc (Nat.le_of_ble_eq_true rfl) (Nat.le_of_ble_eq_true rfl) (r_X10_withGrafts g4) ?_
    refine Ev.iconst (pc := 114) (v := 1) dX10_clash_114 ki_1 ?_
    obtain ⟨x5, σ6, g7, h⟩ := bd_elim h
    refine Ev.cVi (pc := 115) (k := 79) (av := [vI v1, vI x2, vI 1]) (rest := []) dX10_clash_115 ce_X10_findOrder ml_X10_313 rfl sh_79 cl_X10 sh_sc (Nat.le_of_ble_eq_true rfl) (Nat.le_of_ble_eq_true rfl) (r_X10_findOrder g7) ?_
    refine Ev.ldc (pc := 118) dX10_clash_118 kc_X10_156 ?_
    by_cases c8 : x5 = 99999999
    · replace h := (if_pos c8).symm.trans h
      refine Ev.icmp_ne_f (pc := 120) dX10_clash_120 ⟨135, rfl⟩ c8 ?_
      refine Ev.iload_n (pc := 123) dX10_clash_123 rfl rfl ?_
      by_cases c9 : v2 = 0
      · replace h := (if_pos c9).symm.trans h
        refine Ev.if_ne_f (pc := 124) dX10_clash_124 ⟨132, rfl⟩ c9 ?_
        refine Ev.iload (pc := 127) dX10_clash_127 rfl ?_
        refine Ev.goto (pc := 129) (tgt := 134) dX10_clash_129 rfl ?_
        obtain ⟨h1, h2⟩ := oeq h
        subst h1
        subst h2
        exact Ev.ret_i (pc := 134) dX10_clash_134 rfl rfl
      · replace h := (if_neg c9).symm.trans h
        refine Ev.if_ne_t (pc := 124) (tgt := 132) dX10_clash_124 rfl c9 ?_
        refine Ev.iload (pc := 132) dX10_clash_132 rfl ?_
        obtain ⟨h1, h2⟩ := oeq h
        subst h1
        subst h2
        exact Ev.ret_i (pc := 134) dX10_clash_134 rfl rfl
    · replace h := (if_neg c8).symm.trans h
      refine Ev.icmp_ne_t (pc := 120) (tgt := 135) dX10_clash_120 rfl c8 ?_
      exact Ev.weak2 (lj_X10_clash_135 N K_44 K_59 hK_44 hK_59 _ _ _ _ _ _ _ _ h) (lsubS (lsubS (lsubS (lsubS (lsubS (lsubS (lsubN lsubE)))))))
theorem lj_X10_clash_90 (N : Nat) (K_44 : Int32 → Int32 → Int32 → Int32 → St → Option (Int32 × St)) (K_59 : Int32 → Int32 → Int32 → Int32 → Int32 → St → Option (Int32 × St)) (hK_44 : ∀ (v1 : Int32) (v2 : Int32) (v3 : Int32) (v4 : Int32) (σ : St) (v : Int32) (w : St), K_44 v1 v2 v3 v4 σ = some (v, w) → Ev md_X10_clash 4 44 [some (vR 79), some (vI v1), some (vI v2), some (vI v3), some (vI v4), none, none] [] SH σ (some (vI v), SH, w)) (hK_59 : ∀ (v1 : Int32) (v2 : Int32) (v3 : Int32) (v4 : Int32) (v5 : Int32) (σ : St) (v : Int32) (w : St), K_59 v1 v2 v3 v4 v5 σ = some (v, w) → Ev md_X10_clash 4 59 [some (vR 79), some (vI v1), some (vI v2), some (vI v3), some (vI v4), some (vI v5), none] [] SH σ (some (vI v), SH, w)) (v1 : Int32) (v2 : Int32) (v3 : Int32) (v4 : Int32) (v5 : Int32) (σ : St) (v : Int32) (w : St) (h : j_X10_clash_90 N K_44 K_59 v1 v2 v3 v4 v5 σ = some (v, w)) : Ev md_X10_clash 4 90 [some (vR 79), some (vI v1), some (vI v2), some (vI v3), some (vI v4), some (vI v5), none] [] SH σ (some (vI v), SH, w) := by
  unfold j_X10_clash_90 at h
  refine Ev.iconst (pc := 90) (v := 0) dX10_clash_90 ki_0 ?_
  exact Ev.weak2 (lj_X10_clash_91 N K_44 K_59 hK_44 hK_59 _ _ _ _ _ _ _ _ _ h) (lsubS (lsubS (lsubS (lsubS (lsubS (lsubS (lsubN lsubE)))))))
theorem ll_X10_clash_59 (N : Nat) (K_44 : Int32 → Int32 → Int32 → Int32 → St → Option (Int32 × St)) (hK_44 : ∀ (v1 : Int32) (v2 : Int32) (v3 : Int32) (v4 : Int32) (σ : St) (v : Int32) (w : St), K_44 v1 v2 v3 v4 σ = some (v, w) → Ev md_X10_clash 4 44 [some (vR 79), some (vI v1), some (vI v2), some (vI v3), some (vI v4), none, none] [] SH σ (some (vI v), SH, w)) : ∀ (n : Nat) (v1 : Int32) (v2 : Int32) (v3 : Int32) (v4 : Int32) (v5 : Int32) (σ : St) (v : Int32) (w : St), l_X10_clash_59 N K_44 n v1 v2 v3 v4 v5 σ = some (v, w) → Ev md_X10_clash 4 59 [some (vR 79), some (vI v1), some (vI v2), some (vI v3), some (vI v4), some (vI v5), none] [] SH σ (some (vI v), SH, w) := by
  intro n
  induction n with
  | zero =>
    intro v1 v2 v3 v4 v5 σ v w h
    rw [l_X10_clash_59] at h
    cases h
  | succ n ih =>
    intro v1 v2 v3 v4 v5 σ v w h
    rw [l_X10_clash_59] at h
    refine Ev.iload (pc := 59) dX10_clash_59 rfl ?_
    refine Ev.aload_n (pc := 61) dX10_clash_61 rfl rfl ?_
    refine Ev.getI (pc := 62) dX10_clash_62 fl_X10_175 sh_79 rfl ?_
    by_cases c1 : (σ 79 5) ≤ v5
    · replace h := (if_pos c1).symm.trans h
      refine Ev.icmp_ge_t (pc := 65) (tgt := 141) dX10_clash_65 rfl c1 ?_
      obtain ⟨x2, e_x2, h⟩ := bt_elim h
      refine Ev.iinc (pc := 141) (v := x2) (lv' := [some (vR 79), some (vI v1), some (vI v2), some (vI v3), some (vI x2), some (vI v5), none]) dX10_clash_141 rfl (by rw [ki_1, e_x2]) (lt9 rfl) rfl rfl ?_
      refine Ev.goto (pc := 144) (tgt := 44) dX10_clash_144 rfl ?_
      exact Ev.weak2 (hK_44 _ _ _ _ _ _ _ h) (lsubS (lsubS (lsubS (lsubS (lsubS (lsubN (lsubN lsubE)))))))
    · replace h := (if_neg c1).symm.trans h
      refine Ev.icmp_ge_f (pc := 65) dX10_clash_65 ⟨141, rfl⟩ c1 ?_
      refine Ev.iload_n (pc := 68) dX10_clash_68 rfl rfl ?_
      refine Ev.iload (pc := 69) dX10_clash_69 rfl ?_
      refine Ev.cTi (pc := 71) (av := [vI v3, vI v4]) (rest := []) dX10_clash_71 ce_X10_has ml_X10_232 rfl sh_sc (Nat.le_of_ble_eq_true rfl) (Nat.le_of_ble_eq_true rfl) (r_X10_has _ _ _) ?_
      by_cases c3 : (p_X10_has v3 v4 σ) = 0
      · replace h := (if_pos c3).symm.trans h
        refine Ev.if_eq_t (pc := 74) (tgt := 90) dX10_clash_74 rfl c3 ?_
        exact Ev.weak2 (lj_X10_clash_90 N K_44 (l_X10_clash_59 N K_44 n) hK_44 ih _ _ _ _ _ _ _ _ h) (lsubS (lsubS (lsubS (lsubS (lsubS (lsubS (lsubN lsubE)))))))
      · replace h := (if_neg c3).symm.trans h
        refine Ev.if_eq_f (pc := 74) dX10_clash_74 ⟨90, rfl⟩ c3 ?_
        refine Ev.iload_n (pc := 77) dX10_clash_77 rfl rfl ?_
        refine Ev.iload (pc := 78) dX10_clash_78 rfl ?_
        refine Ev.cTi (pc := 80) (av := [vI v3, vI v5]) (rest := []) dX10_clash_80 ce_X10_has ml_X10_232 rfl sh_sc (Nat.le_of_ble_eq_true rfl) (Nat.le_of_ble_eq_true rfl) (r_X10_has _ _ _) ?_
        by_cases c4 : (p_X10_has v3 v5 σ) = 0
        · replace h := (if_pos c4).symm.trans h
          refine Ev.if_eq_t (pc := 83) (tgt := 90) dX10_clash_83 rfl c4 ?_
          exact Ev.weak2 (lj_X10_clash_90 N K_44 (l_X10_clash_59 N K_44 n) hK_44 ih _ _ _ _ _ _ _ _ h) (lsubS (lsubS (lsubS (lsubS (lsubS (lsubS (lsubN lsubE)))))))
        · replace h := (if_neg c4).symm.trans h
          refine Ev.if_eq_f (pc := 83) dX10_clash_83 ⟨90, rfl⟩ c4 ?_
          refine Ev.iconst (pc := 86) (v := 1) dX10_clash_86 ki_1 ?_
          refine Ev.goto (pc := 87) (tgt := 91) dX10_clash_87 rfl ?_
          exact Ev.weak2 (lj_X10_clash_91 N K_44 (l_X10_clash_59 N K_44 n) hK_44 ih _ _ _ _ _ _ _ _ _ h) (lsubS (lsubS (lsubS (lsubS (lsubS (lsubS (lsubN lsubE)))))))
theorem ll_X10_clash_44 (N : Nat) : ∀ (n : Nat) (v1 : Int32) (v2 : Int32) (v3 : Int32) (v4 : Int32) (σ : St) (v : Int32) (w : St), l_X10_clash_44 N n v1 v2 v3 v4 σ = some (v, w) → Ev md_X10_clash 4 44 [some (vR 79), some (vI v1), some (vI v2), some (vI v3), some (vI v4), none, none] [] SH σ (some (vI v), SH, w) := by
  intro n
  induction n with
  | zero =>
    intro v1 v2 v3 v4 σ v w h
    rw [l_X10_clash_44] at h
    cases h
  | succ n ih =>
    intro v1 v2 v3 v4 σ v w h
    rw [l_X10_clash_44] at h
    refine Ev.iload (pc := 44) dX10_clash_44 rfl ?_
    refine Ev.aload_n (pc := 46) dX10_clash_46 rfl rfl ?_
    refine Ev.getI (pc := 47) dX10_clash_47 fl_X10_175 sh_79 rfl ?_
    by_cases c1 : (σ 79 5) ≤ v4
    · replace h := (if_pos c1).symm.trans h
      refine Ev.icmp_ge_t (pc := 50) (tgt := 147) dX10_clash_50 rfl c1 ?_
      refine Ev.iconst (pc := 147) (v := (-1)) dX10_clash_147 ki_m1 ?_
      obtain ⟨h1, h2⟩ := oeq h
      subst h1
      subst h2
      exact Ev.ret_i (pc := 148) dX10_clash_148 rfl rfl
    · replace h := (if_neg c1).symm.trans h
      refine Ev.icmp_ge_f (pc := 50) dX10_clash_50 ⟨147, rfl⟩ c1 ?_
      refine Ev.iload (pc := 53) dX10_clash_53 rfl ?_
      refine Ev.iconst (pc := 55) (v := 1) dX10_clash_55 ki_1 ?_
      refine Ev.iadd (pc := 56) dX10_clash_56 ?_
      refine Ev.nmI (fun x2 e9 => ?_)
      replace h := bt_app h x2 e9
      refine Ev.istore (pc := 57) (lv' := [some (vR 79), some (vI v1), some (vI v2), some (vI v3), some (vI v4), some (vI x2), none]) dX10_clash_57 (lt9 rfl) rfl rfl ?_
      exact Ev.weak2 (ll_X10_clash_59 N (l_X10_clash_44 N n) ih N _ _ _ _ _ _ _ _ h) (lsubS (lsubS (lsubS (lsubS (lsubS (lsubS (lsubN lsubE)))))))
theorem e_X10_clash (N : Nat) (a1 : Int32) (a2 : Int32) (σ : St) (v : Int32) (w : St) (h : o_X10_clash N a1 a2 σ = some (v, w)) : Ev md_X10_clash 4 0 (lvE [vR 79, vI a1, vI a2] 7) [] SH σ (some (vI v), SH, w) := by
  show Ev md_X10_clash 4 0 [some (vR 79), some (vI a1), some (vI a2), none, none, none, none] [] SH σ (some (vI v), SH, w)
  unfold o_X10_clash at h
  refine Ev.aload_n (pc := 0) dX10_clash_0 rfl rfl ?_
  refine Ev.iload_n (pc := 1) dX10_clash_1 rfl rfl ?_
  obtain ⟨x1, σ2, g3, h⟩ := bd_elim h
  refine Ev.cVi (pc := 2) (k := 79) (av := [vI a1]) (rest := []) dX10_clash_2 ce_X10_isKeeper ml_X10_206 rfl sh_79 cl_X10 sh_sc (Nat.le_of_ble_eq_true rfl) (Nat.le_of_ble_eq_true rfl) (r_X10_isKeeper g3) ?_
  by_cases c4 : x1 = 0
  · replace h := (if_pos c4).symm.trans h
    refine Ev.if_ne_f (pc := 5) dX10_clash_5 ⟨11, rfl⟩ c4 ?_
    refine Ev.ldc (pc := 8) dX10_clash_8 kc_X10_205 ?_
    obtain ⟨h1, h2⟩ := oeq h
    subst h1
    subst h2
    exact Ev.ret_i (pc := 10) dX10_clash_10 rfl rfl
  · replace h := (if_neg c4).symm.trans h
    refine Ev.if_ne_t (pc := 5) (tgt := 11) dX10_clash_5 rfl c4 ?_
    refine Ev.iload_n (pc := 11) dX10_clash_11 rfl rfl ?_
    refine Ev.i2l (pc := 12) dX10_clash_12 ?_
    refine Ev.lconst (pc := 13) (v := 0) dX10_clash_13 kL_0 ?_
    refine Ev.lconst (pc := 14) (v := 1) dX10_clash_14 kL_1 ?_
    refine Ev.cTi (pc := 15) (av := [vL a2.toInt64, vL 0, vL 1]) (rest := []) dX10_clash_15 ce_X10_in ml_X10_89 rfl sh_sc (Nat.le_of_ble_eq_true rfl) (Nat.le_of_ble_eq_true rfl) (r_X10_in _ _ _ _) ?_
    by_cases c5 : (p_X10_in a2.toInt64 0 1 σ2) = 0
    · replace h := (if_pos c5).symm.trans h
      refine Ev.if_ne_f (pc := 18) dX10_clash_18 ⟨24, rfl⟩ c5 ?_
      refine Ev.ldc (pc := 21) dX10_clash_21 kc_X10_93 ?_
      obtain ⟨h1, h2⟩ := oeq h
      subst h1
      subst h2
      exact Ev.ret_i (pc := 23) dX10_clash_23 rfl rfl
    · replace h := (if_neg c5).symm.trans h
      refine Ev.if_ne_t (pc := 18) (tgt := 24) dX10_clash_18 rfl c5 ?_
      refine Ev.aload_n (pc := 24) dX10_clash_24 rfl rfl ?_
      refine Ev.iload_n (pc := 25) dX10_clash_25 rfl rfl ?_
      obtain ⟨x6, σ7, g8, h⟩ := bd_elim h
      refine Ev.cVi (pc := 26) (k := 79) (av := [vI a1]) (rest := []) dX10_clash_26 ce_X10_isOnWay ml_X10_220 rfl sh_79 cl_X10 sh_sc (Nat.le_of_ble_eq_true rfl) (Nat.le_of_ble_eq_true rfl) (r_X10_isOnWay g8) ?_
      by_cases c9 : x6 = 0
      · replace h := (if_pos c9).symm.trans h
        refine Ev.if_eq_t (pc := 29) (tgt := 35) dX10_clash_29 rfl c9 ?_
        refine Ev.aload_n (pc := 35) dX10_clash_35 rfl rfl ?_
        refine Ev.iload_n (pc := 36) dX10_clash_36 rfl rfl ?_
        obtain ⟨x10, σ11, g12, h⟩ := bd_elim h
        refine Ev.cVi (pc := 37) (k := 79) (av := [vI a1]) (rest := []) dX10_clash_37 ce_X10_openOf ml_X10_310 rfl sh_79 cl_X10 sh_sc (Nat.le_of_ble_eq_true rfl) (Nat.le_of_ble_eq_true rfl) (r_X10_openOf g12) ?_
        refine Ev.istore_n (pc := 40) (lv' := [some (vR 79), some (vI a1), some (vI a2), some (vI x10), none, none, none]) dX10_clash_40 rfl (lt9 rfl) rfl rfl ?_
        refine Ev.iconst (pc := 41) (v := 0) dX10_clash_41 ki_0 ?_
        refine Ev.istore (pc := 42) (lv' := [some (vR 79), some (vI a1), some (vI a2), some (vI x10), some (vI 0), none, none]) dX10_clash_42 (lt9 rfl) rfl rfl ?_
        exact Ev.weak2 (ll_X10_clash_44 N N _ _ _ _ _ _ _ h) (lsubS (lsubS (lsubS (lsubS (lsubS (lsubN (lsubN lsubE)))))))
      · replace h := (if_neg c9).symm.trans h
        refine Ev.if_eq_f (pc := 29) dX10_clash_29 ⟨35, rfl⟩ c9 ?_
        refine Ev.ldc (pc := 32) dX10_clash_32 kc_X10_227 ?_
        obtain ⟨h1, h2⟩ := oeq h
        subst h1
        subst h2
        exact Ev.ret_i (pc := 34) dX10_clash_34 rfl rfl
theorem r_X10_clash {N : Nat} {a1 : Int32} {a2 : Int32} {σ : St} {v : Int32} {w : St} (h : o_X10_clash N a1 a2 σ = some (v, w)) : Rn md_X10_clash 4 [vR 79, vI a1, vI a2] SH σ (some (vI v), SH, w) := Rn.of ce_X10_clash.1 (Nat.le_of_ble_eq_true rfl) (e_X10_clash N _ _ _ _ _ h)
def t_X8_tryOne (a1 : Int32) (a2 : Int32) (a3 : Int32) (σ : St) : St := bt (put_ σ 64 8 7 a1) fun σ1 => bt (put_ σ1 66 8 7 a2) fun σ2 => bt (put_ σ2 65 8 7 a3) fun σ3 => σ3
theorem e_X8_tryOne (a1 : Int32) (a2 : Int32) (a3 : Int32) (σ : St) (q : St) (h : t_X8_tryOne a1 a2 a3 σ = q) : Ev md_X8_tryOne 1 0 (lvE [vR 63, vI a1, vI a2, vI a3] 4) [] SH σ (none, SH, q) := by
  show Ev md_X8_tryOne 1 0 [some (vR 63), some (vI a1), some (vI a2), some (vI a3)] [] SH σ (none, SH, q)
  unfold t_X8_tryOne at h
  refine Ev.aload_n (pc := 0) dX8_tryOne_0 rfl rfl ?_
  refine Ev.getR (pc := 1) dX8_tryOne_1 fl_X8_11 sh_63 rfl ?_
  refine Ev.bipush (pc := 4) (v := 7) dX8_tryOne_4 kb_7 ?_
  refine Ev.iload_n (pc := 6) dX8_tryOne_6 rfl rfl ?_
  refine Ev.cTv (pc := 7) (av := [vR 64, vI 7, vI a1]) (rest := []) dX8_tryOne_7 ce_X9_put ml_X8_35 rfl sh_sc (Nat.le_of_ble_eq_true rfl) (Nat.le_of_ble_eq_true rfl) (r_put sh_64 (by decide) _ _ _) ?_
  refine Ev.nmS (fun σ1 e9 => ?_)
  replace h := bt_app h σ1 e9
  refine Ev.aload_n (pc := 10) dX8_tryOne_10 rfl rfl ?_
  refine Ev.getR (pc := 11) dX8_tryOne_11 fl_X8_18 sh_63 rfl ?_
  refine Ev.bipush (pc := 14) (v := 7) dX8_tryOne_14 kb_7 ?_
  refine Ev.iload_n (pc := 16) dX8_tryOne_16 rfl rfl ?_
  refine Ev.cTv (pc := 17) (av := [vR 66, vI 7, vI a2]) (rest := []) dX8_tryOne_17 ce_X9_put ml_X8_35 rfl sh_sc (Nat.le_of_ble_eq_true rfl) (Nat.le_of_ble_eq_true rfl) (r_put sh_66 (by decide) _ _ _) ?_
  refine Ev.nmS (fun σ2 e9 => ?_)
  replace h := bt_app h σ2 e9
  refine Ev.aload_n (pc := 20) dX8_tryOne_20 rfl rfl ?_
  refine Ev.getR (pc := 21) dX8_tryOne_21 fl_X8_15 sh_63 rfl ?_
  refine Ev.bipush (pc := 24) (v := 7) dX8_tryOne_24 kb_7 ?_
  refine Ev.iload_n (pc := 26) dX8_tryOne_26 rfl rfl ?_
  refine Ev.cTv (pc := 27) (av := [vR 65, vI 7, vI a3]) (rest := []) dX8_tryOne_27 ce_X9_put ml_X8_35 rfl sh_sc (Nat.le_of_ble_eq_true rfl) (Nat.le_of_ble_eq_true rfl) (r_put sh_65 (by decide) _ _ _) ?_
  refine Ev.nmS (fun σ3 e9 => ?_)
  replace h := bt_app h σ3 e9
  subst h
  exact Ev.ret_v (pc := 30) dX8_tryOne_30 rfl
theorem r_X8_tryOne (a1 : Int32) (a2 : Int32) (a3 : Int32) (σ : St) : Rn md_X8_tryOne 1 [vR 63, vI a1, vI a2, vI a3] SH σ (none, SH, t_X8_tryOne a1 a2 a3 σ) := Rn.of ce_X8_tryOne.1 (Nat.le_of_ble_eq_true rfl) (e_X8_tryOne _ _ _ _ _ rfl)
def j_X9_still_123 (N : Nat) (K_58 : Int32 → Int32 → Int32 → Int32 → Int32 → St → Option (Int32 × St)) (v1 : Int32) (v2 : Int32) (v3 : Int32) (v4 : Int32) (v5 : Int32) (σ : St) : Option (Int32 × St) := bt (v5 + 1) fun x1 => K_58 v1 v2 v3 v4 x1 σ
def l_X9_still_58 (N : Nat) : Nat → Int32 → Int32 → Int32 → Int32 → Int32 → St → Option (Int32 × St)
  | 0, _, _, _, _, _, _ => none
  | n + 1, v1, v2, v3, v4, v5, σ => if (30 : Int32) < v5 then (some (v4, σ)) else (bd (o_X5_ripeDay N (p_X1_today_23 σ) v5 σ) fun x2 σ3 => bt (t_X8_tryOne v2 x2 v3 σ3) fun σ5 => bd (o_X1_openOf N v1 σ5) fun x6 σ7 => bd (o_X8_canKeepAll N v1 (x6 ||| 128) 1 σ7) fun x9 σ10 => if x9 = 0 then (j_X9_still_123 N (l_X9_still_58 N n) v1 v2 v3 v4 v5 σ10) else (bt (v4 ||| (1 <<< (v5 &&& 31))) fun x13 => j_X9_still_123 N (l_X9_still_58 N n) v1 v2 v3 x13 v5 σ10))
def o_X9_still (N : Nat) (a1 : Int32) (a2 : Int32) (a3 : Int32) (σ : St) : Option (Int32 × St) := if (p_X5_hasKeeper a1 σ) = 0 then (some ((-1000000001), σ)) else (if (p_X5_hasTown a2 σ) = 0 then (some ((-1000000001), σ)) else (if a3 < 0 then (some ((-1000000002), σ)) else (if a3 ≤ 9 then (if (p_X1_onTheWay a1 σ) = 0 then (l_X9_still_58 N N a1 a2 a3 0 1 σ) else (some ((-1000000003), σ))) else (some ((-1000000002), σ)))))
theorem lj_X9_still_123 (N : Nat) (K_58 : Int32 → Int32 → Int32 → Int32 → Int32 → St → Option (Int32 × St)) (hK_58 : ∀ (v1 : Int32) (v2 : Int32) (v3 : Int32) (v4 : Int32) (v5 : Int32) (σ : St) (v : Int32) (w : St), K_58 v1 v2 v3 v4 v5 σ = some (v, w) → Ev md_X9_still 82 58 [some (vR 0), some (vI v1), some (vI v2), some (vI v3), some (vI v4), some (vI v5)] [] SH σ (some (vI v), SH, w)) (v1 : Int32) (v2 : Int32) (v3 : Int32) (v4 : Int32) (v5 : Int32) (σ : St) (v : Int32) (w : St) (h : j_X9_still_123 N K_58 v1 v2 v3 v4 v5 σ = some (v, w)) : Ev md_X9_still 82 123 [some (vR 0), some (vI v1), some (vI v2), some (vI v3), some (vI v4), some (vI v5)] [] SH σ (some (vI v), SH, w) := by
  unfold j_X9_still_123 at h
  obtain ⟨x1, e_x1, h⟩ := bt_elim h
  refine Ev.iinc (pc := 123) (v := x1) (lv' := [some (vR 0), some (vI v1), some (vI v2), some (vI v3), some (vI v4), some (vI x1)]) dX9_still_123 rfl (by rw [ki_1, e_x1]) (lt9 rfl) rfl rfl ?_
  refine Ev.goto (pc := 126) (tgt := 58) dX9_still_126 rfl ?_
  exact Ev.weak2 (hK_58 _ _ _ _ _ _ _ _ h) (lsubS (lsubS (lsubS (lsubS (lsubS (lsubS lsubE))))))
theorem ll_X9_still_58 (N : Nat) : ∀ (n : Nat) (v1 : Int32) (v2 : Int32) (v3 : Int32) (v4 : Int32) (v5 : Int32) (σ : St) (v : Int32) (w : St), l_X9_still_58 N n v1 v2 v3 v4 v5 σ = some (v, w) → Ev md_X9_still 82 58 [some (vR 0), some (vI v1), some (vI v2), some (vI v3), some (vI v4), some (vI v5)] [] SH σ (some (vI v), SH, w) := by
  intro n
  induction n with
  | zero =>
    intro v1 v2 v3 v4 v5 σ v w h
    rw [l_X9_still_58] at h
    cases h
  | succ n ih =>
    intro v1 v2 v3 v4 v5 σ v w h
    rw [l_X9_still_58] at h
    refine Ev.iload (pc := 58) dX9_still_58 rfl ?_
    refine Ev.bipush (pc := 60) (v := 30) dX9_still_60 kb_30 ?_
    by_cases c1 : (30 : Int32) < v5
    · replace h := (if_pos c1).symm.trans h
      refine Ev.icmp_gt_t (pc := 62) (tgt := 129) dX9_still_62 rfl c1 ?_
      refine Ev.iload (pc := 129) dX9_still_129 rfl ?_
      obtain ⟨h1, h2⟩ := oeq h
      subst h1
      subst h2
      exact Ev.ret_i (pc := 131) dX9_still_131 rfl rfl
    · replace h := (if_neg c1).symm.trans h
      refine Ev.icmp_gt_f (pc := 62) dX9_still_62 ⟨129, rfl⟩ c1 ?_
      refine Ev.aload_n (pc := 65) dX9_still_65 rfl rfl ?_
      refine Ev.getR (pc := 66) dX9_still_66 fl_X9_61 sh_0 rfl ?_
      refine Ev.iload_n (pc := 69) dX9_still_69 rfl rfl ?_
      refine Ev.aload_n (pc := 70) dX9_still_70 rfl rfl ?_
      refine Ev.getR (pc := 71) dX9_still_71 fl_X9_10 sh_0 rfl ?_
      refine Ev.aload_n (pc := 74) dX9_still_74 rfl rfl ?_
      refine Ev.getR (pc := 75) dX9_still_75 fl_X9_31 sh_0 rfl ?_
      refine Ev.cVi (pc := 78) (k := 23) (av := []) (rest := [vR 1, vI v2, vR 63]) dX9_still_78 ce_X1_today ml_X9_125 rfl sh_23 cl_X1 sh_sc (Nat.le_of_ble_eq_true rfl) (Nat.le_of_ble_eq_true rfl) (r_X1_today_23  _) ?_
      refine Ev.iload (pc := 81) dX9_still_81 rfl ?_
      obtain ⟨x2, σ3, g4, h⟩ := bd_elim h
      refine Ev.cVi (pc := 83) (k := 1) (av := [vI (p_X1_today_23 σ), vI v5]) (rest := [vI v2, vR 63]) dX9_still_83 ce_X5_ripeDay ml_X9_264 rfl sh_1 cl_X5 sh_sc (Nat.le_of_ble_eq_true rfl) (Nat.le_of_ble_eq_true rfl) (r_X5_ripeDay g4) ?_
      refine Ev.iload_n (pc := 86) dX9_still_86 rfl rfl ?_
      refine Ev.cVv (pc := 87) (k := 63) (av := [vI v2, vI x2, vI v3]) (rest := []) dX9_still_87 ce_X8_tryOne ml_X9_267 rfl sh_63 cl_X8 sh_sc (Nat.le_of_ble_eq_true rfl) (Nat.le_of_ble_eq_true rfl) (r_X8_tryOne _ _ _ _) ?_
      refine Ev.nmS (fun σ5 e9 => ?_)
      replace h := bt_app h σ5 e9
      refine Ev.aload_n (pc := 90) dX9_still_90 rfl rfl ?_
      refine Ev.getR (pc := 91) dX9_still_91 fl_X9_61 sh_0 rfl ?_
      refine Ev.iload_n (pc := 94) dX9_still_94 rfl rfl ?_
      refine Ev.aload_n (pc := 95) dX9_still_95 rfl rfl ?_
      refine Ev.getR (pc := 96) dX9_still_96 fl_X9_31 sh_0 rfl ?_
      refine Ev.iload_n (pc := 99) dX9_still_99 rfl rfl ?_
      obtain ⟨x6, σ7, g8, h⟩ := bd_elim h
      refine Ev.cVi (pc := 100) (k := 23) (av := [vI v1]) (rest := [vI v1, vR 63]) dX9_still_100 ce_X1_openOf ml_X9_245 rfl sh_23 cl_X1 sh_sc (Nat.le_of_ble_eq_true rfl) (Nat.le_of_ble_eq_true rfl) (r_X1_openOf g8) ?_
      refine Ev.sipush (pc := 103) (v := 128) dX9_still_103 ks_128 ?_
      refine Ev.ior (pc := 106) dX9_still_106 ?_
      refine Ev.iconst (pc := 107) (v := 1) dX9_still_107 ki_1 ?_
      obtain ⟨x9, σ10, g11, h⟩ := bd_elim h
      refine Ev.cVi (pc := 108) (k := 63) (av := [vI v1, vI (x6 ||| 128), vI 1]) (rest := []) dX9_still_108 ce_X8_canKeepAll ml_X9_248 rfl sh_63 cl_X8 sh_sc (Nat.le_of_ble_eq_true rfl) (Nat.le_of_ble_eq_true rfl) (r_X8_canKeepAll g11) ?_
      by_cases c12 : x9 = 0
      · replace h := (if_pos c12).symm.trans h
        refine Ev.if_eq_t (pc := 111) (tgt := 123) dX9_still_111 rfl c12 ?_
        exact Ev.weak2 (lj_X9_still_123 N (l_X9_still_58 N n) ih _ _ _ _ _ _ _ _ h) (lsubS (lsubS (lsubS (lsubS (lsubS (lsubS lsubE))))))
      · replace h := (if_neg c12).symm.trans h
        refine Ev.if_eq_f (pc := 111) dX9_still_111 ⟨123, rfl⟩ c12 ?_
        refine Ev.iload (pc := 114) dX9_still_114 rfl ?_
        refine Ev.iconst (pc := 116) (v := 1) dX9_still_116 ki_1 ?_
        refine Ev.iload (pc := 117) dX9_still_117 rfl ?_
        refine Ev.ishl (pc := 119) dX9_still_119 ?_
        refine Ev.ior (pc := 120) dX9_still_120 ?_
        refine Ev.nmI (fun x13 e9 => ?_)
        replace h := bt_app h x13 e9
        refine Ev.istore (pc := 121) (lv' := [some (vR 0), some (vI v1), some (vI v2), some (vI v3), some (vI x13), some (vI v5)]) dX9_still_121 (lt9 rfl) rfl rfl ?_
        exact Ev.weak2 (lj_X9_still_123 N (l_X9_still_58 N n) ih _ _ _ _ _ _ _ _ h) (lsubS (lsubS (lsubS (lsubS (lsubS (lsubS lsubE))))))
theorem e_X9_still (N : Nat) (a1 : Int32) (a2 : Int32) (a3 : Int32) (σ : St) (v : Int32) (w : St) (h : o_X9_still N a1 a2 a3 σ = some (v, w)) : Ev md_X9_still 82 0 (lvE [vR 0, vI a1, vI a2, vI a3] 6) [] SH σ (some (vI v), SH, w) := by
  show Ev md_X9_still 82 0 [some (vR 0), some (vI a1), some (vI a2), some (vI a3), none, none] [] SH σ (some (vI v), SH, w)
  unfold o_X9_still at h
  refine Ev.aload_n (pc := 0) dX9_still_0 rfl rfl ?_
  refine Ev.getR (pc := 1) dX9_still_1 fl_X9_10 sh_0 rfl ?_
  refine Ev.iload_n (pc := 4) dX9_still_4 rfl rfl ?_
  refine Ev.cVi (pc := 5) (k := 1) (av := [vI a1]) (rest := []) dX9_still_5 ce_X5_hasKeeper ml_X9_150 rfl sh_1 cl_X5 sh_sc (Nat.le_of_ble_eq_true rfl) (Nat.le_of_ble_eq_true rfl) (r_X5_hasKeeper _ _) ?_
  by_cases c1 : (p_X5_hasKeeper a1 σ) = 0
  · replace h := (if_pos c1).symm.trans h
    refine Ev.if_eq_t (pc := 8) (tgt := 22) dX9_still_8 rfl c1 ?_
    refine Ev.ldc (pc := 22) dX9_still_22 kc_X9_145 ?_
    obtain ⟨h1, h2⟩ := oeq h
    subst h1
    subst h2
    exact Ev.ret_i (pc := 24) dX9_still_24 rfl rfl
  · replace h := (if_neg c1).symm.trans h
    refine Ev.if_eq_f (pc := 8) dX9_still_8 ⟨22, rfl⟩ c1 ?_
    refine Ev.aload_n (pc := 11) dX9_still_11 rfl rfl ?_
    refine Ev.getR (pc := 12) dX9_still_12 fl_X9_10 sh_0 rfl ?_
    refine Ev.iload_n (pc := 15) dX9_still_15 rfl rfl ?_
    refine Ev.cVi (pc := 16) (k := 1) (av := [vI a2]) (rest := []) dX9_still_16 ce_X5_hasTown ml_X9_142 rfl sh_1 cl_X5 sh_sc (Nat.le_of_ble_eq_true rfl) (Nat.le_of_ble_eq_true rfl) (r_X5_hasTown _ _) ?_
    by_cases c2 : (p_X5_hasTown a2 σ) = 0
    · replace h := (if_pos c2).symm.trans h
      refine Ev.if_ne_f (pc := 19) dX9_still_19 ⟨25, rfl⟩ c2 ?_
      refine Ev.ldc (pc := 22) dX9_still_22 kc_X9_145 ?_
      obtain ⟨h1, h2⟩ := oeq h
      subst h1
      subst h2
      exact Ev.ret_i (pc := 24) dX9_still_24 rfl rfl
    · replace h := (if_neg c2).symm.trans h
      refine Ev.if_ne_t (pc := 19) (tgt := 25) dX9_still_19 rfl c2 ?_
      refine Ev.iload_n (pc := 25) dX9_still_25 rfl rfl ?_
      by_cases c3 : a3 < 0
      · replace h := (if_pos c3).symm.trans h
        refine Ev.if_lt_t (pc := 26) (tgt := 35) dX9_still_26 rfl c3 ?_
        refine Ev.ldc (pc := 35) dX9_still_35 kc_X9_81 ?_
        obtain ⟨h1, h2⟩ := oeq h
        subst h1
        subst h2
        exact Ev.ret_i (pc := 37) dX9_still_37 rfl rfl
      · replace h := (if_neg c3).symm.trans h
        refine Ev.if_lt_f (pc := 26) dX9_still_26 ⟨35, rfl⟩ c3 ?_
        refine Ev.iload_n (pc := 29) dX9_still_29 rfl rfl ?_
        refine Ev.bipush (pc := 30) (v := 9) dX9_still_30 kb_9 ?_
        by_cases c4 : a3 ≤ 9
        · replace h := (if_pos c4).symm.trans h
          refine Ev.icmp_le_t (pc := 32) (tgt := 38) dX9_still_32 rfl c4 ?_
          refine Ev.aload_n (pc := 38) dX9_still_38 rfl rfl ?_
          refine Ev.getR (pc := 39) dX9_still_39 fl_X9_31 sh_0 rfl ?_
          refine Ev.iload_n (pc := 42) dX9_still_42 rfl rfl ?_
          refine Ev.cVi (pc := 43) (k := 23) (av := [vI a1]) (rest := []) dX9_still_43 ce_X1_onTheWay ml_X9_258 rfl sh_23 cl_X1 sh_sc (Nat.le_of_ble_eq_true rfl) (Nat.le_of_ble_eq_true rfl) (r_X1_onTheWay _ _) ?_
          by_cases c5 : (p_X1_onTheWay a1 σ) = 0
          · replace h := (if_pos c5).symm.trans h
            refine Ev.if_eq_t (pc := 46) (tgt := 52) dX9_still_46 rfl c5 ?_
            refine Ev.iconst (pc := 52) (v := 0) dX9_still_52 ki_0 ?_
            refine Ev.istore (pc := 53) (lv' := [some (vR 0), some (vI a1), some (vI a2), some (vI a3), some (vI 0), none]) dX9_still_53 (lt9 rfl) rfl rfl ?_
            refine Ev.iconst (pc := 55) (v := 1) dX9_still_55 ki_1 ?_
            refine Ev.istore (pc := 56) (lv' := [some (vR 0), some (vI a1), some (vI a2), some (vI a3), some (vI 0), some (vI 1)]) dX9_still_56 (lt9 rfl) rfl rfl ?_
            exact Ev.weak2 (ll_X9_still_58 N N _ _ _ _ _ _ _ _ h) (lsubS (lsubS (lsubS (lsubS (lsubS (lsubS lsubE))))))
          · replace h := (if_neg c5).symm.trans h
            refine Ev.if_eq_f (pc := 46) dX9_still_46 ⟨52, rfl⟩ c5 ?_
            refine Ev.ldc (pc := 49) dX9_still_49 kc_X9_207 ?_
            obtain ⟨h1, h2⟩ := oeq h
            subst h1
            subst h2
            exact Ev.ret_i (pc := 51) dX9_still_51 rfl rfl
        · replace h := (if_neg c4).symm.trans h
          refine Ev.icmp_le_f (pc := 32) dX9_still_32 ⟨38, rfl⟩ c4 ?_
          refine Ev.ldc (pc := 35) dX9_still_35 kc_X9_81 ?_
          obtain ⟨h1, h2⟩ := oeq h
          subst h1
          subst h2
          exact Ev.ret_i (pc := 37) dX9_still_37 rfl rfl
theorem r_X9_still {N : Nat} {a1 : Int32} {a2 : Int32} {a3 : Int32} {σ : St} {v : Int32} {w : St} (h : o_X9_still N a1 a2 a3 σ = some (v, w)) : Rn md_X9_still 82 [vR 0, vI a1, vI a2, vI a3] SH σ (some (vI v), SH, w) := Rn.of ce_X9_still.1 (Nat.le_of_ble_eq_true rfl) (e_X9_still N _ _ _ _ _ _ h)
def j_X10_still_101 (N : Nat) (K_61 : Int32 → Int32 → Int32 → St → Option (Int32 × St)) (v1 : Int32) (v5 : Int32) (s0 : Int32) (s1 : Int32) (σ : St) : Option (Int32 × St) := bt (s0 ||| ((p_X10_one s1 σ) <<< (v5 &&& 31))) fun x1 => bt (v5 + 1) fun x2 => K_61 v1 x1 x2 σ
def l_X10_still_61 (N : Nat) : Nat → Int32 → Int32 → Int32 → St → Option (Int32 × St)
  | 0, _, _, _, _ => none
  | n + 1, v1, v4, v5, σ => if (30 : Int32) < v5 then (some (v4, σ)) else (bt (st σ 79 30 v5) fun σ2 => bd (o_X10_openOf N v1 σ2) fun x3 σ4 => bd (o_X10_findOrder N v1 (x3 ||| 128) 1 σ4) fun x6 σ7 => if (99999999 : Int32) ≤ x6 then (j_X10_still_101 N (l_X10_still_61 N n) v1 v5 v4 0 σ7) else (j_X10_still_101 N (l_X10_still_61 N n) v1 v5 v4 1 σ7))
def o_X10_still (N : Nat) (a1 : Int32) (a2 : Int32) (a3 : Int32) (σ : St) : Option (Int32 × St) := bd (o_X10_isKeeper N a1 σ) fun x1 σ2 => if x1 = 0 then (some ((-1000000001), σ2)) else (bd (o_X10_isTown N a2 σ2) fun x5 σ6 => if x5 = 0 then (some ((-1000000001), σ6)) else (if (p_X10_in a3.toInt64 0 9 σ6) = 0 then (some ((-1000000002), σ6)) else (bd (o_X10_isOnWay N a1 σ6) fun x10 σ11 => if x10 = 0 then (bt (st σ11 79 29 a2) fun σ14 => bt (st σ14 79 31 a3) fun σ15 => l_X10_still_61 N N a1 0 1 σ15) else (some ((-1000000003), σ11)))))
theorem lj_X10_still_101 (N : Nat) (K_61 : Int32 → Int32 → Int32 → St → Option (Int32 × St)) (hK_61 : ∀ (v1 : Int32) (v4 : Int32) (v5 : Int32) (σ : St) (v : Int32) (w : St), K_61 v1 v4 v5 σ = some (v, w) → Ev md_X10_still 4 61 [some (vR 79), some (vI v1), none, none, some (vI v4), some (vI v5)] [] SH σ (some (vI v), SH, w)) (v1 : Int32) (v5 : Int32) (s0 : Int32) (s1 : Int32) (σ : St) (v : Int32) (w : St) (h : j_X10_still_101 N K_61 v1 v5 s0 s1 σ = some (v, w)) : Ev md_X10_still 4 101 [some (vR 79), some (vI v1), none, none, none, some (vI v5)] [vI s1, vI s0] SH σ (some (vI v), SH, w) := by
  unfold j_X10_still_101 at h
  refine Ev.cTi (pc := 101) (av := [vI s1]) (rest := [vI s0]) dX10_still_101 ce_X10_one ml_X10_191 rfl sh_sc (Nat.le_of_ble_eq_true rfl) (Nat.le_of_ble_eq_true rfl) (r_X10_one _ _) ?_
  refine Ev.iload (pc := 104) dX10_still_104 rfl ?_
  refine Ev.ishl (pc := 106) dX10_still_106 ?_
  refine Ev.ior (pc := 107) dX10_still_107 ?_
  refine Ev.nmI (fun x1 e9 => ?_)
  replace h := bt_app h x1 e9
  refine Ev.istore (pc := 108) (lv' := [some (vR 79), some (vI v1), none, none, some (vI x1), some (vI v5)]) dX10_still_108 (lt9 rfl) rfl rfl ?_
  obtain ⟨x2, e_x2, h⟩ := bt_elim h
  refine Ev.iinc (pc := 110) (v := x2) (lv' := [some (vR 79), some (vI v1), none, none, some (vI x1), some (vI x2)]) dX10_still_110 rfl (by rw [ki_1, e_x2]) (lt9 rfl) rfl rfl ?_
  refine Ev.goto (pc := 113) (tgt := 61) dX10_still_113 rfl ?_
  exact Ev.weak2 (hK_61 _ _ _ _ _ _ h) (lsubS (lsubS (lsubN (lsubN (lsubS (lsubS lsubE))))))
theorem ll_X10_still_61 (N : Nat) : ∀ (n : Nat) (v1 : Int32) (v4 : Int32) (v5 : Int32) (σ : St) (v : Int32) (w : St), l_X10_still_61 N n v1 v4 v5 σ = some (v, w) → Ev md_X10_still 4 61 [some (vR 79), some (vI v1), none, none, some (vI v4), some (vI v5)] [] SH σ (some (vI v), SH, w) := by
  intro n
  induction n with
  | zero =>
    intro v1 v4 v5 σ v w h
    rw [l_X10_still_61] at h
    cases h
  | succ n ih =>
    intro v1 v4 v5 σ v w h
    rw [l_X10_still_61] at h
    refine Ev.iload (pc := 61) dX10_still_61 rfl ?_
    refine Ev.bipush (pc := 63) (v := 30) dX10_still_63 kb_30 ?_
    by_cases c1 : (30 : Int32) < v5
    · replace h := (if_pos c1).symm.trans h
      refine Ev.icmp_gt_t (pc := 65) (tgt := 116) dX10_still_65 rfl c1 ?_
      refine Ev.iload (pc := 116) dX10_still_116 rfl ?_
      obtain ⟨h1, h2⟩ := oeq h
      subst h1
      subst h2
      exact Ev.ret_i (pc := 118) dX10_still_118 rfl rfl
    · replace h := (if_neg c1).symm.trans h
      refine Ev.icmp_gt_f (pc := 65) dX10_still_65 ⟨116, rfl⟩ c1 ?_
      refine Ev.aload_n (pc := 68) dX10_still_68 rfl rfl ?_
      refine Ev.iload (pc := 69) dX10_still_69 rfl ?_
      refine Ev.putI (pc := 71) dX10_still_71 pl_X10_279 sh_79 rfl rfl rfl ?_
      refine Ev.nmS (fun σ2 e9 => ?_)
      replace h := bt_app h σ2 e9
      refine Ev.iload (pc := 74) dX10_still_74 rfl ?_
      refine Ev.aload_n (pc := 76) dX10_still_76 rfl rfl ?_
      refine Ev.iload_n (pc := 77) dX10_still_77 rfl rfl ?_
      refine Ev.aload_n (pc := 78) dX10_still_78 rfl rfl ?_
      refine Ev.iload_n (pc := 79) dX10_still_79 rfl rfl ?_
      obtain ⟨x3, σ4, g5, h⟩ := bd_elim h
      refine Ev.cVi (pc := 80) (k := 79) (av := [vI v1]) (rest := [vI v1, vR 79, vI v4]) dX10_still_80 ce_X10_openOf ml_X10_310 rfl sh_79 cl_X10 sh_sc (Nat.le_of_ble_eq_true rfl) (Nat.le_of_ble_eq_true rfl) (r_X10_openOf g5) ?_
      refine Ev.sipush (pc := 83) (v := 128) dX10_still_83 ks_128 ?_
      refine Ev.ior (pc := 86) dX10_still_86 ?_
      refine Ev.iconst (pc := 87) (v := 1) dX10_still_87 ki_1 ?_
      obtain ⟨x6, σ7, g8, h⟩ := bd_elim h
      refine Ev.cVi (pc := 88) (k := 79) (av := [vI v1, vI (x3 ||| 128), vI 1]) (rest := [vI v4]) dX10_still_88 ce_X10_findOrder ml_X10_313 rfl sh_79 cl_X10 sh_sc (Nat.le_of_ble_eq_true rfl) (Nat.le_of_ble_eq_true rfl) (r_X10_findOrder g8) ?_
      refine Ev.ldc (pc := 91) dX10_still_91 kc_X10_156 ?_
      by_cases c9 : (99999999 : Int32) ≤ x6
      · replace h := (if_pos c9).symm.trans h
        refine Ev.icmp_ge_t (pc := 93) (tgt := 100) dX10_still_93 rfl c9 ?_
        refine Ev.iconst (pc := 100) (v := 0) dX10_still_100 ki_0 ?_
        exact Ev.weak2 (lj_X10_still_101 N (l_X10_still_61 N n) ih _ _ _ _ _ _ _ h) (lsubS (lsubS (lsubN (lsubN (lsubN (lsubS lsubE))))))
      · replace h := (if_neg c9).symm.trans h
        refine Ev.icmp_ge_f (pc := 93) dX10_still_93 ⟨100, rfl⟩ c9 ?_
        refine Ev.iconst (pc := 96) (v := 1) dX10_still_96 ki_1 ?_
        refine Ev.goto (pc := 97) (tgt := 101) dX10_still_97 rfl ?_
        exact Ev.weak2 (lj_X10_still_101 N (l_X10_still_61 N n) ih _ _ _ _ _ _ _ h) (lsubS (lsubS (lsubN (lsubN (lsubN (lsubS lsubE))))))
theorem e_X10_still (N : Nat) (a1 : Int32) (a2 : Int32) (a3 : Int32) (σ : St) (v : Int32) (w : St) (h : o_X10_still N a1 a2 a3 σ = some (v, w)) : Ev md_X10_still 4 0 (lvE [vR 79, vI a1, vI a2, vI a3] 6) [] SH σ (some (vI v), SH, w) := by
  show Ev md_X10_still 4 0 [some (vR 79), some (vI a1), some (vI a2), some (vI a3), none, none] [] SH σ (some (vI v), SH, w)
  unfold o_X10_still at h
  refine Ev.aload_n (pc := 0) dX10_still_0 rfl rfl ?_
  refine Ev.iload_n (pc := 1) dX10_still_1 rfl rfl ?_
  obtain ⟨x1, σ2, g3, h⟩ := bd_elim h
  refine Ev.cVi (pc := 2) (k := 79) (av := [vI a1]) (rest := []) dX10_still_2 ce_X10_isKeeper ml_X10_206 rfl sh_79 cl_X10 sh_sc (Nat.le_of_ble_eq_true rfl) (Nat.le_of_ble_eq_true rfl) (r_X10_isKeeper g3) ?_
  by_cases c4 : x1 = 0
  · replace h := (if_pos c4).symm.trans h
    refine Ev.if_eq_t (pc := 5) (tgt := 16) dX10_still_5 rfl c4 ?_
    refine Ev.ldc (pc := 16) dX10_still_16 kc_X10_205 ?_
    obtain ⟨h1, h2⟩ := oeq h
    subst h1
    subst h2
    exact Ev.ret_i (pc := 18) dX10_still_18 rfl rfl
  · replace h := (if_neg c4).symm.trans h
    refine Ev.if_eq_f (pc := 5) dX10_still_5 ⟨16, rfl⟩ c4 ?_
    refine Ev.aload_n (pc := 8) dX10_still_8 rfl rfl ?_
    refine Ev.iload_n (pc := 9) dX10_still_9 rfl rfl ?_
    obtain ⟨x5, σ6, g7, h⟩ := bd_elim h
    refine Ev.cVi (pc := 10) (k := 79) (av := [vI a2]) (rest := []) dX10_still_10 ce_X10_isTown ml_X10_202 rfl sh_79 cl_X10 sh_sc (Nat.le_of_ble_eq_true rfl) (Nat.le_of_ble_eq_true rfl) (r_X10_isTown g7) ?_
    by_cases c8 : x5 = 0
    · replace h := (if_pos c8).symm.trans h
      refine Ev.if_ne_f (pc := 13) dX10_still_13 ⟨19, rfl⟩ c8 ?_
      refine Ev.ldc (pc := 16) dX10_still_16 kc_X10_205 ?_
      obtain ⟨h1, h2⟩ := oeq h
      subst h1
      subst h2
      exact Ev.ret_i (pc := 18) dX10_still_18 rfl rfl
    · replace h := (if_neg c8).symm.trans h
      refine Ev.if_ne_t (pc := 13) (tgt := 19) dX10_still_13 rfl c8 ?_
      refine Ev.iload_n (pc := 19) dX10_still_19 rfl rfl ?_
      refine Ev.i2l (pc := 20) dX10_still_20 ?_
      refine Ev.lconst (pc := 21) (v := 0) dX10_still_21 kL_0 ?_
      refine Ev.ldc2 (pc := 22) dX10_still_22 kl_X10_320 ?_
      refine Ev.cTi (pc := 25) (av := [vL a3.toInt64, vL 0, vL 9]) (rest := []) dX10_still_25 ce_X10_in ml_X10_89 rfl sh_sc (Nat.le_of_ble_eq_true rfl) (Nat.le_of_ble_eq_true rfl) (r_X10_in _ _ _ _) ?_
      by_cases c9 : (p_X10_in a3.toInt64 0 9 σ6) = 0
      · replace h := (if_pos c9).symm.trans h
        refine Ev.if_ne_f (pc := 28) dX10_still_28 ⟨34, rfl⟩ c9 ?_
        refine Ev.ldc (pc := 31) dX10_still_31 kc_X10_93 ?_
        obtain ⟨h1, h2⟩ := oeq h
        subst h1
        subst h2
        exact Ev.ret_i (pc := 33) dX10_still_33 rfl rfl
      · replace h := (if_neg c9).symm.trans h
        refine Ev.if_ne_t (pc := 28) (tgt := 34) dX10_still_28 rfl c9 ?_
        refine Ev.aload_n (pc := 34) dX10_still_34 rfl rfl ?_
        refine Ev.iload_n (pc := 35) dX10_still_35 rfl rfl ?_
        obtain ⟨x10, σ11, g12, h⟩ := bd_elim h
        refine Ev.cVi (pc := 36) (k := 79) (av := [vI a1]) (rest := []) dX10_still_36 ce_X10_isOnWay ml_X10_220 rfl sh_79 cl_X10 sh_sc (Nat.le_of_ble_eq_true rfl) (Nat.le_of_ble_eq_true rfl) (r_X10_isOnWay g12) ?_
        by_cases c13 : x10 = 0
        · replace h := (if_pos c13).symm.trans h
          refine Ev.if_eq_t (pc := 39) (tgt := 45) dX10_still_39 rfl c13 ?_
          refine Ev.aload_n (pc := 45) dX10_still_45 rfl rfl ?_
          refine Ev.iload_n (pc := 46) dX10_still_46 rfl rfl ?_
          refine Ev.putI (pc := 47) dX10_still_47 pl_X10_276 sh_79 rfl rfl rfl ?_
          refine Ev.nmS (fun σ14 e9 => ?_)
          replace h := bt_app h σ14 e9
          refine Ev.aload_n (pc := 50) dX10_still_50 rfl rfl ?_
          refine Ev.iload_n (pc := 51) dX10_still_51 rfl rfl ?_
          refine Ev.putI (pc := 52) dX10_still_52 pl_X10_282 sh_79 rfl rfl rfl ?_
          refine Ev.nmS (fun σ15 e9 => ?_)
          replace h := bt_app h σ15 e9
          refine Ev.iconst (pc := 55) (v := 0) dX10_still_55 ki_0 ?_
          refine Ev.istore (pc := 56) (lv' := [some (vR 79), some (vI a1), some (vI a2), some (vI a3), some (vI 0), none]) dX10_still_56 (lt9 rfl) rfl rfl ?_
          refine Ev.iconst (pc := 58) (v := 1) dX10_still_58 ki_1 ?_
          refine Ev.istore (pc := 59) (lv' := [some (vR 79), some (vI a1), some (vI a2), some (vI a3), some (vI 0), some (vI 1)]) dX10_still_59 (lt9 rfl) rfl rfl ?_
          exact Ev.weak2 (ll_X10_still_61 N N _ _ _ _ _ _ h) (lsubS (lsubS (lsubN (lsubN (lsubS (lsubS lsubE))))))
        · replace h := (if_neg c13).symm.trans h
          refine Ev.if_eq_f (pc := 39) dX10_still_39 ⟨45, rfl⟩ c13 ?_
          refine Ev.ldc (pc := 42) dX10_still_42 kc_X10_227 ?_
          obtain ⟨h1, h2⟩ := oeq h
          subst h1
          subst h2
          exact Ev.ret_i (pc := 44) dX10_still_44 rfl rfl
theorem r_X10_still {N : Nat} {a1 : Int32} {a2 : Int32} {a3 : Int32} {σ : St} {v : Int32} {w : St} (h : o_X10_still N a1 a2 a3 σ = some (v, w)) : Rn md_X10_still 4 [vR 79, vI a1, vI a2, vI a3] SH σ (some (vI v), SH, w) := Rn.of ce_X10_still.1 (Nat.le_of_ble_eq_true rfl) (e_X10_still N _ _ _ _ _ _ h)
def j_X3_fillFits_68 (N : Nat) (K_11 : Int32 → Int32 → St → Option (Unit × St)) (K_25 : Int32 → Int32 → Int32 → Int32 → St → Option (Unit × St)) (v1 : Int32) (v2 : Int32) (v4 : Int32) (s0 : Int32) (s1 : Int32) (σ : St) : Option (Unit × St) := bt (s0 ||| s1) fun x1 => bt (v4 + 1) fun x2 => K_25 v1 v2 x1 x2 σ
def j_X3_fillFits_76 (N : Nat) (K_11 : Int32 → Int32 → St → Option (Unit × St)) (v1 : Int32) (v2 : Int32) (v3 : Int32) (σ : St) : Option (Unit × St) := ckA v2 128 (bt (st σ 70 v2.toNatClampNeg v3) fun σ2 => bt (v2 + 1) fun x3 => K_11 v1 x3 σ2)
def l_X3_fillFits_25 (N : Nat) (K_11 : Int32 → Int32 → St → Option (Unit × St)) : Nat → Int32 → Int32 → Int32 → Int32 → St → Option (Unit × St)
  | 0, _, _, _, _, _ => none
  | n + 1, v1, v2, v3, v4, σ => if (σ 1 2) ≤ v4 then (j_X3_fillFits_76 N K_11 v1 v2 v3 σ) else (if (v2 &&& (v1 ^^^ (-1))) = 0 then (bd (o_X8_canKeepAll N v4 v2 1 σ) fun x3 σ4 => if x3 = 0 then (j_X3_fillFits_68 N K_11 (l_X3_fillFits_25 N K_11 n) v1 v2 v4 v3 0 σ4) else (j_X3_fillFits_68 N K_11 (l_X3_fillFits_25 N K_11 n) v1 v2 v4 v3 (1 <<< (v4 &&& 31)) σ4)) else (j_X3_fillFits_76 N K_11 v1 v2 v3 σ))
def l_X3_fillFits_11 (N : Nat) : Nat → Int32 → Int32 → St → Option (Unit × St)
  | 0, _, _, _ => none
  | n + 1, v1, v2, σ => if (128 : Int32) ≤ v2 then (some ((), σ)) else (l_X3_fillFits_25 N (l_X3_fillFits_11 N n) N v1 v2 0 0 σ)
def o_X3_fillFits (N : Nat)  (σ : St) : Option (Unit × St) := bd (o_X1_setOf N 0 σ) fun x1 σ2 => l_X3_fillFits_11 N N x1 0 σ2
theorem lj_X3_fillFits_68 (N : Nat) (K_11 : Int32 → Int32 → St → Option (Unit × St)) (K_25 : Int32 → Int32 → Int32 → Int32 → St → Option (Unit × St)) (hK_11 : ∀ (v1 : Int32) (v2 : Int32) (σ : St) (v : Unit) (w : St), K_11 v1 v2 σ = some (v, w) → Ev md_X3_fillFits 82 11 [some (vR 69), some (vI v1), some (vI v2), none, none] [] SH σ (none, SH, w)) (hK_25 : ∀ (v1 : Int32) (v2 : Int32) (v3 : Int32) (v4 : Int32) (σ : St) (v : Unit) (w : St), K_25 v1 v2 v3 v4 σ = some (v, w) → Ev md_X3_fillFits 82 25 [some (vR 69), some (vI v1), some (vI v2), some (vI v3), some (vI v4)] [] SH σ (none, SH, w)) (v1 : Int32) (v2 : Int32) (v4 : Int32) (s0 : Int32) (s1 : Int32) (σ : St) (v : Unit) (w : St) (h : j_X3_fillFits_68 N K_11 K_25 v1 v2 v4 s0 s1 σ = some (v, w)) : Ev md_X3_fillFits 82 68 [some (vR 69), some (vI v1), some (vI v2), none, some (vI v4)] [vI s1, vI s0] SH σ (none, SH, w) := by
  unfold j_X3_fillFits_68 at h
  refine Ev.ior (pc := 68) dX3_fillFits_68 ?_
  refine Ev.nmI (fun x1 e9 => ?_)
  replace h := bt_app h x1 e9
  refine Ev.istore_n (pc := 69) (lv' := [some (vR 69), some (vI v1), some (vI v2), some (vI x1), some (vI v4)]) dX3_fillFits_69 rfl (lt9 rfl) rfl rfl ?_
  obtain ⟨x2, e_x2, h⟩ := bt_elim h
  refine Ev.iinc (pc := 70) (v := x2) (lv' := [some (vR 69), some (vI v1), some (vI v2), some (vI x1), some (vI x2)]) dX3_fillFits_70 rfl (by rw [ki_1, e_x2]) (lt9 rfl) rfl rfl ?_
  refine Ev.goto (pc := 73) (tgt := 25) dX3_fillFits_73 rfl ?_
  exact Ev.weak2 (hK_25 _ _ _ _ _ _ _ h) (lsubS (lsubS (lsubS (lsubS (lsubS lsubE)))))
theorem lj_X3_fillFits_76 (N : Nat) (K_11 : Int32 → Int32 → St → Option (Unit × St)) (hK_11 : ∀ (v1 : Int32) (v2 : Int32) (σ : St) (v : Unit) (w : St), K_11 v1 v2 σ = some (v, w) → Ev md_X3_fillFits 82 11 [some (vR 69), some (vI v1), some (vI v2), none, none] [] SH σ (none, SH, w)) (v1 : Int32) (v2 : Int32) (v3 : Int32) (σ : St) (v : Unit) (w : St) (h : j_X3_fillFits_76 N K_11 v1 v2 v3 σ = some (v, w)) : Ev md_X3_fillFits 82 76 [some (vR 69), some (vI v1), some (vI v2), some (vI v3), none] [] SH σ (none, SH, w) := by
  unfold j_X3_fillFits_76 at h
  refine Ev.aload_n (pc := 76) dX3_fillFits_76 rfl rfl ?_
  refine Ev.getR (pc := 77) dX3_fillFits_77 fl_X3_9 sh_69 rfl ?_
  refine Ev.iload_n (pc := 80) dX3_fillFits_80 rfl rfl ?_
  refine Ev.iload_n (pc := 81) dX3_fillFits_81 rfl rfl ?_
  obtain ⟨c1, h⟩ := ckA_elim h
  refine Ev.iast (pc := 82) dX3_fillFits_82 sh_70 c1 ?_
  refine Ev.nmS (fun σ2 e9 => ?_)
  replace h := bt_app h σ2 e9
  obtain ⟨x3, e_x3, h⟩ := bt_elim h
  refine Ev.iinc (pc := 83) (v := x3) (lv' := [some (vR 69), some (vI v1), some (vI x3), some (vI v3), none]) dX3_fillFits_83 rfl (by rw [ki_1, e_x3]) (lt9 rfl) rfl rfl ?_
  refine Ev.goto (pc := 86) (tgt := 11) dX3_fillFits_86 rfl ?_
  exact Ev.weak2 (hK_11 _ _ _ _ _ h) (lsubS (lsubS (lsubS (lsubN (lsubN lsubE)))))
theorem ll_X3_fillFits_25 (N : Nat) (K_11 : Int32 → Int32 → St → Option (Unit × St)) (hK_11 : ∀ (v1 : Int32) (v2 : Int32) (σ : St) (v : Unit) (w : St), K_11 v1 v2 σ = some (v, w) → Ev md_X3_fillFits 82 11 [some (vR 69), some (vI v1), some (vI v2), none, none] [] SH σ (none, SH, w)) : ∀ (n : Nat) (v1 : Int32) (v2 : Int32) (v3 : Int32) (v4 : Int32) (σ : St) (v : Unit) (w : St), l_X3_fillFits_25 N K_11 n v1 v2 v3 v4 σ = some (v, w) → Ev md_X3_fillFits 82 25 [some (vR 69), some (vI v1), some (vI v2), some (vI v3), some (vI v4)] [] SH σ (none, SH, w) := by
  intro n
  induction n with
  | zero =>
    intro v1 v2 v3 v4 σ v w h
    rw [l_X3_fillFits_25] at h
    cases h
  | succ n ih =>
    intro v1 v2 v3 v4 σ v w h
    rw [l_X3_fillFits_25] at h
    refine Ev.iload (pc := 25) dX3_fillFits_25 rfl ?_
    refine Ev.aload_n (pc := 27) dX3_fillFits_27 rfl rfl ?_
    refine Ev.getR (pc := 28) dX3_fillFits_28 fl_X3_24 sh_69 rfl ?_
    refine Ev.getI (pc := 31) dX3_fillFits_31 fl_X3_47 sh_1 rfl ?_
    by_cases c1 : (σ 1 2) ≤ v4
    · replace h := (if_pos c1).symm.trans h
      refine Ev.icmp_ge_t (pc := 34) (tgt := 76) dX3_fillFits_34 rfl c1 ?_
      exact Ev.weak2 (lj_X3_fillFits_76 N K_11 hK_11 _ _ _ _ _ _ h) (lsubS (lsubS (lsubS (lsubS (lsubN lsubE)))))
    · replace h := (if_neg c1).symm.trans h
      refine Ev.icmp_ge_f (pc := 34) dX3_fillFits_34 ⟨76, rfl⟩ c1 ?_
      refine Ev.iload_n (pc := 37) dX3_fillFits_37 rfl rfl ?_
      refine Ev.iload_n (pc := 38) dX3_fillFits_38 rfl rfl ?_
      refine Ev.iconst (pc := 39) (v := (-1)) dX3_fillFits_39 ki_m1 ?_
      refine Ev.ixor (pc := 40) dX3_fillFits_40 ?_
      refine Ev.iand (pc := 41) dX3_fillFits_41 ?_
      by_cases c2 : (v2 &&& (v1 ^^^ (-1))) = 0
      · replace h := (if_pos c2).symm.trans h
        refine Ev.if_ne_f (pc := 42) dX3_fillFits_42 ⟨76, rfl⟩ c2 ?_
        refine Ev.iload_n (pc := 45) dX3_fillFits_45 rfl rfl ?_
        refine Ev.aload_n (pc := 46) dX3_fillFits_46 rfl rfl ?_
        refine Ev.getR (pc := 47) dX3_fillFits_47 fl_X3_32 sh_69 rfl ?_
        refine Ev.iload (pc := 50) dX3_fillFits_50 rfl ?_
        refine Ev.iload_n (pc := 52) dX3_fillFits_52 rfl rfl ?_
        refine Ev.iconst (pc := 53) (v := 1) dX3_fillFits_53 ki_1 ?_
        obtain ⟨x3, σ4, g5, h⟩ := bd_elim h
        refine Ev.cVi (pc := 54) (k := 63) (av := [vI v4, vI v2, vI 1]) (rest := [vI v3]) dX3_fillFits_54 ce_X8_canKeepAll ml_X3_64 rfl sh_63 cl_X8 sh_sc (Nat.le_of_ble_eq_true rfl) (Nat.le_of_ble_eq_true rfl) (r_X8_canKeepAll g5) ?_
        by_cases c6 : x3 = 0
        · replace h := (if_pos c6).symm.trans h
          refine Ev.if_eq_t (pc := 57) (tgt := 67) dX3_fillFits_57 rfl c6 ?_
          refine Ev.iconst (pc := 67) (v := 0) dX3_fillFits_67 ki_0 ?_
          exact Ev.weak2 (lj_X3_fillFits_68 N K_11 (l_X3_fillFits_25 N K_11 n) hK_11 ih _ _ _ _ _ _ _ _ h) (lsubS (lsubS (lsubS (lsubN (lsubS lsubE)))))
        · replace h := (if_neg c6).symm.trans h
          refine Ev.if_eq_f (pc := 57) dX3_fillFits_57 ⟨67, rfl⟩ c6 ?_
          refine Ev.iconst (pc := 60) (v := 1) dX3_fillFits_60 ki_1 ?_
          refine Ev.iload (pc := 61) dX3_fillFits_61 rfl ?_
          refine Ev.ishl (pc := 63) dX3_fillFits_63 ?_
          refine Ev.goto (pc := 64) (tgt := 68) dX3_fillFits_64 rfl ?_
          exact Ev.weak2 (lj_X3_fillFits_68 N K_11 (l_X3_fillFits_25 N K_11 n) hK_11 ih _ _ _ _ _ _ _ _ h) (lsubS (lsubS (lsubS (lsubN (lsubS lsubE)))))
      · replace h := (if_neg c2).symm.trans h
        refine Ev.if_ne_t (pc := 42) (tgt := 76) dX3_fillFits_42 rfl c2 ?_
        exact Ev.weak2 (lj_X3_fillFits_76 N K_11 hK_11 _ _ _ _ _ _ h) (lsubS (lsubS (lsubS (lsubS (lsubN lsubE)))))
theorem ll_X3_fillFits_11 (N : Nat) : ∀ (n : Nat) (v1 : Int32) (v2 : Int32) (σ : St) (v : Unit) (w : St), l_X3_fillFits_11 N n v1 v2 σ = some (v, w) → Ev md_X3_fillFits 82 11 [some (vR 69), some (vI v1), some (vI v2), none, none] [] SH σ (none, SH, w) := by
  intro n
  induction n with
  | zero =>
    intro v1 v2 σ v w h
    rw [l_X3_fillFits_11] at h
    cases h
  | succ n ih =>
    intro v1 v2 σ v w h
    rw [l_X3_fillFits_11] at h
    refine Ev.iload_n (pc := 11) dX3_fillFits_11 rfl rfl ?_
    refine Ev.aload_n (pc := 12) dX3_fillFits_12 rfl rfl ?_
    refine Ev.getR (pc := 13) dX3_fillFits_13 fl_X3_9 sh_69 rfl ?_
    refine Ev.alen (pc := 16) (v := 128) dX3_fillFits_16 sh_70 kn_128 ?_
    by_cases c1 : (128 : Int32) ≤ v2
    · replace h := (if_pos c1).symm.trans h
      refine Ev.icmp_ge_t (pc := 17) (tgt := 89) dX3_fillFits_17 rfl c1 ?_
      obtain ⟨h1, h2⟩ := oeq h
      subst h1
      subst h2
      exact Ev.ret_v (pc := 89) dX3_fillFits_89 rfl
    · replace h := (if_neg c1).symm.trans h
      refine Ev.icmp_ge_f (pc := 17) dX3_fillFits_17 ⟨89, rfl⟩ c1 ?_
      refine Ev.iconst (pc := 20) (v := 0) dX3_fillFits_20 ki_0 ?_
      refine Ev.istore_n (pc := 21) (lv' := [some (vR 69), some (vI v1), some (vI v2), some (vI 0), none]) dX3_fillFits_21 rfl (lt9 rfl) rfl rfl ?_
      refine Ev.iconst (pc := 22) (v := 0) dX3_fillFits_22 ki_0 ?_
      refine Ev.istore (pc := 23) (lv' := [some (vR 69), some (vI v1), some (vI v2), some (vI 0), some (vI 0)]) dX3_fillFits_23 (lt9 rfl) rfl rfl ?_
      exact Ev.weak2 (ll_X3_fillFits_25 N (l_X3_fillFits_11 N n) ih N _ _ _ _ _ _ _ h) (lsubS (lsubS (lsubS (lsubS (lsubS lsubE)))))
theorem e_X3_fillFits (N : Nat)  (σ : St) (v : Unit) (w : St) (h : o_X3_fillFits N  σ = some (v, w)) : Ev md_X3_fillFits 82 0 (lvE [vR 69] 5) [] SH σ (none, SH, w) := by
  show Ev md_X3_fillFits 82 0 [some (vR 69), none, none, none, none] [] SH σ (none, SH, w)
  unfold o_X3_fillFits at h
  refine Ev.aload_n (pc := 0) dX3_fillFits_0 rfl rfl ?_
  refine Ev.getR (pc := 1) dX3_fillFits_1 fl_X3_28 sh_69 rfl ?_
  refine Ev.iconst (pc := 4) (v := 0) dX3_fillFits_4 ki_0 ?_
  obtain ⟨x1, σ2, g3, h⟩ := bd_elim h
  refine Ev.cVi (pc := 5) (k := 23) (av := [vI 0]) (rest := []) dX3_fillFits_5 ce_X1_setOf ml_X3_36 rfl sh_23 cl_X1 sh_sc (Nat.le_of_ble_eq_true rfl) (Nat.le_of_ble_eq_true rfl) (r_X1_setOf g3) ?_
  refine Ev.istore_n (pc := 8) (lv' := [some (vR 69), some (vI x1), none, none, none]) dX3_fillFits_8 rfl (lt9 rfl) rfl rfl ?_
  refine Ev.iconst (pc := 9) (v := 0) dX3_fillFits_9 ki_0 ?_
  refine Ev.istore_n (pc := 10) (lv' := [some (vR 69), some (vI x1), some (vI 0), none, none]) dX3_fillFits_10 rfl (lt9 rfl) rfl rfl ?_
  exact Ev.weak2 (ll_X3_fillFits_11 N N _ _ _ _ _ h) (lsubS (lsubS (lsubS (lsubN (lsubN lsubE)))))
theorem r_X3_fillFits {N : Nat}  {σ : St} {v : Unit} {w : St} (h : o_X3_fillFits N  σ = some (v, w)) : Rn md_X3_fillFits 82 [vR 69] SH σ (none, SH, w) := Rn.of ce_X3_fillFits.1 (Nat.le_of_ble_eq_true rfl) (e_X3_fillFits N  _ _ _ h)
def p_J6_bitCount_0f7a4 (a0 : Int32) (σ : St) : Int32 := bt (a0 - ((((a0).toUInt32 >>> ((1 : Int32).toUInt32 &&& Int32.toUInt32 31)).toInt32) &&& 1431655765)) fun x1 => bt ((x1 &&& 858993459) + ((((x1).toUInt32 >>> ((2 : Int32).toUInt32 &&& Int32.toUInt32 31)).toInt32) &&& 858993459)) fun x2 => bt ((x2 + (((x2).toUInt32 >>> ((4 : Int32).toUInt32 &&& Int32.toUInt32 31)).toInt32)) &&& 252645135) fun x3 => bt (x3 + (((x3).toUInt32 >>> ((8 : Int32).toUInt32 &&& Int32.toUInt32 31)).toInt32)) fun x4 => bt (x4 + (((x4).toUInt32 >>> ((16 : Int32).toUInt32 &&& Int32.toUInt32 31)).toInt32)) fun x5 => (x5 &&& 63)
theorem e_J6_bitCount_0f7a4 (a0 : Int32) (σ : St) (v : Int32) (h : p_J6_bitCount_0f7a4 a0 σ = v) : Ev md_J6_bitCount_0f7a4 0 0 (lvE [vI a0] 1) [] SH σ (some (vI v), SH, σ) := by
  show Ev md_J6_bitCount_0f7a4 0 0 [some (vI a0)] [] SH σ (some (vI v), SH, σ)
  unfold p_J6_bitCount_0f7a4 at h
  refine Ev.iload_n (pc := 0) dJ6_bitCount_0f7a4_0 rfl rfl ?_
  refine Ev.iload_n (pc := 1) dJ6_bitCount_0f7a4_1 rfl rfl ?_
  refine Ev.iconst (pc := 2) (v := 1) dJ6_bitCount_0f7a4_2 ki_1 ?_
  refine Ev.iushr (pc := 3) dJ6_bitCount_0f7a4_3 rfl ?_
  refine Ev.ldcw (pc := 4) dJ6_bitCount_0f7a4_4 kc_J6_265 ?_
  refine Ev.iand (pc := 7) dJ6_bitCount_0f7a4_7 ?_
  refine Ev.isub (pc := 8) dJ6_bitCount_0f7a4_8 ?_
  refine Ev.nmI (fun x1 e9 => ?_)
  replace h := bt_app h x1 e9
  refine Ev.istore_n (pc := 9) (lv' := [some (vI x1)]) dJ6_bitCount_0f7a4_9 rfl (lt9 rfl) rfl rfl ?_
  refine Ev.iload_n (pc := 10) dJ6_bitCount_0f7a4_10 rfl rfl ?_
  refine Ev.ldcw (pc := 11) dJ6_bitCount_0f7a4_11 kc_J6_266 ?_
  refine Ev.iand (pc := 14) dJ6_bitCount_0f7a4_14 ?_
  refine Ev.iload_n (pc := 15) dJ6_bitCount_0f7a4_15 rfl rfl ?_
  refine Ev.iconst (pc := 16) (v := 2) dJ6_bitCount_0f7a4_16 ki_2 ?_
  refine Ev.iushr (pc := 17) dJ6_bitCount_0f7a4_17 rfl ?_
  refine Ev.ldcw (pc := 18) dJ6_bitCount_0f7a4_18 kc_J6_266 ?_
  refine Ev.iand (pc := 21) dJ6_bitCount_0f7a4_21 ?_
  refine Ev.iadd (pc := 22) dJ6_bitCount_0f7a4_22 ?_
  refine Ev.nmI (fun x2 e9 => ?_)
  replace h := bt_app h x2 e9
  refine Ev.istore_n (pc := 23) (lv' := [some (vI x2)]) dJ6_bitCount_0f7a4_23 rfl (lt9 rfl) rfl rfl ?_
  refine Ev.iload_n (pc := 24) dJ6_bitCount_0f7a4_24 rfl rfl ?_
  refine Ev.iload_n (pc := 25) dJ6_bitCount_0f7a4_25 rfl rfl ?_
  refine Ev.iconst (pc := 26) (v := 4) dJ6_bitCount_0f7a4_26 ki_4 ?_
  refine Ev.iushr (pc := 27) dJ6_bitCount_0f7a4_27 rfl ?_
  refine Ev.iadd (pc := 28) dJ6_bitCount_0f7a4_28 ?_
  refine Ev.ldcw (pc := 29) dJ6_bitCount_0f7a4_29 kc_J6_267 ?_
  refine Ev.iand (pc := 32) dJ6_bitCount_0f7a4_32 ?_
  refine Ev.nmI (fun x3 e9 => ?_)
  replace h := bt_app h x3 e9
  refine Ev.istore_n (pc := 33) (lv' := [some (vI x3)]) dJ6_bitCount_0f7a4_33 rfl (lt9 rfl) rfl rfl ?_
  refine Ev.iload_n (pc := 34) dJ6_bitCount_0f7a4_34 rfl rfl ?_
  refine Ev.iload_n (pc := 35) dJ6_bitCount_0f7a4_35 rfl rfl ?_
  refine Ev.bipush (pc := 36) (v := 8) dJ6_bitCount_0f7a4_36 kb_8 ?_
  refine Ev.iushr (pc := 38) dJ6_bitCount_0f7a4_38 rfl ?_
  refine Ev.iadd (pc := 39) dJ6_bitCount_0f7a4_39 ?_
  refine Ev.nmI (fun x4 e9 => ?_)
  replace h := bt_app h x4 e9
  refine Ev.istore_n (pc := 40) (lv' := [some (vI x4)]) dJ6_bitCount_0f7a4_40 rfl (lt9 rfl) rfl rfl ?_
  refine Ev.iload_n (pc := 41) dJ6_bitCount_0f7a4_41 rfl rfl ?_
  refine Ev.iload_n (pc := 42) dJ6_bitCount_0f7a4_42 rfl rfl ?_
  refine Ev.bipush (pc := 43) (v := 16) dJ6_bitCount_0f7a4_43 kb_16 ?_
  refine Ev.iushr (pc := 45) dJ6_bitCount_0f7a4_45 rfl ?_
  refine Ev.iadd (pc := 46) dJ6_bitCount_0f7a4_46 ?_
  refine Ev.nmI (fun x5 e9 => ?_)
  replace h := bt_app h x5 e9
  refine Ev.istore_n (pc := 47) (lv' := [some (vI x5)]) dJ6_bitCount_0f7a4_47 rfl (lt9 rfl) rfl rfl ?_
  refine Ev.iload_n (pc := 48) dJ6_bitCount_0f7a4_48 rfl rfl ?_
  refine Ev.bipush (pc := 49) (v := 63) dJ6_bitCount_0f7a4_49 kb_63 ?_
  refine Ev.iand (pc := 51) dJ6_bitCount_0f7a4_51 ?_
  subst h
  exact Ev.ret_i (pc := 52) dJ6_bitCount_0f7a4_52 rfl rfl
theorem r_J6_bitCount_0f7a4 (a0 : Int32) (σ : St) : Rn md_J6_bitCount_0f7a4 0 [vI a0] SH σ (some (vI (p_J6_bitCount_0f7a4 a0 σ)), SH, σ) := Rn.of ce_J6_bitCount_0f7a4.1 (Nat.le_of_ble_eq_true rfl) (e_J6_bitCount_0f7a4 _ _ _ rfl)
def j_X3_giveBy_141 (N : Nat) (K_37 : Int32 → Int32 → Int32 → St → Option (Int32 × St)) (v2 : Int32) (v3 : Int32) (v4 : Int32) (v5 : Int32) (σ : St) : Option (Int32 × St) := bt (put_ σ 72 7 v4 v5) fun σ1 => bt (v4 + (-1)) fun x2 => K_37 v2 v3 x2 σ1
def j_X3_giveBy_116 (N : Nat) (K_37 : Int32 → Int32 → Int32 → St → Option (Int32 × St)) (v3 : Int32) (v4 : Int32) (v5 : Int32) (s0 : Int32) (s1 : Int32) (σ : St) : Option (Int32 × St) := bt (s0 + s1) fun x1 => bt (put_ σ 71 3 v5 ((at_ σ 71 3 v5) ||| (1 <<< (v4 &&& 31)))) fun σ2 => j_X3_giveBy_141 N K_37 x1 v3 v4 v5 σ2
def l_X3_giveBy_37 (N : Nat) : Nat → Int32 → Int32 → Int32 → St → Option (Int32 × St)
  | 0, _, _, _, _ => none
  | n + 1, v2, v3, v4, σ => if v4 < 0 then (some (v2, σ)) else (bt (p_X1_holderOf_23 v4 σ) fun x2 => if (p_X1_isOpen_23 v4 σ) = 0 then (j_X3_giveBy_141 N (l_X3_giveBy_37 N n) v2 v3 v4 x2 σ) else (if (σ 1 2) ≤ 0 then (j_X3_giveBy_141 N (l_X3_giveBy_37 N n) v2 v3 v4 x2 σ) else (ckDI (σ 1 2) (bt (v3 - v3 / (σ 1 2) * (σ 1 2)) fun x6 => ckDI (σ 1 2) (bt (v3 / (σ 1 2)) fun x8 => if x6 = (p_X1_holderOf_23 v4 σ) then (j_X3_giveBy_116 N (l_X3_giveBy_37 N n) x8 v4 x6 v2 0 σ) else (j_X3_giveBy_116 N (l_X3_giveBy_37 N n) x8 v4 x6 v2 1 σ))))))
def l_X3_giveBy_2 (N : Nat) : Nat → Int32 → Int32 → St → Option (Int32 × St)
  | 0, _, _, _ => none
  | n + 1, v1, v2, σ => if (3 : Int32) ≤ v2 then (bt ((σ 1 3) - 1) fun x2 => l_X3_giveBy_37 N N 0 v1 x2 σ) else (bt (put_ σ 71 3 v2 0) fun σ3 => bt (v2 + 1) fun x4 => l_X3_giveBy_2 N n v1 x4 σ3)
def o_X3_giveBy (N : Nat) (a1 : Int32) (σ : St) : Option (Int32 × St) := l_X3_giveBy_2 N N a1 0 σ
theorem lj_X3_giveBy_141 (N : Nat) (K_37 : Int32 → Int32 → Int32 → St → Option (Int32 × St)) (hK_37 : ∀ (v2 : Int32) (v3 : Int32) (v4 : Int32) (σ : St) (v : Int32) (w : St), K_37 v2 v3 v4 σ = some (v, w) → Ev md_X3_giveBy 3 37 [some (vR 69), none, some (vI v2), some (vI v3), some (vI v4), none] [] SH σ (some (vI v), SH, w)) (v2 : Int32) (v3 : Int32) (v4 : Int32) (v5 : Int32) (σ : St) (v : Int32) (w : St) (h : j_X3_giveBy_141 N K_37 v2 v3 v4 v5 σ = some (v, w)) : Ev md_X3_giveBy 3 141 [some (vR 69), none, some (vI v2), some (vI v3), some (vI v4), some (vI v5)] [] SH σ (some (vI v), SH, w) := by
  unfold j_X3_giveBy_141 at h
  refine Ev.aload_n (pc := 141) dX3_giveBy_141 rfl rfl ?_
  refine Ev.getR (pc := 142) dX3_giveBy_142 fl_X3_18 sh_69 rfl ?_
  refine Ev.iload (pc := 145) dX3_giveBy_145 rfl ?_
  refine Ev.iload (pc := 147) dX3_giveBy_147 rfl ?_
  refine Ev.cTv (pc := 149) (av := [vR 72, vI v4, vI v5]) (rest := []) dX3_giveBy_149 ce_X9_put ml_X3_70 rfl sh_sc (Nat.le_of_ble_eq_true rfl) (Nat.le_of_ble_eq_true rfl) (r_put sh_72 (by decide) _ _ _) ?_
  refine Ev.nmS (fun σ1 e9 => ?_)
  replace h := bt_app h σ1 e9
  obtain ⟨x2, e_x2, h⟩ := bt_elim h
  refine Ev.iinc (pc := 152) (v := x2) (lv' := [some (vR 69), none, some (vI v2), some (vI v3), some (vI x2), some (vI v5)]) dX3_giveBy_152 rfl (by rw [ki_m1, e_x2]) (lt9 rfl) rfl rfl ?_
  refine Ev.goto (pc := 155) (tgt := 37) dX3_giveBy_155 rfl ?_
  exact Ev.weak2 (hK_37 _ _ _ _ _ _ h) (lsubS (lsubN (lsubS (lsubS (lsubS (lsubN lsubE))))))
theorem lj_X3_giveBy_116 (N : Nat) (K_37 : Int32 → Int32 → Int32 → St → Option (Int32 × St)) (hK_37 : ∀ (v2 : Int32) (v3 : Int32) (v4 : Int32) (σ : St) (v : Int32) (w : St), K_37 v2 v3 v4 σ = some (v, w) → Ev md_X3_giveBy 3 37 [some (vR 69), none, some (vI v2), some (vI v3), some (vI v4), none] [] SH σ (some (vI v), SH, w)) (v3 : Int32) (v4 : Int32) (v5 : Int32) (s0 : Int32) (s1 : Int32) (σ : St) (v : Int32) (w : St) (h : j_X3_giveBy_116 N K_37 v3 v4 v5 s0 s1 σ = some (v, w)) : Ev md_X3_giveBy 3 116 [some (vR 69), none, none, some (vI v3), some (vI v4), some (vI v5)] [vI s1, vI s0] SH σ (some (vI v), SH, w) := by
  unfold j_X3_giveBy_116 at h
  refine Ev.iadd (pc := 116) dX3_giveBy_116 ?_
  refine Ev.nmI (fun x1 e9 => ?_)
  replace h := bt_app h x1 e9
  refine Ev.istore_n (pc := 117) (lv' := [some (vR 69), none, some (vI x1), some (vI v3), some (vI v4), some (vI v5)]) dX3_giveBy_117 rfl (lt9 rfl) rfl rfl ?_
  refine Ev.aload_n (pc := 118) dX3_giveBy_118 rfl rfl ?_
  refine Ev.getR (pc := 119) dX3_giveBy_119 fl_X3_15 sh_69 rfl ?_
  refine Ev.iload (pc := 122) dX3_giveBy_122 rfl ?_
  refine Ev.aload_n (pc := 124) dX3_giveBy_124 rfl rfl ?_
  refine Ev.getR (pc := 125) dX3_giveBy_125 fl_X3_15 sh_69 rfl ?_
  refine Ev.iload (pc := 128) dX3_giveBy_128 rfl ?_
  refine Ev.cTi (pc := 130) (av := [vR 71, vI v5]) (rest := [vI v5, vR 71]) dX3_giveBy_130 ce_X9_at ml_X3_84 rfl sh_sc (Nat.le_of_ble_eq_true rfl) (Nat.le_of_ble_eq_true rfl) (r_at sh_71 (by decide) _ _) ?_
  refine Ev.iconst (pc := 133) (v := 1) dX3_giveBy_133 ki_1 ?_
  refine Ev.iload (pc := 134) dX3_giveBy_134 rfl ?_
  refine Ev.ishl (pc := 136) dX3_giveBy_136 ?_
  refine Ev.ior (pc := 137) dX3_giveBy_137 ?_
  refine Ev.cTv (pc := 138) (av := [vR 71, vI v5, vI ((at_ σ 71 3 v5) ||| (1 <<< (v4 &&& 31)))]) (rest := []) dX3_giveBy_138 ce_X9_put ml_X3_70 rfl sh_sc (Nat.le_of_ble_eq_true rfl) (Nat.le_of_ble_eq_true rfl) (r_put sh_71 (by decide) _ _ _) ?_
  refine Ev.nmS (fun σ2 e9 => ?_)
  replace h := bt_app h σ2 e9
  exact Ev.weak2 (lj_X3_giveBy_141 N K_37 hK_37 _ _ _ _ _ _ _ h) (lsubS (lsubN (lsubS (lsubS (lsubS (lsubS lsubE))))))
theorem ll_X3_giveBy_37 (N : Nat) : ∀ (n : Nat) (v2 : Int32) (v3 : Int32) (v4 : Int32) (σ : St) (v : Int32) (w : St), l_X3_giveBy_37 N n v2 v3 v4 σ = some (v, w) → Ev md_X3_giveBy 3 37 [some (vR 69), none, some (vI v2), some (vI v3), some (vI v4), none] [] SH σ (some (vI v), SH, w) := by
  intro n
  induction n with
  | zero =>
    intro v2 v3 v4 σ v w h
    rw [l_X3_giveBy_37] at h
    cases h
  | succ n ih =>
    intro v2 v3 v4 σ v w h
    rw [l_X3_giveBy_37] at h
    refine Ev.iload (pc := 37) dX3_giveBy_37 rfl ?_
    by_cases c1 : v4 < 0
    · replace h := (if_pos c1).symm.trans h
      refine Ev.if_lt_t (pc := 39) (tgt := 158) dX3_giveBy_39 rfl c1 ?_
      refine Ev.iload_n (pc := 158) dX3_giveBy_158 rfl rfl ?_
      obtain ⟨h1, h2⟩ := oeq h
      subst h1
      subst h2
      exact Ev.ret_i (pc := 159) dX3_giveBy_159 rfl rfl
    · replace h := (if_neg c1).symm.trans h
      refine Ev.if_lt_f (pc := 39) dX3_giveBy_39 ⟨158, rfl⟩ c1 ?_
      refine Ev.aload_n (pc := 42) dX3_giveBy_42 rfl rfl ?_
      refine Ev.getR (pc := 43) dX3_giveBy_43 fl_X3_28 sh_69 rfl ?_
      refine Ev.iload (pc := 46) dX3_giveBy_46 rfl ?_
      refine Ev.cVi (pc := 48) (k := 23) (av := [vI v4]) (rest := []) dX3_giveBy_48 ce_X1_holderOf ml_X3_77 rfl sh_23 cl_X1 sh_sc (Nat.le_of_ble_eq_true rfl) (Nat.le_of_ble_eq_true rfl) (r_X1_holderOf_23 _ _) ?_
      refine Ev.nmI (fun x2 e9 => ?_)
      replace h := bt_app h x2 e9
      refine Ev.istore (pc := 51) (lv' := [some (vR 69), none, some (vI v2), some (vI v3), some (vI v4), some (vI x2)]) dX3_giveBy_51 (lt9 rfl) rfl rfl ?_
      refine Ev.aload_n (pc := 53) dX3_giveBy_53 rfl rfl ?_
      refine Ev.getR (pc := 54) dX3_giveBy_54 fl_X3_28 sh_69 rfl ?_
      refine Ev.iload (pc := 57) dX3_giveBy_57 rfl ?_
      refine Ev.cVi (pc := 59) (k := 23) (av := [vI v4]) (rest := []) dX3_giveBy_59 ce_X1_isOpen ml_X3_80 rfl sh_23 cl_X1 sh_sc (Nat.le_of_ble_eq_true rfl) (Nat.le_of_ble_eq_true rfl) (r_X1_isOpen_23 _ _) ?_
      by_cases c3 : (p_X1_isOpen_23 v4 σ) = 0
      · replace h := (if_pos c3).symm.trans h
        refine Ev.if_eq_t (pc := 62) (tgt := 141) dX3_giveBy_62 rfl c3 ?_
        exact Ev.weak2 (lj_X3_giveBy_141 N (l_X3_giveBy_37 N n) ih _ _ _ _ _ _ _ h) (lsubS (lsubN (lsubS (lsubS (lsubS (lsubS lsubE))))))
      · replace h := (if_neg c3).symm.trans h
        refine Ev.if_eq_f (pc := 62) dX3_giveBy_62 ⟨141, rfl⟩ c3 ?_
        refine Ev.aload_n (pc := 65) dX3_giveBy_65 rfl rfl ?_
        refine Ev.getR (pc := 66) dX3_giveBy_66 fl_X3_24 sh_69 rfl ?_
        refine Ev.getI (pc := 69) dX3_giveBy_69 fl_X3_47 sh_1 rfl ?_
        by_cases c4 : (σ 1 2) ≤ 0
        · replace h := (if_pos c4).symm.trans h
          refine Ev.if_le_t (pc := 72) (tgt := 141) dX3_giveBy_72 rfl c4 ?_
          exact Ev.weak2 (lj_X3_giveBy_141 N (l_X3_giveBy_37 N n) ih _ _ _ _ _ _ _ h) (lsubS (lsubN (lsubS (lsubS (lsubS (lsubS lsubE))))))
        · replace h := (if_neg c4).symm.trans h
          refine Ev.if_le_f (pc := 72) dX3_giveBy_72 ⟨141, rfl⟩ c4 ?_
          refine Ev.iload_n (pc := 75) dX3_giveBy_75 rfl rfl ?_
          refine Ev.aload_n (pc := 76) dX3_giveBy_76 rfl rfl ?_
          refine Ev.getR (pc := 77) dX3_giveBy_77 fl_X3_24 sh_69 rfl ?_
          refine Ev.getI (pc := 80) dX3_giveBy_80 fl_X3_47 sh_1 rfl ?_
          obtain ⟨c5, h⟩ := ckDI_elim h
          refine Ev.irem (pc := 83) dX3_giveBy_83 c5 ?_
          refine Ev.nmI (fun x6 e9 => ?_)
          replace h := bt_app h x6 e9
          refine Ev.istore (pc := 84) (lv' := [some (vR 69), none, some (vI v2), some (vI v3), some (vI v4), some (vI x6)]) dX3_giveBy_84 (lt9 rfl) rfl rfl ?_
          refine Ev.iload_n (pc := 86) dX3_giveBy_86 rfl rfl ?_
          refine Ev.aload_n (pc := 87) dX3_giveBy_87 rfl rfl ?_
          refine Ev.getR (pc := 88) dX3_giveBy_88 fl_X3_24 sh_69 rfl ?_
          refine Ev.getI (pc := 91) dX3_giveBy_91 fl_X3_47 sh_1 rfl ?_
          obtain ⟨c7, h⟩ := ckDI_elim h
          refine Ev.idiv (pc := 94) dX3_giveBy_94 c7 ?_
          refine Ev.nmI (fun x8 e9 => ?_)
          replace h := bt_app h x8 e9
          refine Ev.istore_n (pc := 95) (lv' := [some (vR 69), none, some (vI v2), some (vI x8), some (vI v4), some (vI x6)]) dX3_giveBy_95 rfl (lt9 rfl) rfl rfl ?_
          refine Ev.iload_n (pc := 96) dX3_giveBy_96 rfl rfl ?_
          refine Ev.iload (pc := 97) dX3_giveBy_97 rfl ?_
          refine Ev.aload_n (pc := 99) dX3_giveBy_99 rfl rfl ?_
          refine Ev.getR (pc := 100) dX3_giveBy_100 fl_X3_28 sh_69 rfl ?_
          refine Ev.iload (pc := 103) dX3_giveBy_103 rfl ?_
          refine Ev.cVi (pc := 105) (k := 23) (av := [vI v4]) (rest := [vI x6, vI v2]) dX3_giveBy_105 ce_X1_holderOf ml_X3_77 rfl sh_23 cl_X1 sh_sc (Nat.le_of_ble_eq_true rfl) (Nat.le_of_ble_eq_true rfl) (r_X1_holderOf_23 _ _) ?_
          by_cases c9 : x6 = (p_X1_holderOf_23 v4 σ)
          · replace h := (if_pos c9).symm.trans h
            refine Ev.icmp_ne_f (pc := 108) dX3_giveBy_108 ⟨115, rfl⟩ c9 ?_
            refine Ev.iconst (pc := 111) (v := 0) dX3_giveBy_111 ki_0 ?_
            refine Ev.goto (pc := 112) (tgt := 116) dX3_giveBy_112 rfl ?_
            exact Ev.weak2 (lj_X3_giveBy_116 N (l_X3_giveBy_37 N n) ih _ _ _ _ _ _ _ _ h) (lsubS (lsubN (lsubN (lsubS (lsubS (lsubS lsubE))))))
          · replace h := (if_neg c9).symm.trans h
            refine Ev.icmp_ne_t (pc := 108) (tgt := 115) dX3_giveBy_108 rfl c9 ?_
            refine Ev.iconst (pc := 115) (v := 1) dX3_giveBy_115 ki_1 ?_
            exact Ev.weak2 (lj_X3_giveBy_116 N (l_X3_giveBy_37 N n) ih _ _ _ _ _ _ _ _ h) (lsubS (lsubN (lsubN (lsubS (lsubS (lsubS lsubE))))))
theorem ll_X3_giveBy_2 (N : Nat) : ∀ (n : Nat) (v1 : Int32) (v2 : Int32) (σ : St) (v : Int32) (w : St), l_X3_giveBy_2 N n v1 v2 σ = some (v, w) → Ev md_X3_giveBy 3 2 [some (vR 69), some (vI v1), some (vI v2), none, none, none] [] SH σ (some (vI v), SH, w) := by
  intro n
  induction n with
  | zero =>
    intro v1 v2 σ v w h
    rw [l_X3_giveBy_2] at h
    cases h
  | succ n ih =>
    intro v1 v2 σ v w h
    rw [l_X3_giveBy_2] at h
    refine Ev.iload_n (pc := 2) dX3_giveBy_2 rfl rfl ?_
    refine Ev.iconst (pc := 3) (v := 3) dX3_giveBy_3 ki_3 ?_
    by_cases c1 : (3 : Int32) ≤ v2
    · replace h := (if_pos c1).symm.trans h
      refine Ev.icmp_ge_t (pc := 4) (tgt := 22) dX3_giveBy_4 rfl c1 ?_
      refine Ev.iconst (pc := 22) (v := 0) dX3_giveBy_22 ki_0 ?_
      refine Ev.istore_n (pc := 23) (lv' := [some (vR 69), some (vI v1), some (vI 0), none, none, none]) dX3_giveBy_23 rfl (lt9 rfl) rfl rfl ?_
      refine Ev.iload_n (pc := 24) dX3_giveBy_24 rfl rfl ?_
      refine Ev.istore_n (pc := 25) (lv' := [some (vR 69), some (vI v1), some (vI 0), some (vI v1), none, none]) dX3_giveBy_25 rfl (lt9 rfl) rfl rfl ?_
      refine Ev.aload_n (pc := 26) dX3_giveBy_26 rfl rfl ?_
      refine Ev.getR (pc := 27) dX3_giveBy_27 fl_X3_24 sh_69 rfl ?_
      refine Ev.getI (pc := 30) dX3_giveBy_30 fl_X3_74 sh_1 rfl ?_
      refine Ev.iconst (pc := 33) (v := 1) dX3_giveBy_33 ki_1 ?_
      refine Ev.isub (pc := 34) dX3_giveBy_34 ?_
      refine Ev.nmI (fun x2 e9 => ?_)
      replace h := bt_app h x2 e9
      refine Ev.istore (pc := 35) (lv' := [some (vR 69), some (vI v1), some (vI 0), some (vI v1), some (vI x2), none]) dX3_giveBy_35 (lt9 rfl) rfl rfl ?_
      exact Ev.weak2 (ll_X3_giveBy_37 N N _ _ _ _ _ _ h) (lsubS (lsubN (lsubS (lsubS (lsubS (lsubN lsubE))))))
    · replace h := (if_neg c1).symm.trans h
      refine Ev.icmp_ge_f (pc := 4) dX3_giveBy_4 ⟨22, rfl⟩ c1 ?_
      refine Ev.aload_n (pc := 7) dX3_giveBy_7 rfl rfl ?_
      refine Ev.getR (pc := 8) dX3_giveBy_8 fl_X3_15 sh_69 rfl ?_
      refine Ev.iload_n (pc := 11) dX3_giveBy_11 rfl rfl ?_
      refine Ev.iconst (pc := 12) (v := 0) dX3_giveBy_12 ki_0 ?_
      refine Ev.cTv (pc := 13) (av := [vR 71, vI v2, vI 0]) (rest := []) dX3_giveBy_13 ce_X9_put ml_X3_70 rfl sh_sc (Nat.le_of_ble_eq_true rfl) (Nat.le_of_ble_eq_true rfl) (r_put sh_71 (by decide) _ _ _) ?_
      refine Ev.nmS (fun σ3 e9 => ?_)
      replace h := bt_app h σ3 e9
      obtain ⟨x4, e_x4, h⟩ := bt_elim h
      refine Ev.iinc (pc := 16) (v := x4) (lv' := [some (vR 69), some (vI v1), some (vI x4), none, none, none]) dX3_giveBy_16 rfl (by rw [ki_1, e_x4]) (lt9 rfl) rfl rfl ?_
      refine Ev.goto (pc := 19) (tgt := 2) dX3_giveBy_19 rfl ?_
      exact Ev.weak2 (ih _ _ _ _ _ h) (lsubS (lsubS (lsubS (lsubN (lsubN (lsubN lsubE))))))
theorem e_X3_giveBy (N : Nat) (a1 : Int32) (σ : St) (v : Int32) (w : St) (h : o_X3_giveBy N a1 σ = some (v, w)) : Ev md_X3_giveBy 3 0 (lvE [vR 69, vI a1] 6) [] SH σ (some (vI v), SH, w) := by
  show Ev md_X3_giveBy 3 0 [some (vR 69), some (vI a1), none, none, none, none] [] SH σ (some (vI v), SH, w)
  unfold o_X3_giveBy at h
  refine Ev.iconst (pc := 0) (v := 0) dX3_giveBy_0 ki_0 ?_
  refine Ev.istore_n (pc := 1) (lv' := [some (vR 69), some (vI a1), some (vI 0), none, none, none]) dX3_giveBy_1 rfl (lt9 rfl) rfl rfl ?_
  exact Ev.weak2 (ll_X3_giveBy_2 N N _ _ _ _ _ h) (lsubS (lsubS (lsubS (lsubN (lsubN (lsubN lsubE))))))
theorem r_X3_giveBy {N : Nat} {a1 : Int32} {σ : St} {v : Int32} {w : St} (h : o_X3_giveBy N a1 σ = some (v, w)) : Rn md_X3_giveBy 3 [vR 69, vI a1] SH σ (some (vI v), SH, w) := Rn.of ce_X3_giveBy.1 (Nat.le_of_ble_eq_true rfl) (e_X3_giveBy N _ _ _ _ h)
def l_X3_allFit_2 (N : Nat) : Nat → Int32 → St → Option (Int32 × St)
  | 0, _, _ => none
  | n + 1, v1, σ => if (σ 1 2) ≤ v1 then (some (1, σ)) else (if (p_X9_has (at_ σ 70 128 (at_ σ 71 3 v1)) v1 σ) = 0 then (some (0, σ)) else (bt (v1 + 1) fun x3 => l_X3_allFit_2 N n x3 σ))
def o_X3_allFit (N : Nat)  (σ : St) : Option (Int32 × St) := l_X3_allFit_2 N N 0 σ
theorem ll_X3_allFit_2 (N : Nat) : ∀ (n : Nat) (v1 : Int32) (σ : St) (v : Int32) (w : St), l_X3_allFit_2 N n v1 σ = some (v, w) → Ev md_X3_allFit 1 2 [some (vR 69), some (vI v1)] [] SH σ (some (vI v), SH, w) := by
  intro n
  induction n with
  | zero =>
    intro v1 σ v w h
    rw [l_X3_allFit_2] at h
    cases h
  | succ n ih =>
    intro v1 σ v w h
    rw [l_X3_allFit_2] at h
    refine Ev.iload_n (pc := 2) dX3_allFit_2 rfl rfl ?_
    refine Ev.aload_n (pc := 3) dX3_allFit_3 rfl rfl ?_
    refine Ev.getR (pc := 4) dX3_allFit_4 fl_X3_24 sh_69 rfl ?_
    refine Ev.getI (pc := 7) dX3_allFit_7 fl_X3_47 sh_1 rfl ?_
    by_cases c1 : (σ 1 2) ≤ v1
    · replace h := (if_pos c1).symm.trans h
      refine Ev.icmp_ge_t (pc := 10) (tgt := 43) dX3_allFit_10 rfl c1 ?_
      refine Ev.iconst (pc := 43) (v := 1) dX3_allFit_43 ki_1 ?_
      obtain ⟨h1, h2⟩ := oeq h
      subst h1
      subst h2
      exact Ev.ret_i (pc := 44) dX3_allFit_44 rfl nb_1
    · replace h := (if_neg c1).symm.trans h
      refine Ev.icmp_ge_f (pc := 10) dX3_allFit_10 ⟨43, rfl⟩ c1 ?_
      refine Ev.aload_n (pc := 13) dX3_allFit_13 rfl rfl ?_
      refine Ev.getR (pc := 14) dX3_allFit_14 fl_X3_9 sh_69 rfl ?_
      refine Ev.aload_n (pc := 17) dX3_allFit_17 rfl rfl ?_
      refine Ev.getR (pc := 18) dX3_allFit_18 fl_X3_15 sh_69 rfl ?_
      refine Ev.iload_n (pc := 21) dX3_allFit_21 rfl rfl ?_
      refine Ev.cTi (pc := 22) (av := [vR 71, vI v1]) (rest := [vR 70]) dX3_allFit_22 ce_X9_at ml_X3_84 rfl sh_sc (Nat.le_of_ble_eq_true rfl) (Nat.le_of_ble_eq_true rfl) (r_at sh_71 (by decide) _ _) ?_
      refine Ev.cTi (pc := 25) (av := [vR 70, vI (at_ σ 71 3 v1)]) (rest := []) dX3_allFit_25 ce_X9_at ml_X3_84 rfl sh_sc (Nat.le_of_ble_eq_true rfl) (Nat.le_of_ble_eq_true rfl) (r_at sh_70 (by decide) _ _) ?_
      refine Ev.iload_n (pc := 28) dX3_allFit_28 rfl rfl ?_
      refine Ev.cTi (pc := 29) (av := [vI (at_ σ 70 128 (at_ σ 71 3 v1)), vI v1]) (rest := []) dX3_allFit_29 ce_X9_has ml_X3_88 rfl sh_sc (Nat.le_of_ble_eq_true rfl) (Nat.le_of_ble_eq_true rfl) (r_X9_has _ _ _) ?_
      by_cases c2 : (p_X9_has (at_ σ 70 128 (at_ σ 71 3 v1)) v1 σ) = 0
      · replace h := (if_pos c2).symm.trans h
        refine Ev.if_ne_f (pc := 32) dX3_allFit_32 ⟨37, rfl⟩ c2 ?_
        refine Ev.iconst (pc := 35) (v := 0) dX3_allFit_35 ki_0 ?_
        obtain ⟨h1, h2⟩ := oeq h
        subst h1
        subst h2
        exact Ev.ret_i (pc := 36) dX3_allFit_36 rfl nb_0
      · replace h := (if_neg c2).symm.trans h
        refine Ev.if_ne_t (pc := 32) (tgt := 37) dX3_allFit_32 rfl c2 ?_
        obtain ⟨x3, e_x3, h⟩ := bt_elim h
        refine Ev.iinc (pc := 37) (v := x3) (lv' := [some (vR 69), some (vI x3)]) dX3_allFit_37 rfl (by rw [ki_1, e_x3]) (lt9 rfl) rfl rfl ?_
        refine Ev.goto (pc := 40) (tgt := 2) dX3_allFit_40 rfl ?_
        exact Ev.weak2 (ih _ _ _ _ h) (lsubS (lsubS lsubE))
theorem e_X3_allFit (N : Nat)  (σ : St) (v : Int32) (w : St) (h : o_X3_allFit N  σ = some (v, w)) : Ev md_X3_allFit 1 0 (lvE [vR 69] 2) [] SH σ (some (vI v), SH, w) := by
  show Ev md_X3_allFit 1 0 [some (vR 69), none] [] SH σ (some (vI v), SH, w)
  unfold o_X3_allFit at h
  refine Ev.iconst (pc := 0) (v := 0) dX3_allFit_0 ki_0 ?_
  refine Ev.istore_n (pc := 1) (lv' := [some (vR 69), some (vI 0)]) dX3_allFit_1 rfl (lt9 rfl) rfl rfl ?_
  exact Ev.weak2 (ll_X3_allFit_2 N N _ _ _ _ h) (lsubS (lsubS lsubE))
theorem r_X3_allFit {N : Nat}  {σ : St} {v : Int32} {w : St} (h : o_X3_allFit N  σ = some (v, w)) : Rn md_X3_allFit 1 [vR 69] SH σ (some (vI v), SH, w) := Rn.of ce_X3_allFit.1 (Nat.le_of_ble_eq_true rfl) (e_X3_allFit N  _ _ _ h)
def j_X3_fewest_83 (N : Nat) (K_39 : Int32 → Int32 → Int32 → St → Option (Int32 × St)) (v1 : Int32) (v2 : Int32) (v3 : Int32) (σ : St) : Option (Int32 × St) := bt (v3 + 1) fun x1 => K_39 v1 v2 x1 σ
def j_X3_fewest_62 (N : Nat) (K_39 : Int32 → Int32 → Int32 → St → Option (Int32 × St)) (v1 : Int32) (v2 : Int32) (v3 : Int32) (v4 : Int32) (σ : St) : Option (Int32 × St) := bd (o_X3_allFit N  σ) fun x1 σ2 => if x1 = 0 then (j_X3_fewest_83 N K_39 v1 v2 v3 σ2) else (bt (cpO_ σ2 (some 72) (some 73) 7 7) fun σ5 => j_X3_fewest_83 N K_39 v1 v4 v3 σ5)
def l_X3_fewest_39 (N : Nat) : Nat → Int32 → Int32 → Int32 → St → Option (Int32 × St)
  | 0, _, _, _, _ => none
  | n + 1, v1, v2, v3, σ => if v1 ≤ v3 then (some (v2, σ)) else (bd (o_X3_giveBy N v3 σ) fun x2 σ3 => if v2 = (-1) then (j_X3_fewest_62 N (l_X3_fewest_39 N n) v1 v2 v3 x2 σ3) else (if v2 ≤ x2 then (j_X3_fewest_83 N (l_X3_fewest_39 N n) v1 v2 v3 σ3) else (j_X3_fewest_62 N (l_X3_fewest_39 N n) v1 v2 v3 x2 σ3)))
def l_X3_fewest_4 (N : Nat) : Nat → Int32 → Int32 → St → Option (Int32 × St)
  | 0, _, _, _ => none
  | n + 1, v1, v2, σ => bd (o_X1_setOf N 0 σ) fun x1 σ2 => if (p_J6_bitCount_0f7a4 x1 σ2) ≤ v2 then (l_X3_fewest_39 N N v1 (-1) 0 σ2) else (bt (v1 * (σ2 1 2)) fun x5 => bt (v2 + 1) fun x6 => l_X3_fewest_4 N n x5 x6 σ2)
def o_X3_fewest (N : Nat)  (σ : St) : Option (Int32 × St) := l_X3_fewest_4 N N 1 0 σ
theorem lj_X3_fewest_83 (N : Nat) (K_39 : Int32 → Int32 → Int32 → St → Option (Int32 × St)) (hK_39 : ∀ (v1 : Int32) (v2 : Int32) (v3 : Int32) (σ : St) (v : Int32) (w : St), K_39 v1 v2 v3 σ = some (v, w) → Ev md_X3_fewest 4 39 [some (vR 69), some (vI v1), some (vI v2), some (vI v3), none] [] SH σ (some (vI v), SH, w)) (v1 : Int32) (v2 : Int32) (v3 : Int32) (σ : St) (v : Int32) (w : St) (h : j_X3_fewest_83 N K_39 v1 v2 v3 σ = some (v, w)) : Ev md_X3_fewest 4 83 [some (vR 69), some (vI v1), some (vI v2), some (vI v3), none] [] SH σ (some (vI v), SH, w) := by
  unfold j_X3_fewest_83 at h
  obtain ⟨x1, e_x1, h⟩ := bt_elim h
  refine Ev.iinc (pc := 83) (v := x1) (lv' := [some (vR 69), some (vI v1), some (vI v2), some (vI x1), none]) dX3_fewest_83 rfl (by rw [ki_1, e_x1]) (lt9 rfl) rfl rfl ?_
  refine Ev.goto (pc := 86) (tgt := 39) dX3_fewest_86 rfl ?_
  exact Ev.weak2 (hK_39 _ _ _ _ _ _ h) (lsubS (lsubS (lsubS (lsubS (lsubN lsubE)))))
theorem lj_X3_fewest_62 (N : Nat) (K_39 : Int32 → Int32 → Int32 → St → Option (Int32 × St)) (hK_39 : ∀ (v1 : Int32) (v2 : Int32) (v3 : Int32) (σ : St) (v : Int32) (w : St), K_39 v1 v2 v3 σ = some (v, w) → Ev md_X3_fewest 4 39 [some (vR 69), some (vI v1), some (vI v2), some (vI v3), none] [] SH σ (some (vI v), SH, w)) (v1 : Int32) (v2 : Int32) (v3 : Int32) (v4 : Int32) (σ : St) (v : Int32) (w : St) (h : j_X3_fewest_62 N K_39 v1 v2 v3 v4 σ = some (v, w)) : Ev md_X3_fewest 4 62 [some (vR 69), some (vI v1), some (vI v2), some (vI v3), some (vI v4)] [] SH σ (some (vI v), SH, w) := by
  unfold j_X3_fewest_62 at h
  refine Ev.aload_n (pc := 62) dX3_fewest_62 rfl rfl ?_
  obtain ⟨x1, σ2, g3, h⟩ := bd_elim h
  refine Ev.cVi (pc := 63) (k := 69) (av := []) (rest := []) dX3_fewest_63 ce_X3_allFit ml_X3_56 rfl sh_69 cl_X3 sh_sc (Nat.le_of_ble_eq_true rfl) (Nat.le_of_ble_eq_true rfl) (r_X3_allFit g3) ?_
  by_cases c4 : x1 = 0
  · replace h := (if_pos c4).symm.trans h
    refine Ev.if_eq_t (pc := 66) (tgt := 83) dX3_fewest_66 rfl c4 ?_
    exact Ev.weak2 (lj_X3_fewest_83 N K_39 hK_39 _ _ _ _ _ _ h) (lsubS (lsubS (lsubS (lsubS (lsubN lsubE)))))
  · replace h := (if_neg c4).symm.trans h
    refine Ev.if_eq_f (pc := 66) dX3_fewest_66 ⟨83, rfl⟩ c4 ?_
    refine Ev.iload (pc := 69) dX3_fewest_69 rfl ?_
    refine Ev.istore_n (pc := 71) (lv' := [some (vR 69), some (vI v1), some (vI v4), some (vI v3), some (vI v4)]) dX3_fewest_71 rfl (lt9 rfl) rfl rfl ?_
    refine Ev.aload_n (pc := 72) dX3_fewest_72 rfl rfl ?_
    refine Ev.getR (pc := 73) dX3_fewest_73 fl_X3_18 sh_69 rfl ?_
    refine Ev.aload_n (pc := 76) dX3_fewest_76 rfl rfl ?_
    refine Ev.getR (pc := 77) dX3_fewest_77 fl_X3_21 sh_69 rfl ?_
    refine Ev.cTv (pc := 80) (av := [vR 72, vR 73]) (rest := []) dX3_fewest_80 ce_X9_copy ml_X3_60 rfl sh_sc (Nat.le_of_ble_eq_true rfl) (Nat.le_of_ble_eq_true rfl) (r_copy (hs_some sh_72) (hs_some sh_73) (by decide) (by decide) _) ?_
    refine Ev.nmS (fun σ5 e9 => ?_)
    replace h := bt_app h σ5 e9
    exact Ev.weak2 (lj_X3_fewest_83 N K_39 hK_39 _ _ _ _ _ _ h) (lsubS (lsubS (lsubS (lsubS (lsubN lsubE)))))
theorem ll_X3_fewest_39 (N : Nat) : ∀ (n : Nat) (v1 : Int32) (v2 : Int32) (v3 : Int32) (σ : St) (v : Int32) (w : St), l_X3_fewest_39 N n v1 v2 v3 σ = some (v, w) → Ev md_X3_fewest 4 39 [some (vR 69), some (vI v1), some (vI v2), some (vI v3), none] [] SH σ (some (vI v), SH, w) := by
  intro n
  induction n with
  | zero =>
    intro v1 v2 v3 σ v w h
    rw [l_X3_fewest_39] at h
    cases h
  | succ n ih =>
    intro v1 v2 v3 σ v w h
    rw [l_X3_fewest_39] at h
    refine Ev.iload_n (pc := 39) dX3_fewest_39 rfl rfl ?_
    refine Ev.iload_n (pc := 40) dX3_fewest_40 rfl rfl ?_
    by_cases c1 : v1 ≤ v3
    · replace h := (if_pos c1).symm.trans h
      refine Ev.icmp_ge_t (pc := 41) (tgt := 89) dX3_fewest_41 rfl c1 ?_
      refine Ev.iload_n (pc := 89) dX3_fewest_89 rfl rfl ?_
      obtain ⟨h1, h2⟩ := oeq h
      subst h1
      subst h2
      exact Ev.ret_i (pc := 90) dX3_fewest_90 rfl rfl
    · replace h := (if_neg c1).symm.trans h
      refine Ev.icmp_ge_f (pc := 41) dX3_fewest_41 ⟨89, rfl⟩ c1 ?_
      refine Ev.aload_n (pc := 44) dX3_fewest_44 rfl rfl ?_
      refine Ev.iload_n (pc := 45) dX3_fewest_45 rfl rfl ?_
      obtain ⟨x2, σ3, g4, h⟩ := bd_elim h
      refine Ev.cVi (pc := 46) (k := 69) (av := [vI v3]) (rest := []) dX3_fewest_46 ce_X3_giveBy ml_X3_53 rfl sh_69 cl_X3 sh_sc (Nat.le_of_ble_eq_true rfl) (Nat.le_of_ble_eq_true rfl) (r_X3_giveBy g4) ?_
      refine Ev.istore (pc := 49) (lv' := [some (vR 69), some (vI v1), some (vI v2), some (vI v3), some (vI x2)]) dX3_fewest_49 (lt9 rfl) rfl rfl ?_
      refine Ev.iload_n (pc := 51) dX3_fewest_51 rfl rfl ?_
      refine Ev.iconst (pc := 52) (v := (-1)) dX3_fewest_52 ki_m1 ?_
      by_cases c5 : v2 = (-1)
      · replace h := (if_pos c5).symm.trans h
        refine Ev.icmp_eq_t (pc := 53) (tgt := 62) dX3_fewest_53 rfl c5 ?_
        exact Ev.weak2 (lj_X3_fewest_62 N (l_X3_fewest_39 N n) ih _ _ _ _ _ _ _ h) (lsubS (lsubS (lsubS (lsubS (lsubS lsubE)))))
      · replace h := (if_neg c5).symm.trans h
        refine Ev.icmp_eq_f (pc := 53) dX3_fewest_53 ⟨62, rfl⟩ c5 ?_
        refine Ev.iload (pc := 56) dX3_fewest_56 rfl ?_
        refine Ev.iload_n (pc := 58) dX3_fewest_58 rfl rfl ?_
        by_cases c6 : v2 ≤ x2
        · replace h := (if_pos c6).symm.trans h
          refine Ev.icmp_ge_t (pc := 59) (tgt := 83) dX3_fewest_59 rfl c6 ?_
          exact Ev.weak2 (lj_X3_fewest_83 N (l_X3_fewest_39 N n) ih _ _ _ _ _ _ h) (lsubS (lsubS (lsubS (lsubS (lsubN lsubE)))))
        · replace h := (if_neg c6).symm.trans h
          refine Ev.icmp_ge_f (pc := 59) dX3_fewest_59 ⟨83, rfl⟩ c6 ?_
          exact Ev.weak2 (lj_X3_fewest_62 N (l_X3_fewest_39 N n) ih _ _ _ _ _ _ _ h) (lsubS (lsubS (lsubS (lsubS (lsubS lsubE)))))
theorem ll_X3_fewest_4 (N : Nat) : ∀ (n : Nat) (v1 : Int32) (v2 : Int32) (σ : St) (v : Int32) (w : St), l_X3_fewest_4 N n v1 v2 σ = some (v, w) → Ev md_X3_fewest 4 4 [some (vR 69), some (vI v1), some (vI v2), none, none] [] SH σ (some (vI v), SH, w) := by
  intro n
  induction n with
  | zero =>
    intro v1 v2 σ v w h
    rw [l_X3_fewest_4] at h
    cases h
  | succ n ih =>
    intro v1 v2 σ v w h
    rw [l_X3_fewest_4] at h
    refine Ev.iload_n (pc := 4) dX3_fewest_4 rfl rfl ?_
    refine Ev.aload_n (pc := 5) dX3_fewest_5 rfl rfl ?_
    refine Ev.getR (pc := 6) dX3_fewest_6 fl_X3_28 sh_69 rfl ?_
    refine Ev.iconst (pc := 9) (v := 0) dX3_fewest_9 ki_0 ?_
    obtain ⟨x1, σ2, g3, h⟩ := bd_elim h
    refine Ev.cVi (pc := 10) (k := 23) (av := [vI 0]) (rest := [vI v2]) dX3_fewest_10 ce_X1_setOf ml_X3_36 rfl sh_23 cl_X1 sh_sc (Nat.le_of_ble_eq_true rfl) (Nat.le_of_ble_eq_true rfl) (r_X1_setOf g3) ?_
    refine Ev.cTi (pc := 13) (av := [vI x1]) (rest := [vI v2]) dX3_fewest_13 ce_J6_bitCount_0f7a4 ml_X3_42 rfl sh_sc (Nat.le_of_ble_eq_true rfl) (Nat.le_of_ble_eq_true rfl) (r_J6_bitCount_0f7a4 _ _) ?_
    by_cases c4 : (p_J6_bitCount_0f7a4 x1 σ2) ≤ v2
    · replace h := (if_pos c4).symm.trans h
      refine Ev.icmp_ge_t (pc := 16) (tgt := 35) dX3_fewest_16 rfl c4 ?_
      refine Ev.iconst (pc := 35) (v := (-1)) dX3_fewest_35 ki_m1 ?_
      refine Ev.istore_n (pc := 36) (lv' := [some (vR 69), some (vI v1), some (vI (-1)), none, none]) dX3_fewest_36 rfl (lt9 rfl) rfl rfl ?_
      refine Ev.iconst (pc := 37) (v := 0) dX3_fewest_37 ki_0 ?_
      refine Ev.istore_n (pc := 38) (lv' := [some (vR 69), some (vI v1), some (vI (-1)), some (vI 0), none]) dX3_fewest_38 rfl (lt9 rfl) rfl rfl ?_
      exact Ev.weak2 (ll_X3_fewest_39 N N _ _ _ _ _ _ h) (lsubS (lsubS (lsubS (lsubS (lsubN lsubE)))))
    · replace h := (if_neg c4).symm.trans h
      refine Ev.icmp_ge_f (pc := 16) dX3_fewest_16 ⟨35, rfl⟩ c4 ?_
      refine Ev.iload_n (pc := 19) dX3_fewest_19 rfl rfl ?_
      refine Ev.aload_n (pc := 20) dX3_fewest_20 rfl rfl ?_
      refine Ev.getR (pc := 21) dX3_fewest_21 fl_X3_24 sh_69 rfl ?_
      refine Ev.getI (pc := 24) dX3_fewest_24 fl_X3_47 sh_1 rfl ?_
      refine Ev.imul (pc := 27) dX3_fewest_27 ?_
      refine Ev.nmI (fun x5 e9 => ?_)
      replace h := bt_app h x5 e9
      refine Ev.istore_n (pc := 28) (lv' := [some (vR 69), some (vI x5), some (vI v2), none, none]) dX3_fewest_28 rfl (lt9 rfl) rfl rfl ?_
      obtain ⟨x6, e_x6, h⟩ := bt_elim h
      refine Ev.iinc (pc := 29) (v := x6) (lv' := [some (vR 69), some (vI x5), some (vI x6), none, none]) dX3_fewest_29 rfl (by rw [ki_1, e_x6]) (lt9 rfl) rfl rfl ?_
      refine Ev.goto (pc := 32) (tgt := 4) dX3_fewest_32 rfl ?_
      exact Ev.weak2 (ih _ _ _ _ _ h) (lsubS (lsubS (lsubS (lsubN (lsubN lsubE)))))
theorem e_X3_fewest (N : Nat)  (σ : St) (v : Int32) (w : St) (h : o_X3_fewest N  σ = some (v, w)) : Ev md_X3_fewest 4 0 (lvE [vR 69] 5) [] SH σ (some (vI v), SH, w) := by
  show Ev md_X3_fewest 4 0 [some (vR 69), none, none, none, none] [] SH σ (some (vI v), SH, w)
  unfold o_X3_fewest at h
  refine Ev.iconst (pc := 0) (v := 1) dX3_fewest_0 ki_1 ?_
  refine Ev.istore_n (pc := 1) (lv' := [some (vR 69), some (vI 1), none, none, none]) dX3_fewest_1 rfl (lt9 rfl) rfl rfl ?_
  refine Ev.iconst (pc := 2) (v := 0) dX3_fewest_2 ki_0 ?_
  refine Ev.istore_n (pc := 3) (lv' := [some (vR 69), some (vI 1), some (vI 0), none, none]) dX3_fewest_3 rfl (lt9 rfl) rfl rfl ?_
  exact Ev.weak2 (ll_X3_fewest_4 N N _ _ _ _ _ h) (lsubS (lsubS (lsubS (lsubN (lsubN lsubE)))))
theorem r_X3_fewest {N : Nat}  {σ : St} {v : Int32} {w : St} (h : o_X3_fewest N  σ = some (v, w)) : Rn md_X3_fewest 4 [vR 69] SH σ (some (vI v), SH, w) := Rn.of ce_X3_fewest.1 (Nat.le_of_ble_eq_true rfl) (e_X3_fewest N  _ _ _ h)
def l_X9_hands_21 (N : Nat) : Nat → Int32 → Int32 → St → Option (Int32 × St)
  | 0, _, _, _ => none
  | n + 1, v1, v2, σ => if (σ 1 2) ≤ v2 then (bd (o_X3_fillFits N  σ) fun u2 σ3 => bd (o_X3_fewest N  σ3) fun x5 σ6 => if x5 = (-1) then (some (x5, σ6)) else (if v1 = (-1) then (some (x5, σ6)) else (some ((at_ σ6 73 7 v1), σ6)))) else (if (p_X1_onTheWay v2 σ) = 0 then (bt (v2 + 1) fun x11 => l_X9_hands_21 N n v1 x11 σ) else (some ((-1000000003), σ)))
def j_X9_hands_19 (N : Nat) (v1 : Int32) (σ : St) : Option (Int32 × St) := l_X9_hands_21 N N v1 0 σ
def o_X9_hands (N : Nat) (a1 : Int32) (σ : St) : Option (Int32 × St) := if a1 = (-1) then (j_X9_hands_19 N a1 σ) else (if (p_X5_hasPromise a1 σ) = 0 then (some ((-1000000001), σ)) else (j_X9_hands_19 N a1 σ))
theorem ll_X9_hands_21 (N : Nat) : ∀ (n : Nat) (v1 : Int32) (v2 : Int32) (σ : St) (v : Int32) (w : St), l_X9_hands_21 N n v1 v2 σ = some (v, w) → Ev md_X9_hands 83 21 [some (vR 0), some (vI v1), some (vI v2)] [] SH σ (some (vI v), SH, w) := by
  intro n
  induction n with
  | zero =>
    intro v1 v2 σ v w h
    rw [l_X9_hands_21] at h
    cases h
  | succ n ih =>
    intro v1 v2 σ v w h
    rw [l_X9_hands_21] at h
    refine Ev.iload_n (pc := 21) dX9_hands_21 rfl rfl ?_
    refine Ev.aload_n (pc := 22) dX9_hands_22 rfl rfl ?_
    refine Ev.getR (pc := 23) dX9_hands_23 fl_X9_10 sh_0 rfl ?_
    refine Ev.getI (pc := 26) dX9_hands_26 fl_X9_116 sh_1 rfl ?_
    by_cases c1 : (σ 1 2) ≤ v2
    · replace h := (if_pos c1).symm.trans h
      refine Ev.icmp_ge_t (pc := 29) (tgt := 52) dX9_hands_29 rfl c1 ?_
      refine Ev.aload_n (pc := 52) dX9_hands_52 rfl rfl ?_
      refine Ev.getR (pc := 53) dX9_hands_53 fl_X9_70 sh_0 rfl ?_
      obtain ⟨u2, σ3, g4, h⟩ := bd_elim h
      refine Ev.cVv (pc := 56) (k := 69) (av := []) (rest := []) dX9_hands_56 ce_X3_fillFits ml_X9_270 rfl sh_69 cl_X3 sh_sc (Nat.le_of_ble_eq_true rfl) (Nat.le_of_ble_eq_true rfl) (r_X3_fillFits g4) ?_
      refine Ev.aload_n (pc := 59) dX9_hands_59 rfl rfl ?_
      refine Ev.getR (pc := 60) dX9_hands_60 fl_X9_70 sh_0 rfl ?_
      obtain ⟨x5, σ6, g7, h⟩ := bd_elim h
      refine Ev.cVi (pc := 63) (k := 69) (av := []) (rest := []) dX9_hands_63 ce_X3_fewest ml_X9_273 rfl sh_69 cl_X3 sh_sc (Nat.le_of_ble_eq_true rfl) (Nat.le_of_ble_eq_true rfl) (r_X3_fewest g7) ?_
      refine Ev.istore_n (pc := 66) (lv' := [some (vR 0), some (vI v1), some (vI x5)]) dX9_hands_66 rfl (lt9 rfl) rfl rfl ?_
      refine Ev.iload_n (pc := 67) dX9_hands_67 rfl rfl ?_
      refine Ev.iconst (pc := 68) (v := (-1)) dX9_hands_68 ki_m1 ?_
      by_cases c8 : x5 = (-1)
      · replace h := (if_pos c8).symm.trans h
        refine Ev.icmp_eq_t (pc := 69) (tgt := 77) dX9_hands_69 rfl c8 ?_
        refine Ev.iload_n (pc := 77) dX9_hands_77 rfl rfl ?_
        obtain ⟨h1, h2⟩ := oeq h
        subst h1
        subst h2
        exact Ev.ret_i (pc := 78) dX9_hands_78 rfl rfl
      · replace h := (if_neg c8).symm.trans h
        refine Ev.icmp_eq_f (pc := 69) dX9_hands_69 ⟨77, rfl⟩ c8 ?_
        refine Ev.iload_n (pc := 72) dX9_hands_72 rfl rfl ?_
        refine Ev.iconst (pc := 73) (v := (-1)) dX9_hands_73 ki_m1 ?_
        by_cases c9 : v1 = (-1)
        · replace h := (if_pos c9).symm.trans h
          refine Ev.icmp_ne_f (pc := 74) dX9_hands_74 ⟨79, rfl⟩ c9 ?_
          refine Ev.iload_n (pc := 77) dX9_hands_77 rfl rfl ?_
          obtain ⟨h1, h2⟩ := oeq h
          subst h1
          subst h2
          exact Ev.ret_i (pc := 78) dX9_hands_78 rfl rfl
        · replace h := (if_neg c9).symm.trans h
          refine Ev.icmp_ne_t (pc := 74) (tgt := 79) dX9_hands_74 rfl c9 ?_
          refine Ev.aload_n (pc := 79) dX9_hands_79 rfl rfl ?_
          refine Ev.getR (pc := 80) dX9_hands_80 fl_X9_70 sh_0 rfl ?_
          refine Ev.getR (pc := 83) dX9_hands_83 fl_X9_276 sh_69 rfl ?_
          refine Ev.iload_n (pc := 86) dX9_hands_86 rfl rfl ?_
          refine Ev.cTi (pc := 87) (av := [vR 73, vI v1]) (rest := []) dX9_hands_87 ce_X9_at ml_X9_160 rfl sh_sc (Nat.le_of_ble_eq_true rfl) (Nat.le_of_ble_eq_true rfl) (r_at sh_73 (by decide) _ _) ?_
          obtain ⟨h1, h2⟩ := oeq h
          subst h1
          subst h2
          exact Ev.ret_i (pc := 90) dX9_hands_90 rfl rfl
    · replace h := (if_neg c1).symm.trans h
      refine Ev.icmp_ge_f (pc := 29) dX9_hands_29 ⟨52, rfl⟩ c1 ?_
      refine Ev.aload_n (pc := 32) dX9_hands_32 rfl rfl ?_
      refine Ev.getR (pc := 33) dX9_hands_33 fl_X9_31 sh_0 rfl ?_
      refine Ev.iload_n (pc := 36) dX9_hands_36 rfl rfl ?_
      refine Ev.cVi (pc := 37) (k := 23) (av := [vI v2]) (rest := []) dX9_hands_37 ce_X1_onTheWay ml_X9_258 rfl sh_23 cl_X1 sh_sc (Nat.le_of_ble_eq_true rfl) (Nat.le_of_ble_eq_true rfl) (r_X1_onTheWay _ _) ?_
      by_cases c10 : (p_X1_onTheWay v2 σ) = 0
      · replace h := (if_pos c10).symm.trans h
        refine Ev.if_eq_t (pc := 40) (tgt := 46) dX9_hands_40 rfl c10 ?_
        obtain ⟨x11, e_x11, h⟩ := bt_elim h
        refine Ev.iinc (pc := 46) (v := x11) (lv' := [some (vR 0), some (vI v1), some (vI x11)]) dX9_hands_46 rfl (by rw [ki_1, e_x11]) (lt9 rfl) rfl rfl ?_
        refine Ev.goto (pc := 49) (tgt := 21) dX9_hands_49 rfl ?_
        exact Ev.weak2 (ih _ _ _ _ _ h) (lsubS (lsubS (lsubS lsubE)))
      · replace h := (if_neg c10).symm.trans h
        refine Ev.if_eq_f (pc := 40) dX9_hands_40 ⟨46, rfl⟩ c10 ?_
        refine Ev.ldc (pc := 43) dX9_hands_43 kc_X9_207 ?_
        obtain ⟨h1, h2⟩ := oeq h
        subst h1
        subst h2
        exact Ev.ret_i (pc := 45) dX9_hands_45 rfl rfl
theorem lj_X9_hands_19 (N : Nat) (v1 : Int32) (σ : St) (v : Int32) (w : St) (h : j_X9_hands_19 N v1 σ = some (v, w)) : Ev md_X9_hands 83 19 [some (vR 0), some (vI v1), none] [] SH σ (some (vI v), SH, w) := by
  unfold j_X9_hands_19 at h
  refine Ev.iconst (pc := 19) (v := 0) dX9_hands_19 ki_0 ?_
  refine Ev.istore_n (pc := 20) (lv' := [some (vR 0), some (vI v1), some (vI 0)]) dX9_hands_20 rfl (lt9 rfl) rfl rfl ?_
  exact Ev.weak2 (ll_X9_hands_21 N N _ _ _ _ _ h) (lsubS (lsubS (lsubS lsubE)))
theorem e_X9_hands (N : Nat) (a1 : Int32) (σ : St) (v : Int32) (w : St) (h : o_X9_hands N a1 σ = some (v, w)) : Ev md_X9_hands 83 0 (lvE [vR 0, vI a1] 3) [] SH σ (some (vI v), SH, w) := by
  show Ev md_X9_hands 83 0 [some (vR 0), some (vI a1), none] [] SH σ (some (vI v), SH, w)
  unfold o_X9_hands at h
  refine Ev.iload_n (pc := 0) dX9_hands_0 rfl rfl ?_
  refine Ev.iconst (pc := 1) (v := (-1)) dX9_hands_1 ki_m1 ?_
  by_cases c1 : a1 = (-1)
  · replace h := (if_pos c1).symm.trans h
    refine Ev.icmp_eq_t (pc := 2) (tgt := 19) dX9_hands_2 rfl c1 ?_
    exact Ev.weak2 (lj_X9_hands_19 N _ _ _ _ h) (lsubS (lsubS (lsubN lsubE)))
  · replace h := (if_neg c1).symm.trans h
    refine Ev.icmp_eq_f (pc := 2) dX9_hands_2 ⟨19, rfl⟩ c1 ?_
    refine Ev.aload_n (pc := 5) dX9_hands_5 rfl rfl ?_
    refine Ev.getR (pc := 6) dX9_hands_6 fl_X9_10 sh_0 rfl ?_
    refine Ev.iload_n (pc := 9) dX9_hands_9 rfl rfl ?_
    refine Ev.cVi (pc := 10) (k := 1) (av := [vI a1]) (rest := []) dX9_hands_10 ce_X5_hasPromise ml_X9_170 rfl sh_1 cl_X5 sh_sc (Nat.le_of_ble_eq_true rfl) (Nat.le_of_ble_eq_true rfl) (r_X5_hasPromise _ _) ?_
    by_cases c2 : (p_X5_hasPromise a1 σ) = 0
    · replace h := (if_pos c2).symm.trans h
      refine Ev.if_ne_f (pc := 13) dX9_hands_13 ⟨19, rfl⟩ c2 ?_
      refine Ev.ldc (pc := 16) dX9_hands_16 kc_X9_145 ?_
      obtain ⟨h1, h2⟩ := oeq h
      subst h1
      subst h2
      exact Ev.ret_i (pc := 18) dX9_hands_18 rfl rfl
    · replace h := (if_neg c2).symm.trans h
      refine Ev.if_ne_t (pc := 13) (tgt := 19) dX9_hands_13 rfl c2 ?_
      exact Ev.weak2 (lj_X9_hands_19 N _ _ _ _ h) (lsubS (lsubS (lsubN lsubE)))
theorem r_X9_hands {N : Nat} {a1 : Int32} {σ : St} {v : Int32} {w : St} (h : o_X9_hands N a1 σ = some (v, w)) : Rn md_X9_hands 83 [vR 0, vI a1] SH σ (some (vI v), SH, w) := Rn.of ce_X9_hands.1 (Nat.le_of_ble_eq_true rfl) (e_X9_hands N _ _ _ _ h)
def l_X10_handOf_10 (N : Nat) : Nat → Int32 → Int32 → Int32 → St → Option (Int32 × St)
  | 0, _, _, _, _ => none
  | n + 1, v2, v3, v4, σ => if v4 ≤ v2 then (ckDI (σ 79 4) (some ((v3 - v3 / (σ 79 4) * (σ 79 4)), σ))) else (ckDI (σ 79 4) (bt (v3 / (σ 79 4)) fun x4 => bt (v4 + (-1)) fun x5 => l_X10_handOf_10 N n v2 x4 x5 σ))
def o_X10_handOf (N : Nat) (a1 : Int32) (a2 : Int32) (σ : St) : Option (Int32 × St) := bt ((σ 79 5) - 1) fun x1 => l_X10_handOf_10 N N a2 a1 x1 σ
theorem ll_X10_handOf_10 (N : Nat) : ∀ (n : Nat) (v2 : Int32) (v3 : Int32) (v4 : Int32) (σ : St) (v : Int32) (w : St), l_X10_handOf_10 N n v2 v3 v4 σ = some (v, w) → Ev md_X10_handOf 0 10 [some (vR 79), none, some (vI v2), some (vI v3), some (vI v4)] [] SH σ (some (vI v), SH, w) := by
  intro n
  induction n with
  | zero =>
    intro v2 v3 v4 σ v w h
    rw [l_X10_handOf_10] at h
    cases h
  | succ n ih =>
    intro v2 v3 v4 σ v w h
    rw [l_X10_handOf_10] at h
    refine Ev.iload (pc := 10) dX10_handOf_10 rfl ?_
    refine Ev.iload_n (pc := 12) dX10_handOf_12 rfl rfl ?_
    by_cases c1 : v4 ≤ v2
    · replace h := (if_pos c1).symm.trans h
      refine Ev.icmp_le_t (pc := 13) (tgt := 29) dX10_handOf_13 rfl c1 ?_
      refine Ev.iload_n (pc := 29) dX10_handOf_29 rfl rfl ?_
      refine Ev.aload_n (pc := 30) dX10_handOf_30 rfl rfl ?_
      refine Ev.getI (pc := 31) dX10_handOf_31 fl_X10_172 sh_79 rfl ?_
      obtain ⟨c2, h⟩ := ckDI_elim h
      refine Ev.irem (pc := 34) dX10_handOf_34 c2 ?_
      obtain ⟨h1, h2⟩ := oeq h
      subst h1
      subst h2
      exact Ev.ret_i (pc := 35) dX10_handOf_35 rfl rfl
    · replace h := (if_neg c1).symm.trans h
      refine Ev.icmp_le_f (pc := 13) dX10_handOf_13 ⟨29, rfl⟩ c1 ?_
      refine Ev.iload_n (pc := 16) dX10_handOf_16 rfl rfl ?_
      refine Ev.aload_n (pc := 17) dX10_handOf_17 rfl rfl ?_
      refine Ev.getI (pc := 18) dX10_handOf_18 fl_X10_172 sh_79 rfl ?_
      obtain ⟨c3, h⟩ := ckDI_elim h
      refine Ev.idiv (pc := 21) dX10_handOf_21 c3 ?_
      refine Ev.nmI (fun x4 e9 => ?_)
      replace h := bt_app h x4 e9
      refine Ev.istore_n (pc := 22) (lv' := [some (vR 79), none, some (vI v2), some (vI x4), some (vI v4)]) dX10_handOf_22 rfl (lt9 rfl) rfl rfl ?_
      obtain ⟨x5, e_x5, h⟩ := bt_elim h
      refine Ev.iinc (pc := 23) (v := x5) (lv' := [some (vR 79), none, some (vI v2), some (vI x4), some (vI x5)]) dX10_handOf_23 rfl (by rw [ki_m1, e_x5]) (lt9 rfl) rfl rfl ?_
      refine Ev.goto (pc := 26) (tgt := 10) dX10_handOf_26 rfl ?_
      exact Ev.weak2 (ih _ _ _ _ _ _ h) (lsubS (lsubN (lsubS (lsubS (lsubS lsubE)))))
theorem e_X10_handOf (N : Nat) (a1 : Int32) (a2 : Int32) (σ : St) (v : Int32) (w : St) (h : o_X10_handOf N a1 a2 σ = some (v, w)) : Ev md_X10_handOf 0 0 (lvE [vR 79, vI a1, vI a2] 5) [] SH σ (some (vI v), SH, w) := by
  show Ev md_X10_handOf 0 0 [some (vR 79), some (vI a1), some (vI a2), none, none] [] SH σ (some (vI v), SH, w)
  unfold o_X10_handOf at h
  refine Ev.iload_n (pc := 0) dX10_handOf_0 rfl rfl ?_
  refine Ev.istore_n (pc := 1) (lv' := [some (vR 79), some (vI a1), some (vI a2), some (vI a1), none]) dX10_handOf_1 rfl (lt9 rfl) rfl rfl ?_
  refine Ev.aload_n (pc := 2) dX10_handOf_2 rfl rfl ?_
  refine Ev.getI (pc := 3) dX10_handOf_3 fl_X10_175 sh_79 rfl ?_
  refine Ev.iconst (pc := 6) (v := 1) dX10_handOf_6 ki_1 ?_
  refine Ev.isub (pc := 7) dX10_handOf_7 ?_
  refine Ev.nmI (fun x1 e9 => ?_)
  replace h := bt_app h x1 e9
  refine Ev.istore (pc := 8) (lv' := [some (vR 79), some (vI a1), some (vI a2), some (vI a1), some (vI x1)]) dX10_handOf_8 (lt9 rfl) rfl rfl ?_
  exact Ev.weak2 (ll_X10_handOf_10 N N _ _ _ _ _ _ h) (lsubS (lsubN (lsubS (lsubS (lsubS lsubE)))))
theorem r_X10_handOf {N : Nat} {a1 : Int32} {a2 : Int32} {σ : St} {v : Int32} {w : St} (h : o_X10_handOf N a1 a2 σ = some (v, w)) : Rn md_X10_handOf 0 [vR 79, vI a1, vI a2] SH σ (some (vI v), SH, w) := Rn.of ce_X10_handOf.1 (Nat.le_of_ble_eq_true rfl) (e_X10_handOf N _ _ _ _ _ h)
def j_X10_canHave_40 (N : Nat) (v3 : Int32) (σ : St) : Option (Int32 × St) := ckA v3 384 (if (σ 99 v3.toNatClampNeg) = 1 then (some (1, σ)) else (some (0, σ)))
def j_X10_canHave_39 (N : Nat) (v3 : Int32) (s1 : Int32) (s2 : Int32) (σ : St) : Option (Int32 × St) := ckA s1 384 (bt (st σ 99 s1.toNatClampNeg s2) fun σ2 => j_X10_canHave_40 N v3 σ2)
def o_X10_canHave (N : Nat) (a1 : Int32) (a2 : Int32) (σ : St) : Option (Int32 × St) := bt ((128 * a1) + a2) fun x1 => ckA x1 384 (if (σ 99 x1.toNatClampNeg) = 0 then (bd (o_X10_findOrder N a1 a2 1 σ) fun x4 σ5 => if (99999999 : Int32) ≤ x4 then (j_X10_canHave_39 N x1 x1 2 σ5) else (j_X10_canHave_39 N x1 x1 1 σ5)) else (j_X10_canHave_40 N x1 σ))
theorem lj_X10_canHave_40 (N : Nat) (v3 : Int32) (σ : St) (v : Int32) (w : St) (h : j_X10_canHave_40 N v3 σ = some (v, w)) : Ev md_X10_canHave 4 40 [some (vR 79), none, none, some (vI v3)] [] SH σ (some (vI v), SH, w) := by
  unfold j_X10_canHave_40 at h
  refine Ev.aload_n (pc := 40) dX10_canHave_40 rfl rfl ?_
  refine Ev.getR (pc := 41) dX10_canHave_41 fl_X10_72 sh_79 rfl ?_
  refine Ev.iload_n (pc := 44) dX10_canHave_44 rfl rfl ?_
  obtain ⟨c1, h⟩ := ckA_elim h
  refine Ev.iald (pc := 45) dX10_canHave_45 sh_99 c1 ?_
  refine Ev.iconst (pc := 46) (v := 1) dX10_canHave_46 ki_1 ?_
  by_cases c2 : (σ 99 v3.toNatClampNeg) = 1
  · replace h := (if_pos c2).symm.trans h
    refine Ev.icmp_ne_f (pc := 47) dX10_canHave_47 ⟨54, rfl⟩ c2 ?_
    refine Ev.iconst (pc := 50) (v := 1) dX10_canHave_50 ki_1 ?_
    refine Ev.goto (pc := 51) (tgt := 55) dX10_canHave_51 rfl ?_
    obtain ⟨h1, h2⟩ := oeq h
    subst h1
    subst h2
    exact Ev.ret_i (pc := 55) dX10_canHave_55 rfl nb_1
  · replace h := (if_neg c2).symm.trans h
    refine Ev.icmp_ne_t (pc := 47) (tgt := 54) dX10_canHave_47 rfl c2 ?_
    refine Ev.iconst (pc := 54) (v := 0) dX10_canHave_54 ki_0 ?_
    obtain ⟨h1, h2⟩ := oeq h
    subst h1
    subst h2
    exact Ev.ret_i (pc := 55) dX10_canHave_55 rfl nb_0
theorem lj_X10_canHave_39 (N : Nat) (v3 : Int32) (s1 : Int32) (s2 : Int32) (σ : St) (v : Int32) (w : St) (h : j_X10_canHave_39 N v3 s1 s2 σ = some (v, w)) : Ev md_X10_canHave 4 39 [some (vR 79), none, none, some (vI v3)] [vI s2, vI s1, vR 99] SH σ (some (vI v), SH, w) := by
  unfold j_X10_canHave_39 at h
  obtain ⟨c1, h⟩ := ckA_elim h
  refine Ev.iast (pc := 39) dX10_canHave_39 sh_99 c1 ?_
  refine Ev.nmS (fun σ2 e9 => ?_)
  replace h := bt_app h σ2 e9
  exact Ev.weak2 (lj_X10_canHave_40 N _ _ _ _ h) (lsubS (lsubN (lsubN (lsubS lsubE))))
theorem e_X10_canHave (N : Nat) (a1 : Int32) (a2 : Int32) (σ : St) (v : Int32) (w : St) (h : o_X10_canHave N a1 a2 σ = some (v, w)) : Ev md_X10_canHave 4 0 (lvE [vR 79, vI a1, vI a2] 4) [] SH σ (some (vI v), SH, w) := by
  show Ev md_X10_canHave 4 0 [some (vR 79), some (vI a1), some (vI a2), none] [] SH σ (some (vI v), SH, w)
  unfold o_X10_canHave at h
  refine Ev.sipush (pc := 0) (v := 128) dX10_canHave_0 ks_128 ?_
  refine Ev.iload_n (pc := 3) dX10_canHave_3 rfl rfl ?_
  refine Ev.imul (pc := 4) dX10_canHave_4 ?_
  refine Ev.iload_n (pc := 5) dX10_canHave_5 rfl rfl ?_
  refine Ev.iadd (pc := 6) dX10_canHave_6 ?_
  refine Ev.nmI (fun x1 e9 => ?_)
  replace h := bt_app h x1 e9
  refine Ev.istore_n (pc := 7) (lv' := [some (vR 79), some (vI a1), some (vI a2), some (vI x1)]) dX10_canHave_7 rfl (lt9 rfl) rfl rfl ?_
  refine Ev.aload_n (pc := 8) dX10_canHave_8 rfl rfl ?_
  refine Ev.getR (pc := 9) dX10_canHave_9 fl_X10_72 sh_79 rfl ?_
  refine Ev.iload_n (pc := 12) dX10_canHave_12 rfl rfl ?_
  obtain ⟨c2, h⟩ := ckA_elim h
  refine Ev.iald (pc := 13) dX10_canHave_13 sh_99 c2 ?_
  by_cases c3 : (σ 99 x1.toNatClampNeg) = 0
  · replace h := (if_pos c3).symm.trans h
    refine Ev.if_ne_f (pc := 14) dX10_canHave_14 ⟨40, rfl⟩ c3 ?_
    refine Ev.aload_n (pc := 17) dX10_canHave_17 rfl rfl ?_
    refine Ev.getR (pc := 18) dX10_canHave_18 fl_X10_72 sh_79 rfl ?_
    refine Ev.iload_n (pc := 21) dX10_canHave_21 rfl rfl ?_
    refine Ev.aload_n (pc := 22) dX10_canHave_22 rfl rfl ?_
    refine Ev.iload_n (pc := 23) dX10_canHave_23 rfl rfl ?_
    refine Ev.iload_n (pc := 24) dX10_canHave_24 rfl rfl ?_
    refine Ev.iconst (pc := 25) (v := 1) dX10_canHave_25 ki_1 ?_
    obtain ⟨x4, σ5, g6, h⟩ := bd_elim h
    refine Ev.cVi (pc := 26) (k := 79) (av := [vI a1, vI a2, vI 1]) (rest := [vI x1, vR 99]) dX10_canHave_26 ce_X10_findOrder ml_X10_313 rfl sh_79 cl_X10 sh_sc (Nat.le_of_ble_eq_true rfl) (Nat.le_of_ble_eq_true rfl) (r_X10_findOrder g6) ?_
    refine Ev.ldc (pc := 29) dX10_canHave_29 kc_X10_156 ?_
    by_cases c7 : (99999999 : Int32) ≤ x4
    · replace h := (if_pos c7).symm.trans h
      refine Ev.icmp_ge_t (pc := 31) (tgt := 38) dX10_canHave_31 rfl c7 ?_
      refine Ev.iconst (pc := 38) (v := 2) dX10_canHave_38 ki_2 ?_
      exact Ev.weak2 (lj_X10_canHave_39 N _ _ _ _ _ _ h) (lsubS (lsubN (lsubN (lsubS lsubE))))
    · replace h := (if_neg c7).symm.trans h
      refine Ev.icmp_ge_f (pc := 31) dX10_canHave_31 ⟨38, rfl⟩ c7 ?_
      refine Ev.iconst (pc := 34) (v := 1) dX10_canHave_34 ki_1 ?_
      refine Ev.goto (pc := 35) (tgt := 39) dX10_canHave_35 rfl ?_
      exact Ev.weak2 (lj_X10_canHave_39 N _ _ _ _ _ _ h) (lsubS (lsubN (lsubN (lsubS lsubE))))
  · replace h := (if_neg c3).symm.trans h
    refine Ev.if_ne_t (pc := 14) (tgt := 40) dX10_canHave_14 rfl c3 ?_
    exact Ev.weak2 (lj_X10_canHave_40 N _ _ _ _ h) (lsubS (lsubN (lsubN (lsubS lsubE))))
theorem r_X10_canHave {N : Nat} {a1 : Int32} {a2 : Int32} {σ : St} {v : Int32} {w : St} (h : o_X10_canHave N a1 a2 σ = some (v, w)) : Rn md_X10_canHave 4 [vR 79, vI a1, vI a2] SH σ (some (vI v), SH, w) := Rn.of ce_X10_canHave.1 (Nat.le_of_ble_eq_true rfl) (e_X10_canHave N _ _ _ _ _ h)
def j_X10_changesBy_76 (N : Nat) (K_8 : Int32 → Int32 → Int32 → Int32 → Int32 → St → Option (Int32 × St)) (v1 : Int32) (v2 : Int32) (v3 : Int32) (v5 : Int32) (s0 : Int32) (σ : St) : Option (Int32 × St) := bt (v5 + 1) fun x1 => K_8 v1 v2 v3 s0 x1 σ
def j_X10_changesBy_71 (N : Nat) (K_8 : Int32 → Int32 → Int32 → Int32 → Int32 → St → Option (Int32 × St)) (v1 : Int32) (v2 : Int32) (v3 : Int32) (v5 : Int32) (σ : St) : Option (Int32 × St) := j_X10_changesBy_76 N K_8 v1 v2 v3 v5 1 σ
def j_X10_changesBy_75 (N : Nat) (K_8 : Int32 → Int32 → Int32 → Int32 → Int32 → St → Option (Int32 × St)) (v1 : Int32) (v2 : Int32) (v3 : Int32) (v5 : Int32) (σ : St) : Option (Int32 × St) := j_X10_changesBy_76 N K_8 v1 v2 v3 v5 0 σ
def j_X10_changesBy_42 (N : Nat) (K_8 : Int32 → Int32 → Int32 → Int32 → Int32 → St → Option (Int32 × St)) (v1 : Int32) (v2 : Int32) (v3 : Int32) (v4 : Int32) (v5 : Int32) (s0 : Int32) (σ : St) : Option (Int32 × St) := bt (v3 + (p_X10_one s0 σ)) fun x1 => if v4 = 0 then (j_X10_changesBy_75 N K_8 v1 v2 x1 v5 σ) else (if (p_X10_has v2 v5 σ) = 0 then (if s0 = 0 then (j_X10_changesBy_71 N K_8 v1 v2 x1 v5 σ) else (j_X10_changesBy_75 N K_8 v1 v2 x1 v5 σ)) else (j_X10_changesBy_71 N K_8 v1 v2 x1 v5 σ))
def j_X10_changesBy_175 (N : Nat) (v3 : Int32) (v4 : Int32) (σ : St) : Option (Int32 × St) := if v4 = 0 then (some (99999999, σ)) else (some (v3, σ))
def j_X10_changesBy_144 (N : Nat) (K_87 : Int32 → Int32 → Int32 → Int32 → Int32 → St → Option (Int32 × St)) (K_107 : Int32 → Int32 → Int32 → Int32 → Int32 → Int32 → St → Option (Int32 × St)) (v1 : Int32) (v2 : Int32) (v3 : Int32) (v5 : Int32) (v7 : Int32) (s0 : Int32) (s1 : Int32) (σ : St) : Option (Int32 × St) := bt (s0 ||| ((p_X10_one s1 σ) <<< (v7 &&& 31))) fun x1 => bt (v7 + 1) fun x2 => K_107 v1 v2 v3 v5 x1 x2 σ
def j_X10_changesBy_143 (N : Nat) (K_87 : Int32 → Int32 → Int32 → Int32 → Int32 → St → Option (Int32 × St)) (K_107 : Int32 → Int32 → Int32 → Int32 → Int32 → Int32 → St → Option (Int32 × St)) (v1 : Int32) (v2 : Int32) (v3 : Int32) (v5 : Int32) (v7 : Int32) (s0 : Int32) (σ : St) : Option (Int32 × St) := j_X10_changesBy_144 N K_87 K_107 v1 v2 v3 v5 v7 s0 0 σ
def l_X10_changesBy_107 (N : Nat) (K_87 : Int32 → Int32 → Int32 → Int32 → Int32 → St → Option (Int32 × St)) : Nat → Int32 → Int32 → Int32 → Int32 → Int32 → Int32 → St → Option (Int32 × St)
  | 0, _, _, _, _, _, _, _ => none
  | n + 1, v1, v2, v3, v5, v6, v7, σ => if (σ 79 5) ≤ v7 then (bd (o_X10_canHave N v5 v6 σ) fun x2 σ3 => bt (v5 + 1) fun x5 => K_87 v1 v2 v3 x2 x5 σ3) else (if (p_X10_has v2 v7 σ) = 0 then (j_X10_changesBy_143 N K_87 (l_X10_changesBy_107 N K_87 n) v1 v2 v3 v5 v7 v6 σ) else (bd (o_X10_handOf N v1 v7 σ) fun x7 σ8 => if x7 = v5 then (j_X10_changesBy_144 N K_87 (l_X10_changesBy_107 N K_87 n) v1 v2 v3 v5 v7 v6 1 σ8) else (j_X10_changesBy_143 N K_87 (l_X10_changesBy_107 N K_87 n) v1 v2 v3 v5 v7 v6 σ8)))
def l_X10_changesBy_87 (N : Nat) : Nat → Int32 → Int32 → Int32 → Int32 → Int32 → St → Option (Int32 × St)
  | 0, _, _, _, _, _, _ => none
  | n + 1, v1, v2, v3, v4, v5, σ => if (σ 79 4) ≤ v5 then (j_X10_changesBy_175 N v3 v4 σ) else (if v4 = 0 then (j_X10_changesBy_175 N v3 v4 σ) else (l_X10_changesBy_107 N (l_X10_changesBy_87 N n) N v1 v2 v3 v5 0 0 σ))
def l_X10_changesBy_8 (N : Nat) : Nat → Int32 → Int32 → Int32 → Int32 → Int32 → St → Option (Int32 × St)
  | 0, _, _, _, _, _, _ => none
  | n + 1, v1, v2, v3, v4, v5, σ => if (σ 79 5) ≤ v5 then (l_X10_changesBy_87 N N v1 v2 v3 v4 0 σ) else (bd (o_X10_handOf N v1 v5 σ) fun x2 σ3 => ckA (14 + v5) 1360 (if x2 = (σ3 80 (14 + v5).toNatClampNeg) then (j_X10_changesBy_42 N (l_X10_changesBy_8 N n) v1 v2 v3 v4 v5 0 σ3) else (j_X10_changesBy_42 N (l_X10_changesBy_8 N n) v1 v2 v3 v4 v5 1 σ3)))
def o_X10_changesBy (N : Nat) (a1 : Int32) (a2 : Int32) (σ : St) : Option (Int32 × St) := l_X10_changesBy_8 N N a1 a2 0 1 0 σ
theorem lj_X10_changesBy_76 (N : Nat) (K_8 : Int32 → Int32 → Int32 → Int32 → Int32 → St → Option (Int32 × St)) (hK_8 : ∀ (v1 : Int32) (v2 : Int32) (v3 : Int32) (v4 : Int32) (v5 : Int32) (σ : St) (v : Int32) (w : St), K_8 v1 v2 v3 v4 v5 σ = some (v, w) → Ev md_X10_changesBy 5 8 [some (vR 79), some (vI v1), some (vI v2), some (vI v3), some (vI v4), some (vI v5), none, none] [] SH σ (some (vI v), SH, w)) (v1 : Int32) (v2 : Int32) (v3 : Int32) (v5 : Int32) (s0 : Int32) (σ : St) (v : Int32) (w : St) (h : j_X10_changesBy_76 N K_8 v1 v2 v3 v5 s0 σ = some (v, w)) : Ev md_X10_changesBy 5 76 [some (vR 79), some (vI v1), some (vI v2), some (vI v3), none, some (vI v5), none, none] [vI s0] SH σ (some (vI v), SH, w) := by
  unfold j_X10_changesBy_76 at h
  refine Ev.istore (pc := 76) (lv' := [some (vR 79), some (vI v1), some (vI v2), some (vI v3), some (vI s0), some (vI v5), none, none]) dX10_changesBy_76 (lt9 rfl) rfl rfl ?_
  obtain ⟨x1, e_x1, h⟩ := bt_elim h
  refine Ev.iinc (pc := 78) (v := x1) (lv' := [some (vR 79), some (vI v1), some (vI v2), some (vI v3), some (vI s0), some (vI x1), none, none]) dX10_changesBy_78 rfl (by rw [ki_1, e_x1]) (lt9 rfl) rfl rfl ?_
  refine Ev.goto (pc := 81) (tgt := 8) dX10_changesBy_81 rfl ?_
  exact Ev.weak2 (hK_8 _ _ _ _ _ _ _ _ h) (lsubS (lsubS (lsubS (lsubS (lsubS (lsubS (lsubN (lsubN lsubE))))))))
theorem lj_X10_changesBy_71 (N : Nat) (K_8 : Int32 → Int32 → Int32 → Int32 → Int32 → St → Option (Int32 × St)) (hK_8 : ∀ (v1 : Int32) (v2 : Int32) (v3 : Int32) (v4 : Int32) (v5 : Int32) (σ : St) (v : Int32) (w : St), K_8 v1 v2 v3 v4 v5 σ = some (v, w) → Ev md_X10_changesBy 5 8 [some (vR 79), some (vI v1), some (vI v2), some (vI v3), some (vI v4), some (vI v5), none, none] [] SH σ (some (vI v), SH, w)) (v1 : Int32) (v2 : Int32) (v3 : Int32) (v5 : Int32) (σ : St) (v : Int32) (w : St) (h : j_X10_changesBy_71 N K_8 v1 v2 v3 v5 σ = some (v, w)) : Ev md_X10_changesBy 5 71 [some (vR 79), some (vI v1), some (vI v2), some (vI v3), none, some (vI v5), none, none] [] SH σ (some (vI v), SH, w) := by
  unfold j_X10_changesBy_71 at h
  refine Ev.iconst (pc := 71) (v := 1) dX10_changesBy_71 ki_1 ?_
  refine Ev.goto (pc := 72) (tgt := 76) dX10_changesBy_72 rfl ?_
  exact Ev.weak2 (lj_X10_changesBy_76 N K_8 hK_8 _ _ _ _ _ _ _ _ h) (lsubS (lsubS (lsubS (lsubS (lsubN (lsubS (lsubN (lsubN lsubE))))))))
theorem lj_X10_changesBy_75 (N : Nat) (K_8 : Int32 → Int32 → Int32 → Int32 → Int32 → St → Option (Int32 × St)) (hK_8 : ∀ (v1 : Int32) (v2 : Int32) (v3 : Int32) (v4 : Int32) (v5 : Int32) (σ : St) (v : Int32) (w : St), K_8 v1 v2 v3 v4 v5 σ = some (v, w) → Ev md_X10_changesBy 5 8 [some (vR 79), some (vI v1), some (vI v2), some (vI v3), some (vI v4), some (vI v5), none, none] [] SH σ (some (vI v), SH, w)) (v1 : Int32) (v2 : Int32) (v3 : Int32) (v5 : Int32) (σ : St) (v : Int32) (w : St) (h : j_X10_changesBy_75 N K_8 v1 v2 v3 v5 σ = some (v, w)) : Ev md_X10_changesBy 5 75 [some (vR 79), some (vI v1), some (vI v2), some (vI v3), none, some (vI v5), none, none] [] SH σ (some (vI v), SH, w) := by
  unfold j_X10_changesBy_75 at h
  refine Ev.iconst (pc := 75) (v := 0) dX10_changesBy_75 ki_0 ?_
  exact Ev.weak2 (lj_X10_changesBy_76 N K_8 hK_8 _ _ _ _ _ _ _ _ h) (lsubS (lsubS (lsubS (lsubS (lsubN (lsubS (lsubN (lsubN lsubE))))))))
theorem lj_X10_changesBy_42 (N : Nat) (K_8 : Int32 → Int32 → Int32 → Int32 → Int32 → St → Option (Int32 × St)) (hK_8 : ∀ (v1 : Int32) (v2 : Int32) (v3 : Int32) (v4 : Int32) (v5 : Int32) (σ : St) (v : Int32) (w : St), K_8 v1 v2 v3 v4 v5 σ = some (v, w) → Ev md_X10_changesBy 5 8 [some (vR 79), some (vI v1), some (vI v2), some (vI v3), some (vI v4), some (vI v5), none, none] [] SH σ (some (vI v), SH, w)) (v1 : Int32) (v2 : Int32) (v3 : Int32) (v4 : Int32) (v5 : Int32) (s0 : Int32) (σ : St) (v : Int32) (w : St) (h : j_X10_changesBy_42 N K_8 v1 v2 v3 v4 v5 s0 σ = some (v, w)) : Ev md_X10_changesBy 5 42 [some (vR 79), some (vI v1), some (vI v2), some (vI v3), some (vI v4), some (vI v5), none, none] [vI s0] SH σ (some (vI v), SH, w) := by
  unfold j_X10_changesBy_42 at h
  refine Ev.istore (pc := 42) (lv' := [some (vR 79), some (vI v1), some (vI v2), some (vI v3), some (vI v4), some (vI v5), some (vI s0), none]) dX10_changesBy_42 (lt9 rfl) rfl rfl ?_
  refine Ev.iload_n (pc := 44) dX10_changesBy_44 rfl rfl ?_
  refine Ev.iload (pc := 45) dX10_changesBy_45 rfl ?_
  refine Ev.cTi (pc := 47) (av := [vI s0]) (rest := [vI v3]) dX10_changesBy_47 ce_X10_one ml_X10_191 rfl sh_sc (Nat.le_of_ble_eq_true rfl) (Nat.le_of_ble_eq_true rfl) (r_X10_one _ _) ?_
  refine Ev.iadd (pc := 50) dX10_changesBy_50 ?_
  refine Ev.nmI (fun x1 e9 => ?_)
  replace h := bt_app h x1 e9
  refine Ev.istore_n (pc := 51) (lv' := [some (vR 79), some (vI v1), some (vI v2), some (vI x1), some (vI v4), some (vI v5), some (vI s0), none]) dX10_changesBy_51 rfl (lt9 rfl) rfl rfl ?_
  refine Ev.iload (pc := 52) dX10_changesBy_52 rfl ?_
  by_cases c2 : v4 = 0
  · replace h := (if_pos c2).symm.trans h
    refine Ev.if_eq_t (pc := 54) (tgt := 75) dX10_changesBy_54 rfl c2 ?_
    exact Ev.weak2 (lj_X10_changesBy_75 N K_8 hK_8 _ _ _ _ _ _ _ h) (lsubS (lsubS (lsubS (lsubS (lsubN (lsubS (lsubN (lsubN lsubE))))))))
  · replace h := (if_neg c2).symm.trans h
    refine Ev.if_eq_f (pc := 54) dX10_changesBy_54 ⟨75, rfl⟩ c2 ?_
    refine Ev.iload_n (pc := 57) dX10_changesBy_57 rfl rfl ?_
    refine Ev.iload (pc := 58) dX10_changesBy_58 rfl ?_
    refine Ev.cTi (pc := 60) (av := [vI v2, vI v5]) (rest := []) dX10_changesBy_60 ce_X10_has ml_X10_232 rfl sh_sc (Nat.le_of_ble_eq_true rfl) (Nat.le_of_ble_eq_true rfl) (r_X10_has _ _ _) ?_
    by_cases c3 : (p_X10_has v2 v5 σ) = 0
    · replace h := (if_pos c3).symm.trans h
      refine Ev.if_ne_f (pc := 63) dX10_changesBy_63 ⟨71, rfl⟩ c3 ?_
      refine Ev.iload (pc := 66) dX10_changesBy_66 rfl ?_
      by_cases c4 : s0 = 0
      · replace h := (if_pos c4).symm.trans h
        refine Ev.if_ne_f (pc := 68) dX10_changesBy_68 ⟨75, rfl⟩ c4 ?_
        exact Ev.weak2 (lj_X10_changesBy_71 N K_8 hK_8 _ _ _ _ _ _ _ h) (lsubS (lsubS (lsubS (lsubS (lsubN (lsubS (lsubN (lsubN lsubE))))))))
      · replace h := (if_neg c4).symm.trans h
        refine Ev.if_ne_t (pc := 68) (tgt := 75) dX10_changesBy_68 rfl c4 ?_
        exact Ev.weak2 (lj_X10_changesBy_75 N K_8 hK_8 _ _ _ _ _ _ _ h) (lsubS (lsubS (lsubS (lsubS (lsubN (lsubS (lsubN (lsubN lsubE))))))))
    · replace h := (if_neg c3).symm.trans h
      refine Ev.if_ne_t (pc := 63) (tgt := 71) dX10_changesBy_63 rfl c3 ?_
      exact Ev.weak2 (lj_X10_changesBy_71 N K_8 hK_8 _ _ _ _ _ _ _ h) (lsubS (lsubS (lsubS (lsubS (lsubN (lsubS (lsubN (lsubN lsubE))))))))
theorem lj_X10_changesBy_175 (N : Nat) (v3 : Int32) (v4 : Int32) (σ : St) (v : Int32) (w : St) (h : j_X10_changesBy_175 N v3 v4 σ = some (v, w)) : Ev md_X10_changesBy 5 175 [none, none, none, some (vI v3), some (vI v4), none, none, none] [] SH σ (some (vI v), SH, w) := by
  unfold j_X10_changesBy_175 at h
  refine Ev.iload (pc := 175) dX10_changesBy_175 rfl ?_
  by_cases c1 : v4 = 0
  · replace h := (if_pos c1).symm.trans h
    refine Ev.if_eq_t (pc := 177) (tgt := 184) dX10_changesBy_177 rfl c1 ?_
    refine Ev.ldc (pc := 184) dX10_changesBy_184 kc_X10_156 ?_
    obtain ⟨h1, h2⟩ := oeq h
    subst h1
    subst h2
    exact Ev.ret_i (pc := 186) dX10_changesBy_186 rfl rfl
  · replace h := (if_neg c1).symm.trans h
    refine Ev.if_eq_f (pc := 177) dX10_changesBy_177 ⟨184, rfl⟩ c1 ?_
    refine Ev.iload_n (pc := 180) dX10_changesBy_180 rfl rfl ?_
    refine Ev.goto (pc := 181) (tgt := 186) dX10_changesBy_181 rfl ?_
    obtain ⟨h1, h2⟩ := oeq h
    subst h1
    subst h2
    exact Ev.ret_i (pc := 186) dX10_changesBy_186 rfl rfl
theorem lj_X10_changesBy_144 (N : Nat) (K_87 : Int32 → Int32 → Int32 → Int32 → Int32 → St → Option (Int32 × St)) (K_107 : Int32 → Int32 → Int32 → Int32 → Int32 → Int32 → St → Option (Int32 × St)) (hK_87 : ∀ (v1 : Int32) (v2 : Int32) (v3 : Int32) (v4 : Int32) (v5 : Int32) (σ : St) (v : Int32) (w : St), K_87 v1 v2 v3 v4 v5 σ = some (v, w) → Ev md_X10_changesBy 5 87 [some (vR 79), some (vI v1), some (vI v2), some (vI v3), some (vI v4), some (vI v5), none, none] [] SH σ (some (vI v), SH, w)) (hK_107 : ∀ (v1 : Int32) (v2 : Int32) (v3 : Int32) (v5 : Int32) (v6 : Int32) (v7 : Int32) (σ : St) (v : Int32) (w : St), K_107 v1 v2 v3 v5 v6 v7 σ = some (v, w) → Ev md_X10_changesBy 5 107 [some (vR 79), some (vI v1), some (vI v2), some (vI v3), none, some (vI v5), some (vI v6), some (vI v7)] [] SH σ (some (vI v), SH, w)) (v1 : Int32) (v2 : Int32) (v3 : Int32) (v5 : Int32) (v7 : Int32) (s0 : Int32) (s1 : Int32) (σ : St) (v : Int32) (w : St) (h : j_X10_changesBy_144 N K_87 K_107 v1 v2 v3 v5 v7 s0 s1 σ = some (v, w)) : Ev md_X10_changesBy 5 144 [some (vR 79), some (vI v1), some (vI v2), some (vI v3), none, some (vI v5), none, some (vI v7)] [vI s1, vI s0] SH σ (some (vI v), SH, w) := by
  unfold j_X10_changesBy_144 at h
  refine Ev.cTi (pc := 144) (av := [vI s1]) (rest := [vI s0]) dX10_changesBy_144 ce_X10_one ml_X10_191 rfl sh_sc (Nat.le_of_ble_eq_true rfl) (Nat.le_of_ble_eq_true rfl) (r_X10_one _ _) ?_
  refine Ev.iload (pc := 147) dX10_changesBy_147 rfl ?_
  refine Ev.ishl (pc := 149) dX10_changesBy_149 ?_
  refine Ev.ior (pc := 150) dX10_changesBy_150 ?_
  refine Ev.nmI (fun x1 e9 => ?_)
  replace h := bt_app h x1 e9
  refine Ev.istore (pc := 151) (lv' := [some (vR 79), some (vI v1), some (vI v2), some (vI v3), none, some (vI v5), some (vI x1), some (vI v7)]) dX10_changesBy_151 (lt9 rfl) rfl rfl ?_
  obtain ⟨x2, e_x2, h⟩ := bt_elim h
  refine Ev.iinc (pc := 153) (v := x2) (lv' := [some (vR 79), some (vI v1), some (vI v2), some (vI v3), none, some (vI v5), some (vI x1), some (vI x2)]) dX10_changesBy_153 rfl (by rw [ki_1, e_x2]) (lt9 rfl) rfl rfl ?_
  refine Ev.goto (pc := 156) (tgt := 107) dX10_changesBy_156 rfl ?_
  exact Ev.weak2 (hK_107 _ _ _ _ _ _ _ _ _ h) (lsubS (lsubS (lsubS (lsubS (lsubN (lsubS (lsubS (lsubS lsubE))))))))
theorem lj_X10_changesBy_143 (N : Nat) (K_87 : Int32 → Int32 → Int32 → Int32 → Int32 → St → Option (Int32 × St)) (K_107 : Int32 → Int32 → Int32 → Int32 → Int32 → Int32 → St → Option (Int32 × St)) (hK_87 : ∀ (v1 : Int32) (v2 : Int32) (v3 : Int32) (v4 : Int32) (v5 : Int32) (σ : St) (v : Int32) (w : St), K_87 v1 v2 v3 v4 v5 σ = some (v, w) → Ev md_X10_changesBy 5 87 [some (vR 79), some (vI v1), some (vI v2), some (vI v3), some (vI v4), some (vI v5), none, none] [] SH σ (some (vI v), SH, w)) (hK_107 : ∀ (v1 : Int32) (v2 : Int32) (v3 : Int32) (v5 : Int32) (v6 : Int32) (v7 : Int32) (σ : St) (v : Int32) (w : St), K_107 v1 v2 v3 v5 v6 v7 σ = some (v, w) → Ev md_X10_changesBy 5 107 [some (vR 79), some (vI v1), some (vI v2), some (vI v3), none, some (vI v5), some (vI v6), some (vI v7)] [] SH σ (some (vI v), SH, w)) (v1 : Int32) (v2 : Int32) (v3 : Int32) (v5 : Int32) (v7 : Int32) (s0 : Int32) (σ : St) (v : Int32) (w : St) (h : j_X10_changesBy_143 N K_87 K_107 v1 v2 v3 v5 v7 s0 σ = some (v, w)) : Ev md_X10_changesBy 5 143 [some (vR 79), some (vI v1), some (vI v2), some (vI v3), none, some (vI v5), none, some (vI v7)] [vI s0] SH σ (some (vI v), SH, w) := by
  unfold j_X10_changesBy_143 at h
  refine Ev.iconst (pc := 143) (v := 0) dX10_changesBy_143 ki_0 ?_
  exact Ev.weak2 (lj_X10_changesBy_144 N K_87 K_107 hK_87 hK_107 _ _ _ _ _ _ _ _ _ _ h) (lsubS (lsubS (lsubS (lsubS (lsubN (lsubS (lsubN (lsubS lsubE))))))))
theorem ll_X10_changesBy_107 (N : Nat) (K_87 : Int32 → Int32 → Int32 → Int32 → Int32 → St → Option (Int32 × St)) (hK_87 : ∀ (v1 : Int32) (v2 : Int32) (v3 : Int32) (v4 : Int32) (v5 : Int32) (σ : St) (v : Int32) (w : St), K_87 v1 v2 v3 v4 v5 σ = some (v, w) → Ev md_X10_changesBy 5 87 [some (vR 79), some (vI v1), some (vI v2), some (vI v3), some (vI v4), some (vI v5), none, none] [] SH σ (some (vI v), SH, w)) : ∀ (n : Nat) (v1 : Int32) (v2 : Int32) (v3 : Int32) (v5 : Int32) (v6 : Int32) (v7 : Int32) (σ : St) (v : Int32) (w : St), l_X10_changesBy_107 N K_87 n v1 v2 v3 v5 v6 v7 σ = some (v, w) → Ev md_X10_changesBy 5 107 [some (vR 79), some (vI v1), some (vI v2), some (vI v3), none, some (vI v5), some (vI v6), some (vI v7)] [] SH σ (some (vI v), SH, w) := by
  intro n
  induction n with
  | zero =>
    intro v1 v2 v3 v5 v6 v7 σ v w h
    rw [l_X10_changesBy_107] at h
    cases h
  | succ n ih =>
    intro v1 v2 v3 v5 v6 v7 σ v w h
    rw [l_X10_changesBy_107] at h
    refine Ev.iload (pc := 107) dX10_changesBy_107 rfl ?_
    refine Ev.aload_n (pc := 109) dX10_changesBy_109 rfl rfl ?_
    refine Ev.getI (pc := 110) dX10_changesBy_110 fl_X10_175 sh_79 rfl ?_
    by_cases c1 : (σ 79 5) ≤ v7
    · replace h := (if_pos c1).symm.trans h
      refine Ev.icmp_ge_t (pc := 113) (tgt := 159) dX10_changesBy_113 rfl c1 ?_
      refine Ev.aload_n (pc := 159) dX10_changesBy_159 rfl rfl ?_
      refine Ev.iload (pc := 160) dX10_changesBy_160 rfl ?_
      refine Ev.iload (pc := 162) dX10_changesBy_162 rfl ?_
      obtain ⟨x2, σ3, g4, h⟩ := bd_elim h
      refine Ev.cVi (pc := 164) (k := 79) (av := [vI v5, vI v6]) (rest := []) dX10_changesBy_164 ce_X10_canHave ml_X10_325 rfl sh_79 cl_X10 sh_sc (Nat.le_of_ble_eq_true rfl) (Nat.le_of_ble_eq_true rfl) (r_X10_canHave g4) ?_
      refine Ev.istore (pc := 167) (lv' := [some (vR 79), some (vI v1), some (vI v2), some (vI v3), some (vI x2), some (vI v5), some (vI v6), some (vI v7)]) dX10_changesBy_167 (lt9 rfl) rfl rfl ?_
      obtain ⟨x5, e_x5, h⟩ := bt_elim h
      refine Ev.iinc (pc := 169) (v := x5) (lv' := [some (vR 79), some (vI v1), some (vI v2), some (vI v3), some (vI x2), some (vI x5), some (vI v6), some (vI v7)]) dX10_changesBy_169 rfl (by rw [ki_1, e_x5]) (lt9 rfl) rfl rfl ?_
      refine Ev.goto (pc := 172) (tgt := 87) dX10_changesBy_172 rfl ?_
      exact Ev.weak2 (hK_87 _ _ _ _ _ _ _ _ h) (lsubS (lsubS (lsubS (lsubS (lsubS (lsubS (lsubN (lsubN lsubE))))))))
    · replace h := (if_neg c1).symm.trans h
      refine Ev.icmp_ge_f (pc := 113) dX10_changesBy_113 ⟨159, rfl⟩ c1 ?_
      refine Ev.iload (pc := 116) dX10_changesBy_116 rfl ?_
      refine Ev.iload_n (pc := 118) dX10_changesBy_118 rfl rfl ?_
      refine Ev.iload (pc := 119) dX10_changesBy_119 rfl ?_
      refine Ev.cTi (pc := 121) (av := [vI v2, vI v7]) (rest := [vI v6]) dX10_changesBy_121 ce_X10_has ml_X10_232 rfl sh_sc (Nat.le_of_ble_eq_true rfl) (Nat.le_of_ble_eq_true rfl) (r_X10_has _ _ _) ?_
      by_cases c6 : (p_X10_has v2 v7 σ) = 0
      · replace h := (if_pos c6).symm.trans h
        refine Ev.if_eq_t (pc := 124) (tgt := 143) dX10_changesBy_124 rfl c6 ?_
        exact Ev.weak2 (lj_X10_changesBy_143 N K_87 (l_X10_changesBy_107 N K_87 n) hK_87 ih _ _ _ _ _ _ _ _ _ h) (lsubS (lsubS (lsubS (lsubS (lsubN (lsubS (lsubN (lsubS lsubE))))))))
      · replace h := (if_neg c6).symm.trans h
        refine Ev.if_eq_f (pc := 124) dX10_changesBy_124 ⟨143, rfl⟩ c6 ?_
        refine Ev.aload_n (pc := 127) dX10_changesBy_127 rfl rfl ?_
        refine Ev.iload_n (pc := 128) dX10_changesBy_128 rfl rfl ?_
        refine Ev.iload (pc := 129) dX10_changesBy_129 rfl ?_
        obtain ⟨x7, σ8, g9, h⟩ := bd_elim h
        refine Ev.cVi (pc := 131) (k := 79) (av := [vI v1, vI v7]) (rest := [vI v6]) dX10_changesBy_131 ce_X10_handOf ml_X10_322 rfl sh_79 cl_X10 sh_sc (Nat.le_of_ble_eq_true rfl) (Nat.le_of_ble_eq_true rfl) (r_X10_handOf g9) ?_
        refine Ev.iload (pc := 134) dX10_changesBy_134 rfl ?_
        by_cases c10 : x7 = v5
        · replace h := (if_pos c10).symm.trans h
          refine Ev.icmp_ne_f (pc := 136) dX10_changesBy_136 ⟨143, rfl⟩ c10 ?_
          refine Ev.iconst (pc := 139) (v := 1) dX10_changesBy_139 ki_1 ?_
          refine Ev.goto (pc := 140) (tgt := 144) dX10_changesBy_140 rfl ?_
          exact Ev.weak2 (lj_X10_changesBy_144 N K_87 (l_X10_changesBy_107 N K_87 n) hK_87 ih _ _ _ _ _ _ _ _ _ _ h) (lsubS (lsubS (lsubS (lsubS (lsubN (lsubS (lsubN (lsubS lsubE))))))))
        · replace h := (if_neg c10).symm.trans h
          refine Ev.icmp_ne_t (pc := 136) (tgt := 143) dX10_changesBy_136 rfl c10 ?_
          exact Ev.weak2 (lj_X10_changesBy_143 N K_87 (l_X10_changesBy_107 N K_87 n) hK_87 ih _ _ _ _ _ _ _ _ _ h) (lsubS (lsubS (lsubS (lsubS (lsubN (lsubS (lsubN (lsubS lsubE))))))))
theorem ll_X10_changesBy_87 (N : Nat) : ∀ (n : Nat) (v1 : Int32) (v2 : Int32) (v3 : Int32) (v4 : Int32) (v5 : Int32) (σ : St) (v : Int32) (w : St), l_X10_changesBy_87 N n v1 v2 v3 v4 v5 σ = some (v, w) → Ev md_X10_changesBy 5 87 [some (vR 79), some (vI v1), some (vI v2), some (vI v3), some (vI v4), some (vI v5), none, none] [] SH σ (some (vI v), SH, w) := by
  intro n
  induction n with
  | zero =>
    intro v1 v2 v3 v4 v5 σ v w h
    rw [l_X10_changesBy_87] at h
    cases h
  | succ n ih =>
    intro v1 v2 v3 v4 v5 σ v w h
    rw [l_X10_changesBy_87] at h
    refine Ev.iload (pc := 87) dX10_changesBy_87 rfl ?_
    refine Ev.aload_n (pc := 89) dX10_changesBy_89 rfl rfl ?_
    refine Ev.getI (pc := 90) dX10_changesBy_90 fl_X10_172 sh_79 rfl ?_
    by_cases c1 : (σ 79 4) ≤ v5
    · replace h := (if_pos c1).symm.trans h
      refine Ev.icmp_ge_t (pc := 93) (tgt := 175) dX10_changesBy_93 rfl c1 ?_
      exact Ev.weak2 (lj_X10_changesBy_175 N _ _ _ _ _ h) (lsubN (lsubN (lsubN (lsubS (lsubS (lsubN (lsubN (lsubN lsubE))))))))
    · replace h := (if_neg c1).symm.trans h
      refine Ev.icmp_ge_f (pc := 93) dX10_changesBy_93 ⟨175, rfl⟩ c1 ?_
      refine Ev.iload (pc := 96) dX10_changesBy_96 rfl ?_
      by_cases c2 : v4 = 0
      · replace h := (if_pos c2).symm.trans h
        refine Ev.if_eq_t (pc := 98) (tgt := 175) dX10_changesBy_98 rfl c2 ?_
        exact Ev.weak2 (lj_X10_changesBy_175 N _ _ _ _ _ h) (lsubN (lsubN (lsubN (lsubS (lsubS (lsubN (lsubN (lsubN lsubE))))))))
      · replace h := (if_neg c2).symm.trans h
        refine Ev.if_eq_f (pc := 98) dX10_changesBy_98 ⟨175, rfl⟩ c2 ?_
        refine Ev.iconst (pc := 101) (v := 0) dX10_changesBy_101 ki_0 ?_
        refine Ev.istore (pc := 102) (lv' := [some (vR 79), some (vI v1), some (vI v2), some (vI v3), some (vI v4), some (vI v5), some (vI 0), none]) dX10_changesBy_102 (lt9 rfl) rfl rfl ?_
        refine Ev.iconst (pc := 104) (v := 0) dX10_changesBy_104 ki_0 ?_
        refine Ev.istore (pc := 105) (lv' := [some (vR 79), some (vI v1), some (vI v2), some (vI v3), some (vI v4), some (vI v5), some (vI 0), some (vI 0)]) dX10_changesBy_105 (lt9 rfl) rfl rfl ?_
        exact Ev.weak2 (ll_X10_changesBy_107 N (l_X10_changesBy_87 N n) ih N _ _ _ _ _ _ _ _ _ h) (lsubS (lsubS (lsubS (lsubS (lsubN (lsubS (lsubS (lsubS lsubE))))))))
theorem ll_X10_changesBy_8 (N : Nat) : ∀ (n : Nat) (v1 : Int32) (v2 : Int32) (v3 : Int32) (v4 : Int32) (v5 : Int32) (σ : St) (v : Int32) (w : St), l_X10_changesBy_8 N n v1 v2 v3 v4 v5 σ = some (v, w) → Ev md_X10_changesBy 5 8 [some (vR 79), some (vI v1), some (vI v2), some (vI v3), some (vI v4), some (vI v5), none, none] [] SH σ (some (vI v), SH, w) := by
  intro n
  induction n with
  | zero =>
    intro v1 v2 v3 v4 v5 σ v w h
    rw [l_X10_changesBy_8] at h
    cases h
  | succ n ih =>
    intro v1 v2 v3 v4 v5 σ v w h
    rw [l_X10_changesBy_8] at h
    refine Ev.iload (pc := 8) dX10_changesBy_8 rfl ?_
    refine Ev.aload_n (pc := 10) dX10_changesBy_10 rfl rfl ?_
    refine Ev.getI (pc := 11) dX10_changesBy_11 fl_X10_175 sh_79 rfl ?_
    by_cases c1 : (σ 79 5) ≤ v5
    · replace h := (if_pos c1).symm.trans h
      refine Ev.icmp_ge_t (pc := 14) (tgt := 84) dX10_changesBy_14 rfl c1 ?_
      refine Ev.iconst (pc := 84) (v := 0) dX10_changesBy_84 ki_0 ?_
      refine Ev.istore (pc := 85) (lv' := [some (vR 79), some (vI v1), some (vI v2), some (vI v3), some (vI v4), some (vI 0), none, none]) dX10_changesBy_85 (lt9 rfl) rfl rfl ?_
      exact Ev.weak2 (ll_X10_changesBy_87 N N _ _ _ _ _ _ _ _ h) (lsubS (lsubS (lsubS (lsubS (lsubS (lsubS (lsubN (lsubN lsubE))))))))
    · replace h := (if_neg c1).symm.trans h
      refine Ev.icmp_ge_f (pc := 14) dX10_changesBy_14 ⟨84, rfl⟩ c1 ?_
      refine Ev.aload_n (pc := 17) dX10_changesBy_17 rfl rfl ?_
      refine Ev.iload_n (pc := 18) dX10_changesBy_18 rfl rfl ?_
      refine Ev.iload (pc := 19) dX10_changesBy_19 rfl ?_
      obtain ⟨x2, σ3, g4, h⟩ := bd_elim h
      refine Ev.cVi (pc := 21) (k := 79) (av := [vI v1, vI v5]) (rest := []) dX10_changesBy_21 ce_X10_handOf ml_X10_322 rfl sh_79 cl_X10 sh_sc (Nat.le_of_ble_eq_true rfl) (Nat.le_of_ble_eq_true rfl) (r_X10_handOf g4) ?_
      refine Ev.aload_n (pc := 24) dX10_changesBy_24 rfl rfl ?_
      refine Ev.getR (pc := 25) dX10_changesBy_25 fl_X10_7 sh_79 rfl ?_
      refine Ev.bipush (pc := 28) (v := 14) dX10_changesBy_28 kb_14 ?_
      refine Ev.iload (pc := 30) dX10_changesBy_30 rfl ?_
      refine Ev.iadd (pc := 32) dX10_changesBy_32 ?_
      obtain ⟨c5, h⟩ := ckA_elim h
      refine Ev.iald (pc := 33) dX10_changesBy_33 sh_80 c5 ?_
      by_cases c6 : x2 = (σ3 80 (14 + v5).toNatClampNeg)
      · replace h := (if_pos c6).symm.trans h
        refine Ev.icmp_eq_t (pc := 34) (tgt := 41) dX10_changesBy_34 rfl c6 ?_
        refine Ev.iconst (pc := 41) (v := 0) dX10_changesBy_41 ki_0 ?_
        exact Ev.weak2 (lj_X10_changesBy_42 N (l_X10_changesBy_8 N n) ih _ _ _ _ _ _ _ _ _ h) (lsubS (lsubS (lsubS (lsubS (lsubS (lsubS (lsubN (lsubN lsubE))))))))
      · replace h := (if_neg c6).symm.trans h
        refine Ev.icmp_eq_f (pc := 34) dX10_changesBy_34 ⟨41, rfl⟩ c6 ?_
        refine Ev.iconst (pc := 37) (v := 1) dX10_changesBy_37 ki_1 ?_
        refine Ev.goto (pc := 38) (tgt := 42) dX10_changesBy_38 rfl ?_
        exact Ev.weak2 (lj_X10_changesBy_42 N (l_X10_changesBy_8 N n) ih _ _ _ _ _ _ _ _ _ h) (lsubS (lsubS (lsubS (lsubS (lsubS (lsubS (lsubN (lsubN lsubE))))))))
theorem e_X10_changesBy (N : Nat) (a1 : Int32) (a2 : Int32) (σ : St) (v : Int32) (w : St) (h : o_X10_changesBy N a1 a2 σ = some (v, w)) : Ev md_X10_changesBy 5 0 (lvE [vR 79, vI a1, vI a2] 8) [] SH σ (some (vI v), SH, w) := by
  show Ev md_X10_changesBy 5 0 [some (vR 79), some (vI a1), some (vI a2), none, none, none, none, none] [] SH σ (some (vI v), SH, w)
  unfold o_X10_changesBy at h
  refine Ev.iconst (pc := 0) (v := 0) dX10_changesBy_0 ki_0 ?_
  refine Ev.istore_n (pc := 1) (lv' := [some (vR 79), some (vI a1), some (vI a2), some (vI 0), none, none, none, none]) dX10_changesBy_1 rfl (lt9 rfl) rfl rfl ?_
  refine Ev.iconst (pc := 2) (v := 1) dX10_changesBy_2 ki_1 ?_
  refine Ev.istore (pc := 3) (lv' := [some (vR 79), some (vI a1), some (vI a2), some (vI 0), some (vI 1), none, none, none]) dX10_changesBy_3 (lt9 rfl) rfl rfl ?_
  refine Ev.iconst (pc := 5) (v := 0) dX10_changesBy_5 ki_0 ?_
  refine Ev.istore (pc := 6) (lv' := [some (vR 79), some (vI a1), some (vI a2), some (vI 0), some (vI 1), some (vI 0), none, none]) dX10_changesBy_6 (lt9 rfl) rfl rfl ?_
  exact Ev.weak2 (ll_X10_changesBy_8 N N _ _ _ _ _ _ _ _ h) (lsubS (lsubS (lsubS (lsubS (lsubS (lsubS (lsubN (lsubN lsubE))))))))
theorem r_X10_changesBy {N : Nat} {a1 : Int32} {a2 : Int32} {σ : St} {v : Int32} {w : St} (h : o_X10_changesBy N a1 a2 σ = some (v, w)) : Rn md_X10_changesBy 5 [vR 79, vI a1, vI a2] SH σ (some (vI v), SH, w) := Rn.of ce_X10_changesBy.1 (Nat.le_of_ble_eq_true rfl) (e_X10_changesBy N _ _ _ _ _ h)
def j_X10_hands_136 (N : Nat) (K_106 : Int32 → Int32 → Int32 → Int32 → Int32 → Int32 → St → Option (Int32 × St)) (v1 : Int32) (v2 : Int32) (v3 : Int32) (v4 : Int32) (v5 : Int32) (v6 : Int32) (σ : St) : Option (Int32 × St) := bt (v6 + 1) fun x1 => K_106 v1 v2 v3 v4 v5 x1 σ
def l_X10_hands_106 (N : Nat) : Nat → Int32 → Int32 → Int32 → Int32 → Int32 → Int32 → St → Option (Int32 × St)
  | 0, _, _, _, _, _, _, _ => none
  | n + 1, v1, v2, v3, v4, v5, v6, σ => if v2 ≤ v6 then (if (0 : Int32) ≤ v4 then (if v1 = (-1) then (some (v5, σ)) else (bd (o_X10_handOf N v4 v1 σ) fun x4 σ5 => some (x4, σ5))) else (some ((-1), σ))) else (bd (o_X10_changesBy N v6 v3 σ) fun x7 σ8 => if v5 ≤ x7 then (j_X10_hands_136 N (l_X10_hands_106 N n) v1 v2 v3 v4 v5 v6 σ8) else (j_X10_hands_136 N (l_X10_hands_106 N n) v1 v2 v3 v6 x7 v6 σ8))
def l_X10_hands_70 (N : Nat) : Nat → Int32 → Int32 → Int32 → St → Option (Int32 × St)
  | 0, _, _, _, _ => none
  | n + 1, v1, v2, v3, σ => if (384 : Int32) ≤ v3 then (bd (o_X10_inWay N 0 σ) fun x2 σ3 => l_X10_hands_106 N N v1 v2 x2 (-1) 99999999 0 σ3) else (ckA v3 384 (bt (st σ 99 v3.toNatClampNeg 0) fun σ6 => bt (v3 + 1) fun x7 => l_X10_hands_70 N n v1 v2 x7 σ6))
def l_X10_hands_47 (N : Nat) : Nat → Int32 → Int32 → Int32 → St → Option (Int32 × St)
  | 0, _, _, _, _ => none
  | n + 1, v1, v2, v3, σ => if (σ 79 5) ≤ v3 then (l_X10_hands_70 N N v1 v2 0 σ) else (bt (v2 * (σ 79 4)) fun x2 => bt (v3 + 1) fun x3 => l_X10_hands_47 N n v1 x2 x3 σ)
def l_X10_hands_20 (N : Nat) : Nat → Int32 → Int32 → Int32 → St → Option (Int32 × St)
  | 0, _, _, _, _ => none
  | n + 1, v1, v2, v3, σ => if (σ 79 4) ≤ v3 then (l_X10_hands_47 N N v1 v2 0 σ) else (bd (o_X10_isOnWay N v3 σ) fun x2 σ3 => if x2 = 0 then (bt (v3 + 1) fun x6 => l_X10_hands_20 N n v1 v2 x6 σ3) else (some ((-1000000003), σ3)))
def j_X10_hands_16 (N : Nat) (v1 : Int32) (σ : St) : Option (Int32 × St) := l_X10_hands_20 N N v1 1 0 σ
def o_X10_hands (N : Nat) (a1 : Int32) (σ : St) : Option (Int32 × St) := if a1 = (-1) then (j_X10_hands_16 N a1 σ) else (bd (o_X10_isPromise N a1 σ) fun x2 σ3 => if x2 = 0 then (some ((-1000000001), σ3)) else (j_X10_hands_16 N a1 σ3))
theorem lj_X10_hands_136 (N : Nat) (K_106 : Int32 → Int32 → Int32 → Int32 → Int32 → Int32 → St → Option (Int32 × St)) (hK_106 : ∀ (v1 : Int32) (v2 : Int32) (v3 : Int32) (v4 : Int32) (v5 : Int32) (v6 : Int32) (σ : St) (v : Int32) (w : St), K_106 v1 v2 v3 v4 v5 v6 σ = some (v, w) → Ev md_X10_hands 6 106 [some (vR 79), some (vI v1), some (vI v2), some (vI v3), some (vI v4), some (vI v5), some (vI v6), none] [] SH σ (some (vI v), SH, w)) (v1 : Int32) (v2 : Int32) (v3 : Int32) (v4 : Int32) (v5 : Int32) (v6 : Int32) (σ : St) (v : Int32) (w : St) (h : j_X10_hands_136 N K_106 v1 v2 v3 v4 v5 v6 σ = some (v, w)) : Ev md_X10_hands 6 136 [some (vR 79), some (vI v1), some (vI v2), some (vI v3), some (vI v4), some (vI v5), some (vI v6), none] [] SH σ (some (vI v), SH, w) := by
  unfold j_X10_hands_136 at h
  obtain ⟨x1, e_x1, h⟩ := bt_elim h
  refine Ev.iinc (pc := 136) (v := x1) (lv' := [some (vR 79), some (vI v1), some (vI v2), some (vI v3), some (vI v4), some (vI v5), some (vI x1), none]) dX10_hands_136 rfl (by rw [ki_1, e_x1]) (lt9 rfl) rfl rfl ?_
  refine Ev.goto (pc := 139) (tgt := 106) dX10_hands_139 rfl ?_
  exact Ev.weak2 (hK_106 _ _ _ _ _ _ _ _ _ h) (lsubS (lsubS (lsubS (lsubS (lsubS (lsubS (lsubS (lsubN lsubE))))))))
theorem ll_X10_hands_106 (N : Nat) : ∀ (n : Nat) (v1 : Int32) (v2 : Int32) (v3 : Int32) (v4 : Int32) (v5 : Int32) (v6 : Int32) (σ : St) (v : Int32) (w : St), l_X10_hands_106 N n v1 v2 v3 v4 v5 v6 σ = some (v, w) → Ev md_X10_hands 6 106 [some (vR 79), some (vI v1), some (vI v2), some (vI v3), some (vI v4), some (vI v5), some (vI v6), none] [] SH σ (some (vI v), SH, w) := by
  intro n
  induction n with
  | zero =>
    intro v1 v2 v3 v4 v5 v6 σ v w h
    rw [l_X10_hands_106] at h
    cases h
  | succ n ih =>
    intro v1 v2 v3 v4 v5 v6 σ v w h
    rw [l_X10_hands_106] at h
    refine Ev.iload (pc := 106) dX10_hands_106 rfl ?_
    refine Ev.iload_n (pc := 108) dX10_hands_108 rfl rfl ?_
    by_cases c1 : v2 ≤ v6
    · replace h := (if_pos c1).symm.trans h
      refine Ev.icmp_ge_t (pc := 109) (tgt := 142) dX10_hands_109 rfl c1 ?_
      refine Ev.iload (pc := 142) dX10_hands_142 rfl ?_
      by_cases c2 : (0 : Int32) ≤ v4
      · replace h := (if_pos c2).symm.trans h
        refine Ev.if_ge_t (pc := 144) (tgt := 151) dX10_hands_144 rfl c2 ?_
        refine Ev.iload_n (pc := 151) dX10_hands_151 rfl rfl ?_
        refine Ev.iconst (pc := 152) (v := (-1)) dX10_hands_152 ki_m1 ?_
        by_cases c3 : v1 = (-1)
        · replace h := (if_pos c3).symm.trans h
          refine Ev.icmp_ne_f (pc := 153) dX10_hands_153 ⟨161, rfl⟩ c3 ?_
          refine Ev.iload (pc := 156) dX10_hands_156 rfl ?_
          refine Ev.goto (pc := 158) (tgt := 168) dX10_hands_158 rfl ?_
          obtain ⟨h1, h2⟩ := oeq h
          subst h1
          subst h2
          exact Ev.ret_i (pc := 168) dX10_hands_168 rfl rfl
        · replace h := (if_neg c3).symm.trans h
          refine Ev.icmp_ne_t (pc := 153) (tgt := 161) dX10_hands_153 rfl c3 ?_
          refine Ev.aload_n (pc := 161) dX10_hands_161 rfl rfl ?_
          refine Ev.iload (pc := 162) dX10_hands_162 rfl ?_
          refine Ev.iload_n (pc := 164) dX10_hands_164 rfl rfl ?_
          obtain ⟨x4, σ5, g6, h⟩ := bd_elim h
          refine Ev.cVi (pc := 165) (k := 79) (av := [vI v4, vI v1]) (rest := []) dX10_hands_165 ce_X10_handOf ml_X10_322 rfl sh_79 cl_X10 sh_sc (Nat.le_of_ble_eq_true rfl) (Nat.le_of_ble_eq_true rfl) (r_X10_handOf g6) ?_
          obtain ⟨h1, h2⟩ := oeq h
          subst h1
          subst h2
          exact Ev.ret_i (pc := 168) dX10_hands_168 rfl rfl
      · replace h := (if_neg c2).symm.trans h
        refine Ev.if_ge_f (pc := 144) dX10_hands_144 ⟨151, rfl⟩ c2 ?_
        refine Ev.iconst (pc := 147) (v := (-1)) dX10_hands_147 ki_m1 ?_
        refine Ev.goto (pc := 148) (tgt := 168) dX10_hands_148 rfl ?_
        obtain ⟨h1, h2⟩ := oeq h
        subst h1
        subst h2
        exact Ev.ret_i (pc := 168) dX10_hands_168 rfl rfl
    · replace h := (if_neg c1).symm.trans h
      refine Ev.icmp_ge_f (pc := 109) dX10_hands_109 ⟨142, rfl⟩ c1 ?_
      refine Ev.aload_n (pc := 112) dX10_hands_112 rfl rfl ?_
      refine Ev.iload (pc := 113) dX10_hands_113 rfl ?_
      refine Ev.iload_n (pc := 115) dX10_hands_115 rfl rfl ?_
      obtain ⟨x7, σ8, g9, h⟩ := bd_elim h
      refine Ev.cVi (pc := 116) (k := 79) (av := [vI v6, vI v3]) (rest := []) dX10_hands_116 ce_X10_changesBy ml_X10_328 rfl sh_79 cl_X10 sh_sc (Nat.le_of_ble_eq_true rfl) (Nat.le_of_ble_eq_true rfl) (r_X10_changesBy g9) ?_
      refine Ev.istore (pc := 119) (lv' := [some (vR 79), some (vI v1), some (vI v2), some (vI v3), some (vI v4), some (vI v5), some (vI v6), some (vI x7)]) dX10_hands_119 (lt9 rfl) rfl rfl ?_
      refine Ev.iload (pc := 121) dX10_hands_121 rfl ?_
      refine Ev.iload (pc := 123) dX10_hands_123 rfl ?_
      by_cases c10 : v5 ≤ x7
      · replace h := (if_pos c10).symm.trans h
        refine Ev.icmp_ge_t (pc := 125) (tgt := 136) dX10_hands_125 rfl c10 ?_
        exact Ev.weak2 (lj_X10_hands_136 N (l_X10_hands_106 N n) ih _ _ _ _ _ _ _ _ _ h) (lsubS (lsubS (lsubS (lsubS (lsubS (lsubS (lsubS (lsubN lsubE))))))))
      · replace h := (if_neg c10).symm.trans h
        refine Ev.icmp_ge_f (pc := 125) dX10_hands_125 ⟨136, rfl⟩ c10 ?_
        refine Ev.iload (pc := 128) dX10_hands_128 rfl ?_
        refine Ev.istore (pc := 130) (lv' := [some (vR 79), some (vI v1), some (vI v2), some (vI v3), some (vI v6), some (vI v5), some (vI v6), some (vI x7)]) dX10_hands_130 (lt9 rfl) rfl rfl ?_
        refine Ev.iload (pc := 132) dX10_hands_132 rfl ?_
        refine Ev.istore (pc := 134) (lv' := [some (vR 79), some (vI v1), some (vI v2), some (vI v3), some (vI v6), some (vI x7), some (vI v6), some (vI x7)]) dX10_hands_134 (lt9 rfl) rfl rfl ?_
        exact Ev.weak2 (lj_X10_hands_136 N (l_X10_hands_106 N n) ih _ _ _ _ _ _ _ _ _ h) (lsubS (lsubS (lsubS (lsubS (lsubS (lsubS (lsubS (lsubN lsubE))))))))
theorem ll_X10_hands_70 (N : Nat) : ∀ (n : Nat) (v1 : Int32) (v2 : Int32) (v3 : Int32) (σ : St) (v : Int32) (w : St), l_X10_hands_70 N n v1 v2 v3 σ = some (v, w) → Ev md_X10_hands 6 70 [some (vR 79), some (vI v1), some (vI v2), some (vI v3), none, none, none, none] [] SH σ (some (vI v), SH, w) := by
  intro n
  induction n with
  | zero =>
    intro v1 v2 v3 σ v w h
    rw [l_X10_hands_70] at h
    cases h
  | succ n ih =>
    intro v1 v2 v3 σ v w h
    rw [l_X10_hands_70] at h
    refine Ev.iload_n (pc := 70) dX10_hands_70 rfl rfl ?_
    refine Ev.sipush (pc := 71) (v := 384) dX10_hands_71 ks_384 ?_
    by_cases c1 : (384 : Int32) ≤ v3
    · replace h := (if_pos c1).symm.trans h
      refine Ev.icmp_ge_t (pc := 74) (tgt := 90) dX10_hands_74 rfl c1 ?_
      refine Ev.aload_n (pc := 90) dX10_hands_90 rfl rfl ?_
      refine Ev.iconst (pc := 91) (v := 0) dX10_hands_91 ki_0 ?_
      obtain ⟨x2, σ3, g4, h⟩ := bd_elim h
      refine Ev.cVi (pc := 92) (k := 79) (av := [vI 0]) (rest := []) dX10_hands_92 ce_X10_inWay ml_X10_198 rfl sh_79 cl_X10 sh_sc (Nat.le_of_ble_eq_true rfl) (Nat.le_of_ble_eq_true rfl) (r_X10_inWay g4) ?_
      refine Ev.istore_n (pc := 95) (lv' := [some (vR 79), some (vI v1), some (vI v2), some (vI x2), none, none, none, none]) dX10_hands_95 rfl (lt9 rfl) rfl rfl ?_
      refine Ev.iconst (pc := 96) (v := (-1)) dX10_hands_96 ki_m1 ?_
      refine Ev.istore (pc := 97) (lv' := [some (vR 79), some (vI v1), some (vI v2), some (vI x2), some (vI (-1)), none, none, none]) dX10_hands_97 (lt9 rfl) rfl rfl ?_
      refine Ev.ldc (pc := 99) dX10_hands_99 kc_X10_156 ?_
      refine Ev.istore (pc := 101) (lv' := [some (vR 79), some (vI v1), some (vI v2), some (vI x2), some (vI (-1)), some (vI 99999999), none, none]) dX10_hands_101 (lt9 rfl) rfl rfl ?_
      refine Ev.iconst (pc := 103) (v := 0) dX10_hands_103 ki_0 ?_
      refine Ev.istore (pc := 104) (lv' := [some (vR 79), some (vI v1), some (vI v2), some (vI x2), some (vI (-1)), some (vI 99999999), some (vI 0), none]) dX10_hands_104 (lt9 rfl) rfl rfl ?_
      exact Ev.weak2 (ll_X10_hands_106 N N _ _ _ _ _ _ _ _ _ h) (lsubS (lsubS (lsubS (lsubS (lsubS (lsubS (lsubS (lsubN lsubE))))))))
    · replace h := (if_neg c1).symm.trans h
      refine Ev.icmp_ge_f (pc := 74) dX10_hands_74 ⟨90, rfl⟩ c1 ?_
      refine Ev.aload_n (pc := 77) dX10_hands_77 rfl rfl ?_
      refine Ev.getR (pc := 78) dX10_hands_78 fl_X10_72 sh_79 rfl ?_
      refine Ev.iload_n (pc := 81) dX10_hands_81 rfl rfl ?_
      refine Ev.iconst (pc := 82) (v := 0) dX10_hands_82 ki_0 ?_
      obtain ⟨c5, h⟩ := ckA_elim h
      refine Ev.iast (pc := 83) dX10_hands_83 sh_99 c5 ?_
      refine Ev.nmS (fun σ6 e9 => ?_)
      replace h := bt_app h σ6 e9
      obtain ⟨x7, e_x7, h⟩ := bt_elim h
      refine Ev.iinc (pc := 84) (v := x7) (lv' := [some (vR 79), some (vI v1), some (vI v2), some (vI x7), none, none, none, none]) dX10_hands_84 rfl (by rw [ki_1, e_x7]) (lt9 rfl) rfl rfl ?_
      refine Ev.goto (pc := 87) (tgt := 70) dX10_hands_87 rfl ?_
      exact Ev.weak2 (ih _ _ _ _ _ _ h) (lsubS (lsubS (lsubS (lsubS (lsubN (lsubN (lsubN (lsubN lsubE))))))))
theorem ll_X10_hands_47 (N : Nat) : ∀ (n : Nat) (v1 : Int32) (v2 : Int32) (v3 : Int32) (σ : St) (v : Int32) (w : St), l_X10_hands_47 N n v1 v2 v3 σ = some (v, w) → Ev md_X10_hands 6 47 [some (vR 79), some (vI v1), some (vI v2), some (vI v3), none, none, none, none] [] SH σ (some (vI v), SH, w) := by
  intro n
  induction n with
  | zero =>
    intro v1 v2 v3 σ v w h
    rw [l_X10_hands_47] at h
    cases h
  | succ n ih =>
    intro v1 v2 v3 σ v w h
    rw [l_X10_hands_47] at h
    refine Ev.iload_n (pc := 47) dX10_hands_47 rfl rfl ?_
    refine Ev.aload_n (pc := 48) dX10_hands_48 rfl rfl ?_
    refine Ev.getI (pc := 49) dX10_hands_49 fl_X10_175 sh_79 rfl ?_
    by_cases c1 : (σ 79 5) ≤ v3
    · replace h := (if_pos c1).symm.trans h
      refine Ev.icmp_ge_t (pc := 52) (tgt := 68) dX10_hands_52 rfl c1 ?_
      refine Ev.iconst (pc := 68) (v := 0) dX10_hands_68 ki_0 ?_
      refine Ev.istore_n (pc := 69) (lv' := [some (vR 79), some (vI v1), some (vI v2), some (vI 0), none, none, none, none]) dX10_hands_69 rfl (lt9 rfl) rfl rfl ?_
      exact Ev.weak2 (ll_X10_hands_70 N N _ _ _ _ _ _ h) (lsubS (lsubS (lsubS (lsubS (lsubN (lsubN (lsubN (lsubN lsubE))))))))
    · replace h := (if_neg c1).symm.trans h
      refine Ev.icmp_ge_f (pc := 52) dX10_hands_52 ⟨68, rfl⟩ c1 ?_
      refine Ev.iload_n (pc := 55) dX10_hands_55 rfl rfl ?_
      refine Ev.aload_n (pc := 56) dX10_hands_56 rfl rfl ?_
      refine Ev.getI (pc := 57) dX10_hands_57 fl_X10_172 sh_79 rfl ?_
      refine Ev.imul (pc := 60) dX10_hands_60 ?_
      refine Ev.nmI (fun x2 e9 => ?_)
      replace h := bt_app h x2 e9
      refine Ev.istore_n (pc := 61) (lv' := [some (vR 79), some (vI v1), some (vI x2), some (vI v3), none, none, none, none]) dX10_hands_61 rfl (lt9 rfl) rfl rfl ?_
      obtain ⟨x3, e_x3, h⟩ := bt_elim h
      refine Ev.iinc (pc := 62) (v := x3) (lv' := [some (vR 79), some (vI v1), some (vI x2), some (vI x3), none, none, none, none]) dX10_hands_62 rfl (by rw [ki_1, e_x3]) (lt9 rfl) rfl rfl ?_
      refine Ev.goto (pc := 65) (tgt := 47) dX10_hands_65 rfl ?_
      exact Ev.weak2 (ih _ _ _ _ _ _ h) (lsubS (lsubS (lsubS (lsubS (lsubN (lsubN (lsubN (lsubN lsubE))))))))
theorem ll_X10_hands_20 (N : Nat) : ∀ (n : Nat) (v1 : Int32) (v2 : Int32) (v3 : Int32) (σ : St) (v : Int32) (w : St), l_X10_hands_20 N n v1 v2 v3 σ = some (v, w) → Ev md_X10_hands 6 20 [some (vR 79), some (vI v1), some (vI v2), some (vI v3), none, none, none, none] [] SH σ (some (vI v), SH, w) := by
  intro n
  induction n with
  | zero =>
    intro v1 v2 v3 σ v w h
    rw [l_X10_hands_20] at h
    cases h
  | succ n ih =>
    intro v1 v2 v3 σ v w h
    rw [l_X10_hands_20] at h
    refine Ev.iload_n (pc := 20) dX10_hands_20 rfl rfl ?_
    refine Ev.aload_n (pc := 21) dX10_hands_21 rfl rfl ?_
    refine Ev.getI (pc := 22) dX10_hands_22 fl_X10_172 sh_79 rfl ?_
    by_cases c1 : (σ 79 4) ≤ v3
    · replace h := (if_pos c1).symm.trans h
      refine Ev.icmp_ge_t (pc := 25) (tgt := 45) dX10_hands_25 rfl c1 ?_
      refine Ev.iconst (pc := 45) (v := 0) dX10_hands_45 ki_0 ?_
      refine Ev.istore_n (pc := 46) (lv' := [some (vR 79), some (vI v1), some (vI v2), some (vI 0), none, none, none, none]) dX10_hands_46 rfl (lt9 rfl) rfl rfl ?_
      exact Ev.weak2 (ll_X10_hands_47 N N _ _ _ _ _ _ h) (lsubS (lsubS (lsubS (lsubS (lsubN (lsubN (lsubN (lsubN lsubE))))))))
    · replace h := (if_neg c1).symm.trans h
      refine Ev.icmp_ge_f (pc := 25) dX10_hands_25 ⟨45, rfl⟩ c1 ?_
      refine Ev.aload_n (pc := 28) dX10_hands_28 rfl rfl ?_
      refine Ev.iload_n (pc := 29) dX10_hands_29 rfl rfl ?_
      obtain ⟨x2, σ3, g4, h⟩ := bd_elim h
      refine Ev.cVi (pc := 30) (k := 79) (av := [vI v3]) (rest := []) dX10_hands_30 ce_X10_isOnWay ml_X10_220 rfl sh_79 cl_X10 sh_sc (Nat.le_of_ble_eq_true rfl) (Nat.le_of_ble_eq_true rfl) (r_X10_isOnWay g4) ?_
      by_cases c5 : x2 = 0
      · replace h := (if_pos c5).symm.trans h
        refine Ev.if_eq_t (pc := 33) (tgt := 39) dX10_hands_33 rfl c5 ?_
        obtain ⟨x6, e_x6, h⟩ := bt_elim h
        refine Ev.iinc (pc := 39) (v := x6) (lv' := [some (vR 79), some (vI v1), some (vI v2), some (vI x6), none, none, none, none]) dX10_hands_39 rfl (by rw [ki_1, e_x6]) (lt9 rfl) rfl rfl ?_
        refine Ev.goto (pc := 42) (tgt := 20) dX10_hands_42 rfl ?_
        exact Ev.weak2 (ih _ _ _ _ _ _ h) (lsubS (lsubS (lsubS (lsubS (lsubN (lsubN (lsubN (lsubN lsubE))))))))
      · replace h := (if_neg c5).symm.trans h
        refine Ev.if_eq_f (pc := 33) dX10_hands_33 ⟨39, rfl⟩ c5 ?_
        refine Ev.ldc (pc := 36) dX10_hands_36 kc_X10_227 ?_
        obtain ⟨h1, h2⟩ := oeq h
        subst h1
        subst h2
        exact Ev.ret_i (pc := 38) dX10_hands_38 rfl rfl
theorem lj_X10_hands_16 (N : Nat) (v1 : Int32) (σ : St) (v : Int32) (w : St) (h : j_X10_hands_16 N v1 σ = some (v, w)) : Ev md_X10_hands 6 16 [some (vR 79), some (vI v1), none, none, none, none, none, none] [] SH σ (some (vI v), SH, w) := by
  unfold j_X10_hands_16 at h
  refine Ev.iconst (pc := 16) (v := 1) dX10_hands_16 ki_1 ?_
  refine Ev.istore_n (pc := 17) (lv' := [some (vR 79), some (vI v1), some (vI 1), none, none, none, none, none]) dX10_hands_17 rfl (lt9 rfl) rfl rfl ?_
  refine Ev.iconst (pc := 18) (v := 0) dX10_hands_18 ki_0 ?_
  refine Ev.istore_n (pc := 19) (lv' := [some (vR 79), some (vI v1), some (vI 1), some (vI 0), none, none, none, none]) dX10_hands_19 rfl (lt9 rfl) rfl rfl ?_
  exact Ev.weak2 (ll_X10_hands_20 N N _ _ _ _ _ _ h) (lsubS (lsubS (lsubS (lsubS (lsubN (lsubN (lsubN (lsubN lsubE))))))))
theorem e_X10_hands (N : Nat) (a1 : Int32) (σ : St) (v : Int32) (w : St) (h : o_X10_hands N a1 σ = some (v, w)) : Ev md_X10_hands 6 0 (lvE [vR 79, vI a1] 8) [] SH σ (some (vI v), SH, w) := by
  show Ev md_X10_hands 6 0 [some (vR 79), some (vI a1), none, none, none, none, none, none] [] SH σ (some (vI v), SH, w)
  unfold o_X10_hands at h
  refine Ev.iload_n (pc := 0) dX10_hands_0 rfl rfl ?_
  refine Ev.iconst (pc := 1) (v := (-1)) dX10_hands_1 ki_m1 ?_
  by_cases c1 : a1 = (-1)
  · replace h := (if_pos c1).symm.trans h
    refine Ev.icmp_eq_t (pc := 2) (tgt := 16) dX10_hands_2 rfl c1 ?_
    exact Ev.weak2 (lj_X10_hands_16 N _ _ _ _ h) (lsubS (lsubS (lsubN (lsubN (lsubN (lsubN (lsubN (lsubN lsubE))))))))
  · replace h := (if_neg c1).symm.trans h
    refine Ev.icmp_eq_f (pc := 2) dX10_hands_2 ⟨16, rfl⟩ c1 ?_
    refine Ev.aload_n (pc := 5) dX10_hands_5 rfl rfl ?_
    refine Ev.iload_n (pc := 6) dX10_hands_6 rfl rfl ?_
    obtain ⟨x2, σ3, g4, h⟩ := bd_elim h
    refine Ev.cVi (pc := 7) (k := 79) (av := [vI a1]) (rest := []) dX10_hands_7 ce_X10_isPromise ml_X10_212 rfl sh_79 cl_X10 sh_sc (Nat.le_of_ble_eq_true rfl) (Nat.le_of_ble_eq_true rfl) (r_X10_isPromise g4) ?_
    by_cases c5 : x2 = 0
    · replace h := (if_pos c5).symm.trans h
      refine Ev.if_ne_f (pc := 10) dX10_hands_10 ⟨16, rfl⟩ c5 ?_
      refine Ev.ldc (pc := 13) dX10_hands_13 kc_X10_205 ?_
      obtain ⟨h1, h2⟩ := oeq h
      subst h1
      subst h2
      exact Ev.ret_i (pc := 15) dX10_hands_15 rfl rfl
    · replace h := (if_neg c5).symm.trans h
      refine Ev.if_ne_t (pc := 10) (tgt := 16) dX10_hands_10 rfl c5 ?_
      exact Ev.weak2 (lj_X10_hands_16 N _ _ _ _ h) (lsubS (lsubS (lsubN (lsubN (lsubN (lsubN (lsubN (lsubN lsubE))))))))
theorem r_X10_hands {N : Nat} {a1 : Int32} {σ : St} {v : Int32} {w : St} (h : o_X10_hands N a1 σ = some (v, w)) : Rn md_X10_hands 6 [vR 79, vI a1] SH σ (some (vI v), SH, w) := Rn.of ce_X10_hands.1 (Nat.le_of_ble_eq_true rfl) (e_X10_hands N _ _ _ _ h)
def j_X1_dueOn_52 (N : Nat) (K_5 : Int32 → Int32 → Int32 → Int32 → St → Option (Int32 × St)) (v1 : Int32) (v2 : Int32) (v4 : Int32) (s0 : Int32) (s1 : Int32) (σ : St) : Option (Int32 × St) := bt (s0 + s1) fun x1 => bt (v4 + 1) fun x2 => K_5 v1 v2 x1 x2 σ
def j_X1_dueOn_51 (N : Nat) (K_5 : Int32 → Int32 → Int32 → Int32 → St → Option (Int32 × St)) (v1 : Int32) (v2 : Int32) (v4 : Int32) (s0 : Int32) (σ : St) : Option (Int32 × St) := j_X1_dueOn_52 N K_5 v1 v2 v4 s0 0 σ
def l_X1_dueOn_5 (N : Nat) : Nat → Int32 → Int32 → Int32 → Int32 → St → Option (Int32 × St)
  | 0, _, _, _, _, _ => none
  | n + 1, v1, v2, v3, v4, σ => if (σ 1 3) ≤ v4 then (some (v3, σ)) else (if (p_X1_isOpen_23 v4 σ) = 0 then (j_X1_dueOn_51 N (l_X1_dueOn_5 N n) v1 v2 v4 v3 σ) else (if (p_X1_holderOf_23 v4 σ) = v1 then (bd (o_X1_mayBeKeptOn_23 N v4 v2 σ) fun x4 σ5 => if x4 = 0 then (j_X1_dueOn_51 N (l_X1_dueOn_5 N n) v1 v2 v4 v3 σ5) else (j_X1_dueOn_52 N (l_X1_dueOn_5 N n) v1 v2 v4 v3 1 σ5)) else (j_X1_dueOn_51 N (l_X1_dueOn_5 N n) v1 v2 v4 v3 σ)))
def o_X1_dueOn (N : Nat) (a1 : Int32) (a2 : Int32) (σ : St) : Option (Int32 × St) := l_X1_dueOn_5 N N a1 a2 0 0 σ
theorem lj_X1_dueOn_52 (N : Nat) (K_5 : Int32 → Int32 → Int32 → Int32 → St → Option (Int32 × St)) (hK_5 : ∀ (v1 : Int32) (v2 : Int32) (v3 : Int32) (v4 : Int32) (σ : St) (v : Int32) (w : St), K_5 v1 v2 v3 v4 σ = some (v, w) → Ev md_X1_dueOn 4 5 [some (vR 23), some (vI v1), some (vI v2), some (vI v3), some (vI v4)] [] SH σ (some (vI v), SH, w)) (v1 : Int32) (v2 : Int32) (v4 : Int32) (s0 : Int32) (s1 : Int32) (σ : St) (v : Int32) (w : St) (h : j_X1_dueOn_52 N K_5 v1 v2 v4 s0 s1 σ = some (v, w)) : Ev md_X1_dueOn 4 52 [some (vR 23), some (vI v1), some (vI v2), none, some (vI v4)] [vI s1, vI s0] SH σ (some (vI v), SH, w) := by
  unfold j_X1_dueOn_52 at h
  refine Ev.iadd (pc := 52) dX1_dueOn_52 ?_
  refine Ev.nmI (fun x1 e9 => ?_)
  replace h := bt_app h x1 e9
  refine Ev.istore_n (pc := 53) (lv' := [some (vR 23), some (vI v1), some (vI v2), some (vI x1), some (vI v4)]) dX1_dueOn_53 rfl (lt9 rfl) rfl rfl ?_
  obtain ⟨x2, e_x2, h⟩ := bt_elim h
  refine Ev.iinc (pc := 54) (v := x2) (lv' := [some (vR 23), some (vI v1), some (vI v2), some (vI x1), some (vI x2)]) dX1_dueOn_54 rfl (by rw [ki_1, e_x2]) (lt9 rfl) rfl rfl ?_
  refine Ev.goto (pc := 57) (tgt := 5) dX1_dueOn_57 rfl ?_
  exact Ev.weak2 (hK_5 _ _ _ _ _ _ _ h) (lsubS (lsubS (lsubS (lsubS (lsubS lsubE)))))
theorem lj_X1_dueOn_51 (N : Nat) (K_5 : Int32 → Int32 → Int32 → Int32 → St → Option (Int32 × St)) (hK_5 : ∀ (v1 : Int32) (v2 : Int32) (v3 : Int32) (v4 : Int32) (σ : St) (v : Int32) (w : St), K_5 v1 v2 v3 v4 σ = some (v, w) → Ev md_X1_dueOn 4 5 [some (vR 23), some (vI v1), some (vI v2), some (vI v3), some (vI v4)] [] SH σ (some (vI v), SH, w)) (v1 : Int32) (v2 : Int32) (v4 : Int32) (s0 : Int32) (σ : St) (v : Int32) (w : St) (h : j_X1_dueOn_51 N K_5 v1 v2 v4 s0 σ = some (v, w)) : Ev md_X1_dueOn 4 51 [some (vR 23), some (vI v1), some (vI v2), none, some (vI v4)] [vI s0] SH σ (some (vI v), SH, w) := by
  unfold j_X1_dueOn_51 at h
  refine Ev.iconst (pc := 51) (v := 0) dX1_dueOn_51 ki_0 ?_
  exact Ev.weak2 (lj_X1_dueOn_52 N K_5 hK_5 _ _ _ _ _ _ _ _ h) (lsubS (lsubS (lsubS (lsubN (lsubS lsubE)))))
theorem ll_X1_dueOn_5 (N : Nat) : ∀ (n : Nat) (v1 : Int32) (v2 : Int32) (v3 : Int32) (v4 : Int32) (σ : St) (v : Int32) (w : St), l_X1_dueOn_5 N n v1 v2 v3 v4 σ = some (v, w) → Ev md_X1_dueOn 4 5 [some (vR 23), some (vI v1), some (vI v2), some (vI v3), some (vI v4)] [] SH σ (some (vI v), SH, w) := by
  intro n
  induction n with
  | zero =>
    intro v1 v2 v3 v4 σ v w h
    rw [l_X1_dueOn_5] at h
    cases h
  | succ n ih =>
    intro v1 v2 v3 v4 σ v w h
    rw [l_X1_dueOn_5] at h
    refine Ev.iload (pc := 5) dX1_dueOn_5 rfl ?_
    refine Ev.aload_n (pc := 7) dX1_dueOn_7 rfl rfl ?_
    refine Ev.getR (pc := 8) dX1_dueOn_8 fl_X1_15 sh_23 rfl ?_
    refine Ev.getI (pc := 11) dX1_dueOn_11 fl_X1_50 sh_1 rfl ?_
    by_cases c1 : (σ 1 3) ≤ v4
    · replace h := (if_pos c1).symm.trans h
      refine Ev.icmp_ge_t (pc := 14) (tgt := 60) dX1_dueOn_14 rfl c1 ?_
      refine Ev.iload_n (pc := 60) dX1_dueOn_60 rfl rfl ?_
      obtain ⟨h1, h2⟩ := oeq h
      subst h1
      subst h2
      exact Ev.ret_i (pc := 61) dX1_dueOn_61 rfl rfl
    · replace h := (if_neg c1).symm.trans h
      refine Ev.icmp_ge_f (pc := 14) dX1_dueOn_14 ⟨60, rfl⟩ c1 ?_
      refine Ev.iload_n (pc := 17) dX1_dueOn_17 rfl rfl ?_
      refine Ev.aload_n (pc := 18) dX1_dueOn_18 rfl rfl ?_
      refine Ev.iload (pc := 19) dX1_dueOn_19 rfl ?_
      refine Ev.cVi (pc := 21) (k := 23) (av := [vI v4]) (rest := [vI v3]) dX1_dueOn_21 ce_X1_isOpen ml_X1_85 rfl sh_23 cl_X1 sh_sc (Nat.le_of_ble_eq_true rfl) (Nat.le_of_ble_eq_true rfl) (r_X1_isOpen_23 _ _) ?_
      by_cases c2 : (p_X1_isOpen_23 v4 σ) = 0
      · replace h := (if_pos c2).symm.trans h
        refine Ev.if_eq_t (pc := 24) (tgt := 51) dX1_dueOn_24 rfl c2 ?_
        exact Ev.weak2 (lj_X1_dueOn_51 N (l_X1_dueOn_5 N n) ih _ _ _ _ _ _ _ h) (lsubS (lsubS (lsubS (lsubN (lsubS lsubE)))))
      · replace h := (if_neg c2).symm.trans h
        refine Ev.if_eq_f (pc := 24) dX1_dueOn_24 ⟨51, rfl⟩ c2 ?_
        refine Ev.aload_n (pc := 27) dX1_dueOn_27 rfl rfl ?_
        refine Ev.iload (pc := 28) dX1_dueOn_28 rfl ?_
        refine Ev.cVi (pc := 30) (k := 23) (av := [vI v4]) (rest := [vI v3]) dX1_dueOn_30 ce_X1_holderOf ml_X1_54 rfl sh_23 cl_X1 sh_sc (Nat.le_of_ble_eq_true rfl) (Nat.le_of_ble_eq_true rfl) (r_X1_holderOf_23 _ _) ?_
        refine Ev.iload_n (pc := 33) dX1_dueOn_33 rfl rfl ?_
        by_cases c3 : (p_X1_holderOf_23 v4 σ) = v1
        · replace h := (if_pos c3).symm.trans h
          refine Ev.icmp_ne_f (pc := 34) dX1_dueOn_34 ⟨51, rfl⟩ c3 ?_
          refine Ev.aload_n (pc := 37) dX1_dueOn_37 rfl rfl ?_
          refine Ev.iload (pc := 38) dX1_dueOn_38 rfl ?_
          refine Ev.iload_n (pc := 40) dX1_dueOn_40 rfl rfl ?_
          obtain ⟨x4, σ5, g6, h⟩ := bd_elim h
          refine Ev.cVi (pc := 41) (k := 23) (av := [vI v4, vI v2]) (rest := [vI v3]) dX1_dueOn_41 ce_X1_mayBeKeptOn ml_X1_97 rfl sh_23 cl_X1 sh_sc (Nat.le_of_ble_eq_true rfl) (Nat.le_of_ble_eq_true rfl) (r_X1_mayBeKeptOn_23 g6) ?_
          by_cases c7 : x4 = 0
          · replace h := (if_pos c7).symm.trans h
            refine Ev.if_eq_t (pc := 44) (tgt := 51) dX1_dueOn_44 rfl c7 ?_
            exact Ev.weak2 (lj_X1_dueOn_51 N (l_X1_dueOn_5 N n) ih _ _ _ _ _ _ _ h) (lsubS (lsubS (lsubS (lsubN (lsubS lsubE)))))
          · replace h := (if_neg c7).symm.trans h
            refine Ev.if_eq_f (pc := 44) dX1_dueOn_44 ⟨51, rfl⟩ c7 ?_
            refine Ev.iconst (pc := 47) (v := 1) dX1_dueOn_47 ki_1 ?_
            refine Ev.goto (pc := 48) (tgt := 52) dX1_dueOn_48 rfl ?_
            exact Ev.weak2 (lj_X1_dueOn_52 N (l_X1_dueOn_5 N n) ih _ _ _ _ _ _ _ _ h) (lsubS (lsubS (lsubS (lsubN (lsubS lsubE)))))
        · replace h := (if_neg c3).symm.trans h
          refine Ev.icmp_ne_t (pc := 34) (tgt := 51) dX1_dueOn_34 rfl c3 ?_
          exact Ev.weak2 (lj_X1_dueOn_51 N (l_X1_dueOn_5 N n) ih _ _ _ _ _ _ _ h) (lsubS (lsubS (lsubS (lsubN (lsubS lsubE)))))
theorem e_X1_dueOn (N : Nat) (a1 : Int32) (a2 : Int32) (σ : St) (v : Int32) (w : St) (h : o_X1_dueOn N a1 a2 σ = some (v, w)) : Ev md_X1_dueOn 4 0 (lvE [vR 23, vI a1, vI a2] 5) [] SH σ (some (vI v), SH, w) := by
  show Ev md_X1_dueOn 4 0 [some (vR 23), some (vI a1), some (vI a2), none, none] [] SH σ (some (vI v), SH, w)
  unfold o_X1_dueOn at h
  refine Ev.iconst (pc := 0) (v := 0) dX1_dueOn_0 ki_0 ?_
  refine Ev.istore_n (pc := 1) (lv' := [some (vR 23), some (vI a1), some (vI a2), some (vI 0), none]) dX1_dueOn_1 rfl (lt9 rfl) rfl rfl ?_
  refine Ev.iconst (pc := 2) (v := 0) dX1_dueOn_2 ki_0 ?_
  refine Ev.istore (pc := 3) (lv' := [some (vR 23), some (vI a1), some (vI a2), some (vI 0), some (vI 0)]) dX1_dueOn_3 (lt9 rfl) rfl rfl ?_
  exact Ev.weak2 (ll_X1_dueOn_5 N N _ _ _ _ _ _ _ h) (lsubS (lsubS (lsubS (lsubS (lsubS lsubE)))))
theorem r_X1_dueOn {N : Nat} {a1 : Int32} {a2 : Int32} {σ : St} {v : Int32} {w : St} (h : o_X1_dueOn N a1 a2 σ = some (v, w)) : Rn md_X1_dueOn 4 [vR 23, vI a1, vI a2] SH σ (some (vI v), SH, w) := Rn.of ce_X1_dueOn.1 (Nat.le_of_ble_eq_true rfl) (e_X1_dueOn N _ _ _ _ _ h)
def j_X9_calendar_25 (N : Nat)  (σ : St) : Option (Int32 × St) := some ((-1000000002), σ)
def o_X9_calendar (N : Nat) (a1 : Int32) (a2 : Int32) (σ : St) : Option (Int32 × St) := if (p_X5_hasKeeper a1 σ) = 0 then (some ((-1000000001), σ)) else (if a2 < 0 then (j_X9_calendar_25 N σ) else (if a2 ≤ 9999 then (bd (o_X1_dueOn N a1 a2 σ) fun x4 σ5 => some (x4, σ5)) else (j_X9_calendar_25 N σ)))
theorem lj_X9_calendar_25 (N : Nat)  (σ : St) (v : Int32) (w : St) (h : j_X9_calendar_25 N  σ = some (v, w)) : Ev md_X9_calendar 5 25 [none, none, none] [] SH σ (some (vI v), SH, w) := by
  unfold j_X9_calendar_25 at h
  refine Ev.ldc (pc := 25) dX9_calendar_25 kc_X9_81 ?_
  refine Ev.goto (pc := 27) (tgt := 39) dX9_calendar_27 rfl ?_
  obtain ⟨h1, h2⟩ := oeq h
  subst h1
  subst h2
  exact Ev.ret_i (pc := 39) dX9_calendar_39 rfl rfl
theorem e_X9_calendar (N : Nat) (a1 : Int32) (a2 : Int32) (σ : St) (v : Int32) (w : St) (h : o_X9_calendar N a1 a2 σ = some (v, w)) : Ev md_X9_calendar 5 0 (lvE [vR 0, vI a1, vI a2] 3) [] SH σ (some (vI v), SH, w) := by
  show Ev md_X9_calendar 5 0 [some (vR 0), some (vI a1), some (vI a2)] [] SH σ (some (vI v), SH, w)
  unfold o_X9_calendar at h
  refine Ev.aload_n (pc := 0) dX9_calendar_0 rfl rfl ?_
  refine Ev.getR (pc := 1) dX9_calendar_1 fl_X9_10 sh_0 rfl ?_
  refine Ev.iload_n (pc := 4) dX9_calendar_4 rfl rfl ?_
  refine Ev.cVi (pc := 5) (k := 1) (av := [vI a1]) (rest := []) dX9_calendar_5 ce_X5_hasKeeper ml_X9_150 rfl sh_1 cl_X5 sh_sc (Nat.le_of_ble_eq_true rfl) (Nat.le_of_ble_eq_true rfl) (r_X5_hasKeeper _ _) ?_
  by_cases c1 : (p_X5_hasKeeper a1 σ) = 0
  · replace h := (if_pos c1).symm.trans h
    refine Ev.if_ne_f (pc := 8) dX9_calendar_8 ⟨14, rfl⟩ c1 ?_
    refine Ev.ldc (pc := 11) dX9_calendar_11 kc_X9_145 ?_
    obtain ⟨h1, h2⟩ := oeq h
    subst h1
    subst h2
    exact Ev.ret_i (pc := 13) dX9_calendar_13 rfl rfl
  · replace h := (if_neg c1).symm.trans h
    refine Ev.if_ne_t (pc := 8) (tgt := 14) dX9_calendar_8 rfl c1 ?_
    refine Ev.iload_n (pc := 14) dX9_calendar_14 rfl rfl ?_
    by_cases c2 : a2 < 0
    · replace h := (if_pos c2).symm.trans h
      refine Ev.if_lt_t (pc := 15) (tgt := 25) dX9_calendar_15 rfl c2 ?_
      exact Ev.weak2 (lj_X9_calendar_25 N _ _ _ h) (lsubN (lsubN (lsubN lsubE)))
    · replace h := (if_neg c2).symm.trans h
      refine Ev.if_lt_f (pc := 15) dX9_calendar_15 ⟨25, rfl⟩ c2 ?_
      refine Ev.iload_n (pc := 18) dX9_calendar_18 rfl rfl ?_
      refine Ev.sipush (pc := 19) (v := 9999) dX9_calendar_19 ks_9999 ?_
      by_cases c3 : a2 ≤ 9999
      · replace h := (if_pos c3).symm.trans h
        refine Ev.icmp_le_t (pc := 22) (tgt := 30) dX9_calendar_22 rfl c3 ?_
        refine Ev.aload_n (pc := 30) dX9_calendar_30 rfl rfl ?_
        refine Ev.getR (pc := 31) dX9_calendar_31 fl_X9_31 sh_0 rfl ?_
        refine Ev.iload_n (pc := 34) dX9_calendar_34 rfl rfl ?_
        refine Ev.iload_n (pc := 35) dX9_calendar_35 rfl rfl ?_
        obtain ⟨x4, σ5, g6, h⟩ := bd_elim h
        refine Ev.cVi (pc := 36) (k := 23) (av := [vI a1, vI a2]) (rest := []) dX9_calendar_36 ce_X1_dueOn ml_X9_279 rfl sh_23 cl_X1 sh_sc (Nat.le_of_ble_eq_true rfl) (Nat.le_of_ble_eq_true rfl) (r_X1_dueOn g6) ?_
        obtain ⟨h1, h2⟩ := oeq h
        subst h1
        subst h2
        exact Ev.ret_i (pc := 39) dX9_calendar_39 rfl rfl
      · replace h := (if_neg c3).symm.trans h
        refine Ev.icmp_le_f (pc := 22) dX9_calendar_22 ⟨30, rfl⟩ c3 ?_
        exact Ev.weak2 (lj_X9_calendar_25 N _ _ _ h) (lsubN (lsubN (lsubN lsubE)))
theorem r_X9_calendar {N : Nat} {a1 : Int32} {a2 : Int32} {σ : St} {v : Int32} {w : St} (h : o_X9_calendar N a1 a2 σ = some (v, w)) : Rn md_X9_calendar 5 [vR 0, vI a1, vI a2] SH σ (some (vI v), SH, w) := Rn.of ce_X9_calendar.1 (Nat.le_of_ble_eq_true rfl) (e_X9_calendar N _ _ _ _ _ h)
def j_X10_mayKeepOn_98 (N : Nat) (K_5 : Int32 → Int32 → Int32 → Int32 → St → Option (Int32 × St)) (v1 : Int32) (v2 : Int32) (v4 : Int32) (s0 : Int32) (s1 : Int32) (σ : St) : Option (Int32 × St) := bt (s0 + (p_X10_one s1 σ)) fun x1 => bt (v4 + 1) fun x2 => K_5 v1 v2 x1 x2 σ
def j_X10_mayKeepOn_97 (N : Nat) (K_5 : Int32 → Int32 → Int32 → Int32 → St → Option (Int32 × St)) (v1 : Int32) (v2 : Int32) (v4 : Int32) (s0 : Int32) (σ : St) : Option (Int32 × St) := j_X10_mayKeepOn_98 N K_5 v1 v2 v4 s0 0 σ
def j_X10_mayKeepOn_60 (N : Nat) (K_5 : Int32 → Int32 → Int32 → Int32 → St → Option (Int32 × St)) (v1 : Int32) (v2 : Int32) (v3 : Int32) (v4 : Int32) (s0 : Int32) (σ : St) : Option (Int32 × St) := if s0 = 0 then (j_X10_mayKeepOn_97 N K_5 v1 v2 v4 v3 σ) else (bd (o_X10_ripe N 0 v4 σ) fun x2 σ3 => ckA v4 14 (if (p_X10_in ((v2 - x2).toInt64) 0 ((σ3 89 v4.toNatClampNeg).toInt64) σ3) = 0 then (j_X10_mayKeepOn_97 N K_5 v1 v2 v4 v3 σ3) else (j_X10_mayKeepOn_98 N K_5 v1 v2 v4 v3 1 σ3)))
def j_X10_mayKeepOn_55 (N : Nat) (K_5 : Int32 → Int32 → Int32 → Int32 → St → Option (Int32 × St)) (v1 : Int32) (v2 : Int32) (v3 : Int32) (v4 : Int32) (σ : St) : Option (Int32 × St) := j_X10_mayKeepOn_60 N K_5 v1 v2 v3 v4 1 σ
def j_X10_mayKeepOn_59 (N : Nat) (K_5 : Int32 → Int32 → Int32 → Int32 → St → Option (Int32 × St)) (v1 : Int32) (v2 : Int32) (v3 : Int32) (v4 : Int32) (σ : St) : Option (Int32 × St) := j_X10_mayKeepOn_60 N K_5 v1 v2 v3 v4 0 σ
def l_X10_mayKeepOn_5 (N : Nat) : Nat → Int32 → Int32 → Int32 → Int32 → St → Option (Int32 × St)
  | 0, _, _, _, _, _ => none
  | n + 1, v1, v2, v3, v4, σ => if (σ 79 5) ≤ v4 then (some (v3, σ)) else (ckA v4 1360 (if (σ 80 v4.toNatClampNeg) = 0 then (ckA (21 + v4) 1360 (if (σ 80 (21 + v4).toNatClampNeg) < 0 then (j_X10_mayKeepOn_59 N (l_X10_mayKeepOn_5 N n) v1 v2 v3 v4 σ) else (if v1 < 0 then (j_X10_mayKeepOn_55 N (l_X10_mayKeepOn_5 N n) v1 v2 v3 v4 σ) else (ckA (14 + v4) 1360 (if (σ 80 (14 + v4).toNatClampNeg) = v1 then (j_X10_mayKeepOn_55 N (l_X10_mayKeepOn_5 N n) v1 v2 v3 v4 σ) else (j_X10_mayKeepOn_59 N (l_X10_mayKeepOn_5 N n) v1 v2 v3 v4 σ)))))) else (j_X10_mayKeepOn_59 N (l_X10_mayKeepOn_5 N n) v1 v2 v3 v4 σ)))
def o_X10_mayKeepOn (N : Nat) (a1 : Int32) (a2 : Int32) (σ : St) : Option (Int32 × St) := l_X10_mayKeepOn_5 N N a1 a2 0 0 σ
theorem lj_X10_mayKeepOn_98 (N : Nat) (K_5 : Int32 → Int32 → Int32 → Int32 → St → Option (Int32 × St)) (hK_5 : ∀ (v1 : Int32) (v2 : Int32) (v3 : Int32) (v4 : Int32) (σ : St) (v : Int32) (w : St), K_5 v1 v2 v3 v4 σ = some (v, w) → Ev md_X10_mayKeepOn 3 5 [some (vR 79), some (vI v1), some (vI v2), some (vI v3), some (vI v4), none] [] SH σ (some (vI v), SH, w)) (v1 : Int32) (v2 : Int32) (v4 : Int32) (s0 : Int32) (s1 : Int32) (σ : St) (v : Int32) (w : St) (h : j_X10_mayKeepOn_98 N K_5 v1 v2 v4 s0 s1 σ = some (v, w)) : Ev md_X10_mayKeepOn 3 98 [some (vR 79), some (vI v1), some (vI v2), none, some (vI v4), none] [vI s1, vI s0] SH σ (some (vI v), SH, w) := by
  unfold j_X10_mayKeepOn_98 at h
  refine Ev.cTi (pc := 98) (av := [vI s1]) (rest := [vI s0]) dX10_mayKeepOn_98 ce_X10_one ml_X10_191 rfl sh_sc (Nat.le_of_ble_eq_true rfl) (Nat.le_of_ble_eq_true rfl) (r_X10_one _ _) ?_
  refine Ev.iadd (pc := 101) dX10_mayKeepOn_101 ?_
  refine Ev.nmI (fun x1 e9 => ?_)
  replace h := bt_app h x1 e9
  refine Ev.istore_n (pc := 102) (lv' := [some (vR 79), some (vI v1), some (vI v2), some (vI x1), some (vI v4), none]) dX10_mayKeepOn_102 rfl (lt9 rfl) rfl rfl ?_
  obtain ⟨x2, e_x2, h⟩ := bt_elim h
  refine Ev.iinc (pc := 103) (v := x2) (lv' := [some (vR 79), some (vI v1), some (vI v2), some (vI x1), some (vI x2), none]) dX10_mayKeepOn_103 rfl (by rw [ki_1, e_x2]) (lt9 rfl) rfl rfl ?_
  refine Ev.goto (pc := 106) (tgt := 5) dX10_mayKeepOn_106 rfl ?_
  exact Ev.weak2 (hK_5 _ _ _ _ _ _ _ h) (lsubS (lsubS (lsubS (lsubS (lsubS (lsubN lsubE))))))
theorem lj_X10_mayKeepOn_97 (N : Nat) (K_5 : Int32 → Int32 → Int32 → Int32 → St → Option (Int32 × St)) (hK_5 : ∀ (v1 : Int32) (v2 : Int32) (v3 : Int32) (v4 : Int32) (σ : St) (v : Int32) (w : St), K_5 v1 v2 v3 v4 σ = some (v, w) → Ev md_X10_mayKeepOn 3 5 [some (vR 79), some (vI v1), some (vI v2), some (vI v3), some (vI v4), none] [] SH σ (some (vI v), SH, w)) (v1 : Int32) (v2 : Int32) (v4 : Int32) (s0 : Int32) (σ : St) (v : Int32) (w : St) (h : j_X10_mayKeepOn_97 N K_5 v1 v2 v4 s0 σ = some (v, w)) : Ev md_X10_mayKeepOn 3 97 [some (vR 79), some (vI v1), some (vI v2), none, some (vI v4), none] [vI s0] SH σ (some (vI v), SH, w) := by
  unfold j_X10_mayKeepOn_97 at h
  refine Ev.iconst (pc := 97) (v := 0) dX10_mayKeepOn_97 ki_0 ?_
  exact Ev.weak2 (lj_X10_mayKeepOn_98 N K_5 hK_5 _ _ _ _ _ _ _ _ h) (lsubS (lsubS (lsubS (lsubN (lsubS (lsubN lsubE))))))
theorem lj_X10_mayKeepOn_60 (N : Nat) (K_5 : Int32 → Int32 → Int32 → Int32 → St → Option (Int32 × St)) (hK_5 : ∀ (v1 : Int32) (v2 : Int32) (v3 : Int32) (v4 : Int32) (σ : St) (v : Int32) (w : St), K_5 v1 v2 v3 v4 σ = some (v, w) → Ev md_X10_mayKeepOn 3 5 [some (vR 79), some (vI v1), some (vI v2), some (vI v3), some (vI v4), none] [] SH σ (some (vI v), SH, w)) (v1 : Int32) (v2 : Int32) (v3 : Int32) (v4 : Int32) (s0 : Int32) (σ : St) (v : Int32) (w : St) (h : j_X10_mayKeepOn_60 N K_5 v1 v2 v3 v4 s0 σ = some (v, w)) : Ev md_X10_mayKeepOn 3 60 [some (vR 79), some (vI v1), some (vI v2), some (vI v3), some (vI v4), none] [vI s0] SH σ (some (vI v), SH, w) := by
  unfold j_X10_mayKeepOn_60 at h
  refine Ev.istore (pc := 60) (lv' := [some (vR 79), some (vI v1), some (vI v2), some (vI v3), some (vI v4), some (vI s0)]) dX10_mayKeepOn_60 (lt9 rfl) rfl rfl ?_
  refine Ev.iload_n (pc := 62) dX10_mayKeepOn_62 rfl rfl ?_
  refine Ev.iload (pc := 63) dX10_mayKeepOn_63 rfl ?_
  by_cases c1 : s0 = 0
  · replace h := (if_pos c1).symm.trans h
    refine Ev.if_eq_t (pc := 65) (tgt := 97) dX10_mayKeepOn_65 rfl c1 ?_
    exact Ev.weak2 (lj_X10_mayKeepOn_97 N K_5 hK_5 _ _ _ _ _ _ _ h) (lsubS (lsubS (lsubS (lsubN (lsubS (lsubN lsubE))))))
  · replace h := (if_neg c1).symm.trans h
    refine Ev.if_eq_f (pc := 65) dX10_mayKeepOn_65 ⟨97, rfl⟩ c1 ?_
    refine Ev.iload_n (pc := 68) dX10_mayKeepOn_68 rfl rfl ?_
    refine Ev.aload_n (pc := 69) dX10_mayKeepOn_69 rfl rfl ?_
    refine Ev.iconst (pc := 70) (v := 0) dX10_mayKeepOn_70 ki_0 ?_
    refine Ev.iload (pc := 71) dX10_mayKeepOn_71 rfl ?_
    obtain ⟨x2, σ3, g4, h⟩ := bd_elim h
    refine Ev.cVi (pc := 73) (k := 79) (av := [vI 0, vI v4]) (rest := [vI v2, vI v3]) dX10_mayKeepOn_73 ce_X10_ripe ml_X10_215 rfl sh_79 cl_X10 sh_sc (Nat.le_of_ble_eq_true rfl) (Nat.le_of_ble_eq_true rfl) (r_X10_ripe g4) ?_
    refine Ev.isub (pc := 76) dX10_mayKeepOn_76 ?_
    refine Ev.i2l (pc := 77) dX10_mayKeepOn_77 ?_
    refine Ev.lconst (pc := 78) (v := 0) dX10_mayKeepOn_78 kL_0 ?_
    refine Ev.aload_n (pc := 79) dX10_mayKeepOn_79 rfl rfl ?_
    refine Ev.getR (pc := 80) dX10_mayKeepOn_80 fl_X10_38 sh_79 rfl ?_
    refine Ev.iload (pc := 83) dX10_mayKeepOn_83 rfl ?_
    obtain ⟨c5, h⟩ := ckA_elim h
    refine Ev.iald (pc := 85) dX10_mayKeepOn_85 sh_89 c5 ?_
    refine Ev.i2l (pc := 86) dX10_mayKeepOn_86 ?_
    refine Ev.cTi (pc := 87) (av := [vL ((v2 - x2).toInt64), vL 0, vL ((σ3 89 v4.toNatClampNeg).toInt64)]) (rest := [vI v3]) dX10_mayKeepOn_87 ce_X10_in ml_X10_89 rfl sh_sc (Nat.le_of_ble_eq_true rfl) (Nat.le_of_ble_eq_true rfl) (r_X10_in _ _ _ _) ?_
    by_cases c6 : (p_X10_in ((v2 - x2).toInt64) 0 ((σ3 89 v4.toNatClampNeg).toInt64) σ3) = 0
    · replace h := (if_pos c6).symm.trans h
      refine Ev.if_eq_t (pc := 90) (tgt := 97) dX10_mayKeepOn_90 rfl c6 ?_
      exact Ev.weak2 (lj_X10_mayKeepOn_97 N K_5 hK_5 _ _ _ _ _ _ _ h) (lsubS (lsubS (lsubS (lsubN (lsubS (lsubN lsubE))))))
    · replace h := (if_neg c6).symm.trans h
      refine Ev.if_eq_f (pc := 90) dX10_mayKeepOn_90 ⟨97, rfl⟩ c6 ?_
      refine Ev.iconst (pc := 93) (v := 1) dX10_mayKeepOn_93 ki_1 ?_
      refine Ev.goto (pc := 94) (tgt := 98) dX10_mayKeepOn_94 rfl ?_
      exact Ev.weak2 (lj_X10_mayKeepOn_98 N K_5 hK_5 _ _ _ _ _ _ _ _ h) (lsubS (lsubS (lsubS (lsubN (lsubS (lsubN lsubE))))))
theorem lj_X10_mayKeepOn_55 (N : Nat) (K_5 : Int32 → Int32 → Int32 → Int32 → St → Option (Int32 × St)) (hK_5 : ∀ (v1 : Int32) (v2 : Int32) (v3 : Int32) (v4 : Int32) (σ : St) (v : Int32) (w : St), K_5 v1 v2 v3 v4 σ = some (v, w) → Ev md_X10_mayKeepOn 3 5 [some (vR 79), some (vI v1), some (vI v2), some (vI v3), some (vI v4), none] [] SH σ (some (vI v), SH, w)) (v1 : Int32) (v2 : Int32) (v3 : Int32) (v4 : Int32) (σ : St) (v : Int32) (w : St) (h : j_X10_mayKeepOn_55 N K_5 v1 v2 v3 v4 σ = some (v, w)) : Ev md_X10_mayKeepOn 3 55 [some (vR 79), some (vI v1), some (vI v2), some (vI v3), some (vI v4), none] [] SH σ (some (vI v), SH, w) := by
  unfold j_X10_mayKeepOn_55 at h
  refine Ev.iconst (pc := 55) (v := 1) dX10_mayKeepOn_55 ki_1 ?_
  refine Ev.goto (pc := 56) (tgt := 60) dX10_mayKeepOn_56 rfl ?_
  exact Ev.weak2 (lj_X10_mayKeepOn_60 N K_5 hK_5 _ _ _ _ _ _ _ _ h) (lsubS (lsubS (lsubS (lsubS (lsubS (lsubN lsubE))))))
theorem lj_X10_mayKeepOn_59 (N : Nat) (K_5 : Int32 → Int32 → Int32 → Int32 → St → Option (Int32 × St)) (hK_5 : ∀ (v1 : Int32) (v2 : Int32) (v3 : Int32) (v4 : Int32) (σ : St) (v : Int32) (w : St), K_5 v1 v2 v3 v4 σ = some (v, w) → Ev md_X10_mayKeepOn 3 5 [some (vR 79), some (vI v1), some (vI v2), some (vI v3), some (vI v4), none] [] SH σ (some (vI v), SH, w)) (v1 : Int32) (v2 : Int32) (v3 : Int32) (v4 : Int32) (σ : St) (v : Int32) (w : St) (h : j_X10_mayKeepOn_59 N K_5 v1 v2 v3 v4 σ = some (v, w)) : Ev md_X10_mayKeepOn 3 59 [some (vR 79), some (vI v1), some (vI v2), some (vI v3), some (vI v4), none] [] SH σ (some (vI v), SH, w) := by
  unfold j_X10_mayKeepOn_59 at h
  refine Ev.iconst (pc := 59) (v := 0) dX10_mayKeepOn_59 ki_0 ?_
  exact Ev.weak2 (lj_X10_mayKeepOn_60 N K_5 hK_5 _ _ _ _ _ _ _ _ h) (lsubS (lsubS (lsubS (lsubS (lsubS (lsubN lsubE))))))
theorem ll_X10_mayKeepOn_5 (N : Nat) : ∀ (n : Nat) (v1 : Int32) (v2 : Int32) (v3 : Int32) (v4 : Int32) (σ : St) (v : Int32) (w : St), l_X10_mayKeepOn_5 N n v1 v2 v3 v4 σ = some (v, w) → Ev md_X10_mayKeepOn 3 5 [some (vR 79), some (vI v1), some (vI v2), some (vI v3), some (vI v4), none] [] SH σ (some (vI v), SH, w) := by
  intro n
  induction n with
  | zero =>
    intro v1 v2 v3 v4 σ v w h
    rw [l_X10_mayKeepOn_5] at h
    cases h
  | succ n ih =>
    intro v1 v2 v3 v4 σ v w h
    rw [l_X10_mayKeepOn_5] at h
    refine Ev.iload (pc := 5) dX10_mayKeepOn_5 rfl ?_
    refine Ev.aload_n (pc := 7) dX10_mayKeepOn_7 rfl rfl ?_
    refine Ev.getI (pc := 8) dX10_mayKeepOn_8 fl_X10_175 sh_79 rfl ?_
    by_cases c1 : (σ 79 5) ≤ v4
    · replace h := (if_pos c1).symm.trans h
      refine Ev.icmp_ge_t (pc := 11) (tgt := 109) dX10_mayKeepOn_11 rfl c1 ?_
      refine Ev.iload_n (pc := 109) dX10_mayKeepOn_109 rfl rfl ?_
      obtain ⟨h1, h2⟩ := oeq h
      subst h1
      subst h2
      exact Ev.ret_i (pc := 110) dX10_mayKeepOn_110 rfl rfl
    · replace h := (if_neg c1).symm.trans h
      refine Ev.icmp_ge_f (pc := 11) dX10_mayKeepOn_11 ⟨109, rfl⟩ c1 ?_
      refine Ev.aload_n (pc := 14) dX10_mayKeepOn_14 rfl rfl ?_
      refine Ev.getR (pc := 15) dX10_mayKeepOn_15 fl_X10_7 sh_79 rfl ?_
      refine Ev.iload (pc := 18) dX10_mayKeepOn_18 rfl ?_
      obtain ⟨c2, h⟩ := ckA_elim h
      refine Ev.iald (pc := 20) dX10_mayKeepOn_20 sh_80 c2 ?_
      by_cases c3 : (σ 80 v4.toNatClampNeg) = 0
      · replace h := (if_pos c3).symm.trans h
        refine Ev.if_ne_f (pc := 21) dX10_mayKeepOn_21 ⟨59, rfl⟩ c3 ?_
        refine Ev.aload_n (pc := 24) dX10_mayKeepOn_24 rfl rfl ?_
        refine Ev.getR (pc := 25) dX10_mayKeepOn_25 fl_X10_7 sh_79 rfl ?_
        refine Ev.bipush (pc := 28) (v := 21) dX10_mayKeepOn_28 kb_21 ?_
        refine Ev.iload (pc := 30) dX10_mayKeepOn_30 rfl ?_
        refine Ev.iadd (pc := 32) dX10_mayKeepOn_32 ?_
        obtain ⟨c4, h⟩ := ckA_elim h
        refine Ev.iald (pc := 33) dX10_mayKeepOn_33 sh_80 c4 ?_
        by_cases c5 : (σ 80 (21 + v4).toNatClampNeg) < 0
        · replace h := (if_pos c5).symm.trans h
          refine Ev.if_lt_t (pc := 34) (tgt := 59) dX10_mayKeepOn_34 rfl c5 ?_
          exact Ev.weak2 (lj_X10_mayKeepOn_59 N (l_X10_mayKeepOn_5 N n) ih _ _ _ _ _ _ _ h) (lsubS (lsubS (lsubS (lsubS (lsubS (lsubN lsubE))))))
        · replace h := (if_neg c5).symm.trans h
          refine Ev.if_lt_f (pc := 34) dX10_mayKeepOn_34 ⟨59, rfl⟩ c5 ?_
          refine Ev.iload_n (pc := 37) dX10_mayKeepOn_37 rfl rfl ?_
          by_cases c6 : v1 < 0
          · replace h := (if_pos c6).symm.trans h
            refine Ev.if_lt_t (pc := 38) (tgt := 55) dX10_mayKeepOn_38 rfl c6 ?_
            exact Ev.weak2 (lj_X10_mayKeepOn_55 N (l_X10_mayKeepOn_5 N n) ih _ _ _ _ _ _ _ h) (lsubS (lsubS (lsubS (lsubS (lsubS (lsubN lsubE))))))
          · replace h := (if_neg c6).symm.trans h
            refine Ev.if_lt_f (pc := 38) dX10_mayKeepOn_38 ⟨55, rfl⟩ c6 ?_
            refine Ev.aload_n (pc := 41) dX10_mayKeepOn_41 rfl rfl ?_
            refine Ev.getR (pc := 42) dX10_mayKeepOn_42 fl_X10_7 sh_79 rfl ?_
            refine Ev.bipush (pc := 45) (v := 14) dX10_mayKeepOn_45 kb_14 ?_
            refine Ev.iload (pc := 47) dX10_mayKeepOn_47 rfl ?_
            refine Ev.iadd (pc := 49) dX10_mayKeepOn_49 ?_
            obtain ⟨c7, h⟩ := ckA_elim h
            refine Ev.iald (pc := 50) dX10_mayKeepOn_50 sh_80 c7 ?_
            refine Ev.iload_n (pc := 51) dX10_mayKeepOn_51 rfl rfl ?_
            by_cases c8 : (σ 80 (14 + v4).toNatClampNeg) = v1
            · replace h := (if_pos c8).symm.trans h
              refine Ev.icmp_ne_f (pc := 52) dX10_mayKeepOn_52 ⟨59, rfl⟩ c8 ?_
              exact Ev.weak2 (lj_X10_mayKeepOn_55 N (l_X10_mayKeepOn_5 N n) ih _ _ _ _ _ _ _ h) (lsubS (lsubS (lsubS (lsubS (lsubS (lsubN lsubE))))))
            · replace h := (if_neg c8).symm.trans h
              refine Ev.icmp_ne_t (pc := 52) (tgt := 59) dX10_mayKeepOn_52 rfl c8 ?_
              exact Ev.weak2 (lj_X10_mayKeepOn_59 N (l_X10_mayKeepOn_5 N n) ih _ _ _ _ _ _ _ h) (lsubS (lsubS (lsubS (lsubS (lsubS (lsubN lsubE))))))
      · replace h := (if_neg c3).symm.trans h
        refine Ev.if_ne_t (pc := 21) (tgt := 59) dX10_mayKeepOn_21 rfl c3 ?_
        exact Ev.weak2 (lj_X10_mayKeepOn_59 N (l_X10_mayKeepOn_5 N n) ih _ _ _ _ _ _ _ h) (lsubS (lsubS (lsubS (lsubS (lsubS (lsubN lsubE))))))
theorem e_X10_mayKeepOn (N : Nat) (a1 : Int32) (a2 : Int32) (σ : St) (v : Int32) (w : St) (h : o_X10_mayKeepOn N a1 a2 σ = some (v, w)) : Ev md_X10_mayKeepOn 3 0 (lvE [vR 79, vI a1, vI a2] 6) [] SH σ (some (vI v), SH, w) := by
  show Ev md_X10_mayKeepOn 3 0 [some (vR 79), some (vI a1), some (vI a2), none, none, none] [] SH σ (some (vI v), SH, w)
  unfold o_X10_mayKeepOn at h
  refine Ev.iconst (pc := 0) (v := 0) dX10_mayKeepOn_0 ki_0 ?_
  refine Ev.istore_n (pc := 1) (lv' := [some (vR 79), some (vI a1), some (vI a2), some (vI 0), none, none]) dX10_mayKeepOn_1 rfl (lt9 rfl) rfl rfl ?_
  refine Ev.iconst (pc := 2) (v := 0) dX10_mayKeepOn_2 ki_0 ?_
  refine Ev.istore (pc := 3) (lv' := [some (vR 79), some (vI a1), some (vI a2), some (vI 0), some (vI 0), none]) dX10_mayKeepOn_3 (lt9 rfl) rfl rfl ?_
  exact Ev.weak2 (ll_X10_mayKeepOn_5 N N _ _ _ _ _ _ _ h) (lsubS (lsubS (lsubS (lsubS (lsubS (lsubN lsubE))))))
theorem r_X10_mayKeepOn {N : Nat} {a1 : Int32} {a2 : Int32} {σ : St} {v : Int32} {w : St} (h : o_X10_mayKeepOn N a1 a2 σ = some (v, w)) : Rn md_X10_mayKeepOn 3 [vR 79, vI a1, vI a2] SH σ (some (vI v), SH, w) := Rn.of ce_X10_mayKeepOn.1 (Nat.le_of_ble_eq_true rfl) (e_X10_mayKeepOn N _ _ _ _ _ h)
def o_X10_calendar (N : Nat) (a1 : Int32) (a2 : Int32) (σ : St) : Option (Int32 × St) := bd (o_X10_isKeeper N a1 σ) fun x1 σ2 => if x1 = 0 then (some ((-1000000001), σ2)) else (if (p_X10_in a2.toInt64 0 9999 σ2) = 0 then (some ((-1000000002), σ2)) else (bd (o_X10_mayKeepOn N a1 a2 σ2) fun x6 σ7 => some (x6, σ7)))
theorem e_X10_calendar (N : Nat) (a1 : Int32) (a2 : Int32) (σ : St) (v : Int32) (w : St) (h : o_X10_calendar N a1 a2 σ = some (v, w)) : Ev md_X10_calendar 4 0 (lvE [vR 79, vI a1, vI a2] 3) [] SH σ (some (vI v), SH, w) := by
  show Ev md_X10_calendar 4 0 [some (vR 79), some (vI a1), some (vI a2)] [] SH σ (some (vI v), SH, w)
  unfold o_X10_calendar at h
  refine Ev.aload_n (pc := 0) dX10_calendar_0 rfl rfl ?_
  refine Ev.iload_n (pc := 1) dX10_calendar_1 rfl rfl ?_
  obtain ⟨x1, σ2, g3, h⟩ := bd_elim h
  refine Ev.cVi (pc := 2) (k := 79) (av := [vI a1]) (rest := []) dX10_calendar_2 ce_X10_isKeeper ml_X10_206 rfl sh_79 cl_X10 sh_sc (Nat.le_of_ble_eq_true rfl) (Nat.le_of_ble_eq_true rfl) (r_X10_isKeeper g3) ?_
  by_cases c4 : x1 = 0
  · replace h := (if_pos c4).symm.trans h
    refine Ev.if_ne_f (pc := 5) dX10_calendar_5 ⟨13, rfl⟩ c4 ?_
    refine Ev.ldc (pc := 8) dX10_calendar_8 kc_X10_205 ?_
    refine Ev.goto (pc := 10) (tgt := 36) dX10_calendar_10 rfl ?_
    obtain ⟨h1, h2⟩ := oeq h
    subst h1
    subst h2
    exact Ev.ret_i (pc := 36) dX10_calendar_36 rfl rfl
  · replace h := (if_neg c4).symm.trans h
    refine Ev.if_ne_t (pc := 5) (tgt := 13) dX10_calendar_5 rfl c4 ?_
    refine Ev.iload_n (pc := 13) dX10_calendar_13 rfl rfl ?_
    refine Ev.i2l (pc := 14) dX10_calendar_14 ?_
    refine Ev.lconst (pc := 15) (v := 0) dX10_calendar_15 kL_0 ?_
    refine Ev.ldc2 (pc := 16) dX10_calendar_16 kl_X10_331 ?_
    refine Ev.cTi (pc := 19) (av := [vL a2.toInt64, vL 0, vL 9999]) (rest := []) dX10_calendar_19 ce_X10_in ml_X10_89 rfl sh_sc (Nat.le_of_ble_eq_true rfl) (Nat.le_of_ble_eq_true rfl) (r_X10_in _ _ _ _) ?_
    by_cases c5 : (p_X10_in a2.toInt64 0 9999 σ2) = 0
    · replace h := (if_pos c5).symm.trans h
      refine Ev.if_eq_t (pc := 22) (tgt := 34) dX10_calendar_22 rfl c5 ?_
      refine Ev.ldc (pc := 34) dX10_calendar_34 kc_X10_93 ?_
      obtain ⟨h1, h2⟩ := oeq h
      subst h1
      subst h2
      exact Ev.ret_i (pc := 36) dX10_calendar_36 rfl rfl
    · replace h := (if_neg c5).symm.trans h
      refine Ev.if_eq_f (pc := 22) dX10_calendar_22 ⟨34, rfl⟩ c5 ?_
      refine Ev.aload_n (pc := 25) dX10_calendar_25 rfl rfl ?_
      refine Ev.iload_n (pc := 26) dX10_calendar_26 rfl rfl ?_
      refine Ev.iload_n (pc := 27) dX10_calendar_27 rfl rfl ?_
      obtain ⟨x6, σ7, g8, h⟩ := bd_elim h
      refine Ev.cVi (pc := 28) (k := 79) (av := [vI a1, vI a2]) (rest := []) dX10_calendar_28 ce_X10_mayKeepOn ml_X10_333 rfl sh_79 cl_X10 sh_sc (Nat.le_of_ble_eq_true rfl) (Nat.le_of_ble_eq_true rfl) (r_X10_mayKeepOn g8) ?_
      refine Ev.goto (pc := 31) (tgt := 36) dX10_calendar_31 rfl ?_
      obtain ⟨h1, h2⟩ := oeq h
      subst h1
      subst h2
      exact Ev.ret_i (pc := 36) dX10_calendar_36 rfl rfl
theorem r_X10_calendar {N : Nat} {a1 : Int32} {a2 : Int32} {σ : St} {v : Int32} {w : St} (h : o_X10_calendar N a1 a2 σ = some (v, w)) : Rn md_X10_calendar 4 [vR 79, vI a1, vI a2] SH σ (some (vI v), SH, w) := Rn.of ce_X10_calendar.1 (Nat.le_of_ble_eq_true rfl) (e_X10_calendar N _ _ _ _ _ h)
def l_X9_dueOfAll_4 (N : Nat) : Nat → Int32 → Int32 → Int32 → St → Option (Int32 × St)
  | 0, _, _, _, _ => none
  | n + 1, v1, v2, v3, σ => if (σ 1 2) ≤ v3 then (some (v2, σ)) else (bd (o_X1_dueOn N v3 v1 σ) fun x2 σ3 => bt (v2 + x2) fun x5 => bt (v3 + 1) fun x6 => l_X9_dueOfAll_4 N n v1 x5 x6 σ3)
def o_X9_dueOfAll (N : Nat) (a1 : Int32) (σ : St) : Option (Int32 × St) := l_X9_dueOfAll_4 N N a1 0 0 σ
theorem ll_X9_dueOfAll_4 (N : Nat) : ∀ (n : Nat) (v1 : Int32) (v2 : Int32) (v3 : Int32) (σ : St) (v : Int32) (w : St), l_X9_dueOfAll_4 N n v1 v2 v3 σ = some (v, w) → Ev md_X9_dueOfAll 5 4 [some (vR 0), some (vI v1), some (vI v2), some (vI v3)] [] SH σ (some (vI v), SH, w) := by
  intro n
  induction n with
  | zero =>
    intro v1 v2 v3 σ v w h
    rw [l_X9_dueOfAll_4] at h
    cases h
  | succ n ih =>
    intro v1 v2 v3 σ v w h
    rw [l_X9_dueOfAll_4] at h
    refine Ev.iload_n (pc := 4) dX9_dueOfAll_4 rfl rfl ?_
    refine Ev.aload_n (pc := 5) dX9_dueOfAll_5 rfl rfl ?_
    refine Ev.getR (pc := 6) dX9_dueOfAll_6 fl_X9_10 sh_0 rfl ?_
    refine Ev.getI (pc := 9) dX9_dueOfAll_9 fl_X9_116 sh_1 rfl ?_
    by_cases c1 : (σ 1 2) ≤ v3
    · replace h := (if_pos c1).symm.trans h
      refine Ev.icmp_ge_t (pc := 12) (tgt := 33) dX9_dueOfAll_12 rfl c1 ?_
      refine Ev.iload_n (pc := 33) dX9_dueOfAll_33 rfl rfl ?_
      obtain ⟨h1, h2⟩ := oeq h
      subst h1
      subst h2
      exact Ev.ret_i (pc := 34) dX9_dueOfAll_34 rfl rfl
    · replace h := (if_neg c1).symm.trans h
      refine Ev.icmp_ge_f (pc := 12) dX9_dueOfAll_12 ⟨33, rfl⟩ c1 ?_
      refine Ev.iload_n (pc := 15) dX9_dueOfAll_15 rfl rfl ?_
      refine Ev.aload_n (pc := 16) dX9_dueOfAll_16 rfl rfl ?_
      refine Ev.getR (pc := 17) dX9_dueOfAll_17 fl_X9_31 sh_0 rfl ?_
      refine Ev.iload_n (pc := 20) dX9_dueOfAll_20 rfl rfl ?_
      refine Ev.iload_n (pc := 21) dX9_dueOfAll_21 rfl rfl ?_
      obtain ⟨x2, σ3, g4, h⟩ := bd_elim h
      refine Ev.cVi (pc := 22) (k := 23) (av := [vI v3, vI v1]) (rest := [vI v2]) dX9_dueOfAll_22 ce_X1_dueOn ml_X9_279 rfl sh_23 cl_X1 sh_sc (Nat.le_of_ble_eq_true rfl) (Nat.le_of_ble_eq_true rfl) (r_X1_dueOn g4) ?_
      refine Ev.iadd (pc := 25) dX9_dueOfAll_25 ?_
      refine Ev.nmI (fun x5 e9 => ?_)
      replace h := bt_app h x5 e9
      refine Ev.istore_n (pc := 26) (lv' := [some (vR 0), some (vI v1), some (vI x5), some (vI v3)]) dX9_dueOfAll_26 rfl (lt9 rfl) rfl rfl ?_
      obtain ⟨x6, e_x6, h⟩ := bt_elim h
      refine Ev.iinc (pc := 27) (v := x6) (lv' := [some (vR 0), some (vI v1), some (vI x5), some (vI x6)]) dX9_dueOfAll_27 rfl (by rw [ki_1, e_x6]) (lt9 rfl) rfl rfl ?_
      refine Ev.goto (pc := 30) (tgt := 4) dX9_dueOfAll_30 rfl ?_
      exact Ev.weak2 (ih _ _ _ _ _ _ h) (lsubS (lsubS (lsubS (lsubS lsubE))))
theorem e_X9_dueOfAll (N : Nat) (a1 : Int32) (σ : St) (v : Int32) (w : St) (h : o_X9_dueOfAll N a1 σ = some (v, w)) : Ev md_X9_dueOfAll 5 0 (lvE [vR 0, vI a1] 4) [] SH σ (some (vI v), SH, w) := by
  show Ev md_X9_dueOfAll 5 0 [some (vR 0), some (vI a1), none, none] [] SH σ (some (vI v), SH, w)
  unfold o_X9_dueOfAll at h
  refine Ev.iconst (pc := 0) (v := 0) dX9_dueOfAll_0 ki_0 ?_
  refine Ev.istore_n (pc := 1) (lv' := [some (vR 0), some (vI a1), some (vI 0), none]) dX9_dueOfAll_1 rfl (lt9 rfl) rfl rfl ?_
  refine Ev.iconst (pc := 2) (v := 0) dX9_dueOfAll_2 ki_0 ?_
  refine Ev.istore_n (pc := 3) (lv' := [some (vR 0), some (vI a1), some (vI 0), some (vI 0)]) dX9_dueOfAll_3 rfl (lt9 rfl) rfl rfl ?_
  exact Ev.weak2 (ll_X9_dueOfAll_4 N N _ _ _ _ _ _ h) (lsubS (lsubS (lsubS (lsubS lsubE))))
theorem r_X9_dueOfAll {N : Nat} {a1 : Int32} {σ : St} {v : Int32} {w : St} (h : o_X9_dueOfAll N a1 σ = some (v, w)) : Rn md_X9_dueOfAll 5 [vR 0, vI a1] SH σ (some (vI v), SH, w) := Rn.of ce_X9_dueOfAll.1 (Nat.le_of_ble_eq_true rfl) (e_X9_dueOfAll N _ _ _ _ h)
def j_X9_busiest_82 (N : Nat) (K_38 : Int32 → Int32 → Int32 → Int32 → St → Option (Int32 × St)) (v1 : Int32) (v2 : Int32) (v3 : Int32) (v4 : Int32) (σ : St) : Option (Int32 × St) := bt (v4 + 1) fun x1 => K_38 v1 v2 v3 x1 σ
def l_X9_busiest_38 (N : Nat) : Nat → Int32 → Int32 → Int32 → Int32 → St → Option (Int32 × St)
  | 0, _, _, _, _, _ => none
  | n + 1, v1, v2, v3, v4, σ => if (200 : Int32) ≤ v4 then (if v1 = 0 then (some (v3, σ)) else (some (v2, σ))) else (bd (o_X9_dueOfAll N ((p_X1_today_23 σ) + v4) σ) fun x3 σ4 => if x3 ≤ v2 then (j_X9_busiest_82 N (l_X9_busiest_38 N n) v1 v2 v3 v4 σ4) else (bt ((p_X1_today_23 σ4) + v4) fun x7 => j_X9_busiest_82 N (l_X9_busiest_38 N n) v1 x3 x7 v4 σ4))
def o_X9_busiest (N : Nat) (a1 : Int32) (σ : St) : Option (Int32 × St) := if a1 < 0 then (some ((-1000000002), σ)) else (if a1 ≤ 1 then (if (σ 1 0) = 0 then (some ((-1000000003), σ)) else (bt (p_X1_today_23 σ) fun x4 => l_X9_busiest_38 N N a1 0 x4 0 σ)) else (some ((-1000000002), σ)))
theorem lj_X9_busiest_82 (N : Nat) (K_38 : Int32 → Int32 → Int32 → Int32 → St → Option (Int32 × St)) (hK_38 : ∀ (v1 : Int32) (v2 : Int32) (v3 : Int32) (v4 : Int32) (σ : St) (v : Int32) (w : St), K_38 v1 v2 v3 v4 σ = some (v, w) → Ev md_X9_busiest 6 38 [some (vR 0), some (vI v1), some (vI v2), some (vI v3), some (vI v4), none] [] SH σ (some (vI v), SH, w)) (v1 : Int32) (v2 : Int32) (v3 : Int32) (v4 : Int32) (σ : St) (v : Int32) (w : St) (h : j_X9_busiest_82 N K_38 v1 v2 v3 v4 σ = some (v, w)) : Ev md_X9_busiest 6 82 [some (vR 0), some (vI v1), some (vI v2), some (vI v3), some (vI v4), none] [] SH σ (some (vI v), SH, w) := by
  unfold j_X9_busiest_82 at h
  obtain ⟨x1, e_x1, h⟩ := bt_elim h
  refine Ev.iinc (pc := 82) (v := x1) (lv' := [some (vR 0), some (vI v1), some (vI v2), some (vI v3), some (vI x1), none]) dX9_busiest_82 rfl (by rw [ki_1, e_x1]) (lt9 rfl) rfl rfl ?_
  refine Ev.goto (pc := 85) (tgt := 38) dX9_busiest_85 rfl ?_
  exact Ev.weak2 (hK_38 _ _ _ _ _ _ _ h) (lsubS (lsubS (lsubS (lsubS (lsubS (lsubN lsubE))))))
theorem ll_X9_busiest_38 (N : Nat) : ∀ (n : Nat) (v1 : Int32) (v2 : Int32) (v3 : Int32) (v4 : Int32) (σ : St) (v : Int32) (w : St), l_X9_busiest_38 N n v1 v2 v3 v4 σ = some (v, w) → Ev md_X9_busiest 6 38 [some (vR 0), some (vI v1), some (vI v2), some (vI v3), some (vI v4), none] [] SH σ (some (vI v), SH, w) := by
  intro n
  induction n with
  | zero =>
    intro v1 v2 v3 v4 σ v w h
    rw [l_X9_busiest_38] at h
    cases h
  | succ n ih =>
    intro v1 v2 v3 v4 σ v w h
    rw [l_X9_busiest_38] at h
    refine Ev.iload (pc := 38) dX9_busiest_38 rfl ?_
    refine Ev.sipush (pc := 40) (v := 200) dX9_busiest_40 ks_200 ?_
    by_cases c1 : (200 : Int32) ≤ v4
    · replace h := (if_pos c1).symm.trans h
      refine Ev.icmp_ge_t (pc := 43) (tgt := 88) dX9_busiest_43 rfl c1 ?_
      refine Ev.iload_n (pc := 88) dX9_busiest_88 rfl rfl ?_
      by_cases c2 : v1 = 0
      · replace h := (if_pos c2).symm.trans h
        refine Ev.if_ne_f (pc := 89) dX9_busiest_89 ⟨96, rfl⟩ c2 ?_
        refine Ev.iload_n (pc := 92) dX9_busiest_92 rfl rfl ?_
        refine Ev.goto (pc := 93) (tgt := 97) dX9_busiest_93 rfl ?_
        obtain ⟨h1, h2⟩ := oeq h
        subst h1
        subst h2
        exact Ev.ret_i (pc := 97) dX9_busiest_97 rfl rfl
      · replace h := (if_neg c2).symm.trans h
        refine Ev.if_ne_t (pc := 89) (tgt := 96) dX9_busiest_89 rfl c2 ?_
        refine Ev.iload_n (pc := 96) dX9_busiest_96 rfl rfl ?_
        obtain ⟨h1, h2⟩ := oeq h
        subst h1
        subst h2
        exact Ev.ret_i (pc := 97) dX9_busiest_97 rfl rfl
    · replace h := (if_neg c1).symm.trans h
      refine Ev.icmp_ge_f (pc := 43) dX9_busiest_43 ⟨88, rfl⟩ c1 ?_
      refine Ev.aload_n (pc := 46) dX9_busiest_46 rfl rfl ?_
      refine Ev.aload_n (pc := 47) dX9_busiest_47 rfl rfl ?_
      refine Ev.getR (pc := 48) dX9_busiest_48 fl_X9_31 sh_0 rfl ?_
      refine Ev.cVi (pc := 51) (k := 23) (av := []) (rest := [vR 0]) dX9_busiest_51 ce_X1_today ml_X9_125 rfl sh_23 cl_X1 sh_sc (Nat.le_of_ble_eq_true rfl) (Nat.le_of_ble_eq_true rfl) (r_X1_today_23  _) ?_
      refine Ev.iload (pc := 54) dX9_busiest_54 rfl ?_
      refine Ev.iadd (pc := 56) dX9_busiest_56 ?_
      obtain ⟨x3, σ4, g5, h⟩ := bd_elim h
      refine Ev.cVi (pc := 57) (k := 0) (av := [vI ((p_X1_today_23 σ) + v4)]) (rest := []) dX9_busiest_57 ce_X9_dueOfAll ml_X9_282 rfl sh_0 cl_X9 sh_sc (Nat.le_of_ble_eq_true rfl) (Nat.le_of_ble_eq_true rfl) (r_X9_dueOfAll g5) ?_
      refine Ev.istore (pc := 60) (lv' := [some (vR 0), some (vI v1), some (vI v2), some (vI v3), some (vI v4), some (vI x3)]) dX9_busiest_60 (lt9 rfl) rfl rfl ?_
      refine Ev.iload (pc := 62) dX9_busiest_62 rfl ?_
      refine Ev.iload_n (pc := 64) dX9_busiest_64 rfl rfl ?_
      by_cases c6 : x3 ≤ v2
      · replace h := (if_pos c6).symm.trans h
        refine Ev.icmp_le_t (pc := 65) (tgt := 82) dX9_busiest_65 rfl c6 ?_
        exact Ev.weak2 (lj_X9_busiest_82 N (l_X9_busiest_38 N n) ih _ _ _ _ _ _ _ h) (lsubS (lsubS (lsubS (lsubS (lsubS (lsubN lsubE))))))
      · replace h := (if_neg c6).symm.trans h
        refine Ev.icmp_le_f (pc := 65) dX9_busiest_65 ⟨82, rfl⟩ c6 ?_
        refine Ev.iload (pc := 68) dX9_busiest_68 rfl ?_
        refine Ev.istore_n (pc := 70) (lv' := [some (vR 0), some (vI v1), some (vI x3), some (vI v3), some (vI v4), some (vI x3)]) dX9_busiest_70 rfl (lt9 rfl) rfl rfl ?_
        refine Ev.aload_n (pc := 71) dX9_busiest_71 rfl rfl ?_
        refine Ev.getR (pc := 72) dX9_busiest_72 fl_X9_31 sh_0 rfl ?_
        refine Ev.cVi (pc := 75) (k := 23) (av := []) (rest := []) dX9_busiest_75 ce_X1_today ml_X9_125 rfl sh_23 cl_X1 sh_sc (Nat.le_of_ble_eq_true rfl) (Nat.le_of_ble_eq_true rfl) (r_X1_today_23  _) ?_
        refine Ev.iload (pc := 78) dX9_busiest_78 rfl ?_
        refine Ev.iadd (pc := 80) dX9_busiest_80 ?_
        refine Ev.nmI (fun x7 e9 => ?_)
        replace h := bt_app h x7 e9
        refine Ev.istore_n (pc := 81) (lv' := [some (vR 0), some (vI v1), some (vI x3), some (vI x7), some (vI v4), some (vI x3)]) dX9_busiest_81 rfl (lt9 rfl) rfl rfl ?_
        exact Ev.weak2 (lj_X9_busiest_82 N (l_X9_busiest_38 N n) ih _ _ _ _ _ _ _ h) (lsubS (lsubS (lsubS (lsubS (lsubS (lsubN lsubE))))))
theorem e_X9_busiest (N : Nat) (a1 : Int32) (σ : St) (v : Int32) (w : St) (h : o_X9_busiest N a1 σ = some (v, w)) : Ev md_X9_busiest 6 0 (lvE [vR 0, vI a1] 6) [] SH σ (some (vI v), SH, w) := by
  show Ev md_X9_busiest 6 0 [some (vR 0), some (vI a1), none, none, none, none] [] SH σ (some (vI v), SH, w)
  unfold o_X9_busiest at h
  refine Ev.iload_n (pc := 0) dX9_busiest_0 rfl rfl ?_
  by_cases c1 : a1 < 0
  · replace h := (if_pos c1).symm.trans h
    refine Ev.if_lt_t (pc := 1) (tgt := 9) dX9_busiest_1 rfl c1 ?_
    refine Ev.ldc (pc := 9) dX9_busiest_9 kc_X9_81 ?_
    obtain ⟨h1, h2⟩ := oeq h
    subst h1
    subst h2
    exact Ev.ret_i (pc := 11) dX9_busiest_11 rfl rfl
  · replace h := (if_neg c1).symm.trans h
    refine Ev.if_lt_f (pc := 1) dX9_busiest_1 ⟨9, rfl⟩ c1 ?_
    refine Ev.iload_n (pc := 4) dX9_busiest_4 rfl rfl ?_
    refine Ev.iconst (pc := 5) (v := 1) dX9_busiest_5 ki_1 ?_
    by_cases c2 : a1 ≤ 1
    · replace h := (if_pos c2).symm.trans h
      refine Ev.icmp_le_t (pc := 6) (tgt := 12) dX9_busiest_6 rfl c2 ?_
      refine Ev.aload_n (pc := 12) dX9_busiest_12 rfl rfl ?_
      refine Ev.getR (pc := 13) dX9_busiest_13 fl_X9_10 sh_0 rfl ?_
      refine Ev.getI (pc := 16) dX9_busiest_16 fl_X9_106 sh_1 rfl ?_
      by_cases c3 : (σ 1 0) = 0
      · replace h := (if_pos c3).symm.trans h
        refine Ev.if_ne_f (pc := 19) dX9_busiest_19 ⟨25, rfl⟩ c3 ?_
        refine Ev.ldc (pc := 22) dX9_busiest_22 kc_X9_207 ?_
        obtain ⟨h1, h2⟩ := oeq h
        subst h1
        subst h2
        exact Ev.ret_i (pc := 24) dX9_busiest_24 rfl rfl
      · replace h := (if_neg c3).symm.trans h
        refine Ev.if_ne_t (pc := 19) (tgt := 25) dX9_busiest_19 rfl c3 ?_
        refine Ev.iconst (pc := 25) (v := 0) dX9_busiest_25 ki_0 ?_
        refine Ev.istore_n (pc := 26) (lv' := [some (vR 0), some (vI a1), some (vI 0), none, none, none]) dX9_busiest_26 rfl (lt9 rfl) rfl rfl ?_
        refine Ev.aload_n (pc := 27) dX9_busiest_27 rfl rfl ?_
        refine Ev.getR (pc := 28) dX9_busiest_28 fl_X9_31 sh_0 rfl ?_
        refine Ev.cVi (pc := 31) (k := 23) (av := []) (rest := []) dX9_busiest_31 ce_X1_today ml_X9_125 rfl sh_23 cl_X1 sh_sc (Nat.le_of_ble_eq_true rfl) (Nat.le_of_ble_eq_true rfl) (r_X1_today_23  _) ?_
        refine Ev.nmI (fun x4 e9 => ?_)
        replace h := bt_app h x4 e9
        refine Ev.istore_n (pc := 34) (lv' := [some (vR 0), some (vI a1), some (vI 0), some (vI x4), none, none]) dX9_busiest_34 rfl (lt9 rfl) rfl rfl ?_
        refine Ev.iconst (pc := 35) (v := 0) dX9_busiest_35 ki_0 ?_
        refine Ev.istore (pc := 36) (lv' := [some (vR 0), some (vI a1), some (vI 0), some (vI x4), some (vI 0), none]) dX9_busiest_36 (lt9 rfl) rfl rfl ?_
        exact Ev.weak2 (ll_X9_busiest_38 N N _ _ _ _ _ _ _ h) (lsubS (lsubS (lsubS (lsubS (lsubS (lsubN lsubE))))))
    · replace h := (if_neg c2).symm.trans h
      refine Ev.icmp_le_f (pc := 6) dX9_busiest_6 ⟨12, rfl⟩ c2 ?_
      refine Ev.ldc (pc := 9) dX9_busiest_9 kc_X9_81 ?_
      obtain ⟨h1, h2⟩ := oeq h
      subst h1
      subst h2
      exact Ev.ret_i (pc := 11) dX9_busiest_11 rfl rfl
theorem r_X9_busiest {N : Nat} {a1 : Int32} {σ : St} {v : Int32} {w : St} (h : o_X9_busiest N a1 σ = some (v, w)) : Rn md_X9_busiest 6 [vR 0, vI a1] SH σ (some (vI v), SH, w) := Rn.of ce_X9_busiest.1 (Nat.le_of_ble_eq_true rfl) (e_X9_busiest N _ _ _ _ h)
def j_X10_busiest_75 (N : Nat) (K_30 : Int32 → Int32 → Int32 → Int32 → St → Option (Int32 × St)) (v1 : Int32) (v2 : Int32) (v3 : Int32) (v4 : Int32) (σ : St) : Option (Int32 × St) := bt (v4 + 1) fun x1 => K_30 v1 v2 v3 x1 σ
def l_X10_busiest_30 (N : Nat) : Nat → Int32 → Int32 → Int32 → Int32 → St → Option (Int32 × St)
  | 0, _, _, _, _, _ => none
  | n + 1, v1, v2, v3, v4, σ => if (200 : Int32) ≤ v4 then (if v1 = 0 then (some (v2, σ)) else (some (v3, σ))) else (bd (o_X10_mayKeepOn N (-1) ((σ 80 (37 : Int32).toNatClampNeg) + v4) σ) fun x3 σ4 => if x3 ≤ v3 then (j_X10_busiest_75 N (l_X10_busiest_30 N n) v1 v2 v3 v4 σ4) else (bt ((σ4 80 (37 : Int32).toNatClampNeg) + v4) fun x7 => j_X10_busiest_75 N (l_X10_busiest_30 N n) v1 x7 x3 v4 σ4))
def o_X10_busiest (N : Nat) (a1 : Int32) (σ : St) : Option (Int32 × St) := if (p_X10_in a1.toInt64 0 1 σ) = 0 then (some ((-1000000002), σ)) else (if (σ 79 2) = 0 then (some ((-1000000003), σ)) else (l_X10_busiest_30 N N a1 0 (-1) 0 σ))
theorem lj_X10_busiest_75 (N : Nat) (K_30 : Int32 → Int32 → Int32 → Int32 → St → Option (Int32 × St)) (hK_30 : ∀ (v1 : Int32) (v2 : Int32) (v3 : Int32) (v4 : Int32) (σ : St) (v : Int32) (w : St), K_30 v1 v2 v3 v4 σ = some (v, w) → Ev md_X10_busiest 4 30 [some (vR 79), some (vI v1), some (vI v2), some (vI v3), some (vI v4), none] [] SH σ (some (vI v), SH, w)) (v1 : Int32) (v2 : Int32) (v3 : Int32) (v4 : Int32) (σ : St) (v : Int32) (w : St) (h : j_X10_busiest_75 N K_30 v1 v2 v3 v4 σ = some (v, w)) : Ev md_X10_busiest 4 75 [some (vR 79), some (vI v1), some (vI v2), some (vI v3), some (vI v4), none] [] SH σ (some (vI v), SH, w) := by
  unfold j_X10_busiest_75 at h
  obtain ⟨x1, e_x1, h⟩ := bt_elim h
  refine Ev.iinc (pc := 75) (v := x1) (lv' := [some (vR 79), some (vI v1), some (vI v2), some (vI v3), some (vI x1), none]) dX10_busiest_75 rfl (by rw [ki_1, e_x1]) (lt9 rfl) rfl rfl ?_
  refine Ev.goto (pc := 78) (tgt := 30) dX10_busiest_78 rfl ?_
  exact Ev.weak2 (hK_30 _ _ _ _ _ _ _ h) (lsubS (lsubS (lsubS (lsubS (lsubS (lsubN lsubE))))))
theorem ll_X10_busiest_30 (N : Nat) : ∀ (n : Nat) (v1 : Int32) (v2 : Int32) (v3 : Int32) (v4 : Int32) (σ : St) (v : Int32) (w : St), l_X10_busiest_30 N n v1 v2 v3 v4 σ = some (v, w) → Ev md_X10_busiest 4 30 [some (vR 79), some (vI v1), some (vI v2), some (vI v3), some (vI v4), none] [] SH σ (some (vI v), SH, w) := by
  intro n
  induction n with
  | zero =>
    intro v1 v2 v3 v4 σ v w h
    rw [l_X10_busiest_30] at h
    cases h
  | succ n ih =>
    intro v1 v2 v3 v4 σ v w h
    rw [l_X10_busiest_30] at h
    refine Ev.iload (pc := 30) dX10_busiest_30 rfl ?_
    refine Ev.sipush (pc := 32) (v := 200) dX10_busiest_32 ks_200 ?_
    by_cases c1 : (200 : Int32) ≤ v4
    · replace h := (if_pos c1).symm.trans h
      refine Ev.icmp_ge_t (pc := 35) (tgt := 81) dX10_busiest_35 rfl c1 ?_
      refine Ev.iload_n (pc := 81) dX10_busiest_81 rfl rfl ?_
      by_cases c2 : v1 = 0
      · replace h := (if_pos c2).symm.trans h
        refine Ev.if_ne_f (pc := 82) dX10_busiest_82 ⟨89, rfl⟩ c2 ?_
        refine Ev.iload_n (pc := 85) dX10_busiest_85 rfl rfl ?_
        refine Ev.goto (pc := 86) (tgt := 90) dX10_busiest_86 rfl ?_
        obtain ⟨h1, h2⟩ := oeq h
        subst h1
        subst h2
        exact Ev.ret_i (pc := 90) dX10_busiest_90 rfl rfl
      · replace h := (if_neg c2).symm.trans h
        refine Ev.if_ne_t (pc := 82) (tgt := 89) dX10_busiest_82 rfl c2 ?_
        refine Ev.iload_n (pc := 89) dX10_busiest_89 rfl rfl ?_
        obtain ⟨h1, h2⟩ := oeq h
        subst h1
        subst h2
        exact Ev.ret_i (pc := 90) dX10_busiest_90 rfl rfl
    · replace h := (if_neg c1).symm.trans h
      refine Ev.icmp_ge_f (pc := 35) dX10_busiest_35 ⟨81, rfl⟩ c1 ?_
      refine Ev.aload_n (pc := 38) dX10_busiest_38 rfl rfl ?_
      refine Ev.iconst (pc := 39) (v := (-1)) dX10_busiest_39 ki_m1 ?_
      refine Ev.aload_n (pc := 40) dX10_busiest_40 rfl rfl ?_
      refine Ev.getR (pc := 41) dX10_busiest_41 fl_X10_7 sh_79 rfl ?_
      refine Ev.bipush (pc := 44) (v := 37) dX10_busiest_44 kb_37 ?_
      refine Ev.iald (pc := 46) dX10_busiest_46 sh_80 in_37_1360 ?_
      refine Ev.iload (pc := 47) dX10_busiest_47 rfl ?_
      refine Ev.iadd (pc := 49) dX10_busiest_49 ?_
      obtain ⟨x3, σ4, g5, h⟩ := bd_elim h
      refine Ev.cVi (pc := 50) (k := 79) (av := [vI (-1), vI ((σ 80 (37 : Int32).toNatClampNeg) + v4)]) (rest := []) dX10_busiest_50 ce_X10_mayKeepOn ml_X10_333 rfl sh_79 cl_X10 sh_sc (Nat.le_of_ble_eq_true rfl) (Nat.le_of_ble_eq_true rfl) (r_X10_mayKeepOn g5) ?_
      refine Ev.istore (pc := 53) (lv' := [some (vR 79), some (vI v1), some (vI v2), some (vI v3), some (vI v4), some (vI x3)]) dX10_busiest_53 (lt9 rfl) rfl rfl ?_
      refine Ev.iload (pc := 55) dX10_busiest_55 rfl ?_
      refine Ev.iload_n (pc := 57) dX10_busiest_57 rfl rfl ?_
      by_cases c6 : x3 ≤ v3
      · replace h := (if_pos c6).symm.trans h
        refine Ev.icmp_le_t (pc := 58) (tgt := 75) dX10_busiest_58 rfl c6 ?_
        exact Ev.weak2 (lj_X10_busiest_75 N (l_X10_busiest_30 N n) ih _ _ _ _ _ _ _ h) (lsubS (lsubS (lsubS (lsubS (lsubS (lsubN lsubE))))))
      · replace h := (if_neg c6).symm.trans h
        refine Ev.icmp_le_f (pc := 58) dX10_busiest_58 ⟨75, rfl⟩ c6 ?_
        refine Ev.aload_n (pc := 61) dX10_busiest_61 rfl rfl ?_
        refine Ev.getR (pc := 62) dX10_busiest_62 fl_X10_7 sh_79 rfl ?_
        refine Ev.bipush (pc := 65) (v := 37) dX10_busiest_65 kb_37 ?_
        refine Ev.iald (pc := 67) dX10_busiest_67 sh_80 in_37_1360 ?_
        refine Ev.iload (pc := 68) dX10_busiest_68 rfl ?_
        refine Ev.iadd (pc := 70) dX10_busiest_70 ?_
        refine Ev.nmI (fun x7 e9 => ?_)
        replace h := bt_app h x7 e9
        refine Ev.istore_n (pc := 71) (lv' := [some (vR 79), some (vI v1), some (vI x7), some (vI v3), some (vI v4), some (vI x3)]) dX10_busiest_71 rfl (lt9 rfl) rfl rfl ?_
        refine Ev.iload (pc := 72) dX10_busiest_72 rfl ?_
        refine Ev.istore_n (pc := 74) (lv' := [some (vR 79), some (vI v1), some (vI x7), some (vI x3), some (vI v4), some (vI x3)]) dX10_busiest_74 rfl (lt9 rfl) rfl rfl ?_
        exact Ev.weak2 (lj_X10_busiest_75 N (l_X10_busiest_30 N n) ih _ _ _ _ _ _ _ h) (lsubS (lsubS (lsubS (lsubS (lsubS (lsubN lsubE))))))
theorem e_X10_busiest (N : Nat) (a1 : Int32) (σ : St) (v : Int32) (w : St) (h : o_X10_busiest N a1 σ = some (v, w)) : Ev md_X10_busiest 4 0 (lvE [vR 79, vI a1] 6) [] SH σ (some (vI v), SH, w) := by
  show Ev md_X10_busiest 4 0 [some (vR 79), some (vI a1), none, none, none, none] [] SH σ (some (vI v), SH, w)
  unfold o_X10_busiest at h
  refine Ev.iload_n (pc := 0) dX10_busiest_0 rfl rfl ?_
  refine Ev.i2l (pc := 1) dX10_busiest_1 ?_
  refine Ev.lconst (pc := 2) (v := 0) dX10_busiest_2 kL_0 ?_
  refine Ev.lconst (pc := 3) (v := 1) dX10_busiest_3 kL_1 ?_
  refine Ev.cTi (pc := 4) (av := [vL a1.toInt64, vL 0, vL 1]) (rest := []) dX10_busiest_4 ce_X10_in ml_X10_89 rfl sh_sc (Nat.le_of_ble_eq_true rfl) (Nat.le_of_ble_eq_true rfl) (r_X10_in _ _ _ _) ?_
  by_cases c1 : (p_X10_in a1.toInt64 0 1 σ) = 0
  · replace h := (if_pos c1).symm.trans h
    refine Ev.if_ne_f (pc := 7) dX10_busiest_7 ⟨13, rfl⟩ c1 ?_
    refine Ev.ldc (pc := 10) dX10_busiest_10 kc_X10_93 ?_
    obtain ⟨h1, h2⟩ := oeq h
    subst h1
    subst h2
    exact Ev.ret_i (pc := 12) dX10_busiest_12 rfl rfl
  · replace h := (if_neg c1).symm.trans h
    refine Ev.if_ne_t (pc := 7) (tgt := 13) dX10_busiest_7 rfl c1 ?_
    refine Ev.aload_n (pc := 13) dX10_busiest_13 rfl rfl ?_
    refine Ev.getI (pc := 14) dX10_busiest_14 fl_X10_166 sh_79 rfl ?_
    by_cases c2 : (σ 79 2) = 0
    · replace h := (if_pos c2).symm.trans h
      refine Ev.if_ne_f (pc := 17) dX10_busiest_17 ⟨23, rfl⟩ c2 ?_
      refine Ev.ldc (pc := 20) dX10_busiest_20 kc_X10_227 ?_
      obtain ⟨h1, h2⟩ := oeq h
      subst h1
      subst h2
      exact Ev.ret_i (pc := 22) dX10_busiest_22 rfl rfl
    · replace h := (if_neg c2).symm.trans h
      refine Ev.if_ne_t (pc := 17) (tgt := 23) dX10_busiest_17 rfl c2 ?_
      refine Ev.iconst (pc := 23) (v := 0) dX10_busiest_23 ki_0 ?_
      refine Ev.istore_n (pc := 24) (lv' := [some (vR 79), some (vI a1), some (vI 0), none, none, none]) dX10_busiest_24 rfl (lt9 rfl) rfl rfl ?_
      refine Ev.iconst (pc := 25) (v := (-1)) dX10_busiest_25 ki_m1 ?_
      refine Ev.istore_n (pc := 26) (lv' := [some (vR 79), some (vI a1), some (vI 0), some (vI (-1)), none, none]) dX10_busiest_26 rfl (lt9 rfl) rfl rfl ?_
      refine Ev.iconst (pc := 27) (v := 0) dX10_busiest_27 ki_0 ?_
      refine Ev.istore (pc := 28) (lv' := [some (vR 79), some (vI a1), some (vI 0), some (vI (-1)), some (vI 0), none]) dX10_busiest_28 (lt9 rfl) rfl rfl ?_
      exact Ev.weak2 (ll_X10_busiest_30 N N _ _ _ _ _ _ _ h) (lsubS (lsubS (lsubS (lsubS (lsubS (lsubN lsubE))))))
theorem r_X10_busiest {N : Nat} {a1 : Int32} {σ : St} {v : Int32} {w : St} (h : o_X10_busiest N a1 σ = some (v, w)) : Rn md_X10_busiest 4 [vR 79, vI a1] SH σ (some (vI v), SH, w) := Rn.of ce_X10_busiest.1 (Nat.le_of_ble_eq_true rfl) (e_X10_busiest N _ _ _ _ h)
def l_X9_lives_69 (N : Nat) : Nat → Int32 → Int32 → Int64 → Int32 → St → Option (Int32 × St)
  | 0, _, _, _, _, _ => none
  | n + 1, v2, v3, v4, v6, σ => if v3 ≤ v6 then (some (v4.toInt32, σ)) else (bt ((v4 * (1000 - v2).toInt64) / 1000) fun x2 => bt (v6 + 1) fun x3 => l_X9_lives_69 N n v2 v3 x2 x3 σ)
def o_X9_lives (N : Nat) (a1 : Int32) (a2 : Int32) (σ : St) : Option (Int32 × St) := if (p_X5_hasPromise a1 σ) = 0 then (some ((-1000000001), σ)) else (if a2 < 0 then (some ((-1000000002), σ)) else (if a2 ≤ 1000 then (bd (o_X1_ripeOn_23 N a1 σ) fun x4 σ5 => if (p_X1_isOpen_23 a1 σ5) = 0 then (some ((-1), σ5)) else (if x4 = (-1) then (some ((-1), σ5)) else (bt (p_X1_today_23 σ5) fun x9 => l_X9_lives_69 N N a2 x4 1000000000 x9 σ5))) else (some ((-1000000002), σ))))
theorem ll_X9_lives_69 (N : Nat) : ∀ (n : Nat) (v2 : Int32) (v3 : Int32) (v4 : Int64) (v6 : Int32) (σ : St) (v : Int32) (w : St), l_X9_lives_69 N n v2 v3 v4 v6 σ = some (v, w) → Ev md_X9_lives 3 69 [none, none, some (vI v2), some (vI v3), some (vL v4), none, some (vI v6)] [] SH σ (some (vI v), SH, w) := by
  intro n
  induction n with
  | zero =>
    intro v2 v3 v4 v6 σ v w h
    rw [l_X9_lives_69] at h
    cases h
  | succ n ih =>
    intro v2 v3 v4 v6 σ v w h
    rw [l_X9_lives_69] at h
    refine Ev.iload (pc := 69) dX9_lives_69 rfl ?_
    refine Ev.iload_n (pc := 71) dX9_lives_71 rfl rfl ?_
    by_cases c1 : v3 ≤ v6
    · replace h := (if_pos c1).symm.trans h
      refine Ev.icmp_ge_t (pc := 72) (tgt := 96) dX9_lives_72 rfl c1 ?_
      refine Ev.lload (pc := 96) dX9_lives_96 rfl ?_
      refine Ev.l2i (pc := 98) dX9_lives_98 ?_
      obtain ⟨h1, h2⟩ := oeq h
      subst h1
      subst h2
      exact Ev.ret_i (pc := 99) dX9_lives_99 rfl rfl
    · replace h := (if_neg c1).symm.trans h
      refine Ev.icmp_ge_f (pc := 72) dX9_lives_72 ⟨96, rfl⟩ c1 ?_
      refine Ev.lload (pc := 75) dX9_lives_75 rfl ?_
      refine Ev.sipush (pc := 77) (v := 1000) dX9_lives_77 ks_1000 ?_
      refine Ev.iload_n (pc := 80) dX9_lives_80 rfl rfl ?_
      refine Ev.isub (pc := 81) dX9_lives_81 ?_
      refine Ev.i2l (pc := 82) dX9_lives_82 ?_
      refine Ev.lmul (pc := 83) dX9_lives_83 ?_
      refine Ev.ldc2 (pc := 84) dX9_lives_84 kl_X9_287 ?_
      refine Ev.ldiv (pc := 87) dX9_lives_87 (by decide) ?_
      refine Ev.nmL (fun x2 e9 => ?_)
      replace h := bt_app h x2 e9
      refine Ev.lstore (pc := 88) (lv' := [none, none, some (vI v2), some (vI v3), some (vL x2), none, some (vI v6)]) dX9_lives_88 (lt9 rfl) rfl rfl ?_
      obtain ⟨x3, e_x3, h⟩ := bt_elim h
      refine Ev.iinc (pc := 90) (v := x3) (lv' := [none, none, some (vI v2), some (vI v3), some (vL x2), none, some (vI x3)]) dX9_lives_90 rfl (by rw [ki_1, e_x3]) (lt9 rfl) rfl rfl ?_
      refine Ev.goto (pc := 93) (tgt := 69) dX9_lives_93 rfl ?_
      exact Ev.weak2 (ih _ _ _ _ _ _ _ h) (lsubN (lsubN (lsubS (lsubS (lsubS (lsubN (lsubS lsubE)))))))
theorem e_X9_lives (N : Nat) (a1 : Int32) (a2 : Int32) (σ : St) (v : Int32) (w : St) (h : o_X9_lives N a1 a2 σ = some (v, w)) : Ev md_X9_lives 3 0 (lvE [vR 0, vI a1, vI a2] 7) [] SH σ (some (vI v), SH, w) := by
  show Ev md_X9_lives 3 0 [some (vR 0), some (vI a1), some (vI a2), none, none, none, none] [] SH σ (some (vI v), SH, w)
  unfold o_X9_lives at h
  refine Ev.aload_n (pc := 0) dX9_lives_0 rfl rfl ?_
  refine Ev.getR (pc := 1) dX9_lives_1 fl_X9_10 sh_0 rfl ?_
  refine Ev.iload_n (pc := 4) dX9_lives_4 rfl rfl ?_
  refine Ev.cVi (pc := 5) (k := 1) (av := [vI a1]) (rest := []) dX9_lives_5 ce_X5_hasPromise ml_X9_170 rfl sh_1 cl_X5 sh_sc (Nat.le_of_ble_eq_true rfl) (Nat.le_of_ble_eq_true rfl) (r_X5_hasPromise _ _) ?_
  by_cases c1 : (p_X5_hasPromise a1 σ) = 0
  · replace h := (if_pos c1).symm.trans h
    refine Ev.if_ne_f (pc := 8) dX9_lives_8 ⟨14, rfl⟩ c1 ?_
    refine Ev.ldc (pc := 11) dX9_lives_11 kc_X9_145 ?_
    obtain ⟨h1, h2⟩ := oeq h
    subst h1
    subst h2
    exact Ev.ret_i (pc := 13) dX9_lives_13 rfl rfl
  · replace h := (if_neg c1).symm.trans h
    refine Ev.if_ne_t (pc := 8) (tgt := 14) dX9_lives_8 rfl c1 ?_
    refine Ev.iload_n (pc := 14) dX9_lives_14 rfl rfl ?_
    by_cases c2 : a2 < 0
    · replace h := (if_pos c2).symm.trans h
      refine Ev.if_lt_t (pc := 15) (tgt := 25) dX9_lives_15 rfl c2 ?_
      refine Ev.ldc (pc := 25) dX9_lives_25 kc_X9_81 ?_
      obtain ⟨h1, h2⟩ := oeq h
      subst h1
      subst h2
      exact Ev.ret_i (pc := 27) dX9_lives_27 rfl rfl
    · replace h := (if_neg c2).symm.trans h
      refine Ev.if_lt_f (pc := 15) dX9_lives_15 ⟨25, rfl⟩ c2 ?_
      refine Ev.iload_n (pc := 18) dX9_lives_18 rfl rfl ?_
      refine Ev.sipush (pc := 19) (v := 1000) dX9_lives_19 ks_1000 ?_
      by_cases c3 : a2 ≤ 1000
      · replace h := (if_pos c3).symm.trans h
        refine Ev.icmp_le_t (pc := 22) (tgt := 28) dX9_lives_22 rfl c3 ?_
        refine Ev.aload_n (pc := 28) dX9_lives_28 rfl rfl ?_
        refine Ev.getR (pc := 29) dX9_lives_29 fl_X9_31 sh_0 rfl ?_
        refine Ev.iload_n (pc := 32) dX9_lives_32 rfl rfl ?_
        obtain ⟨x4, σ5, g6, h⟩ := bd_elim h
        refine Ev.cVi (pc := 33) (k := 23) (av := [vI a1]) (rest := []) dX9_lives_33 ce_X1_ripeOn ml_X9_194 rfl sh_23 cl_X1 sh_sc (Nat.le_of_ble_eq_true rfl) (Nat.le_of_ble_eq_true rfl) (r_X1_ripeOn_23 g6) ?_
        refine Ev.istore_n (pc := 36) (lv' := [some (vR 0), some (vI a1), some (vI a2), some (vI x4), none, none, none]) dX9_lives_36 rfl (lt9 rfl) rfl rfl ?_
        refine Ev.aload_n (pc := 37) dX9_lives_37 rfl rfl ?_
        refine Ev.getR (pc := 38) dX9_lives_38 fl_X9_31 sh_0 rfl ?_
        refine Ev.iload_n (pc := 41) dX9_lives_41 rfl rfl ?_
        refine Ev.cVi (pc := 42) (k := 23) (av := [vI a1]) (rest := []) dX9_lives_42 ce_X1_isOpen ml_X9_221 rfl sh_23 cl_X1 sh_sc (Nat.le_of_ble_eq_true rfl) (Nat.le_of_ble_eq_true rfl) (r_X1_isOpen_23 _ _) ?_
        by_cases c7 : (p_X1_isOpen_23 a1 σ5) = 0
        · replace h := (if_pos c7).symm.trans h
          refine Ev.if_eq_t (pc := 45) (tgt := 53) dX9_lives_45 rfl c7 ?_
          refine Ev.iconst (pc := 53) (v := (-1)) dX9_lives_53 ki_m1 ?_
          obtain ⟨h1, h2⟩ := oeq h
          subst h1
          subst h2
          exact Ev.ret_i (pc := 54) dX9_lives_54 rfl rfl
        · replace h := (if_neg c7).symm.trans h
          refine Ev.if_eq_f (pc := 45) dX9_lives_45 ⟨53, rfl⟩ c7 ?_
          refine Ev.iload_n (pc := 48) dX9_lives_48 rfl rfl ?_
          refine Ev.iconst (pc := 49) (v := (-1)) dX9_lives_49 ki_m1 ?_
          by_cases c8 : x4 = (-1)
          · replace h := (if_pos c8).symm.trans h
            refine Ev.icmp_ne_f (pc := 50) dX9_lives_50 ⟨55, rfl⟩ c8 ?_
            refine Ev.iconst (pc := 53) (v := (-1)) dX9_lives_53 ki_m1 ?_
            obtain ⟨h1, h2⟩ := oeq h
            subst h1
            subst h2
            exact Ev.ret_i (pc := 54) dX9_lives_54 rfl rfl
          · replace h := (if_neg c8).symm.trans h
            refine Ev.icmp_ne_t (pc := 50) (tgt := 55) dX9_lives_50 rfl c8 ?_
            refine Ev.ldc2 (pc := 55) dX9_lives_55 kl_X9_285 ?_
            refine Ev.lstore (pc := 58) (lv' := [some (vR 0), some (vI a1), some (vI a2), some (vI x4), some (vL 1000000000), none, none]) dX9_lives_58 (lt9 rfl) rfl rfl ?_
            refine Ev.aload_n (pc := 60) dX9_lives_60 rfl rfl ?_
            refine Ev.getR (pc := 61) dX9_lives_61 fl_X9_31 sh_0 rfl ?_
            refine Ev.cVi (pc := 64) (k := 23) (av := []) (rest := []) dX9_lives_64 ce_X1_today ml_X9_125 rfl sh_23 cl_X1 sh_sc (Nat.le_of_ble_eq_true rfl) (Nat.le_of_ble_eq_true rfl) (r_X1_today_23  _) ?_
            refine Ev.nmI (fun x9 e9 => ?_)
            replace h := bt_app h x9 e9
            refine Ev.istore (pc := 67) (lv' := [some (vR 0), some (vI a1), some (vI a2), some (vI x4), some (vL 1000000000), none, some (vI x9)]) dX9_lives_67 (lt9 rfl) rfl rfl ?_
            exact Ev.weak2 (ll_X9_lives_69 N N _ _ _ _ _ _ _ h) (lsubN (lsubN (lsubS (lsubS (lsubS (lsubN (lsubS lsubE)))))))
      · replace h := (if_neg c3).symm.trans h
        refine Ev.icmp_le_f (pc := 22) dX9_lives_22 ⟨28, rfl⟩ c3 ?_
        refine Ev.ldc (pc := 25) dX9_lives_25 kc_X9_81 ?_
        obtain ⟨h1, h2⟩ := oeq h
        subst h1
        subst h2
        exact Ev.ret_i (pc := 27) dX9_lives_27 rfl rfl
theorem r_X9_lives {N : Nat} {a1 : Int32} {a2 : Int32} {σ : St} {v : Int32} {w : St} (h : o_X9_lives N a1 a2 σ = some (v, w)) : Rn md_X9_lives 3 [vR 0, vI a1, vI a2] SH σ (some (vI v), SH, w) := Rn.of ce_X9_lives.1 (Nat.le_of_ble_eq_true rfl) (e_X9_lives N _ _ _ _ _ h)
def l_X10_lives_62 (N : Nat) : Nat → Int32 → Int32 → Int64 → Int32 → St → Option (Int32 × St)
  | 0, _, _, _, _, _ => none
  | n + 1, v1, v2, v3, v5, σ => bd (o_X10_ripe N 0 v1 σ) fun x1 σ2 => if x1 ≤ v5 then (some (v3.toInt32, σ2)) else (bt ((v3 * (1000 - v2).toInt64) / 1000) fun x5 => bt (v5 + 1) fun x6 => l_X10_lives_62 N n v1 v2 x5 x6 σ2)
def o_X10_lives (N : Nat) (a1 : Int32) (a2 : Int32) (σ : St) : Option (Int32 × St) := bd (o_X10_isPromise N a1 σ) fun x1 σ2 => if x1 = 0 then (some ((-1000000001), σ2)) else (if (p_X10_in a2.toInt64 0 1000 σ2) = 0 then (some ((-1000000002), σ2)) else (ckA a1 1360 (if (σ2 80 a1.toNatClampNeg) = 0 then (ckA (21 + a1) 1360 (if (0 : Int32) ≤ (σ2 80 (21 + a1).toNatClampNeg) then (bt (σ2 80 (37 : Int32).toNatClampNeg) fun x10 => l_X10_lives_62 N N a1 a2 1000000000 x10 σ2) else (some ((-1), σ2)))) else (some ((-1), σ2)))))
theorem ll_X10_lives_62 (N : Nat) : ∀ (n : Nat) (v1 : Int32) (v2 : Int32) (v3 : Int64) (v5 : Int32) (σ : St) (v : Int32) (w : St), l_X10_lives_62 N n v1 v2 v3 v5 σ = some (v, w) → Ev md_X10_lives 3 62 [some (vR 79), some (vI v1), some (vI v2), some (vL v3), none, some (vI v5)] [] SH σ (some (vI v), SH, w) := by
  intro n
  induction n with
  | zero =>
    intro v1 v2 v3 v5 σ v w h
    rw [l_X10_lives_62] at h
    cases h
  | succ n ih =>
    intro v1 v2 v3 v5 σ v w h
    rw [l_X10_lives_62] at h
    refine Ev.iload (pc := 62) dX10_lives_62 rfl ?_
    refine Ev.aload_n (pc := 64) dX10_lives_64 rfl rfl ?_
    refine Ev.iconst (pc := 65) (v := 0) dX10_lives_65 ki_0 ?_
    refine Ev.iload_n (pc := 66) dX10_lives_66 rfl rfl ?_
    obtain ⟨x1, σ2, g3, h⟩ := bd_elim h
    refine Ev.cVi (pc := 67) (k := 79) (av := [vI 0, vI v1]) (rest := [vI v5]) dX10_lives_67 ce_X10_ripe ml_X10_215 rfl sh_79 cl_X10 sh_sc (Nat.le_of_ble_eq_true rfl) (Nat.le_of_ble_eq_true rfl) (r_X10_ripe g3) ?_
    by_cases c4 : x1 ≤ v5
    · replace h := (if_pos c4).symm.trans h
      refine Ev.icmp_ge_t (pc := 70) (tgt := 92) dX10_lives_70 rfl c4 ?_
      refine Ev.lload_n (pc := 92) dX10_lives_92 rfl rfl ?_
      refine Ev.l2i (pc := 93) dX10_lives_93 ?_
      obtain ⟨h1, h2⟩ := oeq h
      subst h1
      subst h2
      exact Ev.ret_i (pc := 94) dX10_lives_94 rfl rfl
    · replace h := (if_neg c4).symm.trans h
      refine Ev.icmp_ge_f (pc := 70) dX10_lives_70 ⟨92, rfl⟩ c4 ?_
      refine Ev.lload_n (pc := 73) dX10_lives_73 rfl rfl ?_
      refine Ev.sipush (pc := 74) (v := 1000) dX10_lives_74 ks_1000 ?_
      refine Ev.iload_n (pc := 77) dX10_lives_77 rfl rfl ?_
      refine Ev.isub (pc := 78) dX10_lives_78 ?_
      refine Ev.i2l (pc := 79) dX10_lives_79 ?_
      refine Ev.lmul (pc := 80) dX10_lives_80 ?_
      refine Ev.ldc2 (pc := 81) dX10_lives_81 kl_X10_336 ?_
      refine Ev.ldiv (pc := 84) dX10_lives_84 (by decide) ?_
      refine Ev.nmL (fun x5 e9 => ?_)
      replace h := bt_app h x5 e9
      refine Ev.lstore_n (pc := 85) (lv' := [some (vR 79), some (vI v1), some (vI v2), some (vL x5), none, some (vI v5)]) dX10_lives_85 rfl (lt9 rfl) rfl rfl ?_
      obtain ⟨x6, e_x6, h⟩ := bt_elim h
      refine Ev.iinc (pc := 86) (v := x6) (lv' := [some (vR 79), some (vI v1), some (vI v2), some (vL x5), none, some (vI x6)]) dX10_lives_86 rfl (by rw [ki_1, e_x6]) (lt9 rfl) rfl rfl ?_
      refine Ev.goto (pc := 89) (tgt := 62) dX10_lives_89 rfl ?_
      exact Ev.weak2 (ih _ _ _ _ _ _ _ h) (lsubS (lsubS (lsubS (lsubS (lsubN (lsubS lsubE))))))
theorem e_X10_lives (N : Nat) (a1 : Int32) (a2 : Int32) (σ : St) (v : Int32) (w : St) (h : o_X10_lives N a1 a2 σ = some (v, w)) : Ev md_X10_lives 3 0 (lvE [vR 79, vI a1, vI a2] 6) [] SH σ (some (vI v), SH, w) := by
  show Ev md_X10_lives 3 0 [some (vR 79), some (vI a1), some (vI a2), none, none, none] [] SH σ (some (vI v), SH, w)
  unfold o_X10_lives at h
  refine Ev.aload_n (pc := 0) dX10_lives_0 rfl rfl ?_
  refine Ev.iload_n (pc := 1) dX10_lives_1 rfl rfl ?_
  obtain ⟨x1, σ2, g3, h⟩ := bd_elim h
  refine Ev.cVi (pc := 2) (k := 79) (av := [vI a1]) (rest := []) dX10_lives_2 ce_X10_isPromise ml_X10_212 rfl sh_79 cl_X10 sh_sc (Nat.le_of_ble_eq_true rfl) (Nat.le_of_ble_eq_true rfl) (r_X10_isPromise g3) ?_
  by_cases c4 : x1 = 0
  · replace h := (if_pos c4).symm.trans h
    refine Ev.if_ne_f (pc := 5) dX10_lives_5 ⟨11, rfl⟩ c4 ?_
    refine Ev.ldc (pc := 8) dX10_lives_8 kc_X10_205 ?_
    obtain ⟨h1, h2⟩ := oeq h
    subst h1
    subst h2
    exact Ev.ret_i (pc := 10) dX10_lives_10 rfl rfl
  · replace h := (if_neg c4).symm.trans h
    refine Ev.if_ne_t (pc := 5) (tgt := 11) dX10_lives_5 rfl c4 ?_
    refine Ev.iload_n (pc := 11) dX10_lives_11 rfl rfl ?_
    refine Ev.i2l (pc := 12) dX10_lives_12 ?_
    refine Ev.lconst (pc := 13) (v := 0) dX10_lives_13 kL_0 ?_
    refine Ev.ldc2 (pc := 14) dX10_lives_14 kl_X10_336 ?_
    refine Ev.cTi (pc := 17) (av := [vL a2.toInt64, vL 0, vL 1000]) (rest := []) dX10_lives_17 ce_X10_in ml_X10_89 rfl sh_sc (Nat.le_of_ble_eq_true rfl) (Nat.le_of_ble_eq_true rfl) (r_X10_in _ _ _ _) ?_
    by_cases c5 : (p_X10_in a2.toInt64 0 1000 σ2) = 0
    · replace h := (if_pos c5).symm.trans h
      refine Ev.if_ne_f (pc := 20) dX10_lives_20 ⟨26, rfl⟩ c5 ?_
      refine Ev.ldc (pc := 23) dX10_lives_23 kc_X10_93 ?_
      obtain ⟨h1, h2⟩ := oeq h
      subst h1
      subst h2
      exact Ev.ret_i (pc := 25) dX10_lives_25 rfl rfl
    · replace h := (if_neg c5).symm.trans h
      refine Ev.if_ne_t (pc := 20) (tgt := 26) dX10_lives_20 rfl c5 ?_
      refine Ev.aload_n (pc := 26) dX10_lives_26 rfl rfl ?_
      refine Ev.getR (pc := 27) dX10_lives_27 fl_X10_7 sh_79 rfl ?_
      refine Ev.iload_n (pc := 30) dX10_lives_30 rfl rfl ?_
      obtain ⟨c6, h⟩ := ckA_elim h
      refine Ev.iald (pc := 31) dX10_lives_31 sh_80 c6 ?_
      by_cases c7 : (σ2 80 a1.toNatClampNeg) = 0
      · replace h := (if_pos c7).symm.trans h
        refine Ev.if_ne_f (pc := 32) dX10_lives_32 ⟨47, rfl⟩ c7 ?_
        refine Ev.aload_n (pc := 35) dX10_lives_35 rfl rfl ?_
        refine Ev.getR (pc := 36) dX10_lives_36 fl_X10_7 sh_79 rfl ?_
        refine Ev.bipush (pc := 39) (v := 21) dX10_lives_39 kb_21 ?_
        refine Ev.iload_n (pc := 41) dX10_lives_41 rfl rfl ?_
        refine Ev.iadd (pc := 42) dX10_lives_42 ?_
        obtain ⟨c8, h⟩ := ckA_elim h
        refine Ev.iald (pc := 43) dX10_lives_43 sh_80 c8 ?_
        by_cases c9 : (0 : Int32) ≤ (σ2 80 (21 + a1).toNatClampNeg)
        · replace h := (if_pos c9).symm.trans h
          refine Ev.if_ge_t (pc := 44) (tgt := 49) dX10_lives_44 rfl c9 ?_
          refine Ev.ldc2 (pc := 49) dX10_lives_49 kl_X10_338 ?_
          refine Ev.lstore_n (pc := 52) (lv' := [some (vR 79), some (vI a1), some (vI a2), some (vL 1000000000), none, none]) dX10_lives_52 rfl (lt9 rfl) rfl rfl ?_
          refine Ev.aload_n (pc := 53) dX10_lives_53 rfl rfl ?_
          refine Ev.getR (pc := 54) dX10_lives_54 fl_X10_7 sh_79 rfl ?_
          refine Ev.bipush (pc := 57) (v := 37) dX10_lives_57 kb_37 ?_
          refine Ev.iald (pc := 59) dX10_lives_59 sh_80 in_37_1360 ?_
          refine Ev.nmI (fun x10 e9 => ?_)
          replace h := bt_app h x10 e9
          refine Ev.istore (pc := 60) (lv' := [some (vR 79), some (vI a1), some (vI a2), some (vL 1000000000), none, some (vI x10)]) dX10_lives_60 (lt9 rfl) rfl rfl ?_
          exact Ev.weak2 (ll_X10_lives_62 N N _ _ _ _ _ _ _ h) (lsubS (lsubS (lsubS (lsubS (lsubN (lsubS lsubE))))))
        · replace h := (if_neg c9).symm.trans h
          refine Ev.if_ge_f (pc := 44) dX10_lives_44 ⟨49, rfl⟩ c9 ?_
          refine Ev.iconst (pc := 47) (v := (-1)) dX10_lives_47 ki_m1 ?_
          obtain ⟨h1, h2⟩ := oeq h
          subst h1
          subst h2
          exact Ev.ret_i (pc := 48) dX10_lives_48 rfl rfl
      · replace h := (if_neg c7).symm.trans h
        refine Ev.if_ne_t (pc := 32) (tgt := 47) dX10_lives_32 rfl c7 ?_
        refine Ev.iconst (pc := 47) (v := (-1)) dX10_lives_47 ki_m1 ?_
        obtain ⟨h1, h2⟩ := oeq h
        subst h1
        subst h2
        exact Ev.ret_i (pc := 48) dX10_lives_48 rfl rfl
theorem r_X10_lives {N : Nat} {a1 : Int32} {a2 : Int32} {σ : St} {v : Int32} {w : St} (h : o_X10_lives N a1 a2 σ = some (v, w)) : Rn md_X10_lives 3 [vR 79, vI a1, vI a2] SH σ (some (vI v), SH, w) := Rn.of ce_X10_lives.1 (Nat.le_of_ble_eq_true rfl) (e_X10_lives N _ _ _ _ _ h)
def j_X5_sizesIn_33 (N : Nat) (K_4 : Int32 → Int32 → Int32 → St → Option (Int32 × St)) (v1 : Int32) (v3 : Int32) (s0 : Int32) (s1 : Int32) (σ : St) : Option (Int32 × St) := bt (s0 + s1) fun x1 => bt (v3 + 1) fun x2 => K_4 v1 x1 x2 σ
def l_X5_sizesIn_4 (N : Nat) : Nat → Int32 → Int32 → Int32 → St → Option (Int32 × St)
  | 0, _, _, _, _ => none
  | n + 1, v1, v2, v3, σ => if (σ 1 3) ≤ v3 then (some (v2, σ)) else (if (p_X9_has v1 v3 σ) = 0 then (j_X5_sizesIn_33 N (l_X5_sizesIn_4 N n) v1 v3 v2 0 σ) else (j_X5_sizesIn_33 N (l_X5_sizesIn_4 N n) v1 v3 v2 (at_ σ 8 7 v3) σ))
def o_X5_sizesIn (N : Nat) (a1 : Int32) (σ : St) : Option (Int32 × St) := l_X5_sizesIn_4 N N a1 0 0 σ
theorem lj_X5_sizesIn_33 (N : Nat) (K_4 : Int32 → Int32 → Int32 → St → Option (Int32 × St)) (hK_4 : ∀ (v1 : Int32) (v2 : Int32) (v3 : Int32) (σ : St) (v : Int32) (w : St), K_4 v1 v2 v3 σ = some (v, w) → Ev md_X5_sizesIn 1 4 [some (vR 1), some (vI v1), some (vI v2), some (vI v3)] [] SH σ (some (vI v), SH, w)) (v1 : Int32) (v3 : Int32) (s0 : Int32) (s1 : Int32) (σ : St) (v : Int32) (w : St) (h : j_X5_sizesIn_33 N K_4 v1 v3 s0 s1 σ = some (v, w)) : Ev md_X5_sizesIn 1 33 [some (vR 1), some (vI v1), none, some (vI v3)] [vI s1, vI s0] SH σ (some (vI v), SH, w) := by
  unfold j_X5_sizesIn_33 at h
  refine Ev.iadd (pc := 33) dX5_sizesIn_33 ?_
  refine Ev.nmI (fun x1 e9 => ?_)
  replace h := bt_app h x1 e9
  refine Ev.istore_n (pc := 34) (lv' := [some (vR 1), some (vI v1), some (vI x1), some (vI v3)]) dX5_sizesIn_34 rfl (lt9 rfl) rfl rfl ?_
  obtain ⟨x2, e_x2, h⟩ := bt_elim h
  refine Ev.iinc (pc := 35) (v := x2) (lv' := [some (vR 1), some (vI v1), some (vI x1), some (vI x2)]) dX5_sizesIn_35 rfl (by rw [ki_1, e_x2]) (lt9 rfl) rfl rfl ?_
  refine Ev.goto (pc := 38) (tgt := 4) dX5_sizesIn_38 rfl ?_
  exact Ev.weak2 (hK_4 _ _ _ _ _ _ h) (lsubS (lsubS (lsubS (lsubS lsubE))))
theorem ll_X5_sizesIn_4 (N : Nat) : ∀ (n : Nat) (v1 : Int32) (v2 : Int32) (v3 : Int32) (σ : St) (v : Int32) (w : St), l_X5_sizesIn_4 N n v1 v2 v3 σ = some (v, w) → Ev md_X5_sizesIn 1 4 [some (vR 1), some (vI v1), some (vI v2), some (vI v3)] [] SH σ (some (vI v), SH, w) := by
  intro n
  induction n with
  | zero =>
    intro v1 v2 v3 σ v w h
    rw [l_X5_sizesIn_4] at h
    cases h
  | succ n ih =>
    intro v1 v2 v3 σ v w h
    rw [l_X5_sizesIn_4] at h
    refine Ev.iload_n (pc := 4) dX5_sizesIn_4 rfl rfl ?_
    refine Ev.aload_n (pc := 5) dX5_sizesIn_5 rfl rfl ?_
    refine Ev.getI (pc := 6) dX5_sizesIn_6 fl_X5_49 sh_1 rfl ?_
    by_cases c1 : (σ 1 3) ≤ v3
    · replace h := (if_pos c1).symm.trans h
      refine Ev.icmp_ge_t (pc := 9) (tgt := 41) dX5_sizesIn_9 rfl c1 ?_
      refine Ev.iload_n (pc := 41) dX5_sizesIn_41 rfl rfl ?_
      obtain ⟨h1, h2⟩ := oeq h
      subst h1
      subst h2
      exact Ev.ret_i (pc := 42) dX5_sizesIn_42 rfl rfl
    · replace h := (if_neg c1).symm.trans h
      refine Ev.icmp_ge_f (pc := 9) dX5_sizesIn_9 ⟨41, rfl⟩ c1 ?_
      refine Ev.iload_n (pc := 12) dX5_sizesIn_12 rfl rfl ?_
      refine Ev.iload_n (pc := 13) dX5_sizesIn_13 rfl rfl ?_
      refine Ev.iload_n (pc := 14) dX5_sizesIn_14 rfl rfl ?_
      refine Ev.cTi (pc := 15) (av := [vI v1, vI v3]) (rest := [vI v2]) dX5_sizesIn_15 ce_X9_has ml_X5_86 rfl sh_sc (Nat.le_of_ble_eq_true rfl) (Nat.le_of_ble_eq_true rfl) (r_X9_has _ _ _) ?_
      by_cases c2 : (p_X9_has v1 v3 σ) = 0
      · replace h := (if_pos c2).symm.trans h
        refine Ev.if_eq_t (pc := 18) (tgt := 32) dX5_sizesIn_18 rfl c2 ?_
        refine Ev.iconst (pc := 32) (v := 0) dX5_sizesIn_32 ki_0 ?_
        exact Ev.weak2 (lj_X5_sizesIn_33 N (l_X5_sizesIn_4 N n) ih _ _ _ _ _ _ _ h) (lsubS (lsubS (lsubN (lsubS lsubE))))
      · replace h := (if_neg c2).symm.trans h
        refine Ev.if_eq_f (pc := 18) dX5_sizesIn_18 ⟨32, rfl⟩ c2 ?_
        refine Ev.aload_n (pc := 21) dX5_sizesIn_21 rfl rfl ?_
        refine Ev.getR (pc := 22) dX5_sizesIn_22 fl_X5_30 sh_1 rfl ?_
        refine Ev.iload_n (pc := 25) dX5_sizesIn_25 rfl rfl ?_
        refine Ev.cTi (pc := 26) (av := [vR 8, vI v3]) (rest := [vI v2]) dX5_sizesIn_26 ce_X9_at ml_X5_65 rfl sh_sc (Nat.le_of_ble_eq_true rfl) (Nat.le_of_ble_eq_true rfl) (r_at sh_8 (by decide) _ _) ?_
        refine Ev.goto (pc := 29) (tgt := 33) dX5_sizesIn_29 rfl ?_
        exact Ev.weak2 (lj_X5_sizesIn_33 N (l_X5_sizesIn_4 N n) ih _ _ _ _ _ _ _ h) (lsubS (lsubS (lsubN (lsubS lsubE))))
theorem e_X5_sizesIn (N : Nat) (a1 : Int32) (σ : St) (v : Int32) (w : St) (h : o_X5_sizesIn N a1 σ = some (v, w)) : Ev md_X5_sizesIn 1 0 (lvE [vR 1, vI a1] 4) [] SH σ (some (vI v), SH, w) := by
  show Ev md_X5_sizesIn 1 0 [some (vR 1), some (vI a1), none, none] [] SH σ (some (vI v), SH, w)
  unfold o_X5_sizesIn at h
  refine Ev.iconst (pc := 0) (v := 0) dX5_sizesIn_0 ki_0 ?_
  refine Ev.istore_n (pc := 1) (lv' := [some (vR 1), some (vI a1), some (vI 0), none]) dX5_sizesIn_1 rfl (lt9 rfl) rfl rfl ?_
  refine Ev.iconst (pc := 2) (v := 0) dX5_sizesIn_2 ki_0 ?_
  refine Ev.istore_n (pc := 3) (lv' := [some (vR 1), some (vI a1), some (vI 0), some (vI 0)]) dX5_sizesIn_3 rfl (lt9 rfl) rfl rfl ?_
  exact Ev.weak2 (ll_X5_sizesIn_4 N N _ _ _ _ _ _ h) (lsubS (lsubS (lsubS (lsubS lsubE))))
theorem r_X5_sizesIn {N : Nat} {a1 : Int32} {σ : St} {v : Int32} {w : St} (h : o_X5_sizesIn N a1 σ = some (v, w)) : Rn md_X5_sizesIn 1 [vR 1, vI a1] SH σ (some (vI v), SH, w) := Rn.of ce_X5_sizesIn.1 (Nat.le_of_ble_eq_true rfl) (e_X5_sizesIn N _ _ _ _ h)
def o_X1_sizesOf (N : Nat) (a1 : Int32) (σ : St) : Option (Int32 × St) := bd (o_X1_heldBy N a1 σ) fun x1 σ2 => bd (o_X5_sizesIn N x1 σ2) fun x4 σ5 => some (x4, σ5)
theorem e_X1_sizesOf (N : Nat) (a1 : Int32) (σ : St) (v : Int32) (w : St) (h : o_X1_sizesOf N a1 σ = some (v, w)) : Ev md_X1_sizesOf 3 0 (lvE [vR 23, vI a1] 2) [] SH σ (some (vI v), SH, w) := by
  show Ev md_X1_sizesOf 3 0 [some (vR 23), some (vI a1)] [] SH σ (some (vI v), SH, w)
  unfold o_X1_sizesOf at h
  refine Ev.aload_n (pc := 0) dX1_sizesOf_0 rfl rfl ?_
  refine Ev.getR (pc := 1) dX1_sizesOf_1 fl_X1_15 sh_23 rfl ?_
  refine Ev.aload_n (pc := 4) dX1_sizesOf_4 rfl rfl ?_
  refine Ev.iload_n (pc := 5) dX1_sizesOf_5 rfl rfl ?_
  obtain ⟨x1, σ2, g3, h⟩ := bd_elim h
  refine Ev.cVi (pc := 6) (k := 23) (av := [vI a1]) (rest := [vR 1]) dX1_sizesOf_6 ce_X1_heldBy ml_X1_57 rfl sh_23 cl_X1 sh_sc (Nat.le_of_ble_eq_true rfl) (Nat.le_of_ble_eq_true rfl) (r_X1_heldBy g3) ?_
  obtain ⟨x4, σ5, g6, h⟩ := bd_elim h
  refine Ev.cVi (pc := 9) (k := 1) (av := [vI x1]) (rest := []) dX1_sizesOf_9 ce_X5_sizesIn ml_X1_63 rfl sh_1 cl_X5 sh_sc (Nat.le_of_ble_eq_true rfl) (Nat.le_of_ble_eq_true rfl) (r_X5_sizesIn g6) ?_
  obtain ⟨h1, h2⟩ := oeq h
  subst h1
  subst h2
  exact Ev.ret_i (pc := 12) dX1_sizesOf_12 rfl rfl
theorem r_X1_sizesOf {N : Nat} {a1 : Int32} {σ : St} {v : Int32} {w : St} (h : o_X1_sizesOf N a1 σ = some (v, w)) : Rn md_X1_sizesOf 3 [vR 23, vI a1] SH σ (some (vI v), SH, w) := Rn.of ce_X1_sizesOf.1 (Nat.le_of_ble_eq_true rfl) (e_X1_sizesOf N _ _ _ _ h)
def l_X9_firstOfFamily_2 (N : Nat) : Nat → Int32 → Int32 → St → Option (Int32 × St)
  | 0, _, _, _ => none
  | n + 1, v1, v2, σ => if (σ 1 2) ≤ v2 then (some ((-1), σ)) else (if (at_ σ 3 3 v2) = v1 then (some (v2, σ)) else (bt (v2 + 1) fun x3 => l_X9_firstOfFamily_2 N n v1 x3 σ))
def o_X9_firstOfFamily (N : Nat) (a1 : Int32) (σ : St) : Option (Int32 × St) := l_X9_firstOfFamily_2 N N a1 0 σ
theorem ll_X9_firstOfFamily_2 (N : Nat) : ∀ (n : Nat) (v1 : Int32) (v2 : Int32) (σ : St) (v : Int32) (w : St), l_X9_firstOfFamily_2 N n v1 v2 σ = some (v, w) → Ev md_X9_firstOfFamily 1 2 [some (vR 0), some (vI v1), some (vI v2)] [] SH σ (some (vI v), SH, w) := by
  intro n
  induction n with
  | zero =>
    intro v1 v2 σ v w h
    rw [l_X9_firstOfFamily_2] at h
    cases h
  | succ n ih =>
    intro v1 v2 σ v w h
    rw [l_X9_firstOfFamily_2] at h
    refine Ev.iload_n (pc := 2) dX9_firstOfFamily_2 rfl rfl ?_
    refine Ev.aload_n (pc := 3) dX9_firstOfFamily_3 rfl rfl ?_
    refine Ev.getR (pc := 4) dX9_firstOfFamily_4 fl_X9_10 sh_0 rfl ?_
    refine Ev.getI (pc := 7) dX9_firstOfFamily_7 fl_X9_116 sh_1 rfl ?_
    by_cases c1 : (σ 1 2) ≤ v2
    · replace h := (if_pos c1).symm.trans h
      refine Ev.icmp_ge_t (pc := 10) (tgt := 36) dX9_firstOfFamily_10 rfl c1 ?_
      refine Ev.iconst (pc := 36) (v := (-1)) dX9_firstOfFamily_36 ki_m1 ?_
      obtain ⟨h1, h2⟩ := oeq h
      subst h1
      subst h2
      exact Ev.ret_i (pc := 37) dX9_firstOfFamily_37 rfl rfl
    · replace h := (if_neg c1).symm.trans h
      refine Ev.icmp_ge_f (pc := 10) dX9_firstOfFamily_10 ⟨36, rfl⟩ c1 ?_
      refine Ev.aload_n (pc := 13) dX9_firstOfFamily_13 rfl rfl ?_
      refine Ev.getR (pc := 14) dX9_firstOfFamily_14 fl_X9_10 sh_0 rfl ?_
      refine Ev.getR (pc := 17) dX9_firstOfFamily_17 fl_X9_156 sh_1 rfl ?_
      refine Ev.iload_n (pc := 20) dX9_firstOfFamily_20 rfl rfl ?_
      refine Ev.cTi (pc := 21) (av := [vR 3, vI v2]) (rest := []) dX9_firstOfFamily_21 ce_X9_at ml_X9_160 rfl sh_sc (Nat.le_of_ble_eq_true rfl) (Nat.le_of_ble_eq_true rfl) (r_at sh_3 (by decide) _ _) ?_
      refine Ev.iload_n (pc := 24) dX9_firstOfFamily_24 rfl rfl ?_
      by_cases c2 : (at_ σ 3 3 v2) = v1
      · replace h := (if_pos c2).symm.trans h
        refine Ev.icmp_ne_f (pc := 25) dX9_firstOfFamily_25 ⟨30, rfl⟩ c2 ?_
        refine Ev.iload_n (pc := 28) dX9_firstOfFamily_28 rfl rfl ?_
        obtain ⟨h1, h2⟩ := oeq h
        subst h1
        subst h2
        exact Ev.ret_i (pc := 29) dX9_firstOfFamily_29 rfl rfl
      · replace h := (if_neg c2).symm.trans h
        refine Ev.icmp_ne_t (pc := 25) (tgt := 30) dX9_firstOfFamily_25 rfl c2 ?_
        obtain ⟨x3, e_x3, h⟩ := bt_elim h
        refine Ev.iinc (pc := 30) (v := x3) (lv' := [some (vR 0), some (vI v1), some (vI x3)]) dX9_firstOfFamily_30 rfl (by rw [ki_1, e_x3]) (lt9 rfl) rfl rfl ?_
        refine Ev.goto (pc := 33) (tgt := 2) dX9_firstOfFamily_33 rfl ?_
        exact Ev.weak2 (ih _ _ _ _ _ h) (lsubS (lsubS (lsubS lsubE)))
theorem e_X9_firstOfFamily (N : Nat) (a1 : Int32) (σ : St) (v : Int32) (w : St) (h : o_X9_firstOfFamily N a1 σ = some (v, w)) : Ev md_X9_firstOfFamily 1 0 (lvE [vR 0, vI a1] 3) [] SH σ (some (vI v), SH, w) := by
  show Ev md_X9_firstOfFamily 1 0 [some (vR 0), some (vI a1), none] [] SH σ (some (vI v), SH, w)
  unfold o_X9_firstOfFamily at h
  refine Ev.iconst (pc := 0) (v := 0) dX9_firstOfFamily_0 ki_0 ?_
  refine Ev.istore_n (pc := 1) (lv' := [some (vR 0), some (vI a1), some (vI 0)]) dX9_firstOfFamily_1 rfl (lt9 rfl) rfl rfl ?_
  exact Ev.weak2 (ll_X9_firstOfFamily_2 N N _ _ _ _ _ h) (lsubS (lsubS (lsubS lsubE)))
theorem r_X9_firstOfFamily {N : Nat} {a1 : Int32} {σ : St} {v : Int32} {w : St} (h : o_X9_firstOfFamily N a1 σ = some (v, w)) : Rn md_X9_firstOfFamily 1 [vR 0, vI a1] SH σ (some (vI v), SH, w) := Rn.of ce_X9_firstOfFamily.1 (Nat.le_of_ble_eq_true rfl) (e_X9_firstOfFamily N _ _ _ _ h)
def j_X9_share_84 (N : Nat) (K_41 : Int32 → Int32 → Int32 → Int32 → Int32 → St → Option (Int32 × St)) (v1 : Int32) (v2 : Int32) (v3 : Int32) (v5 : Int32) (s0 : Int32) (s1 : Int32) (σ : St) : Option (Int32 × St) := bt (s0 + s1) fun x1 => bt (v5 + 1) fun x2 => K_41 v1 v2 v3 x1 x2 σ
def j_X9_share_230 (N : Nat) (K_137 : Int32 → Int32 → Int32 → Int32 → Int32 → Int32 → Int32 → Int32 → St → Option (Int32 × St)) (v1 : Int32) (v2 : Int32) (v3 : Int32) (v4 : Int32) (v5 : Int32) (v6 : Int32) (v7 : Int32) (v8 : Int32) (σ : St) : Option (Int32 × St) := bt (v8 + 1) fun x1 => K_137 v1 v2 v3 v4 v5 v6 v7 x1 σ
def j_X9_share_227 (N : Nat) (K_137 : Int32 → Int32 → Int32 → Int32 → Int32 → Int32 → Int32 → Int32 → St → Option (Int32 × St)) (v1 : Int32) (v2 : Int32) (v3 : Int32) (v4 : Int32) (v5 : Int32) (v7 : Int32) (v8 : Int32) (s0 : Int32) (s1 : Int32) (σ : St) : Option (Int32 × St) := bt (s0 + s1) fun x1 => j_X9_share_230 N K_137 v1 v2 v3 v4 v5 x1 v7 v8 σ
def j_X9_share_222 (N : Nat) (K_137 : Int32 → Int32 → Int32 → Int32 → Int32 → Int32 → Int32 → Int32 → St → Option (Int32 × St)) (v1 : Int32) (v2 : Int32) (v3 : Int32) (v4 : Int32) (v5 : Int32) (v7 : Int32) (v8 : Int32) (s0 : Int32) (σ : St) : Option (Int32 × St) := j_X9_share_227 N K_137 v1 v2 v3 v4 v5 v7 v8 s0 1 σ
def j_X9_share_226 (N : Nat) (K_137 : Int32 → Int32 → Int32 → Int32 → Int32 → Int32 → Int32 → Int32 → St → Option (Int32 × St)) (v1 : Int32) (v2 : Int32) (v3 : Int32) (v4 : Int32) (v5 : Int32) (v7 : Int32) (v8 : Int32) (s0 : Int32) (σ : St) : Option (Int32 × St) := j_X9_share_227 N K_137 v1 v2 v3 v4 v5 v7 v8 s0 0 σ
def l_X9_share_137 (N : Nat) : Nat → Int32 → Int32 → Int32 → Int32 → Int32 → Int32 → Int32 → Int32 → St → Option (Int32 × St)
  | 0, _, _, _, _, _, _, _, _, _ => none
  | n + 1, v1, v2, v3, v4, v5, v6, v7, v8, σ => if (σ 1 2) ≤ v8 then (bd (o_X1_sizesOf N v1 σ) fun x2 σ3 => ckDI v4 (if v5 ≤ v6 then (some ((((v3 * x2) / v4) + 0), σ3)) else (some ((((v3 * x2) / v4) + 1), σ3)))) else (if (at_ σ 3 3 v8) = v2 then (bd (o_X1_sizesOf N v8 σ) fun x8 σ9 => ckDI v4 (bt (v5 - ((v3 * x8) / v4)) fun x12 => bd (o_X1_sizesOf N v8 σ9) fun x13 σ14 => ckDI v4 (bt ((v3 * x13) - (v3 * x13) / v4 * v4) fun x17 => if v7 < x17 then (j_X9_share_222 N (l_X9_share_137 N n) v1 v2 v3 v4 x12 v7 v8 v6 σ14) else (if x17 = v7 then (if v1 ≤ v8 then (j_X9_share_226 N (l_X9_share_137 N n) v1 v2 v3 v4 x12 v7 v8 v6 σ14) else (j_X9_share_222 N (l_X9_share_137 N n) v1 v2 v3 v4 x12 v7 v8 v6 σ14)) else (j_X9_share_226 N (l_X9_share_137 N n) v1 v2 v3 v4 x12 v7 v8 v6 σ14))))) else (j_X9_share_230 N (l_X9_share_137 N n) v1 v2 v3 v4 v5 v6 v7 v8 σ))
def l_X9_share_41 (N : Nat) : Nat → Int32 → Int32 → Int32 → Int32 → Int32 → St → Option (Int32 × St)
  | 0, _, _, _, _, _, _ => none
  | n + 1, v1, v2, v3, v4, v5, σ => if (σ 1 2) ≤ v5 then (if (0 : Int32) < v4 then (bd (o_X1_sizesOf N v1 σ) fun x3 σ4 => ckDI v4 (bt ((v3 * x3) - (v3 * x3) / v4 * v4) fun x7 => l_X9_share_137 N N v1 v2 v3 v4 v3 0 x7 0 σ4)) else (bd (o_X9_firstOfFamily N v2 σ) fun x8 σ9 => if x8 = v1 then (some (v3, σ9)) else (some (0, σ9)))) else (if (at_ σ 3 3 v5) = v2 then (bd (o_X1_sizesOf N v5 σ) fun x13 σ14 => j_X9_share_84 N (l_X9_share_41 N n) v1 v2 v3 v5 v4 x13 σ14) else (j_X9_share_84 N (l_X9_share_41 N n) v1 v2 v3 v5 v4 0 σ))
def o_X9_share (N : Nat) (a1 : Int32) (σ : St) : Option (Int32 × St) := if (p_X5_hasKeeper a1 σ) = 0 then (some ((-1000000001), σ)) else (bt (at_ σ 3 3 a1) fun x2 => bt (p_X1_fellOn x2 σ) fun x3 => l_X9_share_41 N N a1 x2 x3 0 0 σ)
theorem lj_X9_share_84 (N : Nat) (K_41 : Int32 → Int32 → Int32 → Int32 → Int32 → St → Option (Int32 × St)) (hK_41 : ∀ (v1 : Int32) (v2 : Int32) (v3 : Int32) (v4 : Int32) (v5 : Int32) (σ : St) (v : Int32) (w : St), K_41 v1 v2 v3 v4 v5 σ = some (v, w) → Ev md_X9_share 4 41 [some (vR 0), some (vI v1), some (vI v2), some (vI v3), some (vI v4), some (vI v5), none, none, none, none] [] SH σ (some (vI v), SH, w)) (v1 : Int32) (v2 : Int32) (v3 : Int32) (v5 : Int32) (s0 : Int32) (s1 : Int32) (σ : St) (v : Int32) (w : St) (h : j_X9_share_84 N K_41 v1 v2 v3 v5 s0 s1 σ = some (v, w)) : Ev md_X9_share 4 84 [some (vR 0), some (vI v1), some (vI v2), some (vI v3), none, some (vI v5), none, none, none, none] [vI s1, vI s0] SH σ (some (vI v), SH, w) := by
  unfold j_X9_share_84 at h
  refine Ev.iadd (pc := 84) dX9_share_84 ?_
  refine Ev.nmI (fun x1 e9 => ?_)
  replace h := bt_app h x1 e9
  refine Ev.istore (pc := 85) (lv' := [some (vR 0), some (vI v1), some (vI v2), some (vI v3), some (vI x1), some (vI v5), none, none, none, none]) dX9_share_85 (lt9 rfl) rfl rfl ?_
  obtain ⟨x2, e_x2, h⟩ := bt_elim h
  refine Ev.iinc (pc := 87) (v := x2) (lv' := [some (vR 0), some (vI v1), some (vI v2), some (vI v3), some (vI x1), some (vI x2), none, none, none, none]) dX9_share_87 rfl (by rw [ki_1, e_x2]) (lt9 rfl) rfl rfl ?_
  refine Ev.goto (pc := 90) (tgt := 41) dX9_share_90 rfl ?_
  exact Ev.weak2 (hK_41 _ _ _ _ _ _ _ _ h) (lsubS (lsubS (lsubS (lsubS (lsubS (lsubS (lsubN (lsubN (lsubN (lsubN lsubE))))))))))
theorem lj_X9_share_230 (N : Nat) (K_137 : Int32 → Int32 → Int32 → Int32 → Int32 → Int32 → Int32 → Int32 → St → Option (Int32 × St)) (hK_137 : ∀ (v1 : Int32) (v2 : Int32) (v3 : Int32) (v4 : Int32) (v5 : Int32) (v6 : Int32) (v7 : Int32) (v8 : Int32) (σ : St) (v : Int32) (w : St), K_137 v1 v2 v3 v4 v5 v6 v7 v8 σ = some (v, w) → Ev md_X9_share 4 137 [some (vR 0), some (vI v1), some (vI v2), some (vI v3), some (vI v4), some (vI v5), some (vI v6), some (vI v7), some (vI v8), none] [] SH σ (some (vI v), SH, w)) (v1 : Int32) (v2 : Int32) (v3 : Int32) (v4 : Int32) (v5 : Int32) (v6 : Int32) (v7 : Int32) (v8 : Int32) (σ : St) (v : Int32) (w : St) (h : j_X9_share_230 N K_137 v1 v2 v3 v4 v5 v6 v7 v8 σ = some (v, w)) : Ev md_X9_share 4 230 [some (vR 0), some (vI v1), some (vI v2), some (vI v3), some (vI v4), some (vI v5), some (vI v6), some (vI v7), some (vI v8), none] [] SH σ (some (vI v), SH, w) := by
  unfold j_X9_share_230 at h
  obtain ⟨x1, e_x1, h⟩ := bt_elim h
  refine Ev.iinc (pc := 230) (v := x1) (lv' := [some (vR 0), some (vI v1), some (vI v2), some (vI v3), some (vI v4), some (vI v5), some (vI v6), some (vI v7), some (vI x1), none]) dX9_share_230 rfl (by rw [ki_1, e_x1]) (lt9 rfl) rfl rfl ?_
  refine Ev.goto (pc := 233) (tgt := 137) dX9_share_233 rfl ?_
  exact Ev.weak2 (hK_137 _ _ _ _ _ _ _ _ _ _ _ h) (lsubS (lsubS (lsubS (lsubS (lsubS (lsubS (lsubS (lsubS (lsubS (lsubN lsubE))))))))))
theorem lj_X9_share_227 (N : Nat) (K_137 : Int32 → Int32 → Int32 → Int32 → Int32 → Int32 → Int32 → Int32 → St → Option (Int32 × St)) (hK_137 : ∀ (v1 : Int32) (v2 : Int32) (v3 : Int32) (v4 : Int32) (v5 : Int32) (v6 : Int32) (v7 : Int32) (v8 : Int32) (σ : St) (v : Int32) (w : St), K_137 v1 v2 v3 v4 v5 v6 v7 v8 σ = some (v, w) → Ev md_X9_share 4 137 [some (vR 0), some (vI v1), some (vI v2), some (vI v3), some (vI v4), some (vI v5), some (vI v6), some (vI v7), some (vI v8), none] [] SH σ (some (vI v), SH, w)) (v1 : Int32) (v2 : Int32) (v3 : Int32) (v4 : Int32) (v5 : Int32) (v7 : Int32) (v8 : Int32) (s0 : Int32) (s1 : Int32) (σ : St) (v : Int32) (w : St) (h : j_X9_share_227 N K_137 v1 v2 v3 v4 v5 v7 v8 s0 s1 σ = some (v, w)) : Ev md_X9_share 4 227 [some (vR 0), some (vI v1), some (vI v2), some (vI v3), some (vI v4), some (vI v5), none, some (vI v7), some (vI v8), none] [vI s1, vI s0] SH σ (some (vI v), SH, w) := by
  unfold j_X9_share_227 at h
  refine Ev.iadd (pc := 227) dX9_share_227 ?_
  refine Ev.nmI (fun x1 e9 => ?_)
  replace h := bt_app h x1 e9
  refine Ev.istore (pc := 228) (lv' := [some (vR 0), some (vI v1), some (vI v2), some (vI v3), some (vI v4), some (vI v5), some (vI x1), some (vI v7), some (vI v8), none]) dX9_share_228 (lt9 rfl) rfl rfl ?_
  exact Ev.weak2 (lj_X9_share_230 N K_137 hK_137 _ _ _ _ _ _ _ _ _ _ _ h) (lsubS (lsubS (lsubS (lsubS (lsubS (lsubS (lsubS (lsubS (lsubS (lsubN lsubE))))))))))
theorem lj_X9_share_222 (N : Nat) (K_137 : Int32 → Int32 → Int32 → Int32 → Int32 → Int32 → Int32 → Int32 → St → Option (Int32 × St)) (hK_137 : ∀ (v1 : Int32) (v2 : Int32) (v3 : Int32) (v4 : Int32) (v5 : Int32) (v6 : Int32) (v7 : Int32) (v8 : Int32) (σ : St) (v : Int32) (w : St), K_137 v1 v2 v3 v4 v5 v6 v7 v8 σ = some (v, w) → Ev md_X9_share 4 137 [some (vR 0), some (vI v1), some (vI v2), some (vI v3), some (vI v4), some (vI v5), some (vI v6), some (vI v7), some (vI v8), none] [] SH σ (some (vI v), SH, w)) (v1 : Int32) (v2 : Int32) (v3 : Int32) (v4 : Int32) (v5 : Int32) (v7 : Int32) (v8 : Int32) (s0 : Int32) (σ : St) (v : Int32) (w : St) (h : j_X9_share_222 N K_137 v1 v2 v3 v4 v5 v7 v8 s0 σ = some (v, w)) : Ev md_X9_share 4 222 [some (vR 0), some (vI v1), some (vI v2), some (vI v3), some (vI v4), some (vI v5), none, some (vI v7), some (vI v8), none] [vI s0] SH σ (some (vI v), SH, w) := by
  unfold j_X9_share_222 at h
  refine Ev.iconst (pc := 222) (v := 1) dX9_share_222 ki_1 ?_
  refine Ev.goto (pc := 223) (tgt := 227) dX9_share_223 rfl ?_
  exact Ev.weak2 (lj_X9_share_227 N K_137 hK_137 _ _ _ _ _ _ _ _ _ _ _ _ h) (lsubS (lsubS (lsubS (lsubS (lsubS (lsubS (lsubN (lsubS (lsubS (lsubN lsubE))))))))))
theorem lj_X9_share_226 (N : Nat) (K_137 : Int32 → Int32 → Int32 → Int32 → Int32 → Int32 → Int32 → Int32 → St → Option (Int32 × St)) (hK_137 : ∀ (v1 : Int32) (v2 : Int32) (v3 : Int32) (v4 : Int32) (v5 : Int32) (v6 : Int32) (v7 : Int32) (v8 : Int32) (σ : St) (v : Int32) (w : St), K_137 v1 v2 v3 v4 v5 v6 v7 v8 σ = some (v, w) → Ev md_X9_share 4 137 [some (vR 0), some (vI v1), some (vI v2), some (vI v3), some (vI v4), some (vI v5), some (vI v6), some (vI v7), some (vI v8), none] [] SH σ (some (vI v), SH, w)) (v1 : Int32) (v2 : Int32) (v3 : Int32) (v4 : Int32) (v5 : Int32) (v7 : Int32) (v8 : Int32) (s0 : Int32) (σ : St) (v : Int32) (w : St) (h : j_X9_share_226 N K_137 v1 v2 v3 v4 v5 v7 v8 s0 σ = some (v, w)) : Ev md_X9_share 4 226 [some (vR 0), some (vI v1), some (vI v2), some (vI v3), some (vI v4), some (vI v5), none, some (vI v7), some (vI v8), none] [vI s0] SH σ (some (vI v), SH, w) := by
  unfold j_X9_share_226 at h
  refine Ev.iconst (pc := 226) (v := 0) dX9_share_226 ki_0 ?_
  exact Ev.weak2 (lj_X9_share_227 N K_137 hK_137 _ _ _ _ _ _ _ _ _ _ _ _ h) (lsubS (lsubS (lsubS (lsubS (lsubS (lsubS (lsubN (lsubS (lsubS (lsubN lsubE))))))))))
theorem ll_X9_share_137 (N : Nat) : ∀ (n : Nat) (v1 : Int32) (v2 : Int32) (v3 : Int32) (v4 : Int32) (v5 : Int32) (v6 : Int32) (v7 : Int32) (v8 : Int32) (σ : St) (v : Int32) (w : St), l_X9_share_137 N n v1 v2 v3 v4 v5 v6 v7 v8 σ = some (v, w) → Ev md_X9_share 4 137 [some (vR 0), some (vI v1), some (vI v2), some (vI v3), some (vI v4), some (vI v5), some (vI v6), some (vI v7), some (vI v8), none] [] SH σ (some (vI v), SH, w) := by
  intro n
  induction n with
  | zero =>
    intro v1 v2 v3 v4 v5 v6 v7 v8 σ v w h
    rw [l_X9_share_137] at h
    cases h
  | succ n ih =>
    intro v1 v2 v3 v4 v5 v6 v7 v8 σ v w h
    rw [l_X9_share_137] at h
    refine Ev.iload (pc := 137) dX9_share_137 rfl ?_
    refine Ev.aload_n (pc := 139) dX9_share_139 rfl rfl ?_
    refine Ev.getR (pc := 140) dX9_share_140 fl_X9_10 sh_0 rfl ?_
    refine Ev.getI (pc := 143) dX9_share_143 fl_X9_116 sh_1 rfl ?_
    by_cases c1 : (σ 1 2) ≤ v8
    · replace h := (if_pos c1).symm.trans h
      refine Ev.icmp_ge_t (pc := 146) (tgt := 236) dX9_share_146 rfl c1 ?_
      refine Ev.iload_n (pc := 236) dX9_share_236 rfl rfl ?_
      refine Ev.aload_n (pc := 237) dX9_share_237 rfl rfl ?_
      refine Ev.getR (pc := 238) dX9_share_238 fl_X9_31 sh_0 rfl ?_
      refine Ev.iload_n (pc := 241) dX9_share_241 rfl rfl ?_
      obtain ⟨x2, σ3, g4, h⟩ := bd_elim h
      refine Ev.cVi (pc := 242) (k := 23) (av := [vI v1]) (rest := [vI v3]) dX9_share_242 ce_X1_sizesOf ml_X9_289 rfl sh_23 cl_X1 sh_sc (Nat.le_of_ble_eq_true rfl) (Nat.le_of_ble_eq_true rfl) (r_X1_sizesOf g4) ?_
      refine Ev.imul (pc := 245) dX9_share_245 ?_
      refine Ev.iload (pc := 246) dX9_share_246 rfl ?_
      obtain ⟨c5, h⟩ := ckDI_elim h
      refine Ev.idiv (pc := 248) dX9_share_248 c5 ?_
      refine Ev.iload (pc := 249) dX9_share_249 rfl ?_
      refine Ev.iload (pc := 251) dX9_share_251 rfl ?_
      by_cases c6 : v5 ≤ v6
      · replace h := (if_pos c6).symm.trans h
        refine Ev.icmp_ge_t (pc := 253) (tgt := 260) dX9_share_253 rfl c6 ?_
        refine Ev.iconst (pc := 260) (v := 0) dX9_share_260 ki_0 ?_
        refine Ev.iadd (pc := 261) dX9_share_261 ?_
        obtain ⟨h1, h2⟩ := oeq h
        subst h1
        subst h2
        exact Ev.ret_i (pc := 262) dX9_share_262 rfl rfl
      · replace h := (if_neg c6).symm.trans h
        refine Ev.icmp_ge_f (pc := 253) dX9_share_253 ⟨260, rfl⟩ c6 ?_
        refine Ev.iconst (pc := 256) (v := 1) dX9_share_256 ki_1 ?_
        refine Ev.goto (pc := 257) (tgt := 261) dX9_share_257 rfl ?_
        refine Ev.iadd (pc := 261) dX9_share_261 ?_
        obtain ⟨h1, h2⟩ := oeq h
        subst h1
        subst h2
        exact Ev.ret_i (pc := 262) dX9_share_262 rfl rfl
    · replace h := (if_neg c1).symm.trans h
      refine Ev.icmp_ge_f (pc := 146) dX9_share_146 ⟨236, rfl⟩ c1 ?_
      refine Ev.aload_n (pc := 149) dX9_share_149 rfl rfl ?_
      refine Ev.getR (pc := 150) dX9_share_150 fl_X9_10 sh_0 rfl ?_
      refine Ev.getR (pc := 153) dX9_share_153 fl_X9_156 sh_1 rfl ?_
      refine Ev.iload (pc := 156) dX9_share_156 rfl ?_
      refine Ev.cTi (pc := 158) (av := [vR 3, vI v8]) (rest := []) dX9_share_158 ce_X9_at ml_X9_160 rfl sh_sc (Nat.le_of_ble_eq_true rfl) (Nat.le_of_ble_eq_true rfl) (r_at sh_3 (by decide) _ _) ?_
      refine Ev.iload_n (pc := 161) dX9_share_161 rfl rfl ?_
      by_cases c7 : (at_ σ 3 3 v8) = v2
      · replace h := (if_pos c7).symm.trans h
        refine Ev.icmp_ne_f (pc := 162) dX9_share_162 ⟨230, rfl⟩ c7 ?_
        refine Ev.iload (pc := 165) dX9_share_165 rfl ?_
        refine Ev.iload_n (pc := 167) dX9_share_167 rfl rfl ?_
        refine Ev.aload_n (pc := 168) dX9_share_168 rfl rfl ?_
        refine Ev.getR (pc := 169) dX9_share_169 fl_X9_31 sh_0 rfl ?_
        refine Ev.iload (pc := 172) dX9_share_172 rfl ?_
        obtain ⟨x8, σ9, g10, h⟩ := bd_elim h
        refine Ev.cVi (pc := 174) (k := 23) (av := [vI v8]) (rest := [vI v3, vI v5]) dX9_share_174 ce_X1_sizesOf ml_X9_289 rfl sh_23 cl_X1 sh_sc (Nat.le_of_ble_eq_true rfl) (Nat.le_of_ble_eq_true rfl) (r_X1_sizesOf g10) ?_
        refine Ev.imul (pc := 177) dX9_share_177 ?_
        refine Ev.iload (pc := 178) dX9_share_178 rfl ?_
        obtain ⟨c11, h⟩ := ckDI_elim h
        refine Ev.idiv (pc := 180) dX9_share_180 c11 ?_
        refine Ev.isub (pc := 181) dX9_share_181 ?_
        refine Ev.nmI (fun x12 e9 => ?_)
        replace h := bt_app h x12 e9
        refine Ev.istore (pc := 182) (lv' := [some (vR 0), some (vI v1), some (vI v2), some (vI v3), some (vI v4), some (vI x12), some (vI v6), some (vI v7), some (vI v8), none]) dX9_share_182 (lt9 rfl) rfl rfl ?_
        refine Ev.iload_n (pc := 184) dX9_share_184 rfl rfl ?_
        refine Ev.aload_n (pc := 185) dX9_share_185 rfl rfl ?_
        refine Ev.getR (pc := 186) dX9_share_186 fl_X9_31 sh_0 rfl ?_
        refine Ev.iload (pc := 189) dX9_share_189 rfl ?_
        obtain ⟨x13, σ14, g15, h⟩ := bd_elim h
        refine Ev.cVi (pc := 191) (k := 23) (av := [vI v8]) (rest := [vI v3]) dX9_share_191 ce_X1_sizesOf ml_X9_289 rfl sh_23 cl_X1 sh_sc (Nat.le_of_ble_eq_true rfl) (Nat.le_of_ble_eq_true rfl) (r_X1_sizesOf g15) ?_
        refine Ev.imul (pc := 194) dX9_share_194 ?_
        refine Ev.iload (pc := 195) dX9_share_195 rfl ?_
        obtain ⟨c16, h⟩ := ckDI_elim h
        refine Ev.irem (pc := 197) dX9_share_197 c16 ?_
        refine Ev.nmI (fun x17 e9 => ?_)
        replace h := bt_app h x17 e9
        refine Ev.istore (pc := 198) (lv' := [some (vR 0), some (vI v1), some (vI v2), some (vI v3), some (vI v4), some (vI x12), some (vI v6), some (vI v7), some (vI v8), some (vI x17)]) dX9_share_198 (lt9 rfl) rfl rfl ?_
        refine Ev.iload (pc := 200) dX9_share_200 rfl ?_
        refine Ev.iload (pc := 202) dX9_share_202 rfl ?_
        refine Ev.iload (pc := 204) dX9_share_204 rfl ?_
        by_cases c18 : v7 < x17
        · replace h := (if_pos c18).symm.trans h
          refine Ev.icmp_gt_t (pc := 206) (tgt := 222) dX9_share_206 rfl c18 ?_
          exact Ev.weak2 (lj_X9_share_222 N (l_X9_share_137 N n) ih _ _ _ _ _ _ _ _ _ _ _ h) (lsubS (lsubS (lsubS (lsubS (lsubS (lsubS (lsubN (lsubS (lsubS (lsubN lsubE))))))))))
        · replace h := (if_neg c18).symm.trans h
          refine Ev.icmp_gt_f (pc := 206) dX9_share_206 ⟨222, rfl⟩ c18 ?_
          refine Ev.iload (pc := 209) dX9_share_209 rfl ?_
          refine Ev.iload (pc := 211) dX9_share_211 rfl ?_
          by_cases c19 : x17 = v7
          · replace h := (if_pos c19).symm.trans h
            refine Ev.icmp_ne_f (pc := 213) dX9_share_213 ⟨226, rfl⟩ c19 ?_
            refine Ev.iload (pc := 216) dX9_share_216 rfl ?_
            refine Ev.iload_n (pc := 218) dX9_share_218 rfl rfl ?_
            by_cases c20 : v1 ≤ v8
            · replace h := (if_pos c20).symm.trans h
              refine Ev.icmp_ge_t (pc := 219) (tgt := 226) dX9_share_219 rfl c20 ?_
              exact Ev.weak2 (lj_X9_share_226 N (l_X9_share_137 N n) ih _ _ _ _ _ _ _ _ _ _ _ h) (lsubS (lsubS (lsubS (lsubS (lsubS (lsubS (lsubN (lsubS (lsubS (lsubN lsubE))))))))))
            · replace h := (if_neg c20).symm.trans h
              refine Ev.icmp_ge_f (pc := 219) dX9_share_219 ⟨226, rfl⟩ c20 ?_
              exact Ev.weak2 (lj_X9_share_222 N (l_X9_share_137 N n) ih _ _ _ _ _ _ _ _ _ _ _ h) (lsubS (lsubS (lsubS (lsubS (lsubS (lsubS (lsubN (lsubS (lsubS (lsubN lsubE))))))))))
          · replace h := (if_neg c19).symm.trans h
            refine Ev.icmp_ne_t (pc := 213) (tgt := 226) dX9_share_213 rfl c19 ?_
            exact Ev.weak2 (lj_X9_share_226 N (l_X9_share_137 N n) ih _ _ _ _ _ _ _ _ _ _ _ h) (lsubS (lsubS (lsubS (lsubS (lsubS (lsubS (lsubN (lsubS (lsubS (lsubN lsubE))))))))))
      · replace h := (if_neg c7).symm.trans h
        refine Ev.icmp_ne_t (pc := 162) (tgt := 230) dX9_share_162 rfl c7 ?_
        exact Ev.weak2 (lj_X9_share_230 N (l_X9_share_137 N n) ih _ _ _ _ _ _ _ _ _ _ _ h) (lsubS (lsubS (lsubS (lsubS (lsubS (lsubS (lsubS (lsubS (lsubS (lsubN lsubE))))))))))
theorem ll_X9_share_41 (N : Nat) : ∀ (n : Nat) (v1 : Int32) (v2 : Int32) (v3 : Int32) (v4 : Int32) (v5 : Int32) (σ : St) (v : Int32) (w : St), l_X9_share_41 N n v1 v2 v3 v4 v5 σ = some (v, w) → Ev md_X9_share 4 41 [some (vR 0), some (vI v1), some (vI v2), some (vI v3), some (vI v4), some (vI v5), none, none, none, none] [] SH σ (some (vI v), SH, w) := by
  intro n
  induction n with
  | zero =>
    intro v1 v2 v3 v4 v5 σ v w h
    rw [l_X9_share_41] at h
    cases h
  | succ n ih =>
    intro v1 v2 v3 v4 v5 σ v w h
    rw [l_X9_share_41] at h
    refine Ev.iload (pc := 41) dX9_share_41 rfl ?_
    refine Ev.aload_n (pc := 43) dX9_share_43 rfl rfl ?_
    refine Ev.getR (pc := 44) dX9_share_44 fl_X9_10 sh_0 rfl ?_
    refine Ev.getI (pc := 47) dX9_share_47 fl_X9_116 sh_1 rfl ?_
    by_cases c1 : (σ 1 2) ≤ v5
    · replace h := (if_pos c1).symm.trans h
      refine Ev.icmp_ge_t (pc := 50) (tgt := 93) dX9_share_50 rfl c1 ?_
      refine Ev.iload (pc := 93) dX9_share_93 rfl ?_
      by_cases c2 : (0 : Int32) < v4
      · replace h := (if_pos c2).symm.trans h
        refine Ev.if_gt_t (pc := 95) (tgt := 113) dX9_share_95 rfl c2 ?_
        refine Ev.iload_n (pc := 113) dX9_share_113 rfl rfl ?_
        refine Ev.istore (pc := 114) (lv' := [some (vR 0), some (vI v1), some (vI v2), some (vI v3), some (vI v4), some (vI v3), none, none, none, none]) dX9_share_114 (lt9 rfl) rfl rfl ?_
        refine Ev.iconst (pc := 116) (v := 0) dX9_share_116 ki_0 ?_
        refine Ev.istore (pc := 117) (lv' := [some (vR 0), some (vI v1), some (vI v2), some (vI v3), some (vI v4), some (vI v3), some (vI 0), none, none, none]) dX9_share_117 (lt9 rfl) rfl rfl ?_
        refine Ev.iload_n (pc := 119) dX9_share_119 rfl rfl ?_
        refine Ev.aload_n (pc := 120) dX9_share_120 rfl rfl ?_
        refine Ev.getR (pc := 121) dX9_share_121 fl_X9_31 sh_0 rfl ?_
        refine Ev.iload_n (pc := 124) dX9_share_124 rfl rfl ?_
        obtain ⟨x3, σ4, g5, h⟩ := bd_elim h
        refine Ev.cVi (pc := 125) (k := 23) (av := [vI v1]) (rest := [vI v3]) dX9_share_125 ce_X1_sizesOf ml_X9_289 rfl sh_23 cl_X1 sh_sc (Nat.le_of_ble_eq_true rfl) (Nat.le_of_ble_eq_true rfl) (r_X1_sizesOf g5) ?_
        refine Ev.imul (pc := 128) dX9_share_128 ?_
        refine Ev.iload (pc := 129) dX9_share_129 rfl ?_
        obtain ⟨c6, h⟩ := ckDI_elim h
        refine Ev.irem (pc := 131) dX9_share_131 c6 ?_
        refine Ev.nmI (fun x7 e9 => ?_)
        replace h := bt_app h x7 e9
        refine Ev.istore (pc := 132) (lv' := [some (vR 0), some (vI v1), some (vI v2), some (vI v3), some (vI v4), some (vI v3), some (vI 0), some (vI x7), none, none]) dX9_share_132 (lt9 rfl) rfl rfl ?_
        refine Ev.iconst (pc := 134) (v := 0) dX9_share_134 ki_0 ?_
        refine Ev.istore (pc := 135) (lv' := [some (vR 0), some (vI v1), some (vI v2), some (vI v3), some (vI v4), some (vI v3), some (vI 0), some (vI x7), some (vI 0), none]) dX9_share_135 (lt9 rfl) rfl rfl ?_
        exact Ev.weak2 (ll_X9_share_137 N N _ _ _ _ _ _ _ _ _ _ _ h) (lsubS (lsubS (lsubS (lsubS (lsubS (lsubS (lsubS (lsubS (lsubS (lsubN lsubE))))))))))
      · replace h := (if_neg c2).symm.trans h
        refine Ev.if_gt_f (pc := 95) dX9_share_95 ⟨113, rfl⟩ c2 ?_
        refine Ev.aload_n (pc := 98) dX9_share_98 rfl rfl ?_
        refine Ev.iload_n (pc := 99) dX9_share_99 rfl rfl ?_
        obtain ⟨x8, σ9, g10, h⟩ := bd_elim h
        refine Ev.cVi (pc := 100) (k := 0) (av := [vI v2]) (rest := []) dX9_share_100 ce_X9_firstOfFamily ml_X9_292 rfl sh_0 cl_X9 sh_sc (Nat.le_of_ble_eq_true rfl) (Nat.le_of_ble_eq_true rfl) (r_X9_firstOfFamily g10) ?_
        refine Ev.iload_n (pc := 103) dX9_share_103 rfl rfl ?_
        by_cases c11 : x8 = v1
        · replace h := (if_pos c11).symm.trans h
          refine Ev.icmp_ne_f (pc := 104) dX9_share_104 ⟨111, rfl⟩ c11 ?_
          refine Ev.iload_n (pc := 107) dX9_share_107 rfl rfl ?_
          refine Ev.goto (pc := 108) (tgt := 112) dX9_share_108 rfl ?_
          obtain ⟨h1, h2⟩ := oeq h
          subst h1
          subst h2
          exact Ev.ret_i (pc := 112) dX9_share_112 rfl rfl
        · replace h := (if_neg c11).symm.trans h
          refine Ev.icmp_ne_t (pc := 104) (tgt := 111) dX9_share_104 rfl c11 ?_
          refine Ev.iconst (pc := 111) (v := 0) dX9_share_111 ki_0 ?_
          obtain ⟨h1, h2⟩ := oeq h
          subst h1
          subst h2
          exact Ev.ret_i (pc := 112) dX9_share_112 rfl rfl
    · replace h := (if_neg c1).symm.trans h
      refine Ev.icmp_ge_f (pc := 50) dX9_share_50 ⟨93, rfl⟩ c1 ?_
      refine Ev.iload (pc := 53) dX9_share_53 rfl ?_
      refine Ev.aload_n (pc := 55) dX9_share_55 rfl rfl ?_
      refine Ev.getR (pc := 56) dX9_share_56 fl_X9_10 sh_0 rfl ?_
      refine Ev.getR (pc := 59) dX9_share_59 fl_X9_156 sh_1 rfl ?_
      refine Ev.iload (pc := 62) dX9_share_62 rfl ?_
      refine Ev.cTi (pc := 64) (av := [vR 3, vI v5]) (rest := [vI v4]) dX9_share_64 ce_X9_at ml_X9_160 rfl sh_sc (Nat.le_of_ble_eq_true rfl) (Nat.le_of_ble_eq_true rfl) (r_at sh_3 (by decide) _ _) ?_
      refine Ev.iload_n (pc := 67) dX9_share_67 rfl rfl ?_
      by_cases c12 : (at_ σ 3 3 v5) = v2
      · replace h := (if_pos c12).symm.trans h
        refine Ev.icmp_ne_f (pc := 68) dX9_share_68 ⟨83, rfl⟩ c12 ?_
        refine Ev.aload_n (pc := 71) dX9_share_71 rfl rfl ?_
        refine Ev.getR (pc := 72) dX9_share_72 fl_X9_31 sh_0 rfl ?_
        refine Ev.iload (pc := 75) dX9_share_75 rfl ?_
        obtain ⟨x13, σ14, g15, h⟩ := bd_elim h
        refine Ev.cVi (pc := 77) (k := 23) (av := [vI v5]) (rest := [vI v4]) dX9_share_77 ce_X1_sizesOf ml_X9_289 rfl sh_23 cl_X1 sh_sc (Nat.le_of_ble_eq_true rfl) (Nat.le_of_ble_eq_true rfl) (r_X1_sizesOf g15) ?_
        refine Ev.goto (pc := 80) (tgt := 84) dX9_share_80 rfl ?_
        exact Ev.weak2 (lj_X9_share_84 N (l_X9_share_41 N n) ih _ _ _ _ _ _ _ _ _ h) (lsubS (lsubS (lsubS (lsubS (lsubN (lsubS (lsubN (lsubN (lsubN (lsubN lsubE))))))))))
      · replace h := (if_neg c12).symm.trans h
        refine Ev.icmp_ne_t (pc := 68) (tgt := 83) dX9_share_68 rfl c12 ?_
        refine Ev.iconst (pc := 83) (v := 0) dX9_share_83 ki_0 ?_
        exact Ev.weak2 (lj_X9_share_84 N (l_X9_share_41 N n) ih _ _ _ _ _ _ _ _ _ h) (lsubS (lsubS (lsubS (lsubS (lsubN (lsubS (lsubN (lsubN (lsubN (lsubN lsubE))))))))))
theorem e_X9_share (N : Nat) (a1 : Int32) (σ : St) (v : Int32) (w : St) (h : o_X9_share N a1 σ = some (v, w)) : Ev md_X9_share 4 0 (lvE [vR 0, vI a1] 10) [] SH σ (some (vI v), SH, w) := by
  show Ev md_X9_share 4 0 [some (vR 0), some (vI a1), none, none, none, none, none, none, none, none] [] SH σ (some (vI v), SH, w)
  unfold o_X9_share at h
  refine Ev.aload_n (pc := 0) dX9_share_0 rfl rfl ?_
  refine Ev.getR (pc := 1) dX9_share_1 fl_X9_10 sh_0 rfl ?_
  refine Ev.iload_n (pc := 4) dX9_share_4 rfl rfl ?_
  refine Ev.cVi (pc := 5) (k := 1) (av := [vI a1]) (rest := []) dX9_share_5 ce_X5_hasKeeper ml_X9_150 rfl sh_1 cl_X5 sh_sc (Nat.le_of_ble_eq_true rfl) (Nat.le_of_ble_eq_true rfl) (r_X5_hasKeeper _ _) ?_
  by_cases c1 : (p_X5_hasKeeper a1 σ) = 0
  · replace h := (if_pos c1).symm.trans h
    refine Ev.if_ne_f (pc := 8) dX9_share_8 ⟨14, rfl⟩ c1 ?_
    refine Ev.ldc (pc := 11) dX9_share_11 kc_X9_145 ?_
    obtain ⟨h1, h2⟩ := oeq h
    subst h1
    subst h2
    exact Ev.ret_i (pc := 13) dX9_share_13 rfl rfl
  · replace h := (if_neg c1).symm.trans h
    refine Ev.if_ne_t (pc := 8) (tgt := 14) dX9_share_8 rfl c1 ?_
    refine Ev.aload_n (pc := 14) dX9_share_14 rfl rfl ?_
    refine Ev.getR (pc := 15) dX9_share_15 fl_X9_10 sh_0 rfl ?_
    refine Ev.getR (pc := 18) dX9_share_18 fl_X9_156 sh_1 rfl ?_
    refine Ev.iload_n (pc := 21) dX9_share_21 rfl rfl ?_
    refine Ev.cTi (pc := 22) (av := [vR 3, vI a1]) (rest := []) dX9_share_22 ce_X9_at ml_X9_160 rfl sh_sc (Nat.le_of_ble_eq_true rfl) (Nat.le_of_ble_eq_true rfl) (r_at sh_3 (by decide) _ _) ?_
    refine Ev.nmI (fun x2 e9 => ?_)
    replace h := bt_app h x2 e9
    refine Ev.istore_n (pc := 25) (lv' := [some (vR 0), some (vI a1), some (vI x2), none, none, none, none, none, none, none]) dX9_share_25 rfl (lt9 rfl) rfl rfl ?_
    refine Ev.aload_n (pc := 26) dX9_share_26 rfl rfl ?_
    refine Ev.getR (pc := 27) dX9_share_27 fl_X9_31 sh_0 rfl ?_
    refine Ev.iload_n (pc := 30) dX9_share_30 rfl rfl ?_
    refine Ev.cVi (pc := 31) (k := 23) (av := [vI x2]) (rest := []) dX9_share_31 ce_X1_fellOn ml_X9_200 rfl sh_23 cl_X1 sh_sc (Nat.le_of_ble_eq_true rfl) (Nat.le_of_ble_eq_true rfl) (r_X1_fellOn _ _) ?_
    refine Ev.nmI (fun x3 e9 => ?_)
    replace h := bt_app h x3 e9
    refine Ev.istore_n (pc := 34) (lv' := [some (vR 0), some (vI a1), some (vI x2), some (vI x3), none, none, none, none, none, none]) dX9_share_34 rfl (lt9 rfl) rfl rfl ?_
    refine Ev.iconst (pc := 35) (v := 0) dX9_share_35 ki_0 ?_
    refine Ev.istore (pc := 36) (lv' := [some (vR 0), some (vI a1), some (vI x2), some (vI x3), some (vI 0), none, none, none, none, none]) dX9_share_36 (lt9 rfl) rfl rfl ?_
    refine Ev.iconst (pc := 38) (v := 0) dX9_share_38 ki_0 ?_
    refine Ev.istore (pc := 39) (lv' := [some (vR 0), some (vI a1), some (vI x2), some (vI x3), some (vI 0), some (vI 0), none, none, none, none]) dX9_share_39 (lt9 rfl) rfl rfl ?_
    exact Ev.weak2 (ll_X9_share_41 N N _ _ _ _ _ _ _ _ h) (lsubS (lsubS (lsubS (lsubS (lsubS (lsubS (lsubN (lsubN (lsubN (lsubN lsubE))))))))))
theorem r_X9_share {N : Nat} {a1 : Int32} {σ : St} {v : Int32} {w : St} (h : o_X9_share N a1 σ = some (v, w)) : Rn md_X9_share 4 [vR 0, vI a1] SH σ (some (vI v), SH, w) := Rn.of ce_X9_share.1 (Nat.le_of_ble_eq_true rfl) (e_X9_share N _ _ _ _ h)
def j_X10_sizesOf_36 (N : Nat) (K_4 : Int32 → Int32 → Int32 → St → Option (Int32 × St)) (v1 : Int32) (v3 : Int32) (s0 : Int32) (s1 : Int32) (σ : St) : Option (Int32 × St) := bt (s0 + s1) fun x1 => bt (v3 + 1) fun x2 => K_4 v1 x1 x2 σ
def l_X10_sizesOf_4 (N : Nat) : Nat → Int32 → Int32 → Int32 → St → Option (Int32 × St)
  | 0, _, _, _, _ => none
  | n + 1, v1, v2, v3, σ => if (σ 79 5) ≤ v3 then (some (v2, σ)) else (ckA (14 + v3) 1360 (if (σ 80 (14 + v3).toNatClampNeg) = v1 then (ckA v3 14 (j_X10_sizesOf_36 N (l_X10_sizesOf_4 N n) v1 v3 v2 (σ 90 v3.toNatClampNeg) σ)) else (j_X10_sizesOf_36 N (l_X10_sizesOf_4 N n) v1 v3 v2 0 σ)))
def o_X10_sizesOf (N : Nat) (a1 : Int32) (σ : St) : Option (Int32 × St) := l_X10_sizesOf_4 N N a1 0 0 σ
theorem lj_X10_sizesOf_36 (N : Nat) (K_4 : Int32 → Int32 → Int32 → St → Option (Int32 × St)) (hK_4 : ∀ (v1 : Int32) (v2 : Int32) (v3 : Int32) (σ : St) (v : Int32) (w : St), K_4 v1 v2 v3 σ = some (v, w) → Ev md_X10_sizesOf 0 4 [some (vR 79), some (vI v1), some (vI v2), some (vI v3)] [] SH σ (some (vI v), SH, w)) (v1 : Int32) (v3 : Int32) (s0 : Int32) (s1 : Int32) (σ : St) (v : Int32) (w : St) (h : j_X10_sizesOf_36 N K_4 v1 v3 s0 s1 σ = some (v, w)) : Ev md_X10_sizesOf 0 36 [some (vR 79), some (vI v1), none, some (vI v3)] [vI s1, vI s0] SH σ (some (vI v), SH, w) := by
  unfold j_X10_sizesOf_36 at h
  refine Ev.iadd (pc := 36) dX10_sizesOf_36 ?_
  refine Ev.nmI (fun x1 e9 => ?_)
  replace h := bt_app h x1 e9
  refine Ev.istore_n (pc := 37) (lv' := [some (vR 79), some (vI v1), some (vI x1), some (vI v3)]) dX10_sizesOf_37 rfl (lt9 rfl) rfl rfl ?_
  obtain ⟨x2, e_x2, h⟩ := bt_elim h
  refine Ev.iinc (pc := 38) (v := x2) (lv' := [some (vR 79), some (vI v1), some (vI x1), some (vI x2)]) dX10_sizesOf_38 rfl (by rw [ki_1, e_x2]) (lt9 rfl) rfl rfl ?_
  refine Ev.goto (pc := 41) (tgt := 4) dX10_sizesOf_41 rfl ?_
  exact Ev.weak2 (hK_4 _ _ _ _ _ _ h) (lsubS (lsubS (lsubS (lsubS lsubE))))
theorem ll_X10_sizesOf_4 (N : Nat) : ∀ (n : Nat) (v1 : Int32) (v2 : Int32) (v3 : Int32) (σ : St) (v : Int32) (w : St), l_X10_sizesOf_4 N n v1 v2 v3 σ = some (v, w) → Ev md_X10_sizesOf 0 4 [some (vR 79), some (vI v1), some (vI v2), some (vI v3)] [] SH σ (some (vI v), SH, w) := by
  intro n
  induction n with
  | zero =>
    intro v1 v2 v3 σ v w h
    rw [l_X10_sizesOf_4] at h
    cases h
  | succ n ih =>
    intro v1 v2 v3 σ v w h
    rw [l_X10_sizesOf_4] at h
    refine Ev.iload_n (pc := 4) dX10_sizesOf_4 rfl rfl ?_
    refine Ev.aload_n (pc := 5) dX10_sizesOf_5 rfl rfl ?_
    refine Ev.getI (pc := 6) dX10_sizesOf_6 fl_X10_175 sh_79 rfl ?_
    by_cases c1 : (σ 79 5) ≤ v3
    · replace h := (if_pos c1).symm.trans h
      refine Ev.icmp_ge_t (pc := 9) (tgt := 44) dX10_sizesOf_9 rfl c1 ?_
      refine Ev.iload_n (pc := 44) dX10_sizesOf_44 rfl rfl ?_
      obtain ⟨h1, h2⟩ := oeq h
      subst h1
      subst h2
      exact Ev.ret_i (pc := 45) dX10_sizesOf_45 rfl rfl
    · replace h := (if_neg c1).symm.trans h
      refine Ev.icmp_ge_f (pc := 9) dX10_sizesOf_9 ⟨44, rfl⟩ c1 ?_
      refine Ev.iload_n (pc := 12) dX10_sizesOf_12 rfl rfl ?_
      refine Ev.aload_n (pc := 13) dX10_sizesOf_13 rfl rfl ?_
      refine Ev.getR (pc := 14) dX10_sizesOf_14 fl_X10_7 sh_79 rfl ?_
      refine Ev.bipush (pc := 17) (v := 14) dX10_sizesOf_17 kb_14 ?_
      refine Ev.iload_n (pc := 19) dX10_sizesOf_19 rfl rfl ?_
      refine Ev.iadd (pc := 20) dX10_sizesOf_20 ?_
      obtain ⟨c2, h⟩ := ckA_elim h
      refine Ev.iald (pc := 21) dX10_sizesOf_21 sh_80 c2 ?_
      refine Ev.iload_n (pc := 22) dX10_sizesOf_22 rfl rfl ?_
      by_cases c3 : (σ 80 (14 + v3).toNatClampNeg) = v1
      · replace h := (if_pos c3).symm.trans h
        refine Ev.icmp_ne_f (pc := 23) dX10_sizesOf_23 ⟨35, rfl⟩ c3 ?_
        refine Ev.aload_n (pc := 26) dX10_sizesOf_26 rfl rfl ?_
        refine Ev.getR (pc := 27) dX10_sizesOf_27 fl_X10_41 sh_79 rfl ?_
        refine Ev.iload_n (pc := 30) dX10_sizesOf_30 rfl rfl ?_
        obtain ⟨c4, h⟩ := ckA_elim h
        refine Ev.iald (pc := 31) dX10_sizesOf_31 sh_90 c4 ?_
        refine Ev.goto (pc := 32) (tgt := 36) dX10_sizesOf_32 rfl ?_
        exact Ev.weak2 (lj_X10_sizesOf_36 N (l_X10_sizesOf_4 N n) ih _ _ _ _ _ _ _ h) (lsubS (lsubS (lsubN (lsubS lsubE))))
      · replace h := (if_neg c3).symm.trans h
        refine Ev.icmp_ne_t (pc := 23) (tgt := 35) dX10_sizesOf_23 rfl c3 ?_
        refine Ev.iconst (pc := 35) (v := 0) dX10_sizesOf_35 ki_0 ?_
        exact Ev.weak2 (lj_X10_sizesOf_36 N (l_X10_sizesOf_4 N n) ih _ _ _ _ _ _ _ h) (lsubS (lsubS (lsubN (lsubS lsubE))))
theorem e_X10_sizesOf (N : Nat) (a1 : Int32) (σ : St) (v : Int32) (w : St) (h : o_X10_sizesOf N a1 σ = some (v, w)) : Ev md_X10_sizesOf 0 0 (lvE [vR 79, vI a1] 4) [] SH σ (some (vI v), SH, w) := by
  show Ev md_X10_sizesOf 0 0 [some (vR 79), some (vI a1), none, none] [] SH σ (some (vI v), SH, w)
  unfold o_X10_sizesOf at h
  refine Ev.iconst (pc := 0) (v := 0) dX10_sizesOf_0 ki_0 ?_
  refine Ev.istore_n (pc := 1) (lv' := [some (vR 79), some (vI a1), some (vI 0), none]) dX10_sizesOf_1 rfl (lt9 rfl) rfl rfl ?_
  refine Ev.iconst (pc := 2) (v := 0) dX10_sizesOf_2 ki_0 ?_
  refine Ev.istore_n (pc := 3) (lv' := [some (vR 79), some (vI a1), some (vI 0), some (vI 0)]) dX10_sizesOf_3 rfl (lt9 rfl) rfl rfl ?_
  exact Ev.weak2 (ll_X10_sizesOf_4 N N _ _ _ _ _ _ h) (lsubS (lsubS (lsubS (lsubS lsubE))))
theorem r_X10_sizesOf {N : Nat} {a1 : Int32} {σ : St} {v : Int32} {w : St} (h : o_X10_sizesOf N a1 σ = some (v, w)) : Rn md_X10_sizesOf 0 [vR 79, vI a1] SH σ (some (vI v), SH, w) := Rn.of ce_X10_sizesOf.1 (Nat.le_of_ble_eq_true rfl) (e_X10_sizesOf N _ _ _ _ h)
def j_X10_findShares_58 (N : Nat) (K_12 : Int32 → Int32 → Int32 → Int32 → St → Option (Unit × St)) (v1 : Int32) (v2 : Int32) (v4 : Int32) (s0 : Int32) (σ : St) : Option (Unit × St) := bt (v4 + (-1)) fun x1 => K_12 v1 v2 s0 x1 σ
def j_X10_findShares_39 (N : Nat) (K_12 : Int32 → Int32 → Int32 → Int32 → St → Option (Unit × St)) (v1 : Int32) (v3 : Int32) (v4 : Int32) (s0 : Int32) (s1 : Int32) (σ : St) : Option (Unit × St) := bt (s0 + s1) fun x1 => ckA v4 6 (if (σ 85 v4.toNatClampNeg) = v1 then (j_X10_findShares_58 N K_12 v1 x1 v4 v4 σ) else (j_X10_findShares_58 N K_12 v1 x1 v4 v3 σ))
def j_X10_findShares_183 (N : Nat) (K_79 : Int32 → Int32 → Int32 → Int32 → Int32 → St → Option (Unit × St)) (v1 : Int32) (v2 : Int32) (v3 : Int32) (v4 : Int32) (v5 : Int32) (s1 : Int32) (s2 : Int32) (σ : St) : Option (Unit × St) := ckA s1 3 (bt (st σ 101 s1.toNatClampNeg s2) fun σ2 => ckA v5 3 (bt (v4 - (σ2 100 v5.toNatClampNeg)) fun x4 => bt (v5 + 1) fun x5 => K_79 v1 v2 v3 x4 x5 σ2))
def j_X10_findShares_149 (N : Nat) (K_79 : Int32 → Int32 → Int32 → Int32 → Int32 → St → Option (Unit × St)) (v1 : Int32) (v2 : Int32) (v3 : Int32) (v4 : Int32) (v5 : Int32) (v6 : Int32) (s1 : Int32) (s2 : Int32) (σ : St) : Option (Unit × St) := ckA s1 3 (bt (st σ 100 s1.toNatClampNeg s2) fun σ2 => if v6 = 0 then (j_X10_findShares_183 N K_79 v1 v2 v3 v4 v5 v5 (-1) σ2) else (ckA (34 + v1) 1360 (bd (o_X10_sizesOf N v5 σ2) fun x5 σ6 => ckDI v2 (j_X10_findShares_183 N K_79 v1 v2 v3 v4 v5 v5 (((σ2 80 (34 + v1).toNatClampNeg) * x5) - ((σ2 80 (34 + v1).toNatClampNeg) * x5) / v2 * v2) σ6))))
def j_X10_findShares_114 (N : Nat) (K_79 : Int32 → Int32 → Int32 → Int32 → Int32 → St → Option (Unit × St)) (v1 : Int32) (v2 : Int32) (v3 : Int32) (v4 : Int32) (v5 : Int32) (s0 : Int32) (σ : St) : Option (Unit × St) := if s0 = 0 then (j_X10_findShares_149 N K_79 v1 v2 v3 v4 v5 s0 v5 0 σ) else (ckA (34 + v1) 1360 (bd (o_X10_sizesOf N v5 σ) fun x3 σ4 => ckDI v2 (j_X10_findShares_149 N K_79 v1 v2 v3 v4 v5 s0 v5 (((σ 80 (34 + v1).toNatClampNeg) * x3) / v2) σ4)))
def j_X10_findShares_113 (N : Nat) (K_79 : Int32 → Int32 → Int32 → Int32 → Int32 → St → Option (Unit × St)) (v1 : Int32) (v2 : Int32) (v3 : Int32) (v4 : Int32) (v5 : Int32) (σ : St) : Option (Unit × St) := j_X10_findShares_114 N K_79 v1 v2 v3 v4 v5 0 σ
def j_X10_findShares_269 (N : Nat) (K_221 : Int32 → Int32 → St → Option (Unit × St)) (K_236 : Int32 → Int32 → Int32 → Int32 → St → Option (Unit × St)) (v3 : Int32) (v4 : Int32) (v6 : Int32) (s0 : Int32) (σ : St) : Option (Unit × St) := bt (v6 + 1) fun x1 => K_236 v3 v4 s0 x1 σ
def l_X10_findShares_236 (N : Nat) (K_221 : Int32 → Int32 → St → Option (Unit × St)) : Nat → Int32 → Int32 → Int32 → Int32 → St → Option (Unit × St)
  | 0, _, _, _, _, _ => none
  | n + 1, v3, v4, v5, v6, σ => if (σ 79 4) ≤ v6 then (ckA v5 3 (ckA v5 3 (bt (st σ 100 v5.toNatClampNeg ((σ 100 v5.toNatClampNeg) + 1)) fun σ4 => ckA v5 3 (bt (st σ4 101 v5.toNatClampNeg (-1)) fun σ6 => bt (v4 + (-1)) fun x7 => K_221 v3 x7 σ6)))) else (ckA v6 3 (ckA v5 3 (if (σ 101 v6.toNatClampNeg) ≤ (σ 101 v5.toNatClampNeg) then (j_X10_findShares_269 N K_221 (l_X10_findShares_236 N K_221 n) v3 v4 v6 v5 σ) else (j_X10_findShares_269 N K_221 (l_X10_findShares_236 N K_221 n) v3 v4 v6 v6 σ))))
def l_X10_findShares_221 (N : Nat) : Nat → Int32 → Int32 → St → Option (Unit × St)
  | 0, _, _, _ => none
  | n + 1, v3, v4, σ => if v4 ≤ 0 then (some ((), σ)) else (if v3 < 0 then (some ((), σ)) else (l_X10_findShares_236 N (l_X10_findShares_221 N n) N v3 v4 v3 0 σ))
def l_X10_findShares_79 (N : Nat) : Nat → Int32 → Int32 → Int32 → Int32 → Int32 → St → Option (Unit × St)
  | 0, _, _, _, _, _, _ => none
  | n + 1, v1, v2, v3, v4, v5, σ => if (3 : Int32) ≤ v5 then (if v2 = 0 then (if v3 < 0 then (l_X10_findShares_221 N N v3 v4 σ) else (ckA v3 3 (bt (st σ 100 v3.toNatClampNeg v4) fun σ5 => l_X10_findShares_221 N N v3 0 σ5))) else (l_X10_findShares_221 N N v3 v4 σ)) else (if (σ 79 4) ≤ v5 then (j_X10_findShares_113 N (l_X10_findShares_79 N n) v1 v2 v3 v4 v5 σ) else (ckA v5 6 (if (σ 85 v5.toNatClampNeg) = v1 then (if v2 ≤ 0 then (j_X10_findShares_113 N (l_X10_findShares_79 N n) v1 v2 v3 v4 v5 σ) else (j_X10_findShares_114 N (l_X10_findShares_79 N n) v1 v2 v3 v4 v5 1 σ)) else (j_X10_findShares_113 N (l_X10_findShares_79 N n) v1 v2 v3 v4 v5 σ))))
def l_X10_findShares_12 (N : Nat) : Nat → Int32 → Int32 → Int32 → Int32 → St → Option (Unit × St)
  | 0, _, _, _, _, _ => none
  | n + 1, v1, v2, v3, v4, σ => if v4 < 0 then (ckA (34 + v1) 1360 (bt (σ 80 (34 + v1).toNatClampNeg) fun x3 => l_X10_findShares_79 N N v1 v2 v3 x3 0 σ)) else (ckA v4 6 (if (σ 85 v4.toNatClampNeg) = v1 then (bd (o_X10_sizesOf N v4 σ) fun x6 σ7 => j_X10_findShares_39 N (l_X10_findShares_12 N n) v1 v3 v4 v2 x6 σ7) else (j_X10_findShares_39 N (l_X10_findShares_12 N n) v1 v3 v4 v2 0 σ)))
def o_X10_findShares (N : Nat) (a1 : Int32) (σ : St) : Option (Unit × St) := bt ((σ 79 4) - 1) fun x1 => l_X10_findShares_12 N N a1 0 (-1) x1 σ
theorem lj_X10_findShares_58 (N : Nat) (K_12 : Int32 → Int32 → Int32 → Int32 → St → Option (Unit × St)) (hK_12 : ∀ (v1 : Int32) (v2 : Int32) (v3 : Int32) (v4 : Int32) (σ : St) (v : Unit) (w : St), K_12 v1 v2 v3 v4 σ = some (v, w) → Ev md_X10_findShares 1 12 [some (vR 79), some (vI v1), some (vI v2), some (vI v3), some (vI v4), none, none] [] SH σ (none, SH, w)) (v1 : Int32) (v2 : Int32) (v4 : Int32) (s0 : Int32) (σ : St) (v : Unit) (w : St) (h : j_X10_findShares_58 N K_12 v1 v2 v4 s0 σ = some (v, w)) : Ev md_X10_findShares 1 58 [some (vR 79), some (vI v1), some (vI v2), none, some (vI v4), none, none] [vI s0] SH σ (none, SH, w) := by
  unfold j_X10_findShares_58 at h
  refine Ev.istore_n (pc := 58) (lv' := [some (vR 79), some (vI v1), some (vI v2), some (vI s0), some (vI v4), none, none]) dX10_findShares_58 rfl (lt9 rfl) rfl rfl ?_
  obtain ⟨x1, e_x1, h⟩ := bt_elim h
  refine Ev.iinc (pc := 59) (v := x1) (lv' := [some (vR 79), some (vI v1), some (vI v2), some (vI s0), some (vI x1), none, none]) dX10_findShares_59 rfl (by rw [ki_m1, e_x1]) (lt9 rfl) rfl rfl ?_
  refine Ev.goto (pc := 62) (tgt := 12) dX10_findShares_62 rfl ?_
  exact Ev.weak2 (hK_12 _ _ _ _ _ _ _ h) (lsubS (lsubS (lsubS (lsubS (lsubS (lsubN (lsubN lsubE)))))))
theorem lj_X10_findShares_39 (N : Nat) (K_12 : Int32 → Int32 → Int32 → Int32 → St → Option (Unit × St)) (hK_12 : ∀ (v1 : Int32) (v2 : Int32) (v3 : Int32) (v4 : Int32) (σ : St) (v : Unit) (w : St), K_12 v1 v2 v3 v4 σ = some (v, w) → Ev md_X10_findShares 1 12 [some (vR 79), some (vI v1), some (vI v2), some (vI v3), some (vI v4), none, none] [] SH σ (none, SH, w)) (v1 : Int32) (v3 : Int32) (v4 : Int32) (s0 : Int32) (s1 : Int32) (σ : St) (v : Unit) (w : St) (h : j_X10_findShares_39 N K_12 v1 v3 v4 s0 s1 σ = some (v, w)) : Ev md_X10_findShares 1 39 [some (vR 79), some (vI v1), none, some (vI v3), some (vI v4), none, none] [vI s1, vI s0] SH σ (none, SH, w) := by
  unfold j_X10_findShares_39 at h
  refine Ev.iadd (pc := 39) dX10_findShares_39 ?_
  refine Ev.nmI (fun x1 e9 => ?_)
  replace h := bt_app h x1 e9
  refine Ev.istore_n (pc := 40) (lv' := [some (vR 79), some (vI v1), some (vI x1), some (vI v3), some (vI v4), none, none]) dX10_findShares_40 rfl (lt9 rfl) rfl rfl ?_
  refine Ev.aload_n (pc := 41) dX10_findShares_41 rfl rfl ?_
  refine Ev.getR (pc := 42) dX10_findShares_42 fl_X10_26 sh_79 rfl ?_
  refine Ev.iload (pc := 45) dX10_findShares_45 rfl ?_
  obtain ⟨c2, h⟩ := ckA_elim h
  refine Ev.iald (pc := 47) dX10_findShares_47 sh_85 c2 ?_
  refine Ev.iload_n (pc := 48) dX10_findShares_48 rfl rfl ?_
  by_cases c3 : (σ 85 v4.toNatClampNeg) = v1
  · replace h := (if_pos c3).symm.trans h
    refine Ev.icmp_ne_f (pc := 49) dX10_findShares_49 ⟨57, rfl⟩ c3 ?_
    refine Ev.iload (pc := 52) dX10_findShares_52 rfl ?_
    refine Ev.goto (pc := 54) (tgt := 58) dX10_findShares_54 rfl ?_
    exact Ev.weak2 (lj_X10_findShares_58 N K_12 hK_12 _ _ _ _ _ _ _ h) (lsubS (lsubS (lsubS (lsubN (lsubS (lsubN (lsubN lsubE)))))))
  · replace h := (if_neg c3).symm.trans h
    refine Ev.icmp_ne_t (pc := 49) (tgt := 57) dX10_findShares_49 rfl c3 ?_
    refine Ev.iload_n (pc := 57) dX10_findShares_57 rfl rfl ?_
    exact Ev.weak2 (lj_X10_findShares_58 N K_12 hK_12 _ _ _ _ _ _ _ h) (lsubS (lsubS (lsubS (lsubN (lsubS (lsubN (lsubN lsubE)))))))
theorem lj_X10_findShares_183 (N : Nat) (K_79 : Int32 → Int32 → Int32 → Int32 → Int32 → St → Option (Unit × St)) (hK_79 : ∀ (v1 : Int32) (v2 : Int32) (v3 : Int32) (v4 : Int32) (v5 : Int32) (σ : St) (v : Unit) (w : St), K_79 v1 v2 v3 v4 v5 σ = some (v, w) → Ev md_X10_findShares 1 79 [some (vR 79), some (vI v1), some (vI v2), some (vI v3), some (vI v4), some (vI v5), none] [] SH σ (none, SH, w)) (v1 : Int32) (v2 : Int32) (v3 : Int32) (v4 : Int32) (v5 : Int32) (s1 : Int32) (s2 : Int32) (σ : St) (v : Unit) (w : St) (h : j_X10_findShares_183 N K_79 v1 v2 v3 v4 v5 s1 s2 σ = some (v, w)) : Ev md_X10_findShares 1 183 [some (vR 79), some (vI v1), some (vI v2), some (vI v3), some (vI v4), some (vI v5), none] [vI s2, vI s1, vR 101] SH σ (none, SH, w) := by
  unfold j_X10_findShares_183 at h
  obtain ⟨c1, h⟩ := ckA_elim h
  refine Ev.iast (pc := 183) dX10_findShares_183 sh_101 c1 ?_
  refine Ev.nmS (fun σ2 e9 => ?_)
  replace h := bt_app h σ2 e9
  refine Ev.iload (pc := 184) dX10_findShares_184 rfl ?_
  refine Ev.aload_n (pc := 186) dX10_findShares_186 rfl rfl ?_
  refine Ev.getR (pc := 187) dX10_findShares_187 fl_X10_75 sh_79 rfl ?_
  refine Ev.iload (pc := 190) dX10_findShares_190 rfl ?_
  obtain ⟨c3, h⟩ := ckA_elim h
  refine Ev.iald (pc := 192) dX10_findShares_192 sh_100 c3 ?_
  refine Ev.isub (pc := 193) dX10_findShares_193 ?_
  refine Ev.nmI (fun x4 e9 => ?_)
  replace h := bt_app h x4 e9
  refine Ev.istore (pc := 194) (lv' := [some (vR 79), some (vI v1), some (vI v2), some (vI v3), some (vI x4), some (vI v5), none]) dX10_findShares_194 (lt9 rfl) rfl rfl ?_
  obtain ⟨x5, e_x5, h⟩ := bt_elim h
  refine Ev.iinc (pc := 196) (v := x5) (lv' := [some (vR 79), some (vI v1), some (vI v2), some (vI v3), some (vI x4), some (vI x5), none]) dX10_findShares_196 rfl (by rw [ki_1, e_x5]) (lt9 rfl) rfl rfl ?_
  refine Ev.goto (pc := 199) (tgt := 79) dX10_findShares_199 rfl ?_
  exact Ev.weak2 (hK_79 _ _ _ _ _ _ _ _ h) (lsubS (lsubS (lsubS (lsubS (lsubS (lsubS (lsubN lsubE)))))))
theorem lj_X10_findShares_149 (N : Nat) (K_79 : Int32 → Int32 → Int32 → Int32 → Int32 → St → Option (Unit × St)) (hK_79 : ∀ (v1 : Int32) (v2 : Int32) (v3 : Int32) (v4 : Int32) (v5 : Int32) (σ : St) (v : Unit) (w : St), K_79 v1 v2 v3 v4 v5 σ = some (v, w) → Ev md_X10_findShares 1 79 [some (vR 79), some (vI v1), some (vI v2), some (vI v3), some (vI v4), some (vI v5), none] [] SH σ (none, SH, w)) (v1 : Int32) (v2 : Int32) (v3 : Int32) (v4 : Int32) (v5 : Int32) (v6 : Int32) (s1 : Int32) (s2 : Int32) (σ : St) (v : Unit) (w : St) (h : j_X10_findShares_149 N K_79 v1 v2 v3 v4 v5 v6 s1 s2 σ = some (v, w)) : Ev md_X10_findShares 1 149 [some (vR 79), some (vI v1), some (vI v2), some (vI v3), some (vI v4), some (vI v5), some (vI v6)] [vI s2, vI s1, vR 100] SH σ (none, SH, w) := by
  unfold j_X10_findShares_149 at h
  obtain ⟨c1, h⟩ := ckA_elim h
  refine Ev.iast (pc := 149) dX10_findShares_149 sh_100 c1 ?_
  refine Ev.nmS (fun σ2 e9 => ?_)
  replace h := bt_app h σ2 e9
  refine Ev.aload_n (pc := 150) dX10_findShares_150 rfl rfl ?_
  refine Ev.getR (pc := 151) dX10_findShares_151 fl_X10_78 sh_79 rfl ?_
  refine Ev.iload (pc := 154) dX10_findShares_154 rfl ?_
  refine Ev.iload (pc := 156) dX10_findShares_156 rfl ?_
  by_cases c3 : v6 = 0
  · replace h := (if_pos c3).symm.trans h
    refine Ev.if_eq_t (pc := 158) (tgt := 182) dX10_findShares_158 rfl c3 ?_
    refine Ev.iconst (pc := 182) (v := (-1)) dX10_findShares_182 ki_m1 ?_
    exact Ev.weak2 (lj_X10_findShares_183 N K_79 hK_79 _ _ _ _ _ _ _ _ _ _ h) (lsubS (lsubS (lsubS (lsubS (lsubS (lsubS (lsubN lsubE)))))))
  · replace h := (if_neg c3).symm.trans h
    refine Ev.if_eq_f (pc := 158) dX10_findShares_158 ⟨182, rfl⟩ c3 ?_
    refine Ev.aload_n (pc := 161) dX10_findShares_161 rfl rfl ?_
    refine Ev.getR (pc := 162) dX10_findShares_162 fl_X10_7 sh_79 rfl ?_
    refine Ev.bipush (pc := 165) (v := 34) dX10_findShares_165 kb_34 ?_
    refine Ev.iload_n (pc := 167) dX10_findShares_167 rfl rfl ?_
    refine Ev.iadd (pc := 168) dX10_findShares_168 ?_
    obtain ⟨c4, h⟩ := ckA_elim h
    refine Ev.iald (pc := 169) dX10_findShares_169 sh_80 c4 ?_
    refine Ev.aload_n (pc := 170) dX10_findShares_170 rfl rfl ?_
    refine Ev.iload (pc := 171) dX10_findShares_171 rfl ?_
    obtain ⟨x5, σ6, g7, h⟩ := bd_elim h
    refine Ev.cVi (pc := 173) (k := 79) (av := [vI v5]) (rest := [vI (σ2 80 (34 + v1).toNatClampNeg), vI v5, vR 101]) dX10_findShares_173 ce_X10_sizesOf ml_X10_340 rfl sh_79 cl_X10 sh_sc (Nat.le_of_ble_eq_true rfl) (Nat.le_of_ble_eq_true rfl) (r_X10_sizesOf g7) ?_
    refine Ev.imul (pc := 176) dX10_findShares_176 ?_
    refine Ev.iload_n (pc := 177) dX10_findShares_177 rfl rfl ?_
    obtain ⟨c8, h⟩ := ckDI_elim h
    refine Ev.irem (pc := 178) dX10_findShares_178 c8 ?_
    refine Ev.goto (pc := 179) (tgt := 183) dX10_findShares_179 rfl ?_
    exact Ev.weak2 (lj_X10_findShares_183 N K_79 hK_79 _ _ _ _ _ _ _ _ _ _ h) (lsubS (lsubS (lsubS (lsubS (lsubS (lsubS (lsubN lsubE)))))))
theorem lj_X10_findShares_114 (N : Nat) (K_79 : Int32 → Int32 → Int32 → Int32 → Int32 → St → Option (Unit × St)) (hK_79 : ∀ (v1 : Int32) (v2 : Int32) (v3 : Int32) (v4 : Int32) (v5 : Int32) (σ : St) (v : Unit) (w : St), K_79 v1 v2 v3 v4 v5 σ = some (v, w) → Ev md_X10_findShares 1 79 [some (vR 79), some (vI v1), some (vI v2), some (vI v3), some (vI v4), some (vI v5), none] [] SH σ (none, SH, w)) (v1 : Int32) (v2 : Int32) (v3 : Int32) (v4 : Int32) (v5 : Int32) (s0 : Int32) (σ : St) (v : Unit) (w : St) (h : j_X10_findShares_114 N K_79 v1 v2 v3 v4 v5 s0 σ = some (v, w)) : Ev md_X10_findShares 1 114 [some (vR 79), some (vI v1), some (vI v2), some (vI v3), some (vI v4), some (vI v5), none] [vI s0] SH σ (none, SH, w) := by
  unfold j_X10_findShares_114 at h
  refine Ev.istore (pc := 114) (lv' := [some (vR 79), some (vI v1), some (vI v2), some (vI v3), some (vI v4), some (vI v5), some (vI s0)]) dX10_findShares_114 (lt9 rfl) rfl rfl ?_
  refine Ev.aload_n (pc := 116) dX10_findShares_116 rfl rfl ?_
  refine Ev.getR (pc := 117) dX10_findShares_117 fl_X10_75 sh_79 rfl ?_
  refine Ev.iload (pc := 120) dX10_findShares_120 rfl ?_
  refine Ev.iload (pc := 122) dX10_findShares_122 rfl ?_
  by_cases c1 : s0 = 0
  · replace h := (if_pos c1).symm.trans h
    refine Ev.if_eq_t (pc := 124) (tgt := 148) dX10_findShares_124 rfl c1 ?_
    refine Ev.iconst (pc := 148) (v := 0) dX10_findShares_148 ki_0 ?_
    exact Ev.weak2 (lj_X10_findShares_149 N K_79 hK_79 _ _ _ _ _ _ _ _ _ _ _ h) (lsubS (lsubS (lsubS (lsubS (lsubS (lsubS (lsubS lsubE)))))))
  · replace h := (if_neg c1).symm.trans h
    refine Ev.if_eq_f (pc := 124) dX10_findShares_124 ⟨148, rfl⟩ c1 ?_
    refine Ev.aload_n (pc := 127) dX10_findShares_127 rfl rfl ?_
    refine Ev.getR (pc := 128) dX10_findShares_128 fl_X10_7 sh_79 rfl ?_
    refine Ev.bipush (pc := 131) (v := 34) dX10_findShares_131 kb_34 ?_
    refine Ev.iload_n (pc := 133) dX10_findShares_133 rfl rfl ?_
    refine Ev.iadd (pc := 134) dX10_findShares_134 ?_
    obtain ⟨c2, h⟩ := ckA_elim h
    refine Ev.iald (pc := 135) dX10_findShares_135 sh_80 c2 ?_
    refine Ev.aload_n (pc := 136) dX10_findShares_136 rfl rfl ?_
    refine Ev.iload (pc := 137) dX10_findShares_137 rfl ?_
    obtain ⟨x3, σ4, g5, h⟩ := bd_elim h
    refine Ev.cVi (pc := 139) (k := 79) (av := [vI v5]) (rest := [vI (σ 80 (34 + v1).toNatClampNeg), vI v5, vR 100]) dX10_findShares_139 ce_X10_sizesOf ml_X10_340 rfl sh_79 cl_X10 sh_sc (Nat.le_of_ble_eq_true rfl) (Nat.le_of_ble_eq_true rfl) (r_X10_sizesOf g5) ?_
    refine Ev.imul (pc := 142) dX10_findShares_142 ?_
    refine Ev.iload_n (pc := 143) dX10_findShares_143 rfl rfl ?_
    obtain ⟨c6, h⟩ := ckDI_elim h
    refine Ev.idiv (pc := 144) dX10_findShares_144 c6 ?_
    refine Ev.goto (pc := 145) (tgt := 149) dX10_findShares_145 rfl ?_
    exact Ev.weak2 (lj_X10_findShares_149 N K_79 hK_79 _ _ _ _ _ _ _ _ _ _ _ h) (lsubS (lsubS (lsubS (lsubS (lsubS (lsubS (lsubS lsubE)))))))
theorem lj_X10_findShares_113 (N : Nat) (K_79 : Int32 → Int32 → Int32 → Int32 → Int32 → St → Option (Unit × St)) (hK_79 : ∀ (v1 : Int32) (v2 : Int32) (v3 : Int32) (v4 : Int32) (v5 : Int32) (σ : St) (v : Unit) (w : St), K_79 v1 v2 v3 v4 v5 σ = some (v, w) → Ev md_X10_findShares 1 79 [some (vR 79), some (vI v1), some (vI v2), some (vI v3), some (vI v4), some (vI v5), none] [] SH σ (none, SH, w)) (v1 : Int32) (v2 : Int32) (v3 : Int32) (v4 : Int32) (v5 : Int32) (σ : St) (v : Unit) (w : St) (h : j_X10_findShares_113 N K_79 v1 v2 v3 v4 v5 σ = some (v, w)) : Ev md_X10_findShares 1 113 [some (vR 79), some (vI v1), some (vI v2), some (vI v3), some (vI v4), some (vI v5), none] [] SH σ (none, SH, w) := by
  unfold j_X10_findShares_113 at h
  refine Ev.iconst (pc := 113) (v := 0) dX10_findShares_113 ki_0 ?_
  exact Ev.weak2 (lj_X10_findShares_114 N K_79 hK_79 _ _ _ _ _ _ _ _ _ h) (lsubS (lsubS (lsubS (lsubS (lsubS (lsubS (lsubN lsubE)))))))
theorem lj_X10_findShares_269 (N : Nat) (K_221 : Int32 → Int32 → St → Option (Unit × St)) (K_236 : Int32 → Int32 → Int32 → Int32 → St → Option (Unit × St)) (hK_221 : ∀ (v3 : Int32) (v4 : Int32) (σ : St) (v : Unit) (w : St), K_221 v3 v4 σ = some (v, w) → Ev md_X10_findShares 1 221 [some (vR 79), none, none, some (vI v3), some (vI v4), none, none] [] SH σ (none, SH, w)) (hK_236 : ∀ (v3 : Int32) (v4 : Int32) (v5 : Int32) (v6 : Int32) (σ : St) (v : Unit) (w : St), K_236 v3 v4 v5 v6 σ = some (v, w) → Ev md_X10_findShares 1 236 [some (vR 79), none, none, some (vI v3), some (vI v4), some (vI v5), some (vI v6)] [] SH σ (none, SH, w)) (v3 : Int32) (v4 : Int32) (v6 : Int32) (s0 : Int32) (σ : St) (v : Unit) (w : St) (h : j_X10_findShares_269 N K_221 K_236 v3 v4 v6 s0 σ = some (v, w)) : Ev md_X10_findShares 1 269 [some (vR 79), none, none, some (vI v3), some (vI v4), none, some (vI v6)] [vI s0] SH σ (none, SH, w) := by
  unfold j_X10_findShares_269 at h
  refine Ev.istore (pc := 269) (lv' := [some (vR 79), none, none, some (vI v3), some (vI v4), some (vI s0), some (vI v6)]) dX10_findShares_269 (lt9 rfl) rfl rfl ?_
  obtain ⟨x1, e_x1, h⟩ := bt_elim h
  refine Ev.iinc (pc := 271) (v := x1) (lv' := [some (vR 79), none, none, some (vI v3), some (vI v4), some (vI s0), some (vI x1)]) dX10_findShares_271 rfl (by rw [ki_1, e_x1]) (lt9 rfl) rfl rfl ?_
  refine Ev.goto (pc := 274) (tgt := 236) dX10_findShares_274 rfl ?_
  exact Ev.weak2 (hK_236 _ _ _ _ _ _ _ h) (lsubS (lsubN (lsubN (lsubS (lsubS (lsubS (lsubS lsubE)))))))
theorem ll_X10_findShares_236 (N : Nat) (K_221 : Int32 → Int32 → St → Option (Unit × St)) (hK_221 : ∀ (v3 : Int32) (v4 : Int32) (σ : St) (v : Unit) (w : St), K_221 v3 v4 σ = some (v, w) → Ev md_X10_findShares 1 221 [some (vR 79), none, none, some (vI v3), some (vI v4), none, none] [] SH σ (none, SH, w)) : ∀ (n : Nat) (v3 : Int32) (v4 : Int32) (v5 : Int32) (v6 : Int32) (σ : St) (v : Unit) (w : St), l_X10_findShares_236 N K_221 n v3 v4 v5 v6 σ = some (v, w) → Ev md_X10_findShares 1 236 [some (vR 79), none, none, some (vI v3), some (vI v4), some (vI v5), some (vI v6)] [] SH σ (none, SH, w) := by
  intro n
  induction n with
  | zero =>
    intro v3 v4 v5 v6 σ v w h
    rw [l_X10_findShares_236] at h
    cases h
  | succ n ih =>
    intro v3 v4 v5 v6 σ v w h
    rw [l_X10_findShares_236] at h
    refine Ev.iload (pc := 236) dX10_findShares_236 rfl ?_
    refine Ev.aload_n (pc := 238) dX10_findShares_238 rfl rfl ?_
    refine Ev.getI (pc := 239) dX10_findShares_239 fl_X10_172 sh_79 rfl ?_
    by_cases c1 : (σ 79 4) ≤ v6
    · replace h := (if_pos c1).symm.trans h
      refine Ev.icmp_ge_t (pc := 242) (tgt := 277) dX10_findShares_242 rfl c1 ?_
      refine Ev.aload_n (pc := 277) dX10_findShares_277 rfl rfl ?_
      refine Ev.getR (pc := 278) dX10_findShares_278 fl_X10_75 sh_79 rfl ?_
      refine Ev.iload (pc := 281) dX10_findShares_281 rfl ?_
      refine Ev.dup2 (pc := 283) dX10_findShares_283 rfl rfl ?_
      obtain ⟨c2, h⟩ := ckA_elim h
      refine Ev.iald (pc := 284) dX10_findShares_284 sh_100 c2 ?_
      refine Ev.iconst (pc := 285) (v := 1) dX10_findShares_285 ki_1 ?_
      refine Ev.iadd (pc := 286) dX10_findShares_286 ?_
      obtain ⟨c3, h⟩ := ckA_elim h
      refine Ev.iast (pc := 287) dX10_findShares_287 sh_100 c3 ?_
      refine Ev.nmS (fun σ4 e9 => ?_)
      replace h := bt_app h σ4 e9
      refine Ev.aload_n (pc := 288) dX10_findShares_288 rfl rfl ?_
      refine Ev.getR (pc := 289) dX10_findShares_289 fl_X10_78 sh_79 rfl ?_
      refine Ev.iload (pc := 292) dX10_findShares_292 rfl ?_
      refine Ev.iconst (pc := 294) (v := (-1)) dX10_findShares_294 ki_m1 ?_
      obtain ⟨c5, h⟩ := ckA_elim h
      refine Ev.iast (pc := 295) dX10_findShares_295 sh_101 c5 ?_
      refine Ev.nmS (fun σ6 e9 => ?_)
      replace h := bt_app h σ6 e9
      obtain ⟨x7, e_x7, h⟩ := bt_elim h
      refine Ev.iinc (pc := 296) (v := x7) (lv' := [some (vR 79), none, none, some (vI v3), some (vI x7), some (vI v5), some (vI v6)]) dX10_findShares_296 rfl (by rw [ki_m1, e_x7]) (lt9 rfl) rfl rfl ?_
      refine Ev.goto (pc := 299) (tgt := 221) dX10_findShares_299 rfl ?_
      exact Ev.weak2 (hK_221 _ _ _ _ _ h) (lsubS (lsubN (lsubN (lsubS (lsubS (lsubN (lsubN lsubE)))))))
    · replace h := (if_neg c1).symm.trans h
      refine Ev.icmp_ge_f (pc := 242) dX10_findShares_242 ⟨277, rfl⟩ c1 ?_
      refine Ev.aload_n (pc := 245) dX10_findShares_245 rfl rfl ?_
      refine Ev.getR (pc := 246) dX10_findShares_246 fl_X10_78 sh_79 rfl ?_
      refine Ev.iload (pc := 249) dX10_findShares_249 rfl ?_
      obtain ⟨c8, h⟩ := ckA_elim h
      refine Ev.iald (pc := 251) dX10_findShares_251 sh_101 c8 ?_
      refine Ev.aload_n (pc := 252) dX10_findShares_252 rfl rfl ?_
      refine Ev.getR (pc := 253) dX10_findShares_253 fl_X10_78 sh_79 rfl ?_
      refine Ev.iload (pc := 256) dX10_findShares_256 rfl ?_
      obtain ⟨c9, h⟩ := ckA_elim h
      refine Ev.iald (pc := 258) dX10_findShares_258 sh_101 c9 ?_
      by_cases c10 : (σ 101 v6.toNatClampNeg) ≤ (σ 101 v5.toNatClampNeg)
      · replace h := (if_pos c10).symm.trans h
        refine Ev.icmp_le_t (pc := 259) (tgt := 267) dX10_findShares_259 rfl c10 ?_
        refine Ev.iload (pc := 267) dX10_findShares_267 rfl ?_
        exact Ev.weak2 (lj_X10_findShares_269 N K_221 (l_X10_findShares_236 N K_221 n) hK_221 ih _ _ _ _ _ _ _ h) (lsubS (lsubN (lsubN (lsubS (lsubS (lsubN (lsubS lsubE)))))))
      · replace h := (if_neg c10).symm.trans h
        refine Ev.icmp_le_f (pc := 259) dX10_findShares_259 ⟨267, rfl⟩ c10 ?_
        refine Ev.iload (pc := 262) dX10_findShares_262 rfl ?_
        refine Ev.goto (pc := 264) (tgt := 269) dX10_findShares_264 rfl ?_
        exact Ev.weak2 (lj_X10_findShares_269 N K_221 (l_X10_findShares_236 N K_221 n) hK_221 ih _ _ _ _ _ _ _ h) (lsubS (lsubN (lsubN (lsubS (lsubS (lsubN (lsubS lsubE)))))))
theorem ll_X10_findShares_221 (N : Nat) : ∀ (n : Nat) (v3 : Int32) (v4 : Int32) (σ : St) (v : Unit) (w : St), l_X10_findShares_221 N n v3 v4 σ = some (v, w) → Ev md_X10_findShares 1 221 [some (vR 79), none, none, some (vI v3), some (vI v4), none, none] [] SH σ (none, SH, w) := by
  intro n
  induction n with
  | zero =>
    intro v3 v4 σ v w h
    rw [l_X10_findShares_221] at h
    cases h
  | succ n ih =>
    intro v3 v4 σ v w h
    rw [l_X10_findShares_221] at h
    refine Ev.iload (pc := 221) dX10_findShares_221 rfl ?_
    by_cases c1 : v4 ≤ 0
    · replace h := (if_pos c1).symm.trans h
      refine Ev.if_le_t (pc := 223) (tgt := 302) dX10_findShares_223 rfl c1 ?_
      obtain ⟨h1, h2⟩ := oeq h
      subst h1
      subst h2
      exact Ev.ret_v (pc := 302) dX10_findShares_302 rfl
    · replace h := (if_neg c1).symm.trans h
      refine Ev.if_le_f (pc := 223) dX10_findShares_223 ⟨302, rfl⟩ c1 ?_
      refine Ev.iload_n (pc := 226) dX10_findShares_226 rfl rfl ?_
      by_cases c2 : v3 < 0
      · replace h := (if_pos c2).symm.trans h
        refine Ev.if_lt_t (pc := 227) (tgt := 302) dX10_findShares_227 rfl c2 ?_
        obtain ⟨h1, h2⟩ := oeq h
        subst h1
        subst h2
        exact Ev.ret_v (pc := 302) dX10_findShares_302 rfl
      · replace h := (if_neg c2).symm.trans h
        refine Ev.if_lt_f (pc := 227) dX10_findShares_227 ⟨302, rfl⟩ c2 ?_
        refine Ev.iload_n (pc := 230) dX10_findShares_230 rfl rfl ?_
        refine Ev.istore (pc := 231) (lv' := [some (vR 79), none, none, some (vI v3), some (vI v4), some (vI v3), none]) dX10_findShares_231 (lt9 rfl) rfl rfl ?_
        refine Ev.iconst (pc := 233) (v := 0) dX10_findShares_233 ki_0 ?_
        refine Ev.istore (pc := 234) (lv' := [some (vR 79), none, none, some (vI v3), some (vI v4), some (vI v3), some (vI 0)]) dX10_findShares_234 (lt9 rfl) rfl rfl ?_
        exact Ev.weak2 (ll_X10_findShares_236 N (l_X10_findShares_221 N n) ih N _ _ _ _ _ _ _ h) (lsubS (lsubN (lsubN (lsubS (lsubS (lsubS (lsubS lsubE)))))))
theorem ll_X10_findShares_79 (N : Nat) : ∀ (n : Nat) (v1 : Int32) (v2 : Int32) (v3 : Int32) (v4 : Int32) (v5 : Int32) (σ : St) (v : Unit) (w : St), l_X10_findShares_79 N n v1 v2 v3 v4 v5 σ = some (v, w) → Ev md_X10_findShares 1 79 [some (vR 79), some (vI v1), some (vI v2), some (vI v3), some (vI v4), some (vI v5), none] [] SH σ (none, SH, w) := by
  intro n
  induction n with
  | zero =>
    intro v1 v2 v3 v4 v5 σ v w h
    rw [l_X10_findShares_79] at h
    cases h
  | succ n ih =>
    intro v1 v2 v3 v4 v5 σ v w h
    rw [l_X10_findShares_79] at h
    refine Ev.iload (pc := 79) dX10_findShares_79 rfl ?_
    refine Ev.iconst (pc := 81) (v := 3) dX10_findShares_81 ki_3 ?_
    by_cases c1 : (3 : Int32) ≤ v5
    · replace h := (if_pos c1).symm.trans h
      refine Ev.icmp_ge_t (pc := 82) (tgt := 202) dX10_findShares_82 rfl c1 ?_
      refine Ev.iload_n (pc := 202) dX10_findShares_202 rfl rfl ?_
      by_cases c2 : v2 = 0
      · replace h := (if_pos c2).symm.trans h
        refine Ev.if_ne_f (pc := 203) dX10_findShares_203 ⟨221, rfl⟩ c2 ?_
        refine Ev.iload_n (pc := 206) dX10_findShares_206 rfl rfl ?_
        by_cases c3 : v3 < 0
        · replace h := (if_pos c3).symm.trans h
          refine Ev.if_lt_t (pc := 207) (tgt := 221) dX10_findShares_207 rfl c3 ?_
          exact Ev.weak2 (ll_X10_findShares_221 N N _ _ _ _ _ h) (lsubS (lsubN (lsubN (lsubS (lsubS (lsubN (lsubN lsubE)))))))
        · replace h := (if_neg c3).symm.trans h
          refine Ev.if_lt_f (pc := 207) dX10_findShares_207 ⟨221, rfl⟩ c3 ?_
          refine Ev.aload_n (pc := 210) dX10_findShares_210 rfl rfl ?_
          refine Ev.getR (pc := 211) dX10_findShares_211 fl_X10_75 sh_79 rfl ?_
          refine Ev.iload_n (pc := 214) dX10_findShares_214 rfl rfl ?_
          refine Ev.iload (pc := 215) dX10_findShares_215 rfl ?_
          obtain ⟨c4, h⟩ := ckA_elim h
          refine Ev.iast (pc := 217) dX10_findShares_217 sh_100 c4 ?_
          refine Ev.nmS (fun σ5 e9 => ?_)
          replace h := bt_app h σ5 e9
          refine Ev.iconst (pc := 218) (v := 0) dX10_findShares_218 ki_0 ?_
          refine Ev.istore (pc := 219) (lv' := [some (vR 79), some (vI v1), some (vI v2), some (vI v3), some (vI 0), some (vI v5), none]) dX10_findShares_219 (lt9 rfl) rfl rfl ?_
          exact Ev.weak2 (ll_X10_findShares_221 N N _ _ _ _ _ h) (lsubS (lsubN (lsubN (lsubS (lsubS (lsubN (lsubN lsubE)))))))
      · replace h := (if_neg c2).symm.trans h
        refine Ev.if_ne_t (pc := 203) (tgt := 221) dX10_findShares_203 rfl c2 ?_
        exact Ev.weak2 (ll_X10_findShares_221 N N _ _ _ _ _ h) (lsubS (lsubN (lsubN (lsubS (lsubS (lsubN (lsubN lsubE)))))))
    · replace h := (if_neg c1).symm.trans h
      refine Ev.icmp_ge_f (pc := 82) dX10_findShares_82 ⟨202, rfl⟩ c1 ?_
      refine Ev.iload (pc := 85) dX10_findShares_85 rfl ?_
      refine Ev.aload_n (pc := 87) dX10_findShares_87 rfl rfl ?_
      refine Ev.getI (pc := 88) dX10_findShares_88 fl_X10_172 sh_79 rfl ?_
      by_cases c6 : (σ 79 4) ≤ v5
      · replace h := (if_pos c6).symm.trans h
        refine Ev.icmp_ge_t (pc := 91) (tgt := 113) dX10_findShares_91 rfl c6 ?_
        exact Ev.weak2 (lj_X10_findShares_113 N (l_X10_findShares_79 N n) ih _ _ _ _ _ _ _ _ h) (lsubS (lsubS (lsubS (lsubS (lsubS (lsubS (lsubN lsubE)))))))
      · replace h := (if_neg c6).symm.trans h
        refine Ev.icmp_ge_f (pc := 91) dX10_findShares_91 ⟨113, rfl⟩ c6 ?_
        refine Ev.aload_n (pc := 94) dX10_findShares_94 rfl rfl ?_
        refine Ev.getR (pc := 95) dX10_findShares_95 fl_X10_26 sh_79 rfl ?_
        refine Ev.iload (pc := 98) dX10_findShares_98 rfl ?_
        obtain ⟨c7, h⟩ := ckA_elim h
        refine Ev.iald (pc := 100) dX10_findShares_100 sh_85 c7 ?_
        refine Ev.iload_n (pc := 101) dX10_findShares_101 rfl rfl ?_
        by_cases c8 : (σ 85 v5.toNatClampNeg) = v1
        · replace h := (if_pos c8).symm.trans h
          refine Ev.icmp_ne_f (pc := 102) dX10_findShares_102 ⟨113, rfl⟩ c8 ?_
          refine Ev.iload_n (pc := 105) dX10_findShares_105 rfl rfl ?_
          by_cases c9 : v2 ≤ 0
          · replace h := (if_pos c9).symm.trans h
            refine Ev.if_le_t (pc := 106) (tgt := 113) dX10_findShares_106 rfl c9 ?_
            exact Ev.weak2 (lj_X10_findShares_113 N (l_X10_findShares_79 N n) ih _ _ _ _ _ _ _ _ h) (lsubS (lsubS (lsubS (lsubS (lsubS (lsubS (lsubN lsubE)))))))
          · replace h := (if_neg c9).symm.trans h
            refine Ev.if_le_f (pc := 106) dX10_findShares_106 ⟨113, rfl⟩ c9 ?_
            refine Ev.iconst (pc := 109) (v := 1) dX10_findShares_109 ki_1 ?_
            refine Ev.goto (pc := 110) (tgt := 114) dX10_findShares_110 rfl ?_
            exact Ev.weak2 (lj_X10_findShares_114 N (l_X10_findShares_79 N n) ih _ _ _ _ _ _ _ _ _ h) (lsubS (lsubS (lsubS (lsubS (lsubS (lsubS (lsubN lsubE)))))))
        · replace h := (if_neg c8).symm.trans h
          refine Ev.icmp_ne_t (pc := 102) (tgt := 113) dX10_findShares_102 rfl c8 ?_
          exact Ev.weak2 (lj_X10_findShares_113 N (l_X10_findShares_79 N n) ih _ _ _ _ _ _ _ _ h) (lsubS (lsubS (lsubS (lsubS (lsubS (lsubS (lsubN lsubE)))))))
theorem ll_X10_findShares_12 (N : Nat) : ∀ (n : Nat) (v1 : Int32) (v2 : Int32) (v3 : Int32) (v4 : Int32) (σ : St) (v : Unit) (w : St), l_X10_findShares_12 N n v1 v2 v3 v4 σ = some (v, w) → Ev md_X10_findShares 1 12 [some (vR 79), some (vI v1), some (vI v2), some (vI v3), some (vI v4), none, none] [] SH σ (none, SH, w) := by
  intro n
  induction n with
  | zero =>
    intro v1 v2 v3 v4 σ v w h
    rw [l_X10_findShares_12] at h
    cases h
  | succ n ih =>
    intro v1 v2 v3 v4 σ v w h
    rw [l_X10_findShares_12] at h
    refine Ev.iload (pc := 12) dX10_findShares_12 rfl ?_
    by_cases c1 : v4 < 0
    · replace h := (if_pos c1).symm.trans h
      refine Ev.if_lt_t (pc := 14) (tgt := 65) dX10_findShares_14 rfl c1 ?_
      refine Ev.aload_n (pc := 65) dX10_findShares_65 rfl rfl ?_
      refine Ev.getR (pc := 66) dX10_findShares_66 fl_X10_7 sh_79 rfl ?_
      refine Ev.bipush (pc := 69) (v := 34) dX10_findShares_69 kb_34 ?_
      refine Ev.iload_n (pc := 71) dX10_findShares_71 rfl rfl ?_
      refine Ev.iadd (pc := 72) dX10_findShares_72 ?_
      obtain ⟨c2, h⟩ := ckA_elim h
      refine Ev.iald (pc := 73) dX10_findShares_73 sh_80 c2 ?_
      refine Ev.nmI (fun x3 e9 => ?_)
      replace h := bt_app h x3 e9
      refine Ev.istore (pc := 74) (lv' := [some (vR 79), some (vI v1), some (vI v2), some (vI v3), some (vI x3), none, none]) dX10_findShares_74 (lt9 rfl) rfl rfl ?_
      refine Ev.iconst (pc := 76) (v := 0) dX10_findShares_76 ki_0 ?_
      refine Ev.istore (pc := 77) (lv' := [some (vR 79), some (vI v1), some (vI v2), some (vI v3), some (vI x3), some (vI 0), none]) dX10_findShares_77 (lt9 rfl) rfl rfl ?_
      exact Ev.weak2 (ll_X10_findShares_79 N N _ _ _ _ _ _ _ _ h) (lsubS (lsubS (lsubS (lsubS (lsubS (lsubS (lsubN lsubE)))))))
    · replace h := (if_neg c1).symm.trans h
      refine Ev.if_lt_f (pc := 14) dX10_findShares_14 ⟨65, rfl⟩ c1 ?_
      refine Ev.iload_n (pc := 17) dX10_findShares_17 rfl rfl ?_
      refine Ev.aload_n (pc := 18) dX10_findShares_18 rfl rfl ?_
      refine Ev.getR (pc := 19) dX10_findShares_19 fl_X10_26 sh_79 rfl ?_
      refine Ev.iload (pc := 22) dX10_findShares_22 rfl ?_
      obtain ⟨c4, h⟩ := ckA_elim h
      refine Ev.iald (pc := 24) dX10_findShares_24 sh_85 c4 ?_
      refine Ev.iload_n (pc := 25) dX10_findShares_25 rfl rfl ?_
      by_cases c5 : (σ 85 v4.toNatClampNeg) = v1
      · replace h := (if_pos c5).symm.trans h
        refine Ev.icmp_ne_f (pc := 26) dX10_findShares_26 ⟨38, rfl⟩ c5 ?_
        refine Ev.aload_n (pc := 29) dX10_findShares_29 rfl rfl ?_
        refine Ev.iload (pc := 30) dX10_findShares_30 rfl ?_
        obtain ⟨x6, σ7, g8, h⟩ := bd_elim h
        refine Ev.cVi (pc := 32) (k := 79) (av := [vI v4]) (rest := [vI v2]) dX10_findShares_32 ce_X10_sizesOf ml_X10_340 rfl sh_79 cl_X10 sh_sc (Nat.le_of_ble_eq_true rfl) (Nat.le_of_ble_eq_true rfl) (r_X10_sizesOf g8) ?_
        refine Ev.goto (pc := 35) (tgt := 39) dX10_findShares_35 rfl ?_
        exact Ev.weak2 (lj_X10_findShares_39 N (l_X10_findShares_12 N n) ih _ _ _ _ _ _ _ _ h) (lsubS (lsubS (lsubN (lsubS (lsubS (lsubN (lsubN lsubE)))))))
      · replace h := (if_neg c5).symm.trans h
        refine Ev.icmp_ne_t (pc := 26) (tgt := 38) dX10_findShares_26 rfl c5 ?_
        refine Ev.iconst (pc := 38) (v := 0) dX10_findShares_38 ki_0 ?_
        exact Ev.weak2 (lj_X10_findShares_39 N (l_X10_findShares_12 N n) ih _ _ _ _ _ _ _ _ h) (lsubS (lsubS (lsubN (lsubS (lsubS (lsubN (lsubN lsubE)))))))
theorem e_X10_findShares (N : Nat) (a1 : Int32) (σ : St) (v : Unit) (w : St) (h : o_X10_findShares N a1 σ = some (v, w)) : Ev md_X10_findShares 1 0 (lvE [vR 79, vI a1] 7) [] SH σ (none, SH, w) := by
  show Ev md_X10_findShares 1 0 [some (vR 79), some (vI a1), none, none, none, none, none] [] SH σ (none, SH, w)
  unfold o_X10_findShares at h
  refine Ev.iconst (pc := 0) (v := 0) dX10_findShares_0 ki_0 ?_
  refine Ev.istore_n (pc := 1) (lv' := [some (vR 79), some (vI a1), some (vI 0), none, none, none, none]) dX10_findShares_1 rfl (lt9 rfl) rfl rfl ?_
  refine Ev.iconst (pc := 2) (v := (-1)) dX10_findShares_2 ki_m1 ?_
  refine Ev.istore_n (pc := 3) (lv' := [some (vR 79), some (vI a1), some (vI 0), some (vI (-1)), none, none, none]) dX10_findShares_3 rfl (lt9 rfl) rfl rfl ?_
  refine Ev.aload_n (pc := 4) dX10_findShares_4 rfl rfl ?_
  refine Ev.getI (pc := 5) dX10_findShares_5 fl_X10_172 sh_79 rfl ?_
  refine Ev.iconst (pc := 8) (v := 1) dX10_findShares_8 ki_1 ?_
  refine Ev.isub (pc := 9) dX10_findShares_9 ?_
  refine Ev.nmI (fun x1 e9 => ?_)
  replace h := bt_app h x1 e9
  refine Ev.istore (pc := 10) (lv' := [some (vR 79), some (vI a1), some (vI 0), some (vI (-1)), some (vI x1), none, none]) dX10_findShares_10 (lt9 rfl) rfl rfl ?_
  exact Ev.weak2 (ll_X10_findShares_12 N N _ _ _ _ _ _ _ h) (lsubS (lsubS (lsubS (lsubS (lsubS (lsubN (lsubN lsubE)))))))
theorem r_X10_findShares {N : Nat} {a1 : Int32} {σ : St} {v : Unit} {w : St} (h : o_X10_findShares N a1 σ = some (v, w)) : Rn md_X10_findShares 1 [vR 79, vI a1] SH σ (none, SH, w) := Rn.of ce_X10_findShares.1 (Nat.le_of_ble_eq_true rfl) (e_X10_findShares N _ _ _ _ h)
def o_X10_share (N : Nat) (a1 : Int32) (σ : St) : Option (Int32 × St) := bd (o_X10_isKeeper N a1 σ) fun x1 σ2 => if x1 = 0 then (some ((-1000000001), σ2)) else (ckA a1 6 (bd (o_X10_findShares N (σ2 85 a1.toNatClampNeg) σ2) fun u6 σ7 => ckA a1 3 (some ((σ7 100 a1.toNatClampNeg), σ7))))
theorem e_X10_share (N : Nat) (a1 : Int32) (σ : St) (v : Int32) (w : St) (h : o_X10_share N a1 σ = some (v, w)) : Ev md_X10_share 2 0 (lvE [vR 79, vI a1] 2) [] SH σ (some (vI v), SH, w) := by
  show Ev md_X10_share 2 0 [some (vR 79), some (vI a1)] [] SH σ (some (vI v), SH, w)
  unfold o_X10_share at h
  refine Ev.aload_n (pc := 0) dX10_share_0 rfl rfl ?_
  refine Ev.iload_n (pc := 1) dX10_share_1 rfl rfl ?_
  obtain ⟨x1, σ2, g3, h⟩ := bd_elim h
  refine Ev.cVi (pc := 2) (k := 79) (av := [vI a1]) (rest := []) dX10_share_2 ce_X10_isKeeper ml_X10_206 rfl sh_79 cl_X10 sh_sc (Nat.le_of_ble_eq_true rfl) (Nat.le_of_ble_eq_true rfl) (r_X10_isKeeper g3) ?_
  by_cases c4 : x1 = 0
  · replace h := (if_pos c4).symm.trans h
    refine Ev.if_ne_f (pc := 5) dX10_share_5 ⟨11, rfl⟩ c4 ?_
    refine Ev.ldc (pc := 8) dX10_share_8 kc_X10_205 ?_
    obtain ⟨h1, h2⟩ := oeq h
    subst h1
    subst h2
    exact Ev.ret_i (pc := 10) dX10_share_10 rfl rfl
  · replace h := (if_neg c4).symm.trans h
    refine Ev.if_ne_t (pc := 5) (tgt := 11) dX10_share_5 rfl c4 ?_
    refine Ev.aload_n (pc := 11) dX10_share_11 rfl rfl ?_
    refine Ev.aload_n (pc := 12) dX10_share_12 rfl rfl ?_
    refine Ev.getR (pc := 13) dX10_share_13 fl_X10_26 sh_79 rfl ?_
    refine Ev.iload_n (pc := 16) dX10_share_16 rfl rfl ?_
    obtain ⟨c5, h⟩ := ckA_elim h
    refine Ev.iald (pc := 17) dX10_share_17 sh_85 c5 ?_
    obtain ⟨u6, σ7, g8, h⟩ := bd_elim h
    refine Ev.cVv (pc := 18) (k := 79) (av := [vI (σ2 85 a1.toNatClampNeg)]) (rest := []) dX10_share_18 ce_X10_findShares ml_X10_343 rfl sh_79 cl_X10 sh_sc (Nat.le_of_ble_eq_true rfl) (Nat.le_of_ble_eq_true rfl) (r_X10_findShares g8) ?_
    refine Ev.aload_n (pc := 21) dX10_share_21 rfl rfl ?_
    refine Ev.getR (pc := 22) dX10_share_22 fl_X10_75 sh_79 rfl ?_
    refine Ev.iload_n (pc := 25) dX10_share_25 rfl rfl ?_
    obtain ⟨c9, h⟩ := ckA_elim h
    refine Ev.iald (pc := 26) dX10_share_26 sh_100 c9 ?_
    obtain ⟨h1, h2⟩ := oeq h
    subst h1
    subst h2
    exact Ev.ret_i (pc := 27) dX10_share_27 rfl rfl
theorem r_X10_share {N : Nat} {a1 : Int32} {σ : St} {v : Int32} {w : St} (h : o_X10_share N a1 σ = some (v, w)) : Rn md_X10_share 2 [vR 79, vI a1] SH σ (some (vI v), SH, w) := Rn.of ce_X10_share.1 (Nat.le_of_ble_eq_true rfl) (e_X10_share N _ _ _ _ h)
def j_X9_let_114 (N : Nat) (K_59 : Int32 → Int32 → Int32 → Int32 → Int32 → Int32 → Int32 → St → Option (Int32 × St)) (v2 : Int32) (v3 : Int32) (v4 : Int32) (v5 : Int32) (v6 : Int32) (v7 : Int32) (v8 : Int32) (σ : St) : Option (Int32 × St) := bt (v8 + 1) fun x1 => K_59 v2 v3 v4 v5 v6 v7 x1 σ
def j_X9_let_102 (N : Nat) (K_59 : Int32 → Int32 → Int32 → Int32 → Int32 → Int32 → Int32 → St → Option (Int32 × St)) (v2 : Int32) (v3 : Int32) (v4 : Int32) (v5 : Int32) (v7 : Int32) (v8 : Int32) (s0 : Int32) (σ : St) : Option (Int32 × St) := bt (v7 &&& v8) fun x1 => bt (v5 + 1) fun x2 => j_X9_let_114 N K_59 v2 v3 v4 x2 s0 x1 v8 σ
def l_X9_let_59 (N : Nat) : Nat → Int32 → Int32 → Int32 → Int32 → Int32 → Int32 → Int32 → St → Option (Int32 × St)
  | 0, _, _, _, _, _, _, _, _ => none
  | n + 1, v2, v3, v4, v5, v6, v7, v8, σ => if (128 : Int32) ≤ v8 then (if v3 = 0 then (some (v5, σ)) else (if v3 = 1 then (some (v6, σ)) else (if v5 = 0 then (some (0, σ)) else (some (v7, σ))))) else (if (v8 &&& (v4 ^^^ (-1))) = 0 then (bd (o_X5_sizesIn N v8 σ) fun x6 σ7 => if x6 = v2 then (if v5 = 0 then (j_X9_let_102 N (l_X9_let_59 N n) v2 v3 v4 v5 v7 v8 v8 σ7) else (j_X9_let_102 N (l_X9_let_59 N n) v2 v3 v4 v5 v7 v8 v6 σ7)) else (j_X9_let_114 N (l_X9_let_59 N n) v2 v3 v4 v5 v6 v7 v8 σ7)) else (j_X9_let_114 N (l_X9_let_59 N n) v2 v3 v4 v5 v6 v7 v8 σ))
def o_X9_let (N : Nat) (a1 : Int32) (a2 : Int32) (a3 : Int32) (σ : St) : Option (Int32 × St) := if (p_X5_hasKeeper a1 σ) = 0 then (some ((-1000000001), σ)) else (if a2 < 0 then (some ((-1000000002), σ)) else (if (99 : Int32) < a2 then (some ((-1000000002), σ)) else (if a3 < 0 then (some ((-1000000002), σ)) else (if a3 ≤ 2 then (bd (o_X1_heldBy N a1 σ) fun x6 σ7 => l_X9_let_59 N N a2 a3 x6 0 (-1) x6 0 σ7) else (some ((-1000000002), σ))))))
theorem lj_X9_let_114 (N : Nat) (K_59 : Int32 → Int32 → Int32 → Int32 → Int32 → Int32 → Int32 → St → Option (Int32 × St)) (hK_59 : ∀ (v2 : Int32) (v3 : Int32) (v4 : Int32) (v5 : Int32) (v6 : Int32) (v7 : Int32) (v8 : Int32) (σ : St) (v : Int32) (w : St), K_59 v2 v3 v4 v5 v6 v7 v8 σ = some (v, w) → Ev md_X9_let 3 59 [some (vR 0), none, some (vI v2), some (vI v3), some (vI v4), some (vI v5), some (vI v6), some (vI v7), some (vI v8)] [] SH σ (some (vI v), SH, w)) (v2 : Int32) (v3 : Int32) (v4 : Int32) (v5 : Int32) (v6 : Int32) (v7 : Int32) (v8 : Int32) (σ : St) (v : Int32) (w : St) (h : j_X9_let_114 N K_59 v2 v3 v4 v5 v6 v7 v8 σ = some (v, w)) : Ev md_X9_let 3 114 [some (vR 0), none, some (vI v2), some (vI v3), some (vI v4), some (vI v5), some (vI v6), some (vI v7), some (vI v8)] [] SH σ (some (vI v), SH, w) := by
  unfold j_X9_let_114 at h
  obtain ⟨x1, e_x1, h⟩ := bt_elim h
  refine Ev.iinc (pc := 114) (v := x1) (lv' := [some (vR 0), none, some (vI v2), some (vI v3), some (vI v4), some (vI v5), some (vI v6), some (vI v7), some (vI x1)]) dX9_let_114 rfl (by rw [ki_1, e_x1]) (lt9 rfl) rfl rfl ?_
  refine Ev.goto (pc := 117) (tgt := 59) dX9_let_117 rfl ?_
  exact Ev.weak2 (hK_59 _ _ _ _ _ _ _ _ _ _ h) (lsubS (lsubN (lsubS (lsubS (lsubS (lsubS (lsubS (lsubS (lsubS lsubE)))))))))
theorem lj_X9_let_102 (N : Nat) (K_59 : Int32 → Int32 → Int32 → Int32 → Int32 → Int32 → Int32 → St → Option (Int32 × St)) (hK_59 : ∀ (v2 : Int32) (v3 : Int32) (v4 : Int32) (v5 : Int32) (v6 : Int32) (v7 : Int32) (v8 : Int32) (σ : St) (v : Int32) (w : St), K_59 v2 v3 v4 v5 v6 v7 v8 σ = some (v, w) → Ev md_X9_let 3 59 [some (vR 0), none, some (vI v2), some (vI v3), some (vI v4), some (vI v5), some (vI v6), some (vI v7), some (vI v8)] [] SH σ (some (vI v), SH, w)) (v2 : Int32) (v3 : Int32) (v4 : Int32) (v5 : Int32) (v7 : Int32) (v8 : Int32) (s0 : Int32) (σ : St) (v : Int32) (w : St) (h : j_X9_let_102 N K_59 v2 v3 v4 v5 v7 v8 s0 σ = some (v, w)) : Ev md_X9_let 3 102 [some (vR 0), none, some (vI v2), some (vI v3), some (vI v4), some (vI v5), none, some (vI v7), some (vI v8)] [vI s0] SH σ (some (vI v), SH, w) := by
  unfold j_X9_let_102 at h
  refine Ev.istore (pc := 102) (lv' := [some (vR 0), none, some (vI v2), some (vI v3), some (vI v4), some (vI v5), some (vI s0), some (vI v7), some (vI v8)]) dX9_let_102 (lt9 rfl) rfl rfl ?_
  refine Ev.iload (pc := 104) dX9_let_104 rfl ?_
  refine Ev.iload (pc := 106) dX9_let_106 rfl ?_
  refine Ev.iand (pc := 108) dX9_let_108 ?_
  refine Ev.nmI (fun x1 e9 => ?_)
  replace h := bt_app h x1 e9
  refine Ev.istore (pc := 109) (lv' := [some (vR 0), none, some (vI v2), some (vI v3), some (vI v4), some (vI v5), some (vI s0), some (vI x1), some (vI v8)]) dX9_let_109 (lt9 rfl) rfl rfl ?_
  obtain ⟨x2, e_x2, h⟩ := bt_elim h
  refine Ev.iinc (pc := 111) (v := x2) (lv' := [some (vR 0), none, some (vI v2), some (vI v3), some (vI v4), some (vI x2), some (vI s0), some (vI x1), some (vI v8)]) dX9_let_111 rfl (by rw [ki_1, e_x2]) (lt9 rfl) rfl rfl ?_
  exact Ev.weak2 (lj_X9_let_114 N K_59 hK_59 _ _ _ _ _ _ _ _ _ _ h) (lsubS (lsubN (lsubS (lsubS (lsubS (lsubS (lsubS (lsubS (lsubS lsubE)))))))))
theorem ll_X9_let_59 (N : Nat) : ∀ (n : Nat) (v2 : Int32) (v3 : Int32) (v4 : Int32) (v5 : Int32) (v6 : Int32) (v7 : Int32) (v8 : Int32) (σ : St) (v : Int32) (w : St), l_X9_let_59 N n v2 v3 v4 v5 v6 v7 v8 σ = some (v, w) → Ev md_X9_let 3 59 [some (vR 0), none, some (vI v2), some (vI v3), some (vI v4), some (vI v5), some (vI v6), some (vI v7), some (vI v8)] [] SH σ (some (vI v), SH, w) := by
  intro n
  induction n with
  | zero =>
    intro v2 v3 v4 v5 v6 v7 v8 σ v w h
    rw [l_X9_let_59] at h
    cases h
  | succ n ih =>
    intro v2 v3 v4 v5 v6 v7 v8 σ v w h
    rw [l_X9_let_59] at h
    refine Ev.iload (pc := 59) dX9_let_59 rfl ?_
    refine Ev.sipush (pc := 61) (v := 128) dX9_let_61 ks_128 ?_
    by_cases c1 : (128 : Int32) ≤ v8
    · replace h := (if_pos c1).symm.trans h
      refine Ev.icmp_ge_t (pc := 64) (tgt := 120) dX9_let_64 rfl c1 ?_
      refine Ev.iload_n (pc := 120) dX9_let_120 rfl rfl ?_
      by_cases c2 : v3 = 0
      · replace h := (if_pos c2).symm.trans h
        refine Ev.if_ne_f (pc := 121) dX9_let_121 ⟨127, rfl⟩ c2 ?_
        refine Ev.iload (pc := 124) dX9_let_124 rfl ?_
        obtain ⟨h1, h2⟩ := oeq h
        subst h1
        subst h2
        exact Ev.ret_i (pc := 126) dX9_let_126 rfl rfl
      · replace h := (if_neg c2).symm.trans h
        refine Ev.if_ne_t (pc := 121) (tgt := 127) dX9_let_121 rfl c2 ?_
        refine Ev.iload_n (pc := 127) dX9_let_127 rfl rfl ?_
        refine Ev.iconst (pc := 128) (v := 1) dX9_let_128 ki_1 ?_
        by_cases c3 : v3 = 1
        · replace h := (if_pos c3).symm.trans h
          refine Ev.icmp_ne_f (pc := 129) dX9_let_129 ⟨137, rfl⟩ c3 ?_
          refine Ev.iload (pc := 132) dX9_let_132 rfl ?_
          refine Ev.goto (pc := 134) (tgt := 148) dX9_let_134 rfl ?_
          obtain ⟨h1, h2⟩ := oeq h
          subst h1
          subst h2
          exact Ev.ret_i (pc := 148) dX9_let_148 rfl rfl
        · replace h := (if_neg c3).symm.trans h
          refine Ev.icmp_ne_t (pc := 129) (tgt := 137) dX9_let_129 rfl c3 ?_
          refine Ev.iload (pc := 137) dX9_let_137 rfl ?_
          by_cases c4 : v5 = 0
          · replace h := (if_pos c4).symm.trans h
            refine Ev.if_ne_f (pc := 139) dX9_let_139 ⟨146, rfl⟩ c4 ?_
            refine Ev.iconst (pc := 142) (v := 0) dX9_let_142 ki_0 ?_
            refine Ev.goto (pc := 143) (tgt := 148) dX9_let_143 rfl ?_
            obtain ⟨h1, h2⟩ := oeq h
            subst h1
            subst h2
            exact Ev.ret_i (pc := 148) dX9_let_148 rfl rfl
          · replace h := (if_neg c4).symm.trans h
            refine Ev.if_ne_t (pc := 139) (tgt := 146) dX9_let_139 rfl c4 ?_
            refine Ev.iload (pc := 146) dX9_let_146 rfl ?_
            obtain ⟨h1, h2⟩ := oeq h
            subst h1
            subst h2
            exact Ev.ret_i (pc := 148) dX9_let_148 rfl rfl
    · replace h := (if_neg c1).symm.trans h
      refine Ev.icmp_ge_f (pc := 64) dX9_let_64 ⟨120, rfl⟩ c1 ?_
      refine Ev.iload (pc := 67) dX9_let_67 rfl ?_
      refine Ev.iload (pc := 69) dX9_let_69 rfl ?_
      refine Ev.iconst (pc := 71) (v := (-1)) dX9_let_71 ki_m1 ?_
      refine Ev.ixor (pc := 72) dX9_let_72 ?_
      refine Ev.iand (pc := 73) dX9_let_73 ?_
      by_cases c5 : (v8 &&& (v4 ^^^ (-1))) = 0
      · replace h := (if_pos c5).symm.trans h
        refine Ev.if_ne_f (pc := 74) dX9_let_74 ⟨114, rfl⟩ c5 ?_
        refine Ev.aload_n (pc := 77) dX9_let_77 rfl rfl ?_
        refine Ev.getR (pc := 78) dX9_let_78 fl_X9_10 sh_0 rfl ?_
        refine Ev.iload (pc := 81) dX9_let_81 rfl ?_
        obtain ⟨x6, σ7, g8, h⟩ := bd_elim h
        refine Ev.cVi (pc := 83) (k := 1) (av := [vI v8]) (rest := []) dX9_let_83 ce_X5_sizesIn ml_X9_295 rfl sh_1 cl_X5 sh_sc (Nat.le_of_ble_eq_true rfl) (Nat.le_of_ble_eq_true rfl) (r_X5_sizesIn g8) ?_
        refine Ev.iload_n (pc := 86) dX9_let_86 rfl rfl ?_
        by_cases c9 : x6 = v2
        · replace h := (if_pos c9).symm.trans h
          refine Ev.icmp_ne_f (pc := 87) dX9_let_87 ⟨114, rfl⟩ c9 ?_
          refine Ev.iload (pc := 90) dX9_let_90 rfl ?_
          by_cases c10 : v5 = 0
          · replace h := (if_pos c10).symm.trans h
            refine Ev.if_ne_f (pc := 92) dX9_let_92 ⟨100, rfl⟩ c10 ?_
            refine Ev.iload (pc := 95) dX9_let_95 rfl ?_
            refine Ev.goto (pc := 97) (tgt := 102) dX9_let_97 rfl ?_
            exact Ev.weak2 (lj_X9_let_102 N (l_X9_let_59 N n) ih _ _ _ _ _ _ _ _ _ _ h) (lsubS (lsubN (lsubS (lsubS (lsubS (lsubS (lsubN (lsubS (lsubS lsubE)))))))))
          · replace h := (if_neg c10).symm.trans h
            refine Ev.if_ne_t (pc := 92) (tgt := 100) dX9_let_92 rfl c10 ?_
            refine Ev.iload (pc := 100) dX9_let_100 rfl ?_
            exact Ev.weak2 (lj_X9_let_102 N (l_X9_let_59 N n) ih _ _ _ _ _ _ _ _ _ _ h) (lsubS (lsubN (lsubS (lsubS (lsubS (lsubS (lsubN (lsubS (lsubS lsubE)))))))))
        · replace h := (if_neg c9).symm.trans h
          refine Ev.icmp_ne_t (pc := 87) (tgt := 114) dX9_let_87 rfl c9 ?_
          exact Ev.weak2 (lj_X9_let_114 N (l_X9_let_59 N n) ih _ _ _ _ _ _ _ _ _ _ h) (lsubS (lsubN (lsubS (lsubS (lsubS (lsubS (lsubS (lsubS (lsubS lsubE)))))))))
      · replace h := (if_neg c5).symm.trans h
        refine Ev.if_ne_t (pc := 74) (tgt := 114) dX9_let_74 rfl c5 ?_
        exact Ev.weak2 (lj_X9_let_114 N (l_X9_let_59 N n) ih _ _ _ _ _ _ _ _ _ _ h) (lsubS (lsubN (lsubS (lsubS (lsubS (lsubS (lsubS (lsubS (lsubS lsubE)))))))))
theorem e_X9_let (N : Nat) (a1 : Int32) (a2 : Int32) (a3 : Int32) (σ : St) (v : Int32) (w : St) (h : o_X9_let N a1 a2 a3 σ = some (v, w)) : Ev md_X9_let 3 0 (lvE [vR 0, vI a1, vI a2, vI a3] 9) [] SH σ (some (vI v), SH, w) := by
  show Ev md_X9_let 3 0 [some (vR 0), some (vI a1), some (vI a2), some (vI a3), none, none, none, none, none] [] SH σ (some (vI v), SH, w)
  unfold o_X9_let at h
  refine Ev.aload_n (pc := 0) dX9_let_0 rfl rfl ?_
  refine Ev.getR (pc := 1) dX9_let_1 fl_X9_10 sh_0 rfl ?_
  refine Ev.iload_n (pc := 4) dX9_let_4 rfl rfl ?_
  refine Ev.cVi (pc := 5) (k := 1) (av := [vI a1]) (rest := []) dX9_let_5 ce_X5_hasKeeper ml_X9_150 rfl sh_1 cl_X5 sh_sc (Nat.le_of_ble_eq_true rfl) (Nat.le_of_ble_eq_true rfl) (r_X5_hasKeeper _ _) ?_
  by_cases c1 : (p_X5_hasKeeper a1 σ) = 0
  · replace h := (if_pos c1).symm.trans h
    refine Ev.if_ne_f (pc := 8) dX9_let_8 ⟨14, rfl⟩ c1 ?_
    refine Ev.ldc (pc := 11) dX9_let_11 kc_X9_145 ?_
    obtain ⟨h1, h2⟩ := oeq h
    subst h1
    subst h2
    exact Ev.ret_i (pc := 13) dX9_let_13 rfl rfl
  · replace h := (if_neg c1).symm.trans h
    refine Ev.if_ne_t (pc := 8) (tgt := 14) dX9_let_8 rfl c1 ?_
    refine Ev.iload_n (pc := 14) dX9_let_14 rfl rfl ?_
    by_cases c2 : a2 < 0
    · replace h := (if_pos c2).symm.trans h
      refine Ev.if_lt_t (pc := 15) (tgt := 33) dX9_let_15 rfl c2 ?_
      refine Ev.ldc (pc := 33) dX9_let_33 kc_X9_81 ?_
      obtain ⟨h1, h2⟩ := oeq h
      subst h1
      subst h2
      exact Ev.ret_i (pc := 35) dX9_let_35 rfl rfl
    · replace h := (if_neg c2).symm.trans h
      refine Ev.if_lt_f (pc := 15) dX9_let_15 ⟨33, rfl⟩ c2 ?_
      refine Ev.iload_n (pc := 18) dX9_let_18 rfl rfl ?_
      refine Ev.bipush (pc := 19) (v := 99) dX9_let_19 kb_99 ?_
      by_cases c3 : (99 : Int32) < a2
      · replace h := (if_pos c3).symm.trans h
        refine Ev.icmp_gt_t (pc := 21) (tgt := 33) dX9_let_21 rfl c3 ?_
        refine Ev.ldc (pc := 33) dX9_let_33 kc_X9_81 ?_
        obtain ⟨h1, h2⟩ := oeq h
        subst h1
        subst h2
        exact Ev.ret_i (pc := 35) dX9_let_35 rfl rfl
      · replace h := (if_neg c3).symm.trans h
        refine Ev.icmp_gt_f (pc := 21) dX9_let_21 ⟨33, rfl⟩ c3 ?_
        refine Ev.iload_n (pc := 24) dX9_let_24 rfl rfl ?_
        by_cases c4 : a3 < 0
        · replace h := (if_pos c4).symm.trans h
          refine Ev.if_lt_t (pc := 25) (tgt := 33) dX9_let_25 rfl c4 ?_
          refine Ev.ldc (pc := 33) dX9_let_33 kc_X9_81 ?_
          obtain ⟨h1, h2⟩ := oeq h
          subst h1
          subst h2
          exact Ev.ret_i (pc := 35) dX9_let_35 rfl rfl
        · replace h := (if_neg c4).symm.trans h
          refine Ev.if_lt_f (pc := 25) dX9_let_25 ⟨33, rfl⟩ c4 ?_
          refine Ev.iload_n (pc := 28) dX9_let_28 rfl rfl ?_
          refine Ev.iconst (pc := 29) (v := 2) dX9_let_29 ki_2 ?_
          by_cases c5 : a3 ≤ 2
          · replace h := (if_pos c5).symm.trans h
            refine Ev.icmp_le_t (pc := 30) (tgt := 36) dX9_let_30 rfl c5 ?_
            refine Ev.aload_n (pc := 36) dX9_let_36 rfl rfl ?_
            refine Ev.getR (pc := 37) dX9_let_37 fl_X9_31 sh_0 rfl ?_
            refine Ev.iload_n (pc := 40) dX9_let_40 rfl rfl ?_
            obtain ⟨x6, σ7, g8, h⟩ := bd_elim h
            refine Ev.cVi (pc := 41) (k := 23) (av := [vI a1]) (rest := []) dX9_let_41 ce_X1_heldBy ml_X9_167 rfl sh_23 cl_X1 sh_sc (Nat.le_of_ble_eq_true rfl) (Nat.le_of_ble_eq_true rfl) (r_X1_heldBy g8) ?_
            refine Ev.istore (pc := 44) (lv' := [some (vR 0), some (vI a1), some (vI a2), some (vI a3), some (vI x6), none, none, none, none]) dX9_let_44 (lt9 rfl) rfl rfl ?_
            refine Ev.iconst (pc := 46) (v := 0) dX9_let_46 ki_0 ?_
            refine Ev.istore (pc := 47) (lv' := [some (vR 0), some (vI a1), some (vI a2), some (vI a3), some (vI x6), some (vI 0), none, none, none]) dX9_let_47 (lt9 rfl) rfl rfl ?_
            refine Ev.iconst (pc := 49) (v := (-1)) dX9_let_49 ki_m1 ?_
            refine Ev.istore (pc := 50) (lv' := [some (vR 0), some (vI a1), some (vI a2), some (vI a3), some (vI x6), some (vI 0), some (vI (-1)), none, none]) dX9_let_50 (lt9 rfl) rfl rfl ?_
            refine Ev.iload (pc := 52) dX9_let_52 rfl ?_
            refine Ev.istore (pc := 54) (lv' := [some (vR 0), some (vI a1), some (vI a2), some (vI a3), some (vI x6), some (vI 0), some (vI (-1)), some (vI x6), none]) dX9_let_54 (lt9 rfl) rfl rfl ?_
            refine Ev.iconst (pc := 56) (v := 0) dX9_let_56 ki_0 ?_
            refine Ev.istore (pc := 57) (lv' := [some (vR 0), some (vI a1), some (vI a2), some (vI a3), some (vI x6), some (vI 0), some (vI (-1)), some (vI x6), some (vI 0)]) dX9_let_57 (lt9 rfl) rfl rfl ?_
            exact Ev.weak2 (ll_X9_let_59 N N _ _ _ _ _ _ _ _ _ _ h) (lsubS (lsubN (lsubS (lsubS (lsubS (lsubS (lsubS (lsubS (lsubS lsubE)))))))))
          · replace h := (if_neg c5).symm.trans h
            refine Ev.icmp_le_f (pc := 30) dX9_let_30 ⟨36, rfl⟩ c5 ?_
            refine Ev.ldc (pc := 33) dX9_let_33 kc_X9_81 ?_
            obtain ⟨h1, h2⟩ := oeq h
            subst h1
            subst h2
            exact Ev.ret_i (pc := 35) dX9_let_35 rfl rfl
theorem r_X9_let {N : Nat} {a1 : Int32} {a2 : Int32} {a3 : Int32} {σ : St} {v : Int32} {w : St} (h : o_X9_let N a1 a2 a3 σ = some (v, w)) : Rn md_X9_let 3 [vR 0, vI a1, vI a2, vI a3] SH σ (some (vI v), SH, w) := Rn.of ce_X9_let.1 (Nat.le_of_ble_eq_true rfl) (e_X9_let N _ _ _ _ _ _ h)
