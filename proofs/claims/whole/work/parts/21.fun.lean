def j_X10_takeClause_62 (N : Nat) (v1 : Int32) (v2 : Int32) (s0 : Int32) (σ : St) : Option (Unit × St) := bt (t_X10_want s0 1 v2 σ) fun q1 => if q1.1 = 0 then (some ((), q1.2)) else (if v1 = 116 then (bd (o_X10_takeTowns N v2 q1.2) fun u19 σ20 => some ((), σ20)) else (if v1 = 114 then (bd (o_X10_takeRoad N v2 q1.2) fun u16 σ17 => some ((), σ17)) else (if v1 = 107 then (bd (o_X10_takeKeeper N v2 q1.2) fun u13 σ14 => some ((), σ14)) else (if v1 = 112 then (bd (o_X10_takePromise N v2 q1.2) fun u10 σ11 => some ((), σ11)) else (bd (o_X10_takeWinter N v2 q1.2) fun u7 σ8 => some ((), σ8))))))
def j_X10_takeClause_57 (N : Nat) (v1 : Int32) (v2 : Int32) (σ : St) : Option (Unit × St) := j_X10_takeClause_62 N v1 v2 1 σ
def j_X10_takeClause_61 (N : Nat) (v1 : Int32) (v2 : Int32) (σ : St) : Option (Unit × St) := j_X10_takeClause_62 N v1 v2 0 σ
def o_X10_takeClause (N : Nat)  (σ : St) : Option (Unit × St) := bd (o_X10_here N  σ) fun x1 σ2 => bt (σ2 79 24) fun x4 => bt (st σ2 79 24 ((σ2 79 24) + 1)) fun σ5 => if x1 = 116 then (j_X10_takeClause_57 N x1 x4 σ5) else (if (σ5 79 6) ≤ 0 then (j_X10_takeClause_61 N x1 x4 σ5) else (if x1 = 114 then (j_X10_takeClause_57 N x1 x4 σ5) else (if x1 = 107 then (j_X10_takeClause_57 N x1 x4 σ5) else (if x1 = 112 then (j_X10_takeClause_57 N x1 x4 σ5) else (if x1 = 119 then (j_X10_takeClause_57 N x1 x4 σ5) else (j_X10_takeClause_61 N x1 x4 σ5))))))
theorem lj_X10_takeClause_62 (N : Nat) (v1 : Int32) (v2 : Int32) (s0 : Int32) (σ : St) (v : Unit) (w : St) (h : j_X10_takeClause_62 N v1 v2 s0 σ = some (v, w)) : Ev md_X10_takeClause 3 62 [some (vR 79), some (vI v1), some (vI v2), none] [vI s0] SH σ (none, SH, w) := by
  unfold j_X10_takeClause_62 at h
  refine Ev.istore_n (pc := 62) (lv' := [some (vR 79), some (vI v1), some (vI v2), some (vI s0)]) dX10_takeClause_62 rfl (lt9 rfl) rfl rfl ?_
  refine Ev.aload_n (pc := 63) dX10_takeClause_63 rfl rfl ?_
  refine Ev.iload_n (pc := 64) dX10_takeClause_64 rfl rfl ?_
  refine Ev.iconst (pc := 65) (v := 1) dX10_takeClause_65 ki_1 ?_
  refine Ev.iload_n (pc := 66) dX10_takeClause_66 rfl rfl ?_
  refine Ev.cVi (pc := 67) (k := 79) (av := [vI s0, vI 1, vI v2]) (rest := []) dX10_takeClause_67 ce_X10_want ml_X10_115 rfl sh_79 cl_X10 sh_sc (Nat.le_of_ble_eq_true rfl) (Nat.le_of_ble_eq_true rfl) (r_X10_want _ _ _ _) ?_
  refine Ev.nmQ (fun q1 e9 => ?_)
  replace h := bt_app h q1 e9
  by_cases c2 : q1.1 = 0
  · replace h := (if_pos c2).symm.trans h
    refine Ev.if_ne_f (pc := 70) dX10_takeClause_70 ⟨74, rfl⟩ c2 ?_
    obtain ⟨h1, h2⟩ := oeq h
    subst h1
    subst h2
    exact Ev.ret_v (pc := 73) dX10_takeClause_73 rfl
  · replace h := (if_neg c2).symm.trans h
    refine Ev.if_ne_t (pc := 70) (tgt := 74) dX10_takeClause_70 rfl c2 ?_
    refine Ev.iload_n (pc := 74) dX10_takeClause_74 rfl rfl ?_
    refine Ev.bipush (pc := 75) (v := 116) dX10_takeClause_75 kb_116 ?_
    by_cases c3 : v1 = 116
    · replace h := (if_pos c3).symm.trans h
      refine Ev.icmp_ne_f (pc := 77) dX10_takeClause_77 ⟨88, rfl⟩ c3 ?_
      refine Ev.aload_n (pc := 80) dX10_takeClause_80 rfl rfl ?_
      refine Ev.iload_n (pc := 81) dX10_takeClause_81 rfl rfl ?_
      obtain ⟨u19, σ20, g21, h⟩ := bd_elim h
      refine Ev.cVv (pc := 82) (k := 79) (av := [vI v2]) (rest := []) dX10_takeClause_82 ce_X10_takeTowns ml_X10_140 rfl sh_79 cl_X10 sh_sc (Nat.le_of_ble_eq_true rfl) (Nat.le_of_ble_eq_true rfl) (r_X10_takeTowns g21) ?_
      refine Ev.goto (pc := 85) (tgt := 135) dX10_takeClause_85 rfl ?_
      obtain ⟨h1, h2⟩ := oeq h
      subst h1
      subst h2
      exact Ev.ret_v (pc := 135) dX10_takeClause_135 rfl
    · replace h := (if_neg c3).symm.trans h
      refine Ev.icmp_ne_t (pc := 77) (tgt := 88) dX10_takeClause_77 rfl c3 ?_
      refine Ev.iload_n (pc := 88) dX10_takeClause_88 rfl rfl ?_
      refine Ev.bipush (pc := 89) (v := 114) dX10_takeClause_89 kb_114 ?_
      by_cases c4 : v1 = 114
      · replace h := (if_pos c4).symm.trans h
        refine Ev.icmp_ne_f (pc := 91) dX10_takeClause_91 ⟨102, rfl⟩ c4 ?_
        refine Ev.aload_n (pc := 94) dX10_takeClause_94 rfl rfl ?_
        refine Ev.iload_n (pc := 95) dX10_takeClause_95 rfl rfl ?_
        obtain ⟨u16, σ17, g18, h⟩ := bd_elim h
        refine Ev.cVv (pc := 96) (k := 79) (av := [vI v2]) (rest := []) dX10_takeClause_96 ce_X10_takeRoad ml_X10_144 rfl sh_79 cl_X10 sh_sc (Nat.le_of_ble_eq_true rfl) (Nat.le_of_ble_eq_true rfl) (r_X10_takeRoad g18) ?_
        refine Ev.goto (pc := 99) (tgt := 135) dX10_takeClause_99 rfl ?_
        obtain ⟨h1, h2⟩ := oeq h
        subst h1
        subst h2
        exact Ev.ret_v (pc := 135) dX10_takeClause_135 rfl
      · replace h := (if_neg c4).symm.trans h
        refine Ev.icmp_ne_t (pc := 91) (tgt := 102) dX10_takeClause_91 rfl c4 ?_
        refine Ev.iload_n (pc := 102) dX10_takeClause_102 rfl rfl ?_
        refine Ev.bipush (pc := 103) (v := 107) dX10_takeClause_103 kb_107 ?_
        by_cases c5 : v1 = 107
        · replace h := (if_pos c5).symm.trans h
          refine Ev.icmp_ne_f (pc := 105) dX10_takeClause_105 ⟨116, rfl⟩ c5 ?_
          refine Ev.aload_n (pc := 108) dX10_takeClause_108 rfl rfl ?_
          refine Ev.iload_n (pc := 109) dX10_takeClause_109 rfl rfl ?_
          obtain ⟨u13, σ14, g15, h⟩ := bd_elim h
          refine Ev.cVv (pc := 110) (k := 79) (av := [vI v2]) (rest := []) dX10_takeClause_110 ce_X10_takeKeeper ml_X10_147 rfl sh_79 cl_X10 sh_sc (Nat.le_of_ble_eq_true rfl) (Nat.le_of_ble_eq_true rfl) (r_X10_takeKeeper g15) ?_
          refine Ev.goto (pc := 113) (tgt := 135) dX10_takeClause_113 rfl ?_
          obtain ⟨h1, h2⟩ := oeq h
          subst h1
          subst h2
          exact Ev.ret_v (pc := 135) dX10_takeClause_135 rfl
        · replace h := (if_neg c5).symm.trans h
          refine Ev.icmp_ne_t (pc := 105) (tgt := 116) dX10_takeClause_105 rfl c5 ?_
          refine Ev.iload_n (pc := 116) dX10_takeClause_116 rfl rfl ?_
          refine Ev.bipush (pc := 117) (v := 112) dX10_takeClause_117 kb_112 ?_
          by_cases c6 : v1 = 112
          · replace h := (if_pos c6).symm.trans h
            refine Ev.icmp_ne_f (pc := 119) dX10_takeClause_119 ⟨130, rfl⟩ c6 ?_
            refine Ev.aload_n (pc := 122) dX10_takeClause_122 rfl rfl ?_
            refine Ev.iload_n (pc := 123) dX10_takeClause_123 rfl rfl ?_
            obtain ⟨u10, σ11, g12, h⟩ := bd_elim h
            refine Ev.cVv (pc := 124) (k := 79) (av := [vI v2]) (rest := []) dX10_takeClause_124 ce_X10_takePromise ml_X10_150 rfl sh_79 cl_X10 sh_sc (Nat.le_of_ble_eq_true rfl) (Nat.le_of_ble_eq_true rfl) (r_X10_takePromise g12) ?_
            refine Ev.goto (pc := 127) (tgt := 135) dX10_takeClause_127 rfl ?_
            obtain ⟨h1, h2⟩ := oeq h
            subst h1
            subst h2
            exact Ev.ret_v (pc := 135) dX10_takeClause_135 rfl
          · replace h := (if_neg c6).symm.trans h
            refine Ev.icmp_ne_t (pc := 119) (tgt := 130) dX10_takeClause_119 rfl c6 ?_
            refine Ev.aload_n (pc := 130) dX10_takeClause_130 rfl rfl ?_
            refine Ev.iload_n (pc := 131) dX10_takeClause_131 rfl rfl ?_
            obtain ⟨u7, σ8, g9, h⟩ := bd_elim h
            refine Ev.cVv (pc := 132) (k := 79) (av := [vI v2]) (rest := []) dX10_takeClause_132 ce_X10_takeWinter ml_X10_153 rfl sh_79 cl_X10 sh_sc (Nat.le_of_ble_eq_true rfl) (Nat.le_of_ble_eq_true rfl) (r_X10_takeWinter g9) ?_
            obtain ⟨h1, h2⟩ := oeq h
            subst h1
            subst h2
            exact Ev.ret_v (pc := 135) dX10_takeClause_135 rfl
theorem lj_X10_takeClause_57 (N : Nat) (v1 : Int32) (v2 : Int32) (σ : St) (v : Unit) (w : St) (h : j_X10_takeClause_57 N v1 v2 σ = some (v, w)) : Ev md_X10_takeClause 3 57 [some (vR 79), some (vI v1), some (vI v2), none] [] SH σ (none, SH, w) := by
  unfold j_X10_takeClause_57 at h
  refine Ev.iconst (pc := 57) (v := 1) dX10_takeClause_57 ki_1 ?_
  refine Ev.goto (pc := 58) (tgt := 62) dX10_takeClause_58 rfl ?_
  exact Ev.weak2 (lj_X10_takeClause_62 N _ _ _ _ _ _ h) (lsubS (lsubS (lsubS (lsubN lsubE))))
theorem lj_X10_takeClause_61 (N : Nat) (v1 : Int32) (v2 : Int32) (σ : St) (v : Unit) (w : St) (h : j_X10_takeClause_61 N v1 v2 σ = some (v, w)) : Ev md_X10_takeClause 3 61 [some (vR 79), some (vI v1), some (vI v2), none] [] SH σ (none, SH, w) := by
  unfold j_X10_takeClause_61 at h
  refine Ev.iconst (pc := 61) (v := 0) dX10_takeClause_61 ki_0 ?_
  exact Ev.weak2 (lj_X10_takeClause_62 N _ _ _ _ _ _ h) (lsubS (lsubS (lsubS (lsubN lsubE))))
theorem e_X10_takeClause (N : Nat)  (σ : St) (v : Unit) (w : St) (h : o_X10_takeClause N  σ = some (v, w)) : Ev md_X10_takeClause 3 0 (lvE [vR 79] 4) [] SH σ (none, SH, w) := by
  show Ev md_X10_takeClause 3 0 [some (vR 79), none, none, none] [] SH σ (none, SH, w)
  unfold o_X10_takeClause at h
  refine Ev.aload_n (pc := 0) dX10_takeClause_0 rfl rfl ?_
  obtain ⟨x1, σ2, g3, h⟩ := bd_elim h
  refine Ev.cVi (pc := 1) (k := 79) (av := []) (rest := []) dX10_takeClause_1 ce_X10_here ml_X10_104 rfl sh_79 cl_X10 sh_sc (Nat.le_of_ble_eq_true rfl) (Nat.le_of_ble_eq_true rfl) (r_X10_here g3) ?_
  refine Ev.istore_n (pc := 4) (lv' := [some (vR 79), some (vI x1), none, none]) dX10_takeClause_4 rfl (lt9 rfl) rfl rfl ?_
  refine Ev.aload_n (pc := 5) dX10_takeClause_5 rfl rfl ?_
  refine Ev.getI (pc := 6) dX10_takeClause_6 fl_X10_98 sh_79 rfl ?_
  refine Ev.nmI (fun x4 e9 => ?_)
  replace h := bt_app h x4 e9
  refine Ev.istore_n (pc := 9) (lv' := [some (vR 79), some (vI x1), some (vI x4), none]) dX10_takeClause_9 rfl (lt9 rfl) rfl rfl ?_
  refine Ev.aload_n (pc := 10) dX10_takeClause_10 rfl rfl ?_
  refine Ev.dup (pc := 11) dX10_takeClause_11 rfl ?_
  refine Ev.getI (pc := 12) dX10_takeClause_12 fl_X10_98 sh_79 rfl ?_
  refine Ev.iconst (pc := 15) (v := 1) dX10_takeClause_15 ki_1 ?_
  refine Ev.iadd (pc := 16) dX10_takeClause_16 ?_
  refine Ev.putI (pc := 17) dX10_takeClause_17 pl_X10_98 sh_79 rfl rfl rfl ?_
  refine Ev.nmS (fun σ5 e9 => ?_)
  replace h := bt_app h σ5 e9
  refine Ev.iload_n (pc := 20) dX10_takeClause_20 rfl rfl ?_
  refine Ev.bipush (pc := 21) (v := 116) dX10_takeClause_21 kb_116 ?_
  by_cases c6 : x1 = 116
  · replace h := (if_pos c6).symm.trans h
    refine Ev.icmp_eq_t (pc := 23) (tgt := 57) dX10_takeClause_23 rfl c6 ?_
    exact Ev.weak2 (lj_X10_takeClause_57 N _ _ _ _ _ h) (lsubS (lsubS (lsubS (lsubN lsubE))))
  · replace h := (if_neg c6).symm.trans h
    refine Ev.icmp_eq_f (pc := 23) dX10_takeClause_23 ⟨57, rfl⟩ c6 ?_
    refine Ev.aload_n (pc := 26) dX10_takeClause_26 rfl rfl ?_
    refine Ev.getI (pc := 27) dX10_takeClause_27 fl_X10_120 sh_79 rfl ?_
    by_cases c7 : (σ5 79 6) ≤ 0
    · replace h := (if_pos c7).symm.trans h
      refine Ev.if_le_t (pc := 30) (tgt := 61) dX10_takeClause_30 rfl c7 ?_
      exact Ev.weak2 (lj_X10_takeClause_61 N _ _ _ _ _ h) (lsubS (lsubS (lsubS (lsubN lsubE))))
    · replace h := (if_neg c7).symm.trans h
      refine Ev.if_le_f (pc := 30) dX10_takeClause_30 ⟨61, rfl⟩ c7 ?_
      refine Ev.iload_n (pc := 33) dX10_takeClause_33 rfl rfl ?_
      refine Ev.bipush (pc := 34) (v := 114) dX10_takeClause_34 kb_114 ?_
      by_cases c8 : x1 = 114
      · replace h := (if_pos c8).symm.trans h
        refine Ev.icmp_eq_t (pc := 36) (tgt := 57) dX10_takeClause_36 rfl c8 ?_
        exact Ev.weak2 (lj_X10_takeClause_57 N _ _ _ _ _ h) (lsubS (lsubS (lsubS (lsubN lsubE))))
      · replace h := (if_neg c8).symm.trans h
        refine Ev.icmp_eq_f (pc := 36) dX10_takeClause_36 ⟨57, rfl⟩ c8 ?_
        refine Ev.iload_n (pc := 39) dX10_takeClause_39 rfl rfl ?_
        refine Ev.bipush (pc := 40) (v := 107) dX10_takeClause_40 kb_107 ?_
        by_cases c9 : x1 = 107
        · replace h := (if_pos c9).symm.trans h
          refine Ev.icmp_eq_t (pc := 42) (tgt := 57) dX10_takeClause_42 rfl c9 ?_
          exact Ev.weak2 (lj_X10_takeClause_57 N _ _ _ _ _ h) (lsubS (lsubS (lsubS (lsubN lsubE))))
        · replace h := (if_neg c9).symm.trans h
          refine Ev.icmp_eq_f (pc := 42) dX10_takeClause_42 ⟨57, rfl⟩ c9 ?_
          refine Ev.iload_n (pc := 45) dX10_takeClause_45 rfl rfl ?_
          refine Ev.bipush (pc := 46) (v := 112) dX10_takeClause_46 kb_112 ?_
          by_cases c10 : x1 = 112
          · replace h := (if_pos c10).symm.trans h
            refine Ev.icmp_eq_t (pc := 48) (tgt := 57) dX10_takeClause_48 rfl c10 ?_
            exact Ev.weak2 (lj_X10_takeClause_57 N _ _ _ _ _ h) (lsubS (lsubS (lsubS (lsubN lsubE))))
          · replace h := (if_neg c10).symm.trans h
            refine Ev.icmp_eq_f (pc := 48) dX10_takeClause_48 ⟨57, rfl⟩ c10 ?_
            refine Ev.iload_n (pc := 51) dX10_takeClause_51 rfl rfl ?_
            refine Ev.bipush (pc := 52) (v := 119) dX10_takeClause_52 kb_119 ?_
            by_cases c11 : x1 = 119
            · replace h := (if_pos c11).symm.trans h
              refine Ev.icmp_ne_f (pc := 54) dX10_takeClause_54 ⟨61, rfl⟩ c11 ?_
              exact Ev.weak2 (lj_X10_takeClause_57 N _ _ _ _ _ h) (lsubS (lsubS (lsubS (lsubN lsubE))))
            · replace h := (if_neg c11).symm.trans h
              refine Ev.icmp_ne_t (pc := 54) (tgt := 61) dX10_takeClause_54 rfl c11 ?_
              exact Ev.weak2 (lj_X10_takeClause_61 N _ _ _ _ _ h) (lsubS (lsubS (lsubS (lsubN lsubE))))
theorem r_X10_takeClause {N : Nat}  {σ : St} {v : Unit} {w : St} (h : o_X10_takeClause N  σ = some (v, w)) : Rn md_X10_takeClause 3 [vR 79] SH σ (none, SH, w) := Rn.of ce_X10_takeClause.1 (Nat.le_of_ble_eq_true rfl) (e_X10_takeClause N  _ _ _ h)
def j_X10_findFar_32 (N : Nat) (K_2 : Int32 → St → Option (Unit × St)) (v1 : Int32) (s1 : Int32) (s2 : Int32) (σ : St) : Option (Unit × St) := ckA s1 25 (bt (st σ 83 s1.toNatClampNeg s2) fun σ2 => bt (v1 + 1) fun x3 => K_2 x3 σ2)
def j_X10_findFar_105 (N : Nat) (K_41 : Int32 → St → Option (Unit × St)) (K_48 : Int32 → Int32 → St → Option (Unit × St)) (v1 : Int32) (v2 : Int32) (s1 : Int32) (s2 : Int32) (σ : St) : Option (Unit × St) := ckA s1 25 (bt (st σ 83 s1.toNatClampNeg s2) fun σ2 => bt (v2 + 1) fun x3 => K_48 v1 x3 σ2)
def l_X10_findFar_48 (N : Nat) (K_41 : Int32 → St → Option (Unit × St)) : Nat → Int32 → Int32 → St → Option (Unit × St)
  | 0, _, _, _ => none
  | n + 1, v1, v2, σ => if (25 : Int32) ≤ v2 then (bt (v1 + 1) fun x2 => K_41 x2 σ) else (ckA ((5 * (v2 / 5)) + v1) 25 (ckA ((5 * v1) + (v2 - v2 / 5 * 5)) 25 (bt ((σ 83 ((5 * (v2 / 5)) + v1).toNatClampNeg) + (σ 83 ((5 * v1) + (v2 - v2 / 5 * 5)).toNatClampNeg)) fun x5 => ckA v2 25 (if (σ 83 v2.toNatClampNeg) ≤ x5 then (ckA v2 25 (j_X10_findFar_105 N K_41 (l_X10_findFar_48 N K_41 n) v1 v2 v2 (σ 83 v2.toNatClampNeg) σ)) else (j_X10_findFar_105 N K_41 (l_X10_findFar_48 N K_41 n) v1 v2 v2 x5 σ)))))
def l_X10_findFar_41 (N : Nat) : Nat → Int32 → St → Option (Unit × St)
  | 0, _, _ => none
  | n + 1, v1, σ => if (5 : Int32) ≤ v1 then (some ((), σ)) else (l_X10_findFar_48 N (l_X10_findFar_41 N n) N v1 0 σ)
def l_X10_findFar_2 (N : Nat) : Nat → Int32 → St → Option (Unit × St)
  | 0, _, _ => none
  | n + 1, v1, σ => if (25 : Int32) ≤ v1 then (l_X10_findFar_41 N N 0 σ) else (if (v1 / 5) = (v1 - v1 / 5 * 5) then (j_X10_findFar_32 N (l_X10_findFar_2 N n) v1 v1 0 σ) else (ckA v1 50 (j_X10_findFar_32 N (l_X10_findFar_2 N n) v1 v1 (σ 82 v1.toNatClampNeg) σ)))
def o_X10_findFar (N : Nat)  (σ : St) : Option (Unit × St) := l_X10_findFar_2 N N 0 σ
theorem lj_X10_findFar_32 (N : Nat) (K_2 : Int32 → St → Option (Unit × St)) (hK_2 : ∀ (v1 : Int32) (σ : St) (v : Unit) (w : St), K_2 v1 σ = some (v, w) → Ev md_X10_findFar 0 2 [some (vR 79), some (vI v1), none, none] [] SH σ (none, SH, w)) (v1 : Int32) (s1 : Int32) (s2 : Int32) (σ : St) (v : Unit) (w : St) (h : j_X10_findFar_32 N K_2 v1 s1 s2 σ = some (v, w)) : Ev md_X10_findFar 0 32 [some (vR 79), some (vI v1), none, none] [vI s2, vI s1, vR 83] SH σ (none, SH, w) := by
  unfold j_X10_findFar_32 at h
  obtain ⟨c1, h⟩ := ckA_elim h
  refine Ev.iast (pc := 32) dX10_findFar_32 sh_83 c1 ?_
  refine Ev.nmS (fun σ2 e9 => ?_)
  replace h := bt_app h σ2 e9
  obtain ⟨x3, e_x3, h⟩ := bt_elim h
  refine Ev.iinc (pc := 33) (v := x3) (lv' := [some (vR 79), some (vI x3), none, none]) dX10_findFar_33 rfl (by rw [ki_1, e_x3]) (lt9 rfl) rfl rfl ?_
  refine Ev.goto (pc := 36) (tgt := 2) dX10_findFar_36 rfl ?_
  exact Ev.weak2 (hK_2 _ _ _ _ h) (lsubS (lsubS (lsubN (lsubN lsubE))))
theorem lj_X10_findFar_105 (N : Nat) (K_41 : Int32 → St → Option (Unit × St)) (K_48 : Int32 → Int32 → St → Option (Unit × St)) (hK_41 : ∀ (v1 : Int32) (σ : St) (v : Unit) (w : St), K_41 v1 σ = some (v, w) → Ev md_X10_findFar 0 41 [some (vR 79), some (vI v1), none, none] [] SH σ (none, SH, w)) (hK_48 : ∀ (v1 : Int32) (v2 : Int32) (σ : St) (v : Unit) (w : St), K_48 v1 v2 σ = some (v, w) → Ev md_X10_findFar 0 48 [some (vR 79), some (vI v1), some (vI v2), none] [] SH σ (none, SH, w)) (v1 : Int32) (v2 : Int32) (s1 : Int32) (s2 : Int32) (σ : St) (v : Unit) (w : St) (h : j_X10_findFar_105 N K_41 K_48 v1 v2 s1 s2 σ = some (v, w)) : Ev md_X10_findFar 0 105 [some (vR 79), some (vI v1), some (vI v2), none] [vI s2, vI s1, vR 83] SH σ (none, SH, w) := by
  unfold j_X10_findFar_105 at h
  obtain ⟨c1, h⟩ := ckA_elim h
  refine Ev.iast (pc := 105) dX10_findFar_105 sh_83 c1 ?_
  refine Ev.nmS (fun σ2 e9 => ?_)
  replace h := bt_app h σ2 e9
  obtain ⟨x3, e_x3, h⟩ := bt_elim h
  refine Ev.iinc (pc := 106) (v := x3) (lv' := [some (vR 79), some (vI v1), some (vI x3), none]) dX10_findFar_106 rfl (by rw [ki_1, e_x3]) (lt9 rfl) rfl rfl ?_
  refine Ev.goto (pc := 109) (tgt := 48) dX10_findFar_109 rfl ?_
  exact Ev.weak2 (hK_48 _ _ _ _ _ h) (lsubS (lsubS (lsubS (lsubN lsubE))))
theorem ll_X10_findFar_48 (N : Nat) (K_41 : Int32 → St → Option (Unit × St)) (hK_41 : ∀ (v1 : Int32) (σ : St) (v : Unit) (w : St), K_41 v1 σ = some (v, w) → Ev md_X10_findFar 0 41 [some (vR 79), some (vI v1), none, none] [] SH σ (none, SH, w)) : ∀ (n : Nat) (v1 : Int32) (v2 : Int32) (σ : St) (v : Unit) (w : St), l_X10_findFar_48 N K_41 n v1 v2 σ = some (v, w) → Ev md_X10_findFar 0 48 [some (vR 79), some (vI v1), some (vI v2), none] [] SH σ (none, SH, w) := by
  intro n
  induction n with
  | zero =>
    intro v1 v2 σ v w h
    rw [l_X10_findFar_48] at h
    cases h
  | succ n ih =>
    intro v1 v2 σ v w h
    rw [l_X10_findFar_48] at h
    refine Ev.iload_n (pc := 48) dX10_findFar_48 rfl rfl ?_
    refine Ev.bipush (pc := 49) (v := 25) dX10_findFar_49 kb_25 ?_
    by_cases c1 : (25 : Int32) ≤ v2
    · replace h := (if_pos c1).symm.trans h
      refine Ev.icmp_ge_t (pc := 51) (tgt := 112) dX10_findFar_51 rfl c1 ?_
      obtain ⟨x2, e_x2, h⟩ := bt_elim h
      refine Ev.iinc (pc := 112) (v := x2) (lv' := [some (vR 79), some (vI x2), some (vI v2), none]) dX10_findFar_112 rfl (by rw [ki_1, e_x2]) (lt9 rfl) rfl rfl ?_
      refine Ev.goto (pc := 115) (tgt := 41) dX10_findFar_115 rfl ?_
      exact Ev.weak2 (hK_41 _ _ _ _ h) (lsubS (lsubS (lsubN (lsubN lsubE))))
    · replace h := (if_neg c1).symm.trans h
      refine Ev.icmp_ge_f (pc := 51) dX10_findFar_51 ⟨112, rfl⟩ c1 ?_
      refine Ev.aload_n (pc := 54) dX10_findFar_54 rfl rfl ?_
      refine Ev.getR (pc := 55) dX10_findFar_55 fl_X10_20 sh_79 rfl ?_
      refine Ev.iconst (pc := 58) (v := 5) dX10_findFar_58 ki_5 ?_
      refine Ev.iload_n (pc := 59) dX10_findFar_59 rfl rfl ?_
      refine Ev.iconst (pc := 60) (v := 5) dX10_findFar_60 ki_5 ?_
      refine Ev.idiv (pc := 61) dX10_findFar_61 (by decide) ?_
      refine Ev.imul (pc := 62) dX10_findFar_62 ?_
      refine Ev.iload_n (pc := 63) dX10_findFar_63 rfl rfl ?_
      refine Ev.iadd (pc := 64) dX10_findFar_64 ?_
      obtain ⟨c3, h⟩ := ckA_elim h
      refine Ev.iald (pc := 65) dX10_findFar_65 sh_83 c3 ?_
      refine Ev.aload_n (pc := 66) dX10_findFar_66 rfl rfl ?_
      refine Ev.getR (pc := 67) dX10_findFar_67 fl_X10_20 sh_79 rfl ?_
      refine Ev.iconst (pc := 70) (v := 5) dX10_findFar_70 ki_5 ?_
      refine Ev.iload_n (pc := 71) dX10_findFar_71 rfl rfl ?_
      refine Ev.imul (pc := 72) dX10_findFar_72 ?_
      refine Ev.iload_n (pc := 73) dX10_findFar_73 rfl rfl ?_
      refine Ev.iconst (pc := 74) (v := 5) dX10_findFar_74 ki_5 ?_
      refine Ev.irem (pc := 75) dX10_findFar_75 (by decide) ?_
      refine Ev.iadd (pc := 76) dX10_findFar_76 ?_
      obtain ⟨c4, h⟩ := ckA_elim h
      refine Ev.iald (pc := 77) dX10_findFar_77 sh_83 c4 ?_
      refine Ev.iadd (pc := 78) dX10_findFar_78 ?_
      refine Ev.nmI (fun x5 e9 => ?_)
      replace h := bt_app h x5 e9
      refine Ev.istore_n (pc := 79) (lv' := [some (vR 79), some (vI v1), some (vI v2), some (vI x5)]) dX10_findFar_79 rfl (lt9 rfl) rfl rfl ?_
      refine Ev.aload_n (pc := 80) dX10_findFar_80 rfl rfl ?_
      refine Ev.getR (pc := 81) dX10_findFar_81 fl_X10_20 sh_79 rfl ?_
      refine Ev.iload_n (pc := 84) dX10_findFar_84 rfl rfl ?_
      refine Ev.iload_n (pc := 85) dX10_findFar_85 rfl rfl ?_
      refine Ev.aload_n (pc := 86) dX10_findFar_86 rfl rfl ?_
      refine Ev.getR (pc := 87) dX10_findFar_87 fl_X10_20 sh_79 rfl ?_
      refine Ev.iload_n (pc := 90) dX10_findFar_90 rfl rfl ?_
      obtain ⟨c6, h⟩ := ckA_elim h
      refine Ev.iald (pc := 91) dX10_findFar_91 sh_83 c6 ?_
      by_cases c7 : (σ 83 v2.toNatClampNeg) ≤ x5
      · replace h := (if_pos c7).symm.trans h
        refine Ev.icmp_ge_t (pc := 92) (tgt := 99) dX10_findFar_92 rfl c7 ?_
        refine Ev.aload_n (pc := 99) dX10_findFar_99 rfl rfl ?_
        refine Ev.getR (pc := 100) dX10_findFar_100 fl_X10_20 sh_79 rfl ?_
        refine Ev.iload_n (pc := 103) dX10_findFar_103 rfl rfl ?_
        obtain ⟨c8, h⟩ := ckA_elim h
        refine Ev.iald (pc := 104) dX10_findFar_104 sh_83 c8 ?_
        exact Ev.weak2 (lj_X10_findFar_105 N K_41 (l_X10_findFar_48 N K_41 n) hK_41 ih _ _ _ _ _ _ _ h) (lsubS (lsubS (lsubS (lsubN lsubE))))
      · replace h := (if_neg c7).symm.trans h
        refine Ev.icmp_ge_f (pc := 92) dX10_findFar_92 ⟨99, rfl⟩ c7 ?_
        refine Ev.iload_n (pc := 95) dX10_findFar_95 rfl rfl ?_
        refine Ev.goto (pc := 96) (tgt := 105) dX10_findFar_96 rfl ?_
        exact Ev.weak2 (lj_X10_findFar_105 N K_41 (l_X10_findFar_48 N K_41 n) hK_41 ih _ _ _ _ _ _ _ h) (lsubS (lsubS (lsubS (lsubN lsubE))))
theorem ll_X10_findFar_41 (N : Nat) : ∀ (n : Nat) (v1 : Int32) (σ : St) (v : Unit) (w : St), l_X10_findFar_41 N n v1 σ = some (v, w) → Ev md_X10_findFar 0 41 [some (vR 79), some (vI v1), none, none] [] SH σ (none, SH, w) := by
  intro n
  induction n with
  | zero =>
    intro v1 σ v w h
    rw [l_X10_findFar_41] at h
    cases h
  | succ n ih =>
    intro v1 σ v w h
    rw [l_X10_findFar_41] at h
    refine Ev.iload_n (pc := 41) dX10_findFar_41 rfl rfl ?_
    refine Ev.iconst (pc := 42) (v := 5) dX10_findFar_42 ki_5 ?_
    by_cases c1 : (5 : Int32) ≤ v1
    · replace h := (if_pos c1).symm.trans h
      refine Ev.icmp_ge_t (pc := 43) (tgt := 118) dX10_findFar_43 rfl c1 ?_
      obtain ⟨h1, h2⟩ := oeq h
      subst h1
      subst h2
      exact Ev.ret_v (pc := 118) dX10_findFar_118 rfl
    · replace h := (if_neg c1).symm.trans h
      refine Ev.icmp_ge_f (pc := 43) dX10_findFar_43 ⟨118, rfl⟩ c1 ?_
      refine Ev.iconst (pc := 46) (v := 0) dX10_findFar_46 ki_0 ?_
      refine Ev.istore_n (pc := 47) (lv' := [some (vR 79), some (vI v1), some (vI 0), none]) dX10_findFar_47 rfl (lt9 rfl) rfl rfl ?_
      exact Ev.weak2 (ll_X10_findFar_48 N (l_X10_findFar_41 N n) ih N _ _ _ _ _ h) (lsubS (lsubS (lsubS (lsubN lsubE))))
theorem ll_X10_findFar_2 (N : Nat) : ∀ (n : Nat) (v1 : Int32) (σ : St) (v : Unit) (w : St), l_X10_findFar_2 N n v1 σ = some (v, w) → Ev md_X10_findFar 0 2 [some (vR 79), some (vI v1), none, none] [] SH σ (none, SH, w) := by
  intro n
  induction n with
  | zero =>
    intro v1 σ v w h
    rw [l_X10_findFar_2] at h
    cases h
  | succ n ih =>
    intro v1 σ v w h
    rw [l_X10_findFar_2] at h
    refine Ev.iload_n (pc := 2) dX10_findFar_2 rfl rfl ?_
    refine Ev.bipush (pc := 3) (v := 25) dX10_findFar_3 kb_25 ?_
    by_cases c1 : (25 : Int32) ≤ v1
    · replace h := (if_pos c1).symm.trans h
      refine Ev.icmp_ge_t (pc := 5) (tgt := 39) dX10_findFar_5 rfl c1 ?_
      refine Ev.iconst (pc := 39) (v := 0) dX10_findFar_39 ki_0 ?_
      refine Ev.istore_n (pc := 40) (lv' := [some (vR 79), some (vI 0), none, none]) dX10_findFar_40 rfl (lt9 rfl) rfl rfl ?_
      exact Ev.weak2 (ll_X10_findFar_41 N N _ _ _ _ h) (lsubS (lsubS (lsubN (lsubN lsubE))))
    · replace h := (if_neg c1).symm.trans h
      refine Ev.icmp_ge_f (pc := 5) dX10_findFar_5 ⟨39, rfl⟩ c1 ?_
      refine Ev.aload_n (pc := 8) dX10_findFar_8 rfl rfl ?_
      refine Ev.getR (pc := 9) dX10_findFar_9 fl_X10_20 sh_79 rfl ?_
      refine Ev.iload_n (pc := 12) dX10_findFar_12 rfl rfl ?_
      refine Ev.iload_n (pc := 13) dX10_findFar_13 rfl rfl ?_
      refine Ev.iconst (pc := 14) (v := 5) dX10_findFar_14 ki_5 ?_
      refine Ev.idiv (pc := 15) dX10_findFar_15 (by decide) ?_
      refine Ev.iload_n (pc := 16) dX10_findFar_16 rfl rfl ?_
      refine Ev.iconst (pc := 17) (v := 5) dX10_findFar_17 ki_5 ?_
      refine Ev.irem (pc := 18) dX10_findFar_18 (by decide) ?_
      by_cases c2 : (v1 / 5) = (v1 - v1 / 5 * 5)
      · replace h := (if_pos c2).symm.trans h
        refine Ev.icmp_ne_f (pc := 19) dX10_findFar_19 ⟨26, rfl⟩ c2 ?_
        refine Ev.iconst (pc := 22) (v := 0) dX10_findFar_22 ki_0 ?_
        refine Ev.goto (pc := 23) (tgt := 32) dX10_findFar_23 rfl ?_
        exact Ev.weak2 (lj_X10_findFar_32 N (l_X10_findFar_2 N n) ih _ _ _ _ _ _ h) (lsubS (lsubS (lsubN (lsubN lsubE))))
      · replace h := (if_neg c2).symm.trans h
        refine Ev.icmp_ne_t (pc := 19) (tgt := 26) dX10_findFar_19 rfl c2 ?_
        refine Ev.aload_n (pc := 26) dX10_findFar_26 rfl rfl ?_
        refine Ev.getR (pc := 27) dX10_findFar_27 fl_X10_17 sh_79 rfl ?_
        refine Ev.iload_n (pc := 30) dX10_findFar_30 rfl rfl ?_
        obtain ⟨c3, h⟩ := ckA_elim h
        refine Ev.iald (pc := 31) dX10_findFar_31 sh_82 c3 ?_
        exact Ev.weak2 (lj_X10_findFar_32 N (l_X10_findFar_2 N n) ih _ _ _ _ _ _ h) (lsubS (lsubS (lsubN (lsubN lsubE))))
theorem e_X10_findFar (N : Nat)  (σ : St) (v : Unit) (w : St) (h : o_X10_findFar N  σ = some (v, w)) : Ev md_X10_findFar 0 0 (lvE [vR 79] 4) [] SH σ (none, SH, w) := by
  show Ev md_X10_findFar 0 0 [some (vR 79), none, none, none] [] SH σ (none, SH, w)
  unfold o_X10_findFar at h
  refine Ev.iconst (pc := 0) (v := 0) dX10_findFar_0 ki_0 ?_
  refine Ev.istore_n (pc := 1) (lv' := [some (vR 79), some (vI 0), none, none]) dX10_findFar_1 rfl (lt9 rfl) rfl rfl ?_
  exact Ev.weak2 (ll_X10_findFar_2 N N _ _ _ _ h) (lsubS (lsubS (lsubN (lsubN lsubE))))
theorem r_X10_findFar {N : Nat}  {σ : St} {v : Unit} {w : St} (h : o_X10_findFar N  σ = some (v, w)) : Rn md_X10_findFar 0 [vR 79] SH σ (none, SH, w) := Rn.of ce_X10_findFar.1 (Nat.le_of_ble_eq_true rfl) (e_X10_findFar N  _ _ _ h)
def l_X10_take_118 (N : Nat) : Nat → Int32 → St → Option (Unit × St)
  | 0, _, _ => none
  | n + 1, v1, σ => if (7 : Int32) ≤ v1 then (bd (o_X10_findFar N  σ) fun u2 σ3 => some ((), σ3)) else (ckA (7 + v1) 14 (ckA v1 14 (bt (st σ 86 v1.toNatClampNeg (σ 86 (7 + v1).toNatClampNeg)) fun σ7 => ckA (7 + v1) 14 (ckA v1 14 (bt (st σ7 87 v1.toNatClampNeg (σ7 87 (7 + v1).toNatClampNeg)) fun σ10 => ckA (7 + v1) 14 (ckA v1 14 (bt (st σ10 88 v1.toNatClampNeg (σ10 88 (7 + v1).toNatClampNeg)) fun σ13 => ckA (7 + v1) 14 (ckA v1 14 (bt (st σ13 89 v1.toNatClampNeg (σ13 89 (7 + v1).toNatClampNeg)) fun σ16 => ckA (7 + v1) 14 (ckA v1 14 (bt (st σ16 90 v1.toNatClampNeg (σ16 90 (7 + v1).toNatClampNeg)) fun σ19 => ckA (7 + v1) 14 (ckA v1 14 (bt (st σ19 91 v1.toNatClampNeg (σ19 91 (7 + v1).toNatClampNeg)) fun σ22 => bt (v1 + 1) fun x23 => l_X10_take_118 N n x23 σ22)))))))))))))
def l_X10_take_63 (N : Nat) : Nat → Int32 → St → Option (Unit × St)
  | 0, _, _ => none
  | n + 1, v1, σ => if (3 : Int32) ≤ v1 then (l_X10_take_118 N N 0 σ) else (ckA (3 + v1) 6 (ckA v1 6 (bt (st σ 84 v1.toNatClampNeg (σ 84 (3 + v1).toNatClampNeg)) fun σ4 => ckA (3 + v1) 6 (ckA v1 6 (bt (st σ4 85 v1.toNatClampNeg (σ4 85 (3 + v1).toNatClampNeg)) fun σ7 => ckA (3 + v1) 6 (ckA v1 6 (bt (st σ7 92 v1.toNatClampNeg (σ7 92 (3 + v1).toNatClampNeg)) fun σ10 => bt (v1 + 1) fun x11 => l_X10_take_63 N n x11 σ10)))))))
def l_X10_take_34 (N : Nat) : Nat → Int32 → St → Option (Unit × St)
  | 0, _, _ => none
  | n + 1, v1, σ => if (25 : Int32) ≤ v1 then (l_X10_take_63 N N 0 σ) else (ckA (25 + v1) 50 (ckA v1 50 (bt (st σ 82 v1.toNatClampNeg (σ 82 (25 + v1).toNatClampNeg)) fun σ4 => bt (v1 + 1) fun x5 => l_X10_take_34 N n x5 σ4)))
def o_X10_take (N : Nat)  (σ : St) : Option (Unit × St) := bt (st σ 79 2 (σ 79 6)) fun σ1 => bt (st σ1 79 3 (σ1 79 7)) fun σ2 => bt (st σ2 79 4 (σ2 79 8)) fun σ3 => bt (st σ3 79 5 (σ3 79 9)) fun σ4 => l_X10_take_34 N N 0 σ4
theorem ll_X10_take_118 (N : Nat) : ∀ (n : Nat) (v1 : Int32) (σ : St) (v : Unit) (w : St), l_X10_take_118 N n v1 σ = some (v, w) → Ev md_X10_take 1 118 [some (vR 79), some (vI v1)] [] SH σ (none, SH, w) := by
  intro n
  induction n with
  | zero =>
    intro v1 σ v w h
    rw [l_X10_take_118] at h
    cases h
  | succ n ih =>
    intro v1 σ v w h
    rw [l_X10_take_118] at h
    refine Ev.iload_n (pc := 118) dX10_take_118 rfl rfl ?_
    refine Ev.bipush (pc := 119) (v := 7) dX10_take_119 kb_7 ?_
    by_cases c1 : (7 : Int32) ≤ v1
    · replace h := (if_pos c1).symm.trans h
      refine Ev.icmp_ge_t (pc := 121) (tgt := 220) dX10_take_121 rfl c1 ?_
      refine Ev.aload_n (pc := 220) dX10_take_220 rfl rfl ?_
      obtain ⟨u2, σ3, g4, h⟩ := bd_elim h
      refine Ev.cVv (pc := 221) (k := 79) (av := []) (rest := []) dX10_take_221 ce_X10_findFar ml_X10_178 rfl sh_79 cl_X10 sh_sc (Nat.le_of_ble_eq_true rfl) (Nat.le_of_ble_eq_true rfl) (r_X10_findFar g4) ?_
      obtain ⟨h1, h2⟩ := oeq h
      subst h1
      subst h2
      exact Ev.ret_v (pc := 224) dX10_take_224 rfl
    · replace h := (if_neg c1).symm.trans h
      refine Ev.icmp_ge_f (pc := 121) dX10_take_121 ⟨220, rfl⟩ c1 ?_
      refine Ev.aload_n (pc := 124) dX10_take_124 rfl rfl ?_
      refine Ev.getR (pc := 125) dX10_take_125 fl_X10_29 sh_79 rfl ?_
      refine Ev.iload_n (pc := 128) dX10_take_128 rfl rfl ?_
      refine Ev.aload_n (pc := 129) dX10_take_129 rfl rfl ?_
      refine Ev.getR (pc := 130) dX10_take_130 fl_X10_29 sh_79 rfl ?_
      refine Ev.bipush (pc := 133) (v := 7) dX10_take_133 kb_7 ?_
      refine Ev.iload_n (pc := 135) dX10_take_135 rfl rfl ?_
      refine Ev.iadd (pc := 136) dX10_take_136 ?_
      obtain ⟨c5, h⟩ := ckA_elim h
      refine Ev.iald (pc := 137) dX10_take_137 sh_86 c5 ?_
      obtain ⟨c6, h⟩ := ckA_elim h
      refine Ev.iast (pc := 138) dX10_take_138 sh_86 c6 ?_
      refine Ev.nmS (fun σ7 e9 => ?_)
      replace h := bt_app h σ7 e9
      refine Ev.aload_n (pc := 139) dX10_take_139 rfl rfl ?_
      refine Ev.getR (pc := 140) dX10_take_140 fl_X10_32 sh_79 rfl ?_
      refine Ev.iload_n (pc := 143) dX10_take_143 rfl rfl ?_
      refine Ev.aload_n (pc := 144) dX10_take_144 rfl rfl ?_
      refine Ev.getR (pc := 145) dX10_take_145 fl_X10_32 sh_79 rfl ?_
      refine Ev.bipush (pc := 148) (v := 7) dX10_take_148 kb_7 ?_
      refine Ev.iload_n (pc := 150) dX10_take_150 rfl rfl ?_
      refine Ev.iadd (pc := 151) dX10_take_151 ?_
      obtain ⟨c8, h⟩ := ckA_elim h
      refine Ev.iald (pc := 152) dX10_take_152 sh_87 c8 ?_
      obtain ⟨c9, h⟩ := ckA_elim h
      refine Ev.iast (pc := 153) dX10_take_153 sh_87 c9 ?_
      refine Ev.nmS (fun σ10 e9 => ?_)
      replace h := bt_app h σ10 e9
      refine Ev.aload_n (pc := 154) dX10_take_154 rfl rfl ?_
      refine Ev.getR (pc := 155) dX10_take_155 fl_X10_35 sh_79 rfl ?_
      refine Ev.iload_n (pc := 158) dX10_take_158 rfl rfl ?_
      refine Ev.aload_n (pc := 159) dX10_take_159 rfl rfl ?_
      refine Ev.getR (pc := 160) dX10_take_160 fl_X10_35 sh_79 rfl ?_
      refine Ev.bipush (pc := 163) (v := 7) dX10_take_163 kb_7 ?_
      refine Ev.iload_n (pc := 165) dX10_take_165 rfl rfl ?_
      refine Ev.iadd (pc := 166) dX10_take_166 ?_
      obtain ⟨c11, h⟩ := ckA_elim h
      refine Ev.iald (pc := 167) dX10_take_167 sh_88 c11 ?_
      obtain ⟨c12, h⟩ := ckA_elim h
      refine Ev.iast (pc := 168) dX10_take_168 sh_88 c12 ?_
      refine Ev.nmS (fun σ13 e9 => ?_)
      replace h := bt_app h σ13 e9
      refine Ev.aload_n (pc := 169) dX10_take_169 rfl rfl ?_
      refine Ev.getR (pc := 170) dX10_take_170 fl_X10_38 sh_79 rfl ?_
      refine Ev.iload_n (pc := 173) dX10_take_173 rfl rfl ?_
      refine Ev.aload_n (pc := 174) dX10_take_174 rfl rfl ?_
      refine Ev.getR (pc := 175) dX10_take_175 fl_X10_38 sh_79 rfl ?_
      refine Ev.bipush (pc := 178) (v := 7) dX10_take_178 kb_7 ?_
      refine Ev.iload_n (pc := 180) dX10_take_180 rfl rfl ?_
      refine Ev.iadd (pc := 181) dX10_take_181 ?_
      obtain ⟨c14, h⟩ := ckA_elim h
      refine Ev.iald (pc := 182) dX10_take_182 sh_89 c14 ?_
      obtain ⟨c15, h⟩ := ckA_elim h
      refine Ev.iast (pc := 183) dX10_take_183 sh_89 c15 ?_
      refine Ev.nmS (fun σ16 e9 => ?_)
      replace h := bt_app h σ16 e9
      refine Ev.aload_n (pc := 184) dX10_take_184 rfl rfl ?_
      refine Ev.getR (pc := 185) dX10_take_185 fl_X10_41 sh_79 rfl ?_
      refine Ev.iload_n (pc := 188) dX10_take_188 rfl rfl ?_
      refine Ev.aload_n (pc := 189) dX10_take_189 rfl rfl ?_
      refine Ev.getR (pc := 190) dX10_take_190 fl_X10_41 sh_79 rfl ?_
      refine Ev.bipush (pc := 193) (v := 7) dX10_take_193 kb_7 ?_
      refine Ev.iload_n (pc := 195) dX10_take_195 rfl rfl ?_
      refine Ev.iadd (pc := 196) dX10_take_196 ?_
      obtain ⟨c17, h⟩ := ckA_elim h
      refine Ev.iald (pc := 197) dX10_take_197 sh_90 c17 ?_
      obtain ⟨c18, h⟩ := ckA_elim h
      refine Ev.iast (pc := 198) dX10_take_198 sh_90 c18 ?_
      refine Ev.nmS (fun σ19 e9 => ?_)
      replace h := bt_app h σ19 e9
      refine Ev.aload_n (pc := 199) dX10_take_199 rfl rfl ?_
      refine Ev.getR (pc := 200) dX10_take_200 fl_X10_44 sh_79 rfl ?_
      refine Ev.iload_n (pc := 203) dX10_take_203 rfl rfl ?_
      refine Ev.aload_n (pc := 204) dX10_take_204 rfl rfl ?_
      refine Ev.getR (pc := 205) dX10_take_205 fl_X10_44 sh_79 rfl ?_
      refine Ev.bipush (pc := 208) (v := 7) dX10_take_208 kb_7 ?_
      refine Ev.iload_n (pc := 210) dX10_take_210 rfl rfl ?_
      refine Ev.iadd (pc := 211) dX10_take_211 ?_
      obtain ⟨c20, h⟩ := ckA_elim h
      refine Ev.iald (pc := 212) dX10_take_212 sh_91 c20 ?_
      obtain ⟨c21, h⟩ := ckA_elim h
      refine Ev.iast (pc := 213) dX10_take_213 sh_91 c21 ?_
      refine Ev.nmS (fun σ22 e9 => ?_)
      replace h := bt_app h σ22 e9
      obtain ⟨x23, e_x23, h⟩ := bt_elim h
      refine Ev.iinc (pc := 214) (v := x23) (lv' := [some (vR 79), some (vI x23)]) dX10_take_214 rfl (by rw [ki_1, e_x23]) (lt9 rfl) rfl rfl ?_
      refine Ev.goto (pc := 217) (tgt := 118) dX10_take_217 rfl ?_
      exact Ev.weak2 (ih _ _ _ _ h) (lsubS (lsubS lsubE))
theorem ll_X10_take_63 (N : Nat) : ∀ (n : Nat) (v1 : Int32) (σ : St) (v : Unit) (w : St), l_X10_take_63 N n v1 σ = some (v, w) → Ev md_X10_take 1 63 [some (vR 79), some (vI v1)] [] SH σ (none, SH, w) := by
  intro n
  induction n with
  | zero =>
    intro v1 σ v w h
    rw [l_X10_take_63] at h
    cases h
  | succ n ih =>
    intro v1 σ v w h
    rw [l_X10_take_63] at h
    refine Ev.iload_n (pc := 63) dX10_take_63 rfl rfl ?_
    refine Ev.iconst (pc := 64) (v := 3) dX10_take_64 ki_3 ?_
    by_cases c1 : (3 : Int32) ≤ v1
    · replace h := (if_pos c1).symm.trans h
      refine Ev.icmp_ge_t (pc := 65) (tgt := 116) dX10_take_65 rfl c1 ?_
      refine Ev.iconst (pc := 116) (v := 0) dX10_take_116 ki_0 ?_
      refine Ev.istore_n (pc := 117) (lv' := [some (vR 79), some (vI 0)]) dX10_take_117 rfl (lt9 rfl) rfl rfl ?_
      exact Ev.weak2 (ll_X10_take_118 N N _ _ _ _ h) (lsubS (lsubS lsubE))
    · replace h := (if_neg c1).symm.trans h
      refine Ev.icmp_ge_f (pc := 65) dX10_take_65 ⟨116, rfl⟩ c1 ?_
      refine Ev.aload_n (pc := 68) dX10_take_68 rfl rfl ?_
      refine Ev.getR (pc := 69) dX10_take_69 fl_X10_23 sh_79 rfl ?_
      refine Ev.iload_n (pc := 72) dX10_take_72 rfl rfl ?_
      refine Ev.aload_n (pc := 73) dX10_take_73 rfl rfl ?_
      refine Ev.getR (pc := 74) dX10_take_74 fl_X10_23 sh_79 rfl ?_
      refine Ev.iconst (pc := 77) (v := 3) dX10_take_77 ki_3 ?_
      refine Ev.iload_n (pc := 78) dX10_take_78 rfl rfl ?_
      refine Ev.iadd (pc := 79) dX10_take_79 ?_
      obtain ⟨c2, h⟩ := ckA_elim h
      refine Ev.iald (pc := 80) dX10_take_80 sh_84 c2 ?_
      obtain ⟨c3, h⟩ := ckA_elim h
      refine Ev.iast (pc := 81) dX10_take_81 sh_84 c3 ?_
      refine Ev.nmS (fun σ4 e9 => ?_)
      replace h := bt_app h σ4 e9
      refine Ev.aload_n (pc := 82) dX10_take_82 rfl rfl ?_
      refine Ev.getR (pc := 83) dX10_take_83 fl_X10_26 sh_79 rfl ?_
      refine Ev.iload_n (pc := 86) dX10_take_86 rfl rfl ?_
      refine Ev.aload_n (pc := 87) dX10_take_87 rfl rfl ?_
      refine Ev.getR (pc := 88) dX10_take_88 fl_X10_26 sh_79 rfl ?_
      refine Ev.iconst (pc := 91) (v := 3) dX10_take_91 ki_3 ?_
      refine Ev.iload_n (pc := 92) dX10_take_92 rfl rfl ?_
      refine Ev.iadd (pc := 93) dX10_take_93 ?_
      obtain ⟨c5, h⟩ := ckA_elim h
      refine Ev.iald (pc := 94) dX10_take_94 sh_85 c5 ?_
      obtain ⟨c6, h⟩ := ckA_elim h
      refine Ev.iast (pc := 95) dX10_take_95 sh_85 c6 ?_
      refine Ev.nmS (fun σ7 e9 => ?_)
      replace h := bt_app h σ7 e9
      refine Ev.aload_n (pc := 96) dX10_take_96 rfl rfl ?_
      refine Ev.getR (pc := 97) dX10_take_97 fl_X10_47 sh_79 rfl ?_
      refine Ev.iload_n (pc := 100) dX10_take_100 rfl rfl ?_
      refine Ev.aload_n (pc := 101) dX10_take_101 rfl rfl ?_
      refine Ev.getR (pc := 102) dX10_take_102 fl_X10_47 sh_79 rfl ?_
      refine Ev.iconst (pc := 105) (v := 3) dX10_take_105 ki_3 ?_
      refine Ev.iload_n (pc := 106) dX10_take_106 rfl rfl ?_
      refine Ev.iadd (pc := 107) dX10_take_107 ?_
      obtain ⟨c8, h⟩ := ckA_elim h
      refine Ev.iald (pc := 108) dX10_take_108 sh_92 c8 ?_
      obtain ⟨c9, h⟩ := ckA_elim h
      refine Ev.iast (pc := 109) dX10_take_109 sh_92 c9 ?_
      refine Ev.nmS (fun σ10 e9 => ?_)
      replace h := bt_app h σ10 e9
      obtain ⟨x11, e_x11, h⟩ := bt_elim h
      refine Ev.iinc (pc := 110) (v := x11) (lv' := [some (vR 79), some (vI x11)]) dX10_take_110 rfl (by rw [ki_1, e_x11]) (lt9 rfl) rfl rfl ?_
      refine Ev.goto (pc := 113) (tgt := 63) dX10_take_113 rfl ?_
      exact Ev.weak2 (ih _ _ _ _ h) (lsubS (lsubS lsubE))
theorem ll_X10_take_34 (N : Nat) : ∀ (n : Nat) (v1 : Int32) (σ : St) (v : Unit) (w : St), l_X10_take_34 N n v1 σ = some (v, w) → Ev md_X10_take 1 34 [some (vR 79), some (vI v1)] [] SH σ (none, SH, w) := by
  intro n
  induction n with
  | zero =>
    intro v1 σ v w h
    rw [l_X10_take_34] at h
    cases h
  | succ n ih =>
    intro v1 σ v w h
    rw [l_X10_take_34] at h
    refine Ev.iload_n (pc := 34) dX10_take_34 rfl rfl ?_
    refine Ev.bipush (pc := 35) (v := 25) dX10_take_35 kb_25 ?_
    by_cases c1 : (25 : Int32) ≤ v1
    · replace h := (if_pos c1).symm.trans h
      refine Ev.icmp_ge_t (pc := 37) (tgt := 61) dX10_take_37 rfl c1 ?_
      refine Ev.iconst (pc := 61) (v := 0) dX10_take_61 ki_0 ?_
      refine Ev.istore_n (pc := 62) (lv' := [some (vR 79), some (vI 0)]) dX10_take_62 rfl (lt9 rfl) rfl rfl ?_
      exact Ev.weak2 (ll_X10_take_63 N N _ _ _ _ h) (lsubS (lsubS lsubE))
    · replace h := (if_neg c1).symm.trans h
      refine Ev.icmp_ge_f (pc := 37) dX10_take_37 ⟨61, rfl⟩ c1 ?_
      refine Ev.aload_n (pc := 40) dX10_take_40 rfl rfl ?_
      refine Ev.getR (pc := 41) dX10_take_41 fl_X10_17 sh_79 rfl ?_
      refine Ev.iload_n (pc := 44) dX10_take_44 rfl rfl ?_
      refine Ev.aload_n (pc := 45) dX10_take_45 rfl rfl ?_
      refine Ev.getR (pc := 46) dX10_take_46 fl_X10_17 sh_79 rfl ?_
      refine Ev.bipush (pc := 49) (v := 25) dX10_take_49 kb_25 ?_
      refine Ev.iload_n (pc := 51) dX10_take_51 rfl rfl ?_
      refine Ev.iadd (pc := 52) dX10_take_52 ?_
      obtain ⟨c2, h⟩ := ckA_elim h
      refine Ev.iald (pc := 53) dX10_take_53 sh_82 c2 ?_
      obtain ⟨c3, h⟩ := ckA_elim h
      refine Ev.iast (pc := 54) dX10_take_54 sh_82 c3 ?_
      refine Ev.nmS (fun σ4 e9 => ?_)
      replace h := bt_app h σ4 e9
      obtain ⟨x5, e_x5, h⟩ := bt_elim h
      refine Ev.iinc (pc := 55) (v := x5) (lv' := [some (vR 79), some (vI x5)]) dX10_take_55 rfl (by rw [ki_1, e_x5]) (lt9 rfl) rfl rfl ?_
      refine Ev.goto (pc := 58) (tgt := 34) dX10_take_58 rfl ?_
      exact Ev.weak2 (ih _ _ _ _ h) (lsubS (lsubS lsubE))
theorem e_X10_take (N : Nat)  (σ : St) (v : Unit) (w : St) (h : o_X10_take N  σ = some (v, w)) : Ev md_X10_take 1 0 (lvE [vR 79] 2) [] SH σ (none, SH, w) := by
  show Ev md_X10_take 1 0 [some (vR 79), none] [] SH σ (none, SH, w)
  unfold o_X10_take at h
  refine Ev.aload_n (pc := 0) dX10_take_0 rfl rfl ?_
  refine Ev.aload_n (pc := 1) dX10_take_1 rfl rfl ?_
  refine Ev.getI (pc := 2) dX10_take_2 fl_X10_120 sh_79 rfl ?_
  refine Ev.putI (pc := 5) dX10_take_5 pl_X10_166 sh_79 rfl rfl rfl ?_
  refine Ev.nmS (fun σ1 e9 => ?_)
  replace h := bt_app h σ1 e9
  refine Ev.aload_n (pc := 8) dX10_take_8 rfl rfl ?_
  refine Ev.aload_n (pc := 9) dX10_take_9 rfl rfl ?_
  refine Ev.getI (pc := 10) dX10_take_10 fl_X10_127 sh_79 rfl ?_
  refine Ev.putI (pc := 13) dX10_take_13 pl_X10_169 sh_79 rfl rfl rfl ?_
  refine Ev.nmS (fun σ2 e9 => ?_)
  replace h := bt_app h σ2 e9
  refine Ev.aload_n (pc := 16) dX10_take_16 rfl rfl ?_
  refine Ev.aload_n (pc := 17) dX10_take_17 rfl rfl ?_
  refine Ev.getI (pc := 18) dX10_take_18 fl_X10_130 sh_79 rfl ?_
  refine Ev.putI (pc := 21) dX10_take_21 pl_X10_172 sh_79 rfl rfl rfl ?_
  refine Ev.nmS (fun σ3 e9 => ?_)
  replace h := bt_app h σ3 e9
  refine Ev.aload_n (pc := 24) dX10_take_24 rfl rfl ?_
  refine Ev.aload_n (pc := 25) dX10_take_25 rfl rfl ?_
  refine Ev.getI (pc := 26) dX10_take_26 fl_X10_133 sh_79 rfl ?_
  refine Ev.putI (pc := 29) dX10_take_29 pl_X10_175 sh_79 rfl rfl rfl ?_
  refine Ev.nmS (fun σ4 e9 => ?_)
  replace h := bt_app h σ4 e9
  refine Ev.iconst (pc := 32) (v := 0) dX10_take_32 ki_0 ?_
  refine Ev.istore_n (pc := 33) (lv' := [some (vR 79), some (vI 0)]) dX10_take_33 rfl (lt9 rfl) rfl rfl ?_
  exact Ev.weak2 (ll_X10_take_34 N N _ _ _ _ h) (lsubS (lsubS lsubE))
theorem r_X10_take {N : Nat}  {σ : St} {v : Unit} {w : St} (h : o_X10_take N  σ = some (v, w)) : Rn md_X10_take 1 [vR 79] SH σ (none, SH, w) := Rn.of ce_X10_take.1 (Nat.le_of_ble_eq_true rfl) (e_X10_take N  _ _ _ h)
def j_X10_begin_94 (N : Nat) (K_39 : Int32 → St → Option (Unit × St)) (v2 : Int32) (s1 : Int32) (s2 : Int32) (σ : St) : Option (Unit × St) := ckA s1 1360 (bt (st σ 80 s1.toNatClampNeg s2) fun σ2 => bt (v2 + 1) fun x3 => K_39 x3 σ2)
def l_X10_begin_103 (N : Nat) : Nat → Int32 → St → Option (Unit × St)
  | 0, _, _ => none
  | n + 1, v2, σ => if (3 : Int32) ≤ v2 then (bt (st σ 79 44 0) fun σ2 => bt (st σ2 79 28 0) fun σ3 => bt (st σ3 81 (0 : Int32).toNatClampNeg (vp_nar .boolean 0)) fun σ4 => bt (st σ4 81 (1 : Int32).toNatClampNeg (vp_nar .boolean 0)) fun σ5 => some ((), σ5)) else (ckA v2 6 (ckA (28 + v2) 1360 (bt (st σ 80 (28 + v2).toNatClampNeg (σ 84 v2.toNatClampNeg)) fun σ8 => bt (v2 + 1) fun x9 => l_X10_begin_103 N n x9 σ8)))
def l_X10_begin_39 (N : Nat) : Nat → Int32 → St → Option (Unit × St)
  | 0, _, _ => none
  | n + 1, v2, σ => if (7 : Int32) ≤ v2 then (l_X10_begin_103 N N 0 σ) else (ckA (7 + v2) 1360 (bt (st σ 80 (7 + v2).toNatClampNeg (-1)) fun σ3 => ckA v2 14 (ckA (14 + v2) 1360 (bt (st σ3 80 (14 + v2).toNatClampNeg (σ3 86 v2.toNatClampNeg)) fun σ6 => ckA v2 14 (if (σ6 91 v2.toNatClampNeg) = 9 then (j_X10_begin_94 N (l_X10_begin_39 N n) v2 (21 + v2) 0 σ6) else (j_X10_begin_94 N (l_X10_begin_39 N n) v2 (21 + v2) (-1) σ6))))))
def l_X10_begin_10 (N : Nat) : Nat → Int32 → Int32 → St → Option (Unit × St)
  | 0, _, _, _ => none
  | n + 1, v1, v2, σ => if (40 : Int32) ≤ v2 then (bt (st σ 80 (38 : Int32).toNatClampNeg v1) fun σ2 => l_X10_begin_39 N N 0 σ2) else (ckA v2 1360 (bt (st σ 80 v2.toNatClampNeg 0) fun σ4 => bt (v2 + 1) fun x5 => l_X10_begin_10 N n v1 x5 σ4))
def o_X10_begin (N : Nat)  (σ : St) : Option (Unit × St) := bt (σ 80 (38 : Int32).toNatClampNeg) fun x1 => l_X10_begin_10 N N x1 0 σ
theorem lj_X10_begin_94 (N : Nat) (K_39 : Int32 → St → Option (Unit × St)) (hK_39 : ∀ (v2 : Int32) (σ : St) (v : Unit) (w : St), K_39 v2 σ = some (v, w) → Ev md_X10_begin 0 39 [some (vR 79), none, some (vI v2)] [] SH σ (none, SH, w)) (v2 : Int32) (s1 : Int32) (s2 : Int32) (σ : St) (v : Unit) (w : St) (h : j_X10_begin_94 N K_39 v2 s1 s2 σ = some (v, w)) : Ev md_X10_begin 0 94 [some (vR 79), none, some (vI v2)] [vI s2, vI s1, vR 80] SH σ (none, SH, w) := by
  unfold j_X10_begin_94 at h
  obtain ⟨c1, h⟩ := ckA_elim h
  refine Ev.iast (pc := 94) dX10_begin_94 sh_80 c1 ?_
  refine Ev.nmS (fun σ2 e9 => ?_)
  replace h := bt_app h σ2 e9
  obtain ⟨x3, e_x3, h⟩ := bt_elim h
  refine Ev.iinc (pc := 95) (v := x3) (lv' := [some (vR 79), none, some (vI x3)]) dX10_begin_95 rfl (by rw [ki_1, e_x3]) (lt9 rfl) rfl rfl ?_
  refine Ev.goto (pc := 98) (tgt := 39) dX10_begin_98 rfl ?_
  exact Ev.weak2 (hK_39 _ _ _ _ h) (lsubS (lsubN (lsubS lsubE)))
theorem ll_X10_begin_103 (N : Nat) : ∀ (n : Nat) (v2 : Int32) (σ : St) (v : Unit) (w : St), l_X10_begin_103 N n v2 σ = some (v, w) → Ev md_X10_begin 0 103 [some (vR 79), none, some (vI v2)] [] SH σ (none, SH, w) := by
  intro n
  induction n with
  | zero =>
    intro v2 σ v w h
    rw [l_X10_begin_103] at h
    cases h
  | succ n ih =>
    intro v2 σ v w h
    rw [l_X10_begin_103] at h
    refine Ev.iload_n (pc := 103) dX10_begin_103 rfl rfl ?_
    refine Ev.iconst (pc := 104) (v := 3) dX10_begin_104 ki_3 ?_
    by_cases c1 : (3 : Int32) ≤ v2
    · replace h := (if_pos c1).symm.trans h
      refine Ev.icmp_ge_t (pc := 105) (tgt := 129) dX10_begin_105 rfl c1 ?_
      refine Ev.aload_n (pc := 129) dX10_begin_129 rfl rfl ?_
      refine Ev.iconst (pc := 130) (v := 0) dX10_begin_130 ki_0 ?_
      refine Ev.putI (pc := 131) dX10_begin_131 pl_X10_181 sh_79 rfl rfl rfl ?_
      refine Ev.nmS (fun σ2 e9 => ?_)
      replace h := bt_app h σ2 e9
      refine Ev.aload_n (pc := 134) dX10_begin_134 rfl rfl ?_
      refine Ev.iconst (pc := 135) (v := 0) dX10_begin_135 ki_0 ?_
      refine Ev.putI (pc := 136) dX10_begin_136 pl_X10_184 sh_79 rfl rfl rfl ?_
      refine Ev.nmS (fun σ3 e9 => ?_)
      replace h := bt_app h σ3 e9
      refine Ev.aload_n (pc := 139) dX10_begin_139 rfl rfl ?_
      refine Ev.getR (pc := 140) dX10_begin_140 fl_X10_13 sh_79 rfl ?_
      refine Ev.iconst (pc := 143) (v := 0) dX10_begin_143 ki_0 ?_
      refine Ev.iconst (pc := 144) (v := 0) dX10_begin_144 ki_0 ?_
      refine Ev.zast (pc := 145) dX10_begin_145 sh_81 in_0_2 ?_
      refine Ev.nmS (fun σ4 e9 => ?_)
      replace h := bt_app h σ4 e9
      refine Ev.aload_n (pc := 146) dX10_begin_146 rfl rfl ?_
      refine Ev.getR (pc := 147) dX10_begin_147 fl_X10_13 sh_79 rfl ?_
      refine Ev.iconst (pc := 150) (v := 1) dX10_begin_150 ki_1 ?_
      refine Ev.iconst (pc := 151) (v := 0) dX10_begin_151 ki_0 ?_
      refine Ev.zast (pc := 152) dX10_begin_152 sh_81 in_1_2 ?_
      refine Ev.nmS (fun σ5 e9 => ?_)
      replace h := bt_app h σ5 e9
      obtain ⟨h1, h2⟩ := oeq h
      subst h1
      subst h2
      exact Ev.ret_v (pc := 153) dX10_begin_153 rfl
    · replace h := (if_neg c1).symm.trans h
      refine Ev.icmp_ge_f (pc := 105) dX10_begin_105 ⟨129, rfl⟩ c1 ?_
      refine Ev.aload_n (pc := 108) dX10_begin_108 rfl rfl ?_
      refine Ev.getR (pc := 109) dX10_begin_109 fl_X10_7 sh_79 rfl ?_
      refine Ev.bipush (pc := 112) (v := 28) dX10_begin_112 kb_28 ?_
      refine Ev.iload_n (pc := 114) dX10_begin_114 rfl rfl ?_
      refine Ev.iadd (pc := 115) dX10_begin_115 ?_
      refine Ev.aload_n (pc := 116) dX10_begin_116 rfl rfl ?_
      refine Ev.getR (pc := 117) dX10_begin_117 fl_X10_23 sh_79 rfl ?_
      refine Ev.iload_n (pc := 120) dX10_begin_120 rfl rfl ?_
      obtain ⟨c6, h⟩ := ckA_elim h
      refine Ev.iald (pc := 121) dX10_begin_121 sh_84 c6 ?_
      obtain ⟨c7, h⟩ := ckA_elim h
      refine Ev.iast (pc := 122) dX10_begin_122 sh_80 c7 ?_
      refine Ev.nmS (fun σ8 e9 => ?_)
      replace h := bt_app h σ8 e9
      obtain ⟨x9, e_x9, h⟩ := bt_elim h
      refine Ev.iinc (pc := 123) (v := x9) (lv' := [some (vR 79), none, some (vI x9)]) dX10_begin_123 rfl (by rw [ki_1, e_x9]) (lt9 rfl) rfl rfl ?_
      refine Ev.goto (pc := 126) (tgt := 103) dX10_begin_126 rfl ?_
      exact Ev.weak2 (ih _ _ _ _ h) (lsubS (lsubN (lsubS lsubE)))
theorem ll_X10_begin_39 (N : Nat) : ∀ (n : Nat) (v2 : Int32) (σ : St) (v : Unit) (w : St), l_X10_begin_39 N n v2 σ = some (v, w) → Ev md_X10_begin 0 39 [some (vR 79), none, some (vI v2)] [] SH σ (none, SH, w) := by
  intro n
  induction n with
  | zero =>
    intro v2 σ v w h
    rw [l_X10_begin_39] at h
    cases h
  | succ n ih =>
    intro v2 σ v w h
    rw [l_X10_begin_39] at h
    refine Ev.iload_n (pc := 39) dX10_begin_39 rfl rfl ?_
    refine Ev.bipush (pc := 40) (v := 7) dX10_begin_40 kb_7 ?_
    by_cases c1 : (7 : Int32) ≤ v2
    · replace h := (if_pos c1).symm.trans h
      refine Ev.icmp_ge_t (pc := 42) (tgt := 101) dX10_begin_42 rfl c1 ?_
      refine Ev.iconst (pc := 101) (v := 0) dX10_begin_101 ki_0 ?_
      refine Ev.istore_n (pc := 102) (lv' := [some (vR 79), none, some (vI 0)]) dX10_begin_102 rfl (lt9 rfl) rfl rfl ?_
      exact Ev.weak2 (ll_X10_begin_103 N N _ _ _ _ h) (lsubS (lsubN (lsubS lsubE)))
    · replace h := (if_neg c1).symm.trans h
      refine Ev.icmp_ge_f (pc := 42) dX10_begin_42 ⟨101, rfl⟩ c1 ?_
      refine Ev.aload_n (pc := 45) dX10_begin_45 rfl rfl ?_
      refine Ev.getR (pc := 46) dX10_begin_46 fl_X10_7 sh_79 rfl ?_
      refine Ev.bipush (pc := 49) (v := 7) dX10_begin_49 kb_7 ?_
      refine Ev.iload_n (pc := 51) dX10_begin_51 rfl rfl ?_
      refine Ev.iadd (pc := 52) dX10_begin_52 ?_
      refine Ev.iconst (pc := 53) (v := (-1)) dX10_begin_53 ki_m1 ?_
      obtain ⟨c2, h⟩ := ckA_elim h
      refine Ev.iast (pc := 54) dX10_begin_54 sh_80 c2 ?_
      refine Ev.nmS (fun σ3 e9 => ?_)
      replace h := bt_app h σ3 e9
      refine Ev.aload_n (pc := 55) dX10_begin_55 rfl rfl ?_
      refine Ev.getR (pc := 56) dX10_begin_56 fl_X10_7 sh_79 rfl ?_
      refine Ev.bipush (pc := 59) (v := 14) dX10_begin_59 kb_14 ?_
      refine Ev.iload_n (pc := 61) dX10_begin_61 rfl rfl ?_
      refine Ev.iadd (pc := 62) dX10_begin_62 ?_
      refine Ev.aload_n (pc := 63) dX10_begin_63 rfl rfl ?_
      refine Ev.getR (pc := 64) dX10_begin_64 fl_X10_29 sh_79 rfl ?_
      refine Ev.iload_n (pc := 67) dX10_begin_67 rfl rfl ?_
      obtain ⟨c4, h⟩ := ckA_elim h
      refine Ev.iald (pc := 68) dX10_begin_68 sh_86 c4 ?_
      obtain ⟨c5, h⟩ := ckA_elim h
      refine Ev.iast (pc := 69) dX10_begin_69 sh_80 c5 ?_
      refine Ev.nmS (fun σ6 e9 => ?_)
      replace h := bt_app h σ6 e9
      refine Ev.aload_n (pc := 70) dX10_begin_70 rfl rfl ?_
      refine Ev.getR (pc := 71) dX10_begin_71 fl_X10_7 sh_79 rfl ?_
      refine Ev.bipush (pc := 74) (v := 21) dX10_begin_74 kb_21 ?_
      refine Ev.iload_n (pc := 76) dX10_begin_76 rfl rfl ?_
      refine Ev.iadd (pc := 77) dX10_begin_77 ?_
      refine Ev.aload_n (pc := 78) dX10_begin_78 rfl rfl ?_
      refine Ev.getR (pc := 79) dX10_begin_79 fl_X10_44 sh_79 rfl ?_
      refine Ev.iload_n (pc := 82) dX10_begin_82 rfl rfl ?_
      obtain ⟨c7, h⟩ := ckA_elim h
      refine Ev.iald (pc := 83) dX10_begin_83 sh_91 c7 ?_
      refine Ev.bipush (pc := 84) (v := 9) dX10_begin_84 kb_9 ?_
      by_cases c8 : (σ6 91 v2.toNatClampNeg) = 9
      · replace h := (if_pos c8).symm.trans h
        refine Ev.icmp_ne_f (pc := 86) dX10_begin_86 ⟨93, rfl⟩ c8 ?_
        refine Ev.iconst (pc := 89) (v := 0) dX10_begin_89 ki_0 ?_
        refine Ev.goto (pc := 90) (tgt := 94) dX10_begin_90 rfl ?_
        exact Ev.weak2 (lj_X10_begin_94 N (l_X10_begin_39 N n) ih _ _ _ _ _ _ h) (lsubS (lsubN (lsubS lsubE)))
      · replace h := (if_neg c8).symm.trans h
        refine Ev.icmp_ne_t (pc := 86) (tgt := 93) dX10_begin_86 rfl c8 ?_
        refine Ev.iconst (pc := 93) (v := (-1)) dX10_begin_93 ki_m1 ?_
        exact Ev.weak2 (lj_X10_begin_94 N (l_X10_begin_39 N n) ih _ _ _ _ _ _ h) (lsubS (lsubN (lsubS lsubE)))
theorem ll_X10_begin_10 (N : Nat) : ∀ (n : Nat) (v1 : Int32) (v2 : Int32) (σ : St) (v : Unit) (w : St), l_X10_begin_10 N n v1 v2 σ = some (v, w) → Ev md_X10_begin 0 10 [some (vR 79), some (vI v1), some (vI v2)] [] SH σ (none, SH, w) := by
  intro n
  induction n with
  | zero =>
    intro v1 v2 σ v w h
    rw [l_X10_begin_10] at h
    cases h
  | succ n ih =>
    intro v1 v2 σ v w h
    rw [l_X10_begin_10] at h
    refine Ev.iload_n (pc := 10) dX10_begin_10 rfl rfl ?_
    refine Ev.bipush (pc := 11) (v := 40) dX10_begin_11 kb_40 ?_
    by_cases c1 : (40 : Int32) ≤ v2
    · replace h := (if_pos c1).symm.trans h
      refine Ev.icmp_ge_t (pc := 13) (tgt := 29) dX10_begin_13 rfl c1 ?_
      refine Ev.aload_n (pc := 29) dX10_begin_29 rfl rfl ?_
      refine Ev.getR (pc := 30) dX10_begin_30 fl_X10_7 sh_79 rfl ?_
      refine Ev.bipush (pc := 33) (v := 38) dX10_begin_33 kb_38 ?_
      refine Ev.iload_n (pc := 35) dX10_begin_35 rfl rfl ?_
      refine Ev.iast (pc := 36) dX10_begin_36 sh_80 in_38_1360 ?_
      refine Ev.nmS (fun σ2 e9 => ?_)
      replace h := bt_app h σ2 e9
      refine Ev.iconst (pc := 37) (v := 0) dX10_begin_37 ki_0 ?_
      refine Ev.istore_n (pc := 38) (lv' := [some (vR 79), some (vI v1), some (vI 0)]) dX10_begin_38 rfl (lt9 rfl) rfl rfl ?_
      exact Ev.weak2 (ll_X10_begin_39 N N _ _ _ _ h) (lsubS (lsubN (lsubS lsubE)))
    · replace h := (if_neg c1).symm.trans h
      refine Ev.icmp_ge_f (pc := 13) dX10_begin_13 ⟨29, rfl⟩ c1 ?_
      refine Ev.aload_n (pc := 16) dX10_begin_16 rfl rfl ?_
      refine Ev.getR (pc := 17) dX10_begin_17 fl_X10_7 sh_79 rfl ?_
      refine Ev.iload_n (pc := 20) dX10_begin_20 rfl rfl ?_
      refine Ev.iconst (pc := 21) (v := 0) dX10_begin_21 ki_0 ?_
      obtain ⟨c3, h⟩ := ckA_elim h
      refine Ev.iast (pc := 22) dX10_begin_22 sh_80 c3 ?_
      refine Ev.nmS (fun σ4 e9 => ?_)
      replace h := bt_app h σ4 e9
      obtain ⟨x5, e_x5, h⟩ := bt_elim h
      refine Ev.iinc (pc := 23) (v := x5) (lv' := [some (vR 79), some (vI v1), some (vI x5)]) dX10_begin_23 rfl (by rw [ki_1, e_x5]) (lt9 rfl) rfl rfl ?_
      refine Ev.goto (pc := 26) (tgt := 10) dX10_begin_26 rfl ?_
      exact Ev.weak2 (ih _ _ _ _ _ h) (lsubS (lsubS (lsubS lsubE)))
theorem e_X10_begin (N : Nat)  (σ : St) (v : Unit) (w : St) (h : o_X10_begin N  σ = some (v, w)) : Ev md_X10_begin 0 0 (lvE [vR 79] 3) [] SH σ (none, SH, w) := by
  show Ev md_X10_begin 0 0 [some (vR 79), none, none] [] SH σ (none, SH, w)
  unfold o_X10_begin at h
  refine Ev.aload_n (pc := 0) dX10_begin_0 rfl rfl ?_
  refine Ev.getR (pc := 1) dX10_begin_1 fl_X10_7 sh_79 rfl ?_
  refine Ev.bipush (pc := 4) (v := 38) dX10_begin_4 kb_38 ?_
  refine Ev.iald (pc := 6) dX10_begin_6 sh_80 in_38_1360 ?_
  refine Ev.nmI (fun x1 e9 => ?_)
  replace h := bt_app h x1 e9
  refine Ev.istore_n (pc := 7) (lv' := [some (vR 79), some (vI x1), none]) dX10_begin_7 rfl (lt9 rfl) rfl rfl ?_
  refine Ev.iconst (pc := 8) (v := 0) dX10_begin_8 ki_0 ?_
  refine Ev.istore_n (pc := 9) (lv' := [some (vR 79), some (vI x1), some (vI 0)]) dX10_begin_9 rfl (lt9 rfl) rfl rfl ?_
  exact Ev.weak2 (ll_X10_begin_10 N N _ _ _ _ _ h) (lsubS (lsubS (lsubS lsubE)))
theorem r_X10_begin {N : Nat}  {σ : St} {v : Unit} {w : St} (h : o_X10_begin N  σ = some (v, w)) : Rn md_X10_begin 0 [vR 79] SH σ (none, SH, w) := Rn.of ce_X10_begin.1 (Nat.le_of_ble_eq_true rfl) (e_X10_begin N  _ _ _ h)
def j_X10_land_124 (N : Nat) (K_84 : St → Option (Int32 × St)) (s1 : Int32) (σ : St) : Option (Int32 × St) := bt (t_X10_want s1 1 (σ 79 24) σ) fun q1 => if q1.1 = 0 then (K_84 q1.2) else (bt (st q1.2 79 24 ((q1.2 79 24) + 1)) fun σ3 => K_84 σ3)
def j_X10_land_148 (N : Nat)  (σ : St) : Option (Int32 × St) := bt (st σ 79 23 0) fun σ1 => if (σ1 79 26) ≤ 0 then (bd (o_X10_take N  σ1) fun u3 σ4 => bd (o_X10_begin N  σ4) fun u6 σ7 => some ((σ7 79 2), σ7)) else (some (((-10) - (σ1 79 26)), σ1))
def l_X10_land_84 (N : Nat) : Nat → St → Option (Int32 × St)
  | 0, _ => none
  | n + 1, σ => if (σ 79 26) = 0 then (bd (o_X10_here N  σ) fun x2 σ3 => if x2 < 0 then (j_X10_land_148 N σ3) else (bd (o_X10_takeClause N  σ3) fun u6 σ7 => if (σ7 79 26) = 0 then (bd (o_X10_here N  σ7) fun x10 σ11 => if x10 = 59 then (j_X10_land_124 N (l_X10_land_84 N n) 1 σ11) else (j_X10_land_124 N (l_X10_land_84 N n) 0 σ11)) else (l_X10_land_84 N n σ7))) else (j_X10_land_148 N σ)
def l_X10_land_64 (N : Nat) : Nat → Int32 → St → Option (Int32 × St)
  | 0, _, _ => none
  | n + 1, v1, σ => if (50 : Int32) ≤ v1 then (l_X10_land_84 N N σ) else (ckA v1 50 (bt (st σ 82 v1.toNatClampNeg 99999999) fun σ3 => bt (v1 + 1) fun x4 => l_X10_land_64 N n x4 σ3))
def o_X10_land (N : Nat)  (σ : St) : Option (Int32 × St) := bt (st σ 79 24 0) fun σ1 => bt (st σ1 79 26 0) fun σ2 => bt (st σ2 79 27 (-1)) fun σ3 => bt (st σ3 79 6 0) fun σ4 => bt (st σ4 79 7 0) fun σ5 => bt (st σ5 79 8 0) fun σ6 => bt (st σ6 79 9 0) fun σ7 => bt (st σ7 79 21 0) fun σ8 => bt (st σ8 92 (4 : Int32).toNatClampNeg 0) fun σ9 => bt (st σ9 92 (5 : Int32).toNatClampNeg 2) fun σ10 => bt (st σ10 92 (3 : Int32).toNatClampNeg 0) fun σ11 => l_X10_land_64 N N 25 σ11
theorem lj_X10_land_124 (N : Nat) (K_84 : St → Option (Int32 × St)) (hK_84 : ∀  (σ : St) (v : Int32) (w : St), K_84  σ = some (v, w) → Ev md_X10_land 4 84 [some (vR 79), none] [] SH σ (some (vI v), SH, w)) (s1 : Int32) (σ : St) (v : Int32) (w : St) (h : j_X10_land_124 N K_84 s1 σ = some (v, w)) : Ev md_X10_land 4 124 [some (vR 79), none] [vI s1, vR 79] SH σ (some (vI v), SH, w) := by
  unfold j_X10_land_124 at h
  refine Ev.iconst (pc := 124) (v := 1) dX10_land_124 ki_1 ?_
  refine Ev.aload_n (pc := 125) dX10_land_125 rfl rfl ?_
  refine Ev.getI (pc := 126) dX10_land_126 fl_X10_98 sh_79 rfl ?_
  refine Ev.cVi (pc := 129) (k := 79) (av := [vI s1, vI 1, vI (σ 79 24)]) (rest := []) dX10_land_129 ce_X10_want ml_X10_115 rfl sh_79 cl_X10 sh_sc (Nat.le_of_ble_eq_true rfl) (Nat.le_of_ble_eq_true rfl) (r_X10_want _ _ _ _) ?_
  refine Ev.nmQ (fun q1 e9 => ?_)
  replace h := bt_app h q1 e9
  by_cases c2 : q1.1 = 0
  · replace h := (if_pos c2).symm.trans h
    refine Ev.if_eq_t (pc := 132) (tgt := 84) dX10_land_132 rfl c2 ?_
    exact Ev.weak2 (hK_84  _ _ _ h) (lsubS (lsubN lsubE))
  · replace h := (if_neg c2).symm.trans h
    refine Ev.if_eq_f (pc := 132) dX10_land_132 ⟨84, rfl⟩ c2 ?_
    refine Ev.aload_n (pc := 135) dX10_land_135 rfl rfl ?_
    refine Ev.dup (pc := 136) dX10_land_136 rfl ?_
    refine Ev.getI (pc := 137) dX10_land_137 fl_X10_98 sh_79 rfl ?_
    refine Ev.iconst (pc := 140) (v := 1) dX10_land_140 ki_1 ?_
    refine Ev.iadd (pc := 141) dX10_land_141 ?_
    refine Ev.putI (pc := 142) dX10_land_142 pl_X10_98 sh_79 rfl rfl rfl ?_
    refine Ev.nmS (fun σ3 e9 => ?_)
    replace h := bt_app h σ3 e9
    refine Ev.goto (pc := 145) (tgt := 84) dX10_land_145 rfl ?_
    exact Ev.weak2 (hK_84  _ _ _ h) (lsubS (lsubN lsubE))
theorem lj_X10_land_148 (N : Nat)  (σ : St) (v : Int32) (w : St) (h : j_X10_land_148 N  σ = some (v, w)) : Ev md_X10_land 4 148 [some (vR 79), none] [] SH σ (some (vI v), SH, w) := by
  unfold j_X10_land_148 at h
  refine Ev.aload_n (pc := 148) dX10_land_148 rfl rfl ?_
  refine Ev.iconst (pc := 149) (v := 0) dX10_land_149 ki_0 ?_
  refine Ev.putI (pc := 150) dX10_land_150 pl_X10_94 sh_79 rfl rfl rfl ?_
  refine Ev.nmS (fun σ1 e9 => ?_)
  replace h := bt_app h σ1 e9
  refine Ev.aload_n (pc := 153) dX10_land_153 rfl rfl ?_
  refine Ev.getI (pc := 154) dX10_land_154 fl_X10_101 sh_79 rfl ?_
  by_cases c2 : (σ1 79 26) ≤ 0
  · replace h := (if_pos c2).symm.trans h
    refine Ev.if_le_t (pc := 157) (tgt := 168) dX10_land_157 rfl c2 ?_
    refine Ev.aload_n (pc := 168) dX10_land_168 rfl rfl ?_
    obtain ⟨u3, σ4, g5, h⟩ := bd_elim h
    refine Ev.cVv (pc := 169) (k := 79) (av := []) (rest := []) dX10_land_169 ce_X10_take ml_X10_160 rfl sh_79 cl_X10 sh_sc (Nat.le_of_ble_eq_true rfl) (Nat.le_of_ble_eq_true rfl) (r_X10_take g5) ?_
    refine Ev.aload_n (pc := 172) dX10_land_172 rfl rfl ?_
    obtain ⟨u6, σ7, g8, h⟩ := bd_elim h
    refine Ev.cVv (pc := 173) (k := 79) (av := []) (rest := []) dX10_land_173 ce_X10_begin ml_X10_163 rfl sh_79 cl_X10 sh_sc (Nat.le_of_ble_eq_true rfl) (Nat.le_of_ble_eq_true rfl) (r_X10_begin g8) ?_
    refine Ev.aload_n (pc := 176) dX10_land_176 rfl rfl ?_
    refine Ev.getI (pc := 177) dX10_land_177 fl_X10_166 sh_79 rfl ?_
    obtain ⟨h1, h2⟩ := oeq h
    subst h1
    subst h2
    exact Ev.ret_i (pc := 180) dX10_land_180 rfl rfl
  · replace h := (if_neg c2).symm.trans h
    refine Ev.if_le_f (pc := 157) dX10_land_157 ⟨168, rfl⟩ c2 ?_
    refine Ev.bipush (pc := 160) (v := (-10)) dX10_land_160 kb_m10 ?_
    refine Ev.aload_n (pc := 162) dX10_land_162 rfl rfl ?_
    refine Ev.getI (pc := 163) dX10_land_163 fl_X10_101 sh_79 rfl ?_
    refine Ev.isub (pc := 166) dX10_land_166 ?_
    obtain ⟨h1, h2⟩ := oeq h
    subst h1
    subst h2
    exact Ev.ret_i (pc := 167) dX10_land_167 rfl rfl
theorem ll_X10_land_84 (N : Nat) : ∀ (n : Nat)  (σ : St) (v : Int32) (w : St), l_X10_land_84 N n  σ = some (v, w) → Ev md_X10_land 4 84 [some (vR 79), none] [] SH σ (some (vI v), SH, w) := by
  intro n
  induction n with
  | zero =>
    intro  σ v w h
    rw [l_X10_land_84] at h
    cases h
  | succ n ih =>
    intro  σ v w h
    rw [l_X10_land_84] at h
    refine Ev.aload_n (pc := 84) dX10_land_84 rfl rfl ?_
    refine Ev.getI (pc := 85) dX10_land_85 fl_X10_101 sh_79 rfl ?_
    by_cases c1 : (σ 79 26) = 0
    · replace h := (if_pos c1).symm.trans h
      refine Ev.if_ne_f (pc := 88) dX10_land_88 ⟨148, rfl⟩ c1 ?_
      refine Ev.aload_n (pc := 91) dX10_land_91 rfl rfl ?_
      obtain ⟨x2, σ3, g4, h⟩ := bd_elim h
      refine Ev.cVi (pc := 92) (k := 79) (av := []) (rest := []) dX10_land_92 ce_X10_here ml_X10_104 rfl sh_79 cl_X10 sh_sc (Nat.le_of_ble_eq_true rfl) (Nat.le_of_ble_eq_true rfl) (r_X10_here g4) ?_
      by_cases c5 : x2 < 0
      · replace h := (if_pos c5).symm.trans h
        refine Ev.if_lt_t (pc := 95) (tgt := 148) dX10_land_95 rfl c5 ?_
        exact Ev.weak2 (lj_X10_land_148 N _ _ _ h) (lsubS (lsubN lsubE))
      · replace h := (if_neg c5).symm.trans h
        refine Ev.if_lt_f (pc := 95) dX10_land_95 ⟨148, rfl⟩ c5 ?_
        refine Ev.aload_n (pc := 98) dX10_land_98 rfl rfl ?_
        obtain ⟨u6, σ7, g8, h⟩ := bd_elim h
        refine Ev.cVv (pc := 99) (k := 79) (av := []) (rest := []) dX10_land_99 ce_X10_takeClause ml_X10_157 rfl sh_79 cl_X10 sh_sc (Nat.le_of_ble_eq_true rfl) (Nat.le_of_ble_eq_true rfl) (r_X10_takeClause g8) ?_
        refine Ev.aload_n (pc := 102) dX10_land_102 rfl rfl ?_
        refine Ev.getI (pc := 103) dX10_land_103 fl_X10_101 sh_79 rfl ?_
        by_cases c9 : (σ7 79 26) = 0
        · replace h := (if_pos c9).symm.trans h
          refine Ev.if_ne_f (pc := 106) dX10_land_106 ⟨84, rfl⟩ c9 ?_
          refine Ev.aload_n (pc := 109) dX10_land_109 rfl rfl ?_
          refine Ev.aload_n (pc := 110) dX10_land_110 rfl rfl ?_
          obtain ⟨x10, σ11, g12, h⟩ := bd_elim h
          refine Ev.cVi (pc := 111) (k := 79) (av := []) (rest := [vR 79]) dX10_land_111 ce_X10_here ml_X10_104 rfl sh_79 cl_X10 sh_sc (Nat.le_of_ble_eq_true rfl) (Nat.le_of_ble_eq_true rfl) (r_X10_here g12) ?_
          refine Ev.bipush (pc := 114) (v := 59) dX10_land_114 kb_59 ?_
          by_cases c13 : x10 = 59
          · replace h := (if_pos c13).symm.trans h
            refine Ev.icmp_ne_f (pc := 116) dX10_land_116 ⟨123, rfl⟩ c13 ?_
            refine Ev.iconst (pc := 119) (v := 1) dX10_land_119 ki_1 ?_
            refine Ev.goto (pc := 120) (tgt := 124) dX10_land_120 rfl ?_
            exact Ev.weak2 (lj_X10_land_124 N (l_X10_land_84 N n) ih _ _ _ _ h) (lsubS (lsubN lsubE))
          · replace h := (if_neg c13).symm.trans h
            refine Ev.icmp_ne_t (pc := 116) (tgt := 123) dX10_land_116 rfl c13 ?_
            refine Ev.iconst (pc := 123) (v := 0) dX10_land_123 ki_0 ?_
            exact Ev.weak2 (lj_X10_land_124 N (l_X10_land_84 N n) ih _ _ _ _ h) (lsubS (lsubN lsubE))
        · replace h := (if_neg c9).symm.trans h
          refine Ev.if_ne_t (pc := 106) (tgt := 84) dX10_land_106 rfl c9 ?_
          exact Ev.weak2 (ih  _ _ _ h) (lsubS (lsubN lsubE))
    · replace h := (if_neg c1).symm.trans h
      refine Ev.if_ne_t (pc := 88) (tgt := 148) dX10_land_88 rfl c1 ?_
      exact Ev.weak2 (lj_X10_land_148 N _ _ _ h) (lsubS (lsubN lsubE))
theorem ll_X10_land_64 (N : Nat) : ∀ (n : Nat) (v1 : Int32) (σ : St) (v : Int32) (w : St), l_X10_land_64 N n v1 σ = some (v, w) → Ev md_X10_land 4 64 [some (vR 79), some (vI v1)] [] SH σ (some (vI v), SH, w) := by
  intro n
  induction n with
  | zero =>
    intro v1 σ v w h
    rw [l_X10_land_64] at h
    cases h
  | succ n ih =>
    intro v1 σ v w h
    rw [l_X10_land_64] at h
    refine Ev.iload_n (pc := 64) dX10_land_64 rfl rfl ?_
    refine Ev.bipush (pc := 65) (v := 50) dX10_land_65 kb_50 ?_
    by_cases c1 : (50 : Int32) ≤ v1
    · replace h := (if_pos c1).symm.trans h
      refine Ev.icmp_ge_t (pc := 67) (tgt := 84) dX10_land_67 rfl c1 ?_
      exact Ev.weak2 (ll_X10_land_84 N N _ _ _ h) (lsubS (lsubN lsubE))
    · replace h := (if_neg c1).symm.trans h
      refine Ev.icmp_ge_f (pc := 67) dX10_land_67 ⟨84, rfl⟩ c1 ?_
      refine Ev.aload_n (pc := 70) dX10_land_70 rfl rfl ?_
      refine Ev.getR (pc := 71) dX10_land_71 fl_X10_17 sh_79 rfl ?_
      refine Ev.iload_n (pc := 74) dX10_land_74 rfl rfl ?_
      refine Ev.ldc (pc := 75) dX10_land_75 kc_X10_156 ?_
      obtain ⟨c2, h⟩ := ckA_elim h
      refine Ev.iast (pc := 77) dX10_land_77 sh_82 c2 ?_
      refine Ev.nmS (fun σ3 e9 => ?_)
      replace h := bt_app h σ3 e9
      obtain ⟨x4, e_x4, h⟩ := bt_elim h
      refine Ev.iinc (pc := 78) (v := x4) (lv' := [some (vR 79), some (vI x4)]) dX10_land_78 rfl (by rw [ki_1, e_x4]) (lt9 rfl) rfl rfl ?_
      refine Ev.goto (pc := 81) (tgt := 64) dX10_land_81 rfl ?_
      exact Ev.weak2 (ih _ _ _ _ h) (lsubS (lsubS lsubE))
theorem e_X10_land (N : Nat)  (σ : St) (v : Int32) (w : St) (h : o_X10_land N  σ = some (v, w)) : Ev md_X10_land 4 0 (lvE [vR 79] 2) [] SH σ (some (vI v), SH, w) := by
  show Ev md_X10_land 4 0 [some (vR 79), none] [] SH σ (some (vI v), SH, w)
  unfold o_X10_land at h
  refine Ev.aload_n (pc := 0) dX10_land_0 rfl rfl ?_
  refine Ev.iconst (pc := 1) (v := 0) dX10_land_1 ki_0 ?_
  refine Ev.putI (pc := 2) dX10_land_2 pl_X10_98 sh_79 rfl rfl rfl ?_
  refine Ev.nmS (fun σ1 e9 => ?_)
  replace h := bt_app h σ1 e9
  refine Ev.aload_n (pc := 5) dX10_land_5 rfl rfl ?_
  refine Ev.iconst (pc := 6) (v := 0) dX10_land_6 ki_0 ?_
  refine Ev.putI (pc := 7) dX10_land_7 pl_X10_101 sh_79 rfl rfl rfl ?_
  refine Ev.nmS (fun σ2 e9 => ?_)
  replace h := bt_app h σ2 e9
  refine Ev.aload_n (pc := 10) dX10_land_10 rfl rfl ?_
  refine Ev.iconst (pc := 11) (v := (-1)) dX10_land_11 ki_m1 ?_
  refine Ev.putI (pc := 12) dX10_land_12 pl_X10_53 sh_79 rfl rfl rfl ?_
  refine Ev.nmS (fun σ3 e9 => ?_)
  replace h := bt_app h σ3 e9
  refine Ev.aload_n (pc := 15) dX10_land_15 rfl rfl ?_
  refine Ev.iconst (pc := 16) (v := 0) dX10_land_16 ki_0 ?_
  refine Ev.putI (pc := 17) dX10_land_17 pl_X10_120 sh_79 rfl rfl rfl ?_
  refine Ev.nmS (fun σ4 e9 => ?_)
  replace h := bt_app h σ4 e9
  refine Ev.aload_n (pc := 20) dX10_land_20 rfl rfl ?_
  refine Ev.iconst (pc := 21) (v := 0) dX10_land_21 ki_0 ?_
  refine Ev.putI (pc := 22) dX10_land_22 pl_X10_127 sh_79 rfl rfl rfl ?_
  refine Ev.nmS (fun σ5 e9 => ?_)
  replace h := bt_app h σ5 e9
  refine Ev.aload_n (pc := 25) dX10_land_25 rfl rfl ?_
  refine Ev.iconst (pc := 26) (v := 0) dX10_land_26 ki_0 ?_
  refine Ev.putI (pc := 27) dX10_land_27 pl_X10_130 sh_79 rfl rfl rfl ?_
  refine Ev.nmS (fun σ6 e9 => ?_)
  replace h := bt_app h σ6 e9
  refine Ev.aload_n (pc := 30) dX10_land_30 rfl rfl ?_
  refine Ev.iconst (pc := 31) (v := 0) dX10_land_31 ki_0 ?_
  refine Ev.putI (pc := 32) dX10_land_32 pl_X10_133 sh_79 rfl rfl rfl ?_
  refine Ev.nmS (fun σ7 e9 => ?_)
  replace h := bt_app h σ7 e9
  refine Ev.aload_n (pc := 35) dX10_land_35 rfl rfl ?_
  refine Ev.iconst (pc := 36) (v := 0) dX10_land_36 ki_0 ?_
  refine Ev.putI (pc := 37) dX10_land_37 pl_X10_136 sh_79 rfl nb_0 rfl ?_
  refine Ev.nmS (fun σ8 e9 => ?_)
  replace h := bt_app h σ8 e9
  refine Ev.aload_n (pc := 40) dX10_land_40 rfl rfl ?_
  refine Ev.getR (pc := 41) dX10_land_41 fl_X10_47 sh_79 rfl ?_
  refine Ev.iconst (pc := 44) (v := 4) dX10_land_44 ki_4 ?_
  refine Ev.iconst (pc := 45) (v := 0) dX10_land_45 ki_0 ?_
  refine Ev.iast (pc := 46) dX10_land_46 sh_92 in_4_6 ?_
  refine Ev.nmS (fun σ9 e9 => ?_)
  replace h := bt_app h σ9 e9
  refine Ev.aload_n (pc := 47) dX10_land_47 rfl rfl ?_
  refine Ev.getR (pc := 48) dX10_land_48 fl_X10_47 sh_79 rfl ?_
  refine Ev.iconst (pc := 51) (v := 5) dX10_land_51 ki_5 ?_
  refine Ev.iconst (pc := 52) (v := 2) dX10_land_52 ki_2 ?_
  refine Ev.iast (pc := 53) dX10_land_53 sh_92 in_5_6 ?_
  refine Ev.nmS (fun σ10 e9 => ?_)
  replace h := bt_app h σ10 e9
  refine Ev.aload_n (pc := 54) dX10_land_54 rfl rfl ?_
  refine Ev.getR (pc := 55) dX10_land_55 fl_X10_47 sh_79 rfl ?_
  refine Ev.iconst (pc := 58) (v := 3) dX10_land_58 ki_3 ?_
  refine Ev.iconst (pc := 59) (v := 0) dX10_land_59 ki_0 ?_
  refine Ev.iast (pc := 60) dX10_land_60 sh_92 in_3_6 ?_
  refine Ev.nmS (fun σ11 e9 => ?_)
  replace h := bt_app h σ11 e9
  refine Ev.bipush (pc := 61) (v := 25) dX10_land_61 kb_25 ?_
  refine Ev.istore_n (pc := 63) (lv' := [some (vR 79), some (vI 25)]) dX10_land_63 rfl (lt9 rfl) rfl rfl ?_
  exact Ev.weak2 (ll_X10_land_64 N N _ _ _ _ h) (lsubS (lsubS lsubE))
theorem r_X10_land {N : Nat}  {σ : St} {v : Int32} {w : St} (h : o_X10_land N  σ = some (v, w)) : Rn md_X10_land 4 [vR 79] SH σ (some (vI v), SH, w) := Rn.of ce_X10_land.1 (Nat.le_of_ble_eq_true rfl) (e_X10_land N  _ _ _ h)
def p_X9_fault  (σ : St) : Int32 := (σ 21 5)
theorem e_X9_fault  (σ : St) (v : Int32) (h : p_X9_fault  σ = v) : Ev md_X9_fault 0 0 (lvE [vR 0] 1) [] SH σ (some (vI v), SH, σ) := by
  show Ev md_X9_fault 0 0 [some (vR 0)] [] SH σ (some (vI v), SH, σ)
  unfold p_X9_fault at h
  refine Ev.aload_n (pc := 0) dX9_fault_0 rfl rfl ?_
  refine Ev.getR (pc := 1) dX9_fault_1 fl_X9_22 sh_0 rfl ?_
  refine Ev.getI (pc := 4) dX9_fault_4 fl_X9_110 sh_21 rfl ?_
  subst h
  exact Ev.ret_i (pc := 7) dX9_fault_7 rfl rfl
theorem r_X9_fault  (σ : St) : Rn md_X9_fault 0 [vR 0] SH σ (some (vI (p_X9_fault  σ)), SH, σ) := Rn.of ce_X9_fault.1 (Nat.le_of_ble_eq_true rfl) (e_X9_fault  _ _ rfl)
def p_X10_fault  (σ : St) : Int32 := (σ 79 27)
theorem e_X10_fault  (σ : St) (v : Int32) (h : p_X10_fault  σ = v) : Ev md_X10_fault 0 0 (lvE [vR 79] 1) [] SH σ (some (vI v), SH, σ) := by
  show Ev md_X10_fault 0 0 [some (vR 79)] [] SH σ (some (vI v), SH, σ)
  unfold p_X10_fault at h
  refine Ev.aload_n (pc := 0) dX10_fault_0 rfl rfl ?_
  refine Ev.getI (pc := 1) dX10_fault_1 fl_X10_53 sh_79 rfl ?_
  subst h
  exact Ev.ret_i (pc := 4) dX10_fault_4 rfl rfl
theorem r_X10_fault  (σ : St) : Rn md_X10_fault 0 [vR 79] SH σ (some (vI (p_X10_fault  σ)), SH, σ) := Rn.of ce_X10_fault.1 (Nat.le_of_ble_eq_true rfl) (e_X10_fault  _ _ rfl)
def p_X1_today_23  (σ : St) : Int32 := (at_ σ 24 31 0)
theorem e_X1_today_23  (σ : St) (v : Int32) (h : p_X1_today_23  σ = v) : Ev md_X1_today 1 0 (lvE [vR 23] 1) [] SH σ (some (vI v), SH, σ) := by
  show Ev md_X1_today 1 0 [some (vR 23)] [] SH σ (some (vI v), SH, σ)
  unfold p_X1_today_23 at h
  refine Ev.aload_n (pc := 0) dX1_today_0 rfl rfl ?_
  refine Ev.getR (pc := 1) dX1_today_1 fl_X1_11 sh_23 rfl ?_
  refine Ev.iconst (pc := 4) (v := 0) dX1_today_4 ki_0 ?_
  refine Ev.cTi (pc := 5) (av := [vR 24, vI 0]) (rest := []) dX1_today_5 ce_X9_at ml_X1_28 rfl sh_sc (Nat.le_of_ble_eq_true rfl) (Nat.le_of_ble_eq_true rfl) (r_at sh_24 (by decide) _ _) ?_
  subst h
  exact Ev.ret_i (pc := 8) dX1_today_8 rfl rfl
theorem r_X1_today_23  (σ : St) : Rn md_X1_today 1 [vR 23] SH σ (some (vI (p_X1_today_23  σ)), SH, σ) := Rn.of ce_X1_today.1 (Nat.le_of_ble_eq_true rfl) (e_X1_today_23  _ _ rfl)
def p_X1_how_23 (a1 : Int32) (σ : St) : Int32 := (at_ σ 24 31 (1 + a1))
theorem e_X1_how_23 (a1 : Int32) (σ : St) (v : Int32) (h : p_X1_how_23 a1 σ = v) : Ev md_X1_how 1 0 (lvE [vR 23, vI a1] 2) [] SH σ (some (vI v), SH, σ) := by
  show Ev md_X1_how 1 0 [some (vR 23), some (vI a1)] [] SH σ (some (vI v), SH, σ)
  unfold p_X1_how_23 at h
  refine Ev.aload_n (pc := 0) dX1_how_0 rfl rfl ?_
  refine Ev.getR (pc := 1) dX1_how_1 fl_X1_11 sh_23 rfl ?_
  refine Ev.iconst (pc := 4) (v := 1) dX1_how_4 ki_1 ?_
  refine Ev.iload_n (pc := 5) dX1_how_5 rfl rfl ?_
  refine Ev.iadd (pc := 6) dX1_how_6 ?_
  refine Ev.cTi (pc := 7) (av := [vR 24, vI (1 + a1)]) (rest := []) dX1_how_7 ce_X9_at ml_X1_28 rfl sh_sc (Nat.le_of_ble_eq_true rfl) (Nat.le_of_ble_eq_true rfl) (r_at sh_24 (by decide) _ _) ?_
  subst h
  exact Ev.ret_i (pc := 10) dX1_how_10 rfl rfl
theorem r_X1_how_23 (a1 : Int32) (σ : St) : Rn md_X1_how 1 [vR 23, vI a1] SH σ (some (vI (p_X1_how_23 a1 σ)), SH, σ) := Rn.of ce_X1_how.1 (Nat.le_of_ble_eq_true rfl) (e_X1_how_23 _ _ _ rfl)
def j_X1_setOf_32 (N : Nat) (K_4 : Int32 → Int32 → Int32 → St → Option (Int32 × St)) (v1 : Int32) (v3 : Int32) (s0 : Int32) (s1 : Int32) (σ : St) : Option (Int32 × St) := bt (s0 ||| s1) fun x1 => bt (v3 + 1) fun x2 => K_4 v1 x1 x2 σ
def l_X1_setOf_4 (N : Nat) : Nat → Int32 → Int32 → Int32 → St → Option (Int32 × St)
  | 0, _, _, _, _ => none
  | n + 1, v1, v2, v3, σ => if (σ 1 3) ≤ v3 then (some (v2, σ)) else (if (p_X1_how_23 v3 σ) = v1 then (j_X1_setOf_32 N (l_X1_setOf_4 N n) v1 v3 v2 (1 <<< (v3 &&& 31)) σ) else (j_X1_setOf_32 N (l_X1_setOf_4 N n) v1 v3 v2 0 σ))
def o_X1_setOf (N : Nat) (a1 : Int32) (σ : St) : Option (Int32 × St) := l_X1_setOf_4 N N a1 0 0 σ
theorem lj_X1_setOf_32 (N : Nat) (K_4 : Int32 → Int32 → Int32 → St → Option (Int32 × St)) (hK_4 : ∀ (v1 : Int32) (v2 : Int32) (v3 : Int32) (σ : St) (v : Int32) (w : St), K_4 v1 v2 v3 σ = some (v, w) → Ev md_X1_setOf 2 4 [some (vR 23), some (vI v1), some (vI v2), some (vI v3)] [] SH σ (some (vI v), SH, w)) (v1 : Int32) (v3 : Int32) (s0 : Int32) (s1 : Int32) (σ : St) (v : Int32) (w : St) (h : j_X1_setOf_32 N K_4 v1 v3 s0 s1 σ = some (v, w)) : Ev md_X1_setOf 2 32 [some (vR 23), some (vI v1), none, some (vI v3)] [vI s1, vI s0] SH σ (some (vI v), SH, w) := by
  unfold j_X1_setOf_32 at h
  refine Ev.ior (pc := 32) dX1_setOf_32 ?_
  refine Ev.nmI (fun x1 e9 => ?_)
  replace h := bt_app h x1 e9
  refine Ev.istore_n (pc := 33) (lv' := [some (vR 23), some (vI v1), some (vI x1), some (vI v3)]) dX1_setOf_33 rfl (lt9 rfl) rfl rfl ?_
  obtain ⟨x2, e_x2, h⟩ := bt_elim h
  refine Ev.iinc (pc := 34) (v := x2) (lv' := [some (vR 23), some (vI v1), some (vI x1), some (vI x2)]) dX1_setOf_34 rfl (by rw [ki_1, e_x2]) (lt9 rfl) rfl rfl ?_
  refine Ev.goto (pc := 37) (tgt := 4) dX1_setOf_37 rfl ?_
  exact Ev.weak2 (hK_4 _ _ _ _ _ _ h) (lsubS (lsubS (lsubS (lsubS lsubE))))
theorem ll_X1_setOf_4 (N : Nat) : ∀ (n : Nat) (v1 : Int32) (v2 : Int32) (v3 : Int32) (σ : St) (v : Int32) (w : St), l_X1_setOf_4 N n v1 v2 v3 σ = some (v, w) → Ev md_X1_setOf 2 4 [some (vR 23), some (vI v1), some (vI v2), some (vI v3)] [] SH σ (some (vI v), SH, w) := by
  intro n
  induction n with
  | zero =>
    intro v1 v2 v3 σ v w h
    rw [l_X1_setOf_4] at h
    cases h
  | succ n ih =>
    intro v1 v2 v3 σ v w h
    rw [l_X1_setOf_4] at h
    refine Ev.iload_n (pc := 4) dX1_setOf_4 rfl rfl ?_
    refine Ev.aload_n (pc := 5) dX1_setOf_5 rfl rfl ?_
    refine Ev.getR (pc := 6) dX1_setOf_6 fl_X1_15 sh_23 rfl ?_
    refine Ev.getI (pc := 9) dX1_setOf_9 fl_X1_50 sh_1 rfl ?_
    by_cases c1 : (σ 1 3) ≤ v3
    · replace h := (if_pos c1).symm.trans h
      refine Ev.icmp_ge_t (pc := 12) (tgt := 40) dX1_setOf_12 rfl c1 ?_
      refine Ev.iload_n (pc := 40) dX1_setOf_40 rfl rfl ?_
      obtain ⟨h1, h2⟩ := oeq h
      subst h1
      subst h2
      exact Ev.ret_i (pc := 41) dX1_setOf_41 rfl rfl
    · replace h := (if_neg c1).symm.trans h
      refine Ev.icmp_ge_f (pc := 12) dX1_setOf_12 ⟨40, rfl⟩ c1 ?_
      refine Ev.iload_n (pc := 15) dX1_setOf_15 rfl rfl ?_
      refine Ev.aload_n (pc := 16) dX1_setOf_16 rfl rfl ?_
      refine Ev.iload_n (pc := 17) dX1_setOf_17 rfl rfl ?_
      refine Ev.cVi (pc := 18) (k := 23) (av := [vI v3]) (rest := [vI v2]) dX1_setOf_18 ce_X1_how ml_X1_39 rfl sh_23 cl_X1 sh_sc (Nat.le_of_ble_eq_true rfl) (Nat.le_of_ble_eq_true rfl) (r_X1_how_23 _ _) ?_
      refine Ev.iload_n (pc := 21) dX1_setOf_21 rfl rfl ?_
      by_cases c2 : (p_X1_how_23 v3 σ) = v1
      · replace h := (if_pos c2).symm.trans h
        refine Ev.icmp_ne_f (pc := 22) dX1_setOf_22 ⟨31, rfl⟩ c2 ?_
        refine Ev.iconst (pc := 25) (v := 1) dX1_setOf_25 ki_1 ?_
        refine Ev.iload_n (pc := 26) dX1_setOf_26 rfl rfl ?_
        refine Ev.ishl (pc := 27) dX1_setOf_27 ?_
        refine Ev.goto (pc := 28) (tgt := 32) dX1_setOf_28 rfl ?_
        exact Ev.weak2 (lj_X1_setOf_32 N (l_X1_setOf_4 N n) ih _ _ _ _ _ _ _ h) (lsubS (lsubS (lsubN (lsubS lsubE))))
      · replace h := (if_neg c2).symm.trans h
        refine Ev.icmp_ne_t (pc := 22) (tgt := 31) dX1_setOf_22 rfl c2 ?_
        refine Ev.iconst (pc := 31) (v := 0) dX1_setOf_31 ki_0 ?_
        exact Ev.weak2 (lj_X1_setOf_32 N (l_X1_setOf_4 N n) ih _ _ _ _ _ _ _ h) (lsubS (lsubS (lsubN (lsubS lsubE))))
theorem e_X1_setOf (N : Nat) (a1 : Int32) (σ : St) (v : Int32) (w : St) (h : o_X1_setOf N a1 σ = some (v, w)) : Ev md_X1_setOf 2 0 (lvE [vR 23, vI a1] 4) [] SH σ (some (vI v), SH, w) := by
  show Ev md_X1_setOf 2 0 [some (vR 23), some (vI a1), none, none] [] SH σ (some (vI v), SH, w)
  unfold o_X1_setOf at h
  refine Ev.iconst (pc := 0) (v := 0) dX1_setOf_0 ki_0 ?_
  refine Ev.istore_n (pc := 1) (lv' := [some (vR 23), some (vI a1), some (vI 0), none]) dX1_setOf_1 rfl (lt9 rfl) rfl rfl ?_
  refine Ev.iconst (pc := 2) (v := 0) dX1_setOf_2 ki_0 ?_
  refine Ev.istore_n (pc := 3) (lv' := [some (vR 23), some (vI a1), some (vI 0), some (vI 0)]) dX1_setOf_3 rfl (lt9 rfl) rfl rfl ?_
  exact Ev.weak2 (ll_X1_setOf_4 N N _ _ _ _ _ _ h) (lsubS (lsubS (lsubS (lsubS lsubE))))
theorem r_X1_setOf {N : Nat} {a1 : Int32} {σ : St} {v : Int32} {w : St} (h : o_X1_setOf N a1 σ = some (v, w)) : Rn md_X1_setOf 2 [vR 23, vI a1] SH σ (some (vI v), SH, w) := Rn.of ce_X1_setOf.1 (Nat.le_of_ble_eq_true rfl) (e_X1_setOf N _ _ _ _ h)
def o_J9_floorMod_7cf53 (N : Nat) (a0 : Int32) (a1 : Int32) (σ : St) : Option (Int32 × St) := ckDI a1 (bt (a0 - a0 / a1 * a1) fun x2 => if (0 : Int32) ≤ (a0 ^^^ a1) then (some (x2, σ)) else (if x2 = 0 then (some (x2, σ)) else (some ((x2 + a1), σ))))
theorem e_J9_floorMod_7cf53 (N : Nat) (a0 : Int32) (a1 : Int32) (σ : St) (v : Int32) (w : St) (h : o_J9_floorMod_7cf53 N a0 a1 σ = some (v, w)) : Ev md_J9_floorMod_7cf53 0 0 (lvE [vI a0, vI a1] 3) [] SH σ (some (vI v), SH, w) := by
  show Ev md_J9_floorMod_7cf53 0 0 [some (vI a0), some (vI a1), none] [] SH σ (some (vI v), SH, w)
  unfold o_J9_floorMod_7cf53 at h
  refine Ev.iload_n (pc := 0) dJ9_floorMod_7cf53_0 rfl rfl ?_
  refine Ev.iload_n (pc := 1) dJ9_floorMod_7cf53_1 rfl rfl ?_
  obtain ⟨c1, h⟩ := ckDI_elim h
  refine Ev.irem (pc := 2) dJ9_floorMod_7cf53_2 c1 ?_
  refine Ev.nmI (fun x2 e9 => ?_)
  replace h := bt_app h x2 e9
  refine Ev.istore_n (pc := 3) (lv' := [some (vI a0), some (vI a1), some (vI x2)]) dJ9_floorMod_7cf53_3 rfl (lt9 rfl) rfl rfl ?_
  refine Ev.iload_n (pc := 4) dJ9_floorMod_7cf53_4 rfl rfl ?_
  refine Ev.iload_n (pc := 5) dJ9_floorMod_7cf53_5 rfl rfl ?_
  refine Ev.ixor (pc := 6) dJ9_floorMod_7cf53_6 ?_
  by_cases c3 : (0 : Int32) ≤ (a0 ^^^ a1)
  · replace h := (if_pos c3).symm.trans h
    refine Ev.if_ge_t (pc := 7) (tgt := 18) dJ9_floorMod_7cf53_7 rfl c3 ?_
    refine Ev.iload_n (pc := 18) dJ9_floorMod_7cf53_18 rfl rfl ?_
    obtain ⟨h1, h2⟩ := oeq h
    subst h1
    subst h2
    exact Ev.ret_i (pc := 19) dJ9_floorMod_7cf53_19 rfl rfl
  · replace h := (if_neg c3).symm.trans h
    refine Ev.if_ge_f (pc := 7) dJ9_floorMod_7cf53_7 ⟨18, rfl⟩ c3 ?_
    refine Ev.iload_n (pc := 10) dJ9_floorMod_7cf53_10 rfl rfl ?_
    by_cases c4 : x2 = 0
    · replace h := (if_pos c4).symm.trans h
      refine Ev.if_eq_t (pc := 11) (tgt := 18) dJ9_floorMod_7cf53_11 rfl c4 ?_
      refine Ev.iload_n (pc := 18) dJ9_floorMod_7cf53_18 rfl rfl ?_
      obtain ⟨h1, h2⟩ := oeq h
      subst h1
      subst h2
      exact Ev.ret_i (pc := 19) dJ9_floorMod_7cf53_19 rfl rfl
    · replace h := (if_neg c4).symm.trans h
      refine Ev.if_eq_f (pc := 11) dJ9_floorMod_7cf53_11 ⟨18, rfl⟩ c4 ?_
      refine Ev.iload_n (pc := 14) dJ9_floorMod_7cf53_14 rfl rfl ?_
      refine Ev.iload_n (pc := 15) dJ9_floorMod_7cf53_15 rfl rfl ?_
      refine Ev.iadd (pc := 16) dJ9_floorMod_7cf53_16 ?_
      obtain ⟨h1, h2⟩ := oeq h
      subst h1
      subst h2
      exact Ev.ret_i (pc := 17) dJ9_floorMod_7cf53_17 rfl rfl
theorem r_J9_floorMod_7cf53 {N : Nat} {a0 : Int32} {a1 : Int32} {σ : St} {v : Int32} {w : St} (h : o_J9_floorMod_7cf53 N a0 a1 σ = some (v, w)) : Rn md_J9_floorMod_7cf53 0 [vI a0, vI a1] SH σ (some (vI v), SH, w) := Rn.of ce_J9_floorMod_7cf53.1 (Nat.le_of_ble_eq_true rfl) (e_J9_floorMod_7cf53 N _ _ _ _ _ h)
def j_X5_isWinter_31 (N : Nat)  (σ : St) : Option (Int32 × St) := some (0, σ)
def o_X5_isWinter (N : Nat) (a1 : Int32) (σ : St) : Option (Int32 × St) := if (σ 1 6) ≤ 0 then (j_X5_isWinter_31 N σ) else (bd (o_J9_floorMod_7cf53 N (a1 - (σ 1 4)) (σ 1 6) σ) fun x2 σ3 => if (σ3 1 5) ≤ x2 then (j_X5_isWinter_31 N σ3) else (some (1, σ3)))
theorem lj_X5_isWinter_31 (N : Nat)  (σ : St) (v : Int32) (w : St) (h : j_X5_isWinter_31 N  σ = some (v, w)) : Ev md_X5_isWinter 1 31 [none, none] [] SH σ (some (vI v), SH, w) := by
  unfold j_X5_isWinter_31 at h
  refine Ev.iconst (pc := 31) (v := 0) dX5_isWinter_31 ki_0 ?_
  obtain ⟨h1, h2⟩ := oeq h
  subst h1
  subst h2
  exact Ev.ret_i (pc := 32) dX5_isWinter_32 rfl nb_0
theorem e_X5_isWinter (N : Nat) (a1 : Int32) (σ : St) (v : Int32) (w : St) (h : o_X5_isWinter N a1 σ = some (v, w)) : Ev md_X5_isWinter 1 0 (lvE [vR 1, vI a1] 2) [] SH σ (some (vI v), SH, w) := by
  show Ev md_X5_isWinter 1 0 [some (vR 1), some (vI a1)] [] SH σ (some (vI v), SH, w)
  unfold o_X5_isWinter at h
  refine Ev.aload_n (pc := 0) dX5_isWinter_0 rfl rfl ?_
  refine Ev.getI (pc := 1) dX5_isWinter_1 fl_X5_58 sh_1 rfl ?_
  by_cases c1 : (σ 1 6) ≤ 0
  · replace h := (if_pos c1).symm.trans h
    refine Ev.if_le_t (pc := 4) (tgt := 31) dX5_isWinter_4 rfl c1 ?_
    exact Ev.weak2 (lj_X5_isWinter_31 N _ _ _ h) (lsubN (lsubN lsubE))
  · replace h := (if_neg c1).symm.trans h
    refine Ev.if_le_f (pc := 4) dX5_isWinter_4 ⟨31, rfl⟩ c1 ?_
    refine Ev.iload_n (pc := 7) dX5_isWinter_7 rfl rfl ?_
    refine Ev.aload_n (pc := 8) dX5_isWinter_8 rfl rfl ?_
    refine Ev.getI (pc := 9) dX5_isWinter_9 fl_X5_52 sh_1 rfl ?_
    refine Ev.isub (pc := 12) dX5_isWinter_12 ?_
    refine Ev.aload_n (pc := 13) dX5_isWinter_13 rfl rfl ?_
    refine Ev.getI (pc := 14) dX5_isWinter_14 fl_X5_58 sh_1 rfl ?_
    obtain ⟨x2, σ3, g4, h⟩ := bd_elim h
    refine Ev.cTi (pc := 17) (av := [vI (a1 - (σ 1 4)), vI (σ 1 6)]) (rest := []) dX5_isWinter_17 ce_J9_floorMod_7cf53 ml_X5_77 rfl sh_sc (Nat.le_of_ble_eq_true rfl) (Nat.le_of_ble_eq_true rfl) (r_J9_floorMod_7cf53 g4) ?_
    refine Ev.aload_n (pc := 20) dX5_isWinter_20 rfl rfl ?_
    refine Ev.getI (pc := 21) dX5_isWinter_21 fl_X5_55 sh_1 rfl ?_
    by_cases c5 : (σ3 1 5) ≤ x2
    · replace h := (if_pos c5).symm.trans h
      refine Ev.icmp_ge_t (pc := 24) (tgt := 31) dX5_isWinter_24 rfl c5 ?_
      exact Ev.weak2 (lj_X5_isWinter_31 N _ _ _ h) (lsubN (lsubN lsubE))
    · replace h := (if_neg c5).symm.trans h
      refine Ev.icmp_ge_f (pc := 24) dX5_isWinter_24 ⟨31, rfl⟩ c5 ?_
      refine Ev.iconst (pc := 27) (v := 1) dX5_isWinter_27 ki_1 ?_
      refine Ev.goto (pc := 28) (tgt := 32) dX5_isWinter_28 rfl ?_
      obtain ⟨h1, h2⟩ := oeq h
      subst h1
      subst h2
      exact Ev.ret_i (pc := 32) dX5_isWinter_32 rfl nb_1
theorem r_X5_isWinter {N : Nat} {a1 : Int32} {σ : St} {v : Int32} {w : St} (h : o_X5_isWinter N a1 σ = some (v, w)) : Rn md_X5_isWinter 1 [vR 1, vI a1] SH σ (some (vI v), SH, w) := Rn.of ce_X5_isWinter.1 (Nat.le_of_ble_eq_true rfl) (e_X5_isWinter N _ _ _ _ h)
def o_X9_told (N : Nat) (a1 : Int32) (σ : St) : Option (Int32 × St) := if a1 = 0 then (some ((σ 1 0), σ)) else if a1 = 1 then (some ((σ 1 1), σ)) else if a1 = 2 then (some ((σ 1 2), σ)) else if a1 = 3 then (some ((σ 1 3), σ)) else if a1 = 4 then (some ((σ 21 1), σ)) else if a1 = 5 then (some ((p_X1_today_23 σ), σ)) else if a1 = 6 then (bd (o_X1_setOf N 0 σ) fun x8 σ9 => some (x8, σ9)) else if a1 = 7 then (bd (o_X1_setOf N 1 σ) fun x12 σ13 => some (x12, σ13)) else if a1 = 8 then (bd (o_X1_setOf N 2 σ) fun x16 σ17 => some (x16, σ17)) else if a1 = 9 then (bd (o_X1_setOf N 3 σ) fun x20 σ21 => some (x20, σ21)) else if a1 = 10 then (some ((σ 74 4), σ)) else if a1 = 11 then (some ((σ 25 2), σ)) else if a1 = 12 then (bd (o_X5_isWinter N (p_X1_today_23 σ) σ) fun x26 σ27 => if x26 = 0 then (some (0, σ27)) else (some (1, σ27))) else (some ((-1000000002), σ))
theorem e_X9_told (N : Nat) (a1 : Int32) (σ : St) (v : Int32) (w : St) (h : o_X9_told N a1 σ = some (v, w)) : Ev md_X9_told 3 0 (lvE [vR 0, vI a1] 2) [] SH σ (some (vI v), SH, w) := by
  show Ev md_X9_told 3 0 [some (vR 0), some (vI a1)] [] SH σ (some (vI v), SH, w)
  unfold o_X9_told at h
  refine Ev.iload_n (pc := 0) dX9_told_0 rfl rfl ?_
  by_cases c1 : a1 = 0
  · replace h := (if_pos c1).symm.trans h
    refine Ev.swC (pc := 1) (c := 0) (tgt := 68) dX9_told_1 c1 (by decide) (by decide) rfl rfl ?_
    refine Ev.aload_n (pc := 68) dX9_told_68 rfl rfl ?_
    refine Ev.getR (pc := 69) dX9_told_69 fl_X9_10 sh_0 rfl ?_
    refine Ev.getI (pc := 72) dX9_told_72 fl_X9_106 sh_1 rfl ?_
    obtain ⟨h1, h2⟩ := oeq h
    subst h1
    subst h2
    exact Ev.ret_i (pc := 75) dX9_told_75 rfl rfl
  replace h := (if_neg c1).symm.trans h
  by_cases c2 : a1 = 1
  · replace h := (if_pos c2).symm.trans h
    refine Ev.swC (pc := 1) (c := 1) (tgt := 76) dX9_told_1 c2 (by decide) (by decide) rfl rfl ?_
    refine Ev.aload_n (pc := 76) dX9_told_76 rfl rfl ?_
    refine Ev.getR (pc := 77) dX9_told_77 fl_X9_10 sh_0 rfl ?_
    refine Ev.getI (pc := 80) dX9_told_80 fl_X9_113 sh_1 rfl ?_
    obtain ⟨h1, h2⟩ := oeq h
    subst h1
    subst h2
    exact Ev.ret_i (pc := 83) dX9_told_83 rfl rfl
  replace h := (if_neg c2).symm.trans h
  by_cases c3 : a1 = 2
  · replace h := (if_pos c3).symm.trans h
    refine Ev.swC (pc := 1) (c := 2) (tgt := 84) dX9_told_1 c3 (by decide) (by decide) rfl rfl ?_
    refine Ev.aload_n (pc := 84) dX9_told_84 rfl rfl ?_
    refine Ev.getR (pc := 85) dX9_told_85 fl_X9_10 sh_0 rfl ?_
    refine Ev.getI (pc := 88) dX9_told_88 fl_X9_116 sh_1 rfl ?_
    obtain ⟨h1, h2⟩ := oeq h
    subst h1
    subst h2
    exact Ev.ret_i (pc := 91) dX9_told_91 rfl rfl
  replace h := (if_neg c3).symm.trans h
  by_cases c4 : a1 = 3
  · replace h := (if_pos c4).symm.trans h
    refine Ev.swC (pc := 1) (c := 3) (tgt := 92) dX9_told_1 c4 (by decide) (by decide) rfl rfl ?_
    refine Ev.aload_n (pc := 92) dX9_told_92 rfl rfl ?_
    refine Ev.getR (pc := 93) dX9_told_93 fl_X9_10 sh_0 rfl ?_
    refine Ev.getI (pc := 96) dX9_told_96 fl_X9_119 sh_1 rfl ?_
    obtain ⟨h1, h2⟩ := oeq h
    subst h1
    subst h2
    exact Ev.ret_i (pc := 99) dX9_told_99 rfl rfl
  replace h := (if_neg c4).symm.trans h
  by_cases c5 : a1 = 4
  · replace h := (if_pos c5).symm.trans h
    refine Ev.swC (pc := 1) (c := 4) (tgt := 100) dX9_told_1 c5 (by decide) (by decide) rfl rfl ?_
    refine Ev.aload_n (pc := 100) dX9_told_100 rfl rfl ?_
    refine Ev.getR (pc := 101) dX9_told_101 fl_X9_22 sh_0 rfl ?_
    refine Ev.getI (pc := 104) dX9_told_104 fl_X9_122 sh_21 rfl ?_
    obtain ⟨h1, h2⟩ := oeq h
    subst h1
    subst h2
    exact Ev.ret_i (pc := 107) dX9_told_107 rfl rfl
  replace h := (if_neg c5).symm.trans h
  by_cases c6 : a1 = 5
  · replace h := (if_pos c6).symm.trans h
    refine Ev.swC (pc := 1) (c := 5) (tgt := 108) dX9_told_1 c6 (by decide) (by decide) rfl rfl ?_
    refine Ev.aload_n (pc := 108) dX9_told_108 rfl rfl ?_
    refine Ev.getR (pc := 109) dX9_told_109 fl_X9_31 sh_0 rfl ?_
    refine Ev.cVi (pc := 112) (k := 23) (av := []) (rest := []) dX9_told_112 ce_X1_today ml_X9_125 rfl sh_23 cl_X1 sh_sc (Nat.le_of_ble_eq_true rfl) (Nat.le_of_ble_eq_true rfl) (r_X1_today_23  _) ?_
    obtain ⟨h1, h2⟩ := oeq h
    subst h1
    subst h2
    exact Ev.ret_i (pc := 115) dX9_told_115 rfl rfl
  replace h := (if_neg c6).symm.trans h
  by_cases c7 : a1 = 6
  · replace h := (if_pos c7).symm.trans h
    refine Ev.swC (pc := 1) (c := 6) (tgt := 116) dX9_told_1 c7 (by decide) (by decide) rfl rfl ?_
    refine Ev.aload_n (pc := 116) dX9_told_116 rfl rfl ?_
    refine Ev.getR (pc := 117) dX9_told_117 fl_X9_31 sh_0 rfl ?_
    refine Ev.iconst (pc := 120) (v := 0) dX9_told_120 ki_0 ?_
    obtain ⟨x8, σ9, g10, h⟩ := bd_elim h
    refine Ev.cVi (pc := 121) (k := 23) (av := [vI 0]) (rest := []) dX9_told_121 ce_X1_setOf ml_X9_129 rfl sh_23 cl_X1 sh_sc (Nat.le_of_ble_eq_true rfl) (Nat.le_of_ble_eq_true rfl) (r_X1_setOf g10) ?_
    obtain ⟨h1, h2⟩ := oeq h
    subst h1
    subst h2
    exact Ev.ret_i (pc := 124) dX9_told_124 rfl rfl
  replace h := (if_neg c7).symm.trans h
  by_cases c11 : a1 = 7
  · replace h := (if_pos c11).symm.trans h
    refine Ev.swC (pc := 1) (c := 7) (tgt := 125) dX9_told_1 c11 (by decide) (by decide) rfl rfl ?_
    refine Ev.aload_n (pc := 125) dX9_told_125 rfl rfl ?_
    refine Ev.getR (pc := 126) dX9_told_126 fl_X9_31 sh_0 rfl ?_
    refine Ev.iconst (pc := 129) (v := 1) dX9_told_129 ki_1 ?_
    obtain ⟨x12, σ13, g14, h⟩ := bd_elim h
    refine Ev.cVi (pc := 130) (k := 23) (av := [vI 1]) (rest := []) dX9_told_130 ce_X1_setOf ml_X9_129 rfl sh_23 cl_X1 sh_sc (Nat.le_of_ble_eq_true rfl) (Nat.le_of_ble_eq_true rfl) (r_X1_setOf g14) ?_
    obtain ⟨h1, h2⟩ := oeq h
    subst h1
    subst h2
    exact Ev.ret_i (pc := 133) dX9_told_133 rfl rfl
  replace h := (if_neg c11).symm.trans h
  by_cases c15 : a1 = 8
  · replace h := (if_pos c15).symm.trans h
    refine Ev.swC (pc := 1) (c := 8) (tgt := 134) dX9_told_1 c15 (by decide) (by decide) rfl rfl ?_
    refine Ev.aload_n (pc := 134) dX9_told_134 rfl rfl ?_
    refine Ev.getR (pc := 135) dX9_told_135 fl_X9_31 sh_0 rfl ?_
    refine Ev.iconst (pc := 138) (v := 2) dX9_told_138 ki_2 ?_
    obtain ⟨x16, σ17, g18, h⟩ := bd_elim h
    refine Ev.cVi (pc := 139) (k := 23) (av := [vI 2]) (rest := []) dX9_told_139 ce_X1_setOf ml_X9_129 rfl sh_23 cl_X1 sh_sc (Nat.le_of_ble_eq_true rfl) (Nat.le_of_ble_eq_true rfl) (r_X1_setOf g18) ?_
    obtain ⟨h1, h2⟩ := oeq h
    subst h1
    subst h2
    exact Ev.ret_i (pc := 142) dX9_told_142 rfl rfl
  replace h := (if_neg c15).symm.trans h
  by_cases c19 : a1 = 9
  · replace h := (if_pos c19).symm.trans h
    refine Ev.swC (pc := 1) (c := 9) (tgt := 143) dX9_told_1 c19 (by decide) (by decide) rfl rfl ?_
    refine Ev.aload_n (pc := 143) dX9_told_143 rfl rfl ?_
    refine Ev.getR (pc := 144) dX9_told_144 fl_X9_31 sh_0 rfl ?_
    refine Ev.iconst (pc := 147) (v := 3) dX9_told_147 ki_3 ?_
    obtain ⟨x20, σ21, g22, h⟩ := bd_elim h
    refine Ev.cVi (pc := 148) (k := 23) (av := [vI 3]) (rest := []) dX9_told_148 ce_X1_setOf ml_X9_129 rfl sh_23 cl_X1 sh_sc (Nat.le_of_ble_eq_true rfl) (Nat.le_of_ble_eq_true rfl) (r_X1_setOf g22) ?_
    obtain ⟨h1, h2⟩ := oeq h
    subst h1
    subst h2
    exact Ev.ret_i (pc := 151) dX9_told_151 rfl rfl
  replace h := (if_neg c19).symm.trans h
  by_cases c23 : a1 = 10
  · replace h := (if_pos c23).symm.trans h
    refine Ev.swC (pc := 1) (c := 10) (tgt := 152) dX9_told_1 c23 (by decide) (by decide) rfl rfl ?_
    refine Ev.aload_n (pc := 152) dX9_told_152 rfl rfl ?_
    refine Ev.getR (pc := 153) dX9_told_153 fl_X9_77 sh_0 rfl ?_
    refine Ev.getI (pc := 156) dX9_told_156 fl_X9_132 sh_74 rfl ?_
    obtain ⟨h1, h2⟩ := oeq h
    subst h1
    subst h2
    exact Ev.ret_i (pc := 159) dX9_told_159 rfl rfl
  replace h := (if_neg c23).symm.trans h
  by_cases c24 : a1 = 11
  · replace h := (if_pos c24).symm.trans h
    refine Ev.swC (pc := 1) (c := 11) (tgt := 160) dX9_told_1 c24 (by decide) (by decide) rfl rfl ?_
    refine Ev.aload_n (pc := 160) dX9_told_160 rfl rfl ?_
    refine Ev.getR (pc := 161) dX9_told_161 fl_X9_38 sh_0 rfl ?_
    refine Ev.getI (pc := 164) dX9_told_164 fl_X9_135 sh_25 rfl ?_
    obtain ⟨h1, h2⟩ := oeq h
    subst h1
    subst h2
    exact Ev.ret_i (pc := 167) dX9_told_167 rfl rfl
  replace h := (if_neg c24).symm.trans h
  by_cases c25 : a1 = 12
  · replace h := (if_pos c25).symm.trans h
    refine Ev.swC (pc := 1) (c := 12) (tgt := 168) dX9_told_1 c25 (by decide) (by decide) rfl rfl ?_
    refine Ev.aload_n (pc := 168) dX9_told_168 rfl rfl ?_
    refine Ev.getR (pc := 169) dX9_told_169 fl_X9_10 sh_0 rfl ?_
    refine Ev.aload_n (pc := 172) dX9_told_172 rfl rfl ?_
    refine Ev.getR (pc := 173) dX9_told_173 fl_X9_31 sh_0 rfl ?_
    refine Ev.cVi (pc := 176) (k := 23) (av := []) (rest := [vR 1]) dX9_told_176 ce_X1_today ml_X9_125 rfl sh_23 cl_X1 sh_sc (Nat.le_of_ble_eq_true rfl) (Nat.le_of_ble_eq_true rfl) (r_X1_today_23  _) ?_
    obtain ⟨x26, σ27, g28, h⟩ := bd_elim h
    refine Ev.cVi (pc := 179) (k := 1) (av := [vI (p_X1_today_23 σ)]) (rest := []) dX9_told_179 ce_X5_isWinter ml_X9_138 rfl sh_1 cl_X5 sh_sc (Nat.le_of_ble_eq_true rfl) (Nat.le_of_ble_eq_true rfl) (r_X5_isWinter g28) ?_
    by_cases c29 : x26 = 0
    · replace h := (if_pos c29).symm.trans h
      refine Ev.if_eq_t (pc := 182) (tgt := 189) dX9_told_182 rfl c29 ?_
      refine Ev.iconst (pc := 189) (v := 0) dX9_told_189 ki_0 ?_
      obtain ⟨h1, h2⟩ := oeq h
      subst h1
      subst h2
      exact Ev.ret_i (pc := 190) dX9_told_190 rfl rfl
    · replace h := (if_neg c29).symm.trans h
      refine Ev.if_eq_f (pc := 182) dX9_told_182 ⟨189, rfl⟩ c29 ?_
      refine Ev.iconst (pc := 185) (v := 1) dX9_told_185 ki_1 ?_
      refine Ev.goto (pc := 186) (tgt := 190) dX9_told_186 rfl ?_
      obtain ⟨h1, h2⟩ := oeq h
      subst h1
      subst h2
      exact Ev.ret_i (pc := 190) dX9_told_190 rfl rfl
  replace h := (if_neg c25).symm.trans h
  refine Ev.swD (pc := 1) (tgt := 191) (tl := [0, 1, 2, 3, 4, 5, 6, 7, 8, 9, 10, 11, 12]) dX9_told_1 (not_mem_cons9 (neI c1 rfl) (not_mem_cons9 (neI c2 rfl) (not_mem_cons9 (neI c3 rfl) (not_mem_cons9 (neI c4 rfl) (not_mem_cons9 (neI c5 rfl) (not_mem_cons9 (neI c6 rfl) (not_mem_cons9 (neI c7 rfl) (not_mem_cons9 (neI c11 rfl) (not_mem_cons9 (neI c15 rfl) (not_mem_cons9 (neI c19 rfl) (not_mem_cons9 (neI c23 rfl) (not_mem_cons9 (neI c24 rfl) (not_mem_cons9 (neI c25 rfl) (not_mem_nil9)))))))))))))) rfl rfl rfl ?_
  refine Ev.ldc (pc := 191) dX9_told_191 kc_X9_81 ?_
  obtain ⟨h1, h2⟩ := oeq h
  subst h1
  subst h2
  exact Ev.ret_i (pc := 193) dX9_told_193 rfl rfl
theorem r_X9_told {N : Nat} {a1 : Int32} {σ : St} {v : Int32} {w : St} (h : o_X9_told N a1 σ = some (v, w)) : Rn md_X9_told 3 [vR 0, vI a1] SH σ (some (vI v), SH, w) := Rn.of ce_X9_told.1 (Nat.le_of_ble_eq_true rfl) (e_X9_told N _ _ _ _ h)
def p_X10_one (a0 : Int32) (σ : St) : Int32 := if a0 = 0 then 0 else 1
theorem e_X10_one (a0 : Int32) (σ : St) (v : Int32) (h : p_X10_one a0 σ = v) : Ev md_X10_one 0 0 (lvE [vI a0] 1) [] SH σ (some (vI v), SH, σ) := by
  show Ev md_X10_one 0 0 [some (vI a0)] [] SH σ (some (vI v), SH, σ)
  unfold p_X10_one at h
  refine Ev.iload_n (pc := 0) dX10_one_0 rfl rfl ?_
  by_cases c1 : a0 = 0
  · replace h := (if_pos c1).symm.trans h
    refine Ev.if_eq_t (pc := 1) (tgt := 8) dX10_one_1 rfl c1 ?_
    refine Ev.iconst (pc := 8) (v := 0) dX10_one_8 ki_0 ?_
    subst h
    exact Ev.ret_i (pc := 9) dX10_one_9 rfl rfl
  · replace h := (if_neg c1).symm.trans h
    refine Ev.if_eq_f (pc := 1) dX10_one_1 ⟨8, rfl⟩ c1 ?_
    refine Ev.iconst (pc := 4) (v := 1) dX10_one_4 ki_1 ?_
    refine Ev.goto (pc := 5) (tgt := 9) dX10_one_5 rfl ?_
    subst h
    exact Ev.ret_i (pc := 9) dX10_one_9 rfl rfl
theorem r_X10_one (a0 : Int32) (σ : St) : Rn md_X10_one 0 [vI a0] SH σ (some (vI (p_X10_one a0 σ)), SH, σ) := Rn.of ce_X10_one.1 (Nat.le_of_ble_eq_true rfl) (e_X10_one _ _ _ rfl)
def j_X10_inWay_28 (N : Nat) (K_4 : Int32 → Int32 → Int32 → St → Option (Int32 × St)) (v1 : Int32) (v3 : Int32) (s0 : Int32) (s1 : Int32) (σ : St) : Option (Int32 × St) := bt (s0 ||| ((p_X10_one s1 σ) <<< (v3 &&& 31))) fun x1 => bt (v3 + 1) fun x2 => K_4 v1 x1 x2 σ
def l_X10_inWay_4 (N : Nat) : Nat → Int32 → Int32 → Int32 → St → Option (Int32 × St)
  | 0, _, _, _, _ => none
  | n + 1, v1, v2, v3, σ => if (σ 79 5) ≤ v3 then (some (v2, σ)) else (ckA v3 1360 (if (σ 80 v3.toNatClampNeg) = v1 then (j_X10_inWay_28 N (l_X10_inWay_4 N n) v1 v3 v2 1 σ) else (j_X10_inWay_28 N (l_X10_inWay_4 N n) v1 v3 v2 0 σ)))
def o_X10_inWay (N : Nat) (a1 : Int32) (σ : St) : Option (Int32 × St) := l_X10_inWay_4 N N a1 0 0 σ
theorem lj_X10_inWay_28 (N : Nat) (K_4 : Int32 → Int32 → Int32 → St → Option (Int32 × St)) (hK_4 : ∀ (v1 : Int32) (v2 : Int32) (v3 : Int32) (σ : St) (v : Int32) (w : St), K_4 v1 v2 v3 σ = some (v, w) → Ev md_X10_inWay 1 4 [some (vR 79), some (vI v1), some (vI v2), some (vI v3)] [] SH σ (some (vI v), SH, w)) (v1 : Int32) (v3 : Int32) (s0 : Int32) (s1 : Int32) (σ : St) (v : Int32) (w : St) (h : j_X10_inWay_28 N K_4 v1 v3 s0 s1 σ = some (v, w)) : Ev md_X10_inWay 1 28 [some (vR 79), some (vI v1), none, some (vI v3)] [vI s1, vI s0] SH σ (some (vI v), SH, w) := by
  unfold j_X10_inWay_28 at h
  refine Ev.cTi (pc := 28) (av := [vI s1]) (rest := [vI s0]) dX10_inWay_28 ce_X10_one ml_X10_191 rfl sh_sc (Nat.le_of_ble_eq_true rfl) (Nat.le_of_ble_eq_true rfl) (r_X10_one _ _) ?_
  refine Ev.iload_n (pc := 31) dX10_inWay_31 rfl rfl ?_
  refine Ev.ishl (pc := 32) dX10_inWay_32 ?_
  refine Ev.ior (pc := 33) dX10_inWay_33 ?_
  refine Ev.nmI (fun x1 e9 => ?_)
  replace h := bt_app h x1 e9
  refine Ev.istore_n (pc := 34) (lv' := [some (vR 79), some (vI v1), some (vI x1), some (vI v3)]) dX10_inWay_34 rfl (lt9 rfl) rfl rfl ?_
  obtain ⟨x2, e_x2, h⟩ := bt_elim h
  refine Ev.iinc (pc := 35) (v := x2) (lv' := [some (vR 79), some (vI v1), some (vI x1), some (vI x2)]) dX10_inWay_35 rfl (by rw [ki_1, e_x2]) (lt9 rfl) rfl rfl ?_
  refine Ev.goto (pc := 38) (tgt := 4) dX10_inWay_38 rfl ?_
  exact Ev.weak2 (hK_4 _ _ _ _ _ _ h) (lsubS (lsubS (lsubS (lsubS lsubE))))
theorem ll_X10_inWay_4 (N : Nat) : ∀ (n : Nat) (v1 : Int32) (v2 : Int32) (v3 : Int32) (σ : St) (v : Int32) (w : St), l_X10_inWay_4 N n v1 v2 v3 σ = some (v, w) → Ev md_X10_inWay 1 4 [some (vR 79), some (vI v1), some (vI v2), some (vI v3)] [] SH σ (some (vI v), SH, w) := by
  intro n
  induction n with
  | zero =>
    intro v1 v2 v3 σ v w h
    rw [l_X10_inWay_4] at h
    cases h
  | succ n ih =>
    intro v1 v2 v3 σ v w h
    rw [l_X10_inWay_4] at h
    refine Ev.iload_n (pc := 4) dX10_inWay_4 rfl rfl ?_
    refine Ev.aload_n (pc := 5) dX10_inWay_5 rfl rfl ?_
    refine Ev.getI (pc := 6) dX10_inWay_6 fl_X10_175 sh_79 rfl ?_
    by_cases c1 : (σ 79 5) ≤ v3
    · replace h := (if_pos c1).symm.trans h
      refine Ev.icmp_ge_t (pc := 9) (tgt := 41) dX10_inWay_9 rfl c1 ?_
      refine Ev.iload_n (pc := 41) dX10_inWay_41 rfl rfl ?_
      obtain ⟨h1, h2⟩ := oeq h
      subst h1
      subst h2
      exact Ev.ret_i (pc := 42) dX10_inWay_42 rfl rfl
    · replace h := (if_neg c1).symm.trans h
      refine Ev.icmp_ge_f (pc := 9) dX10_inWay_9 ⟨41, rfl⟩ c1 ?_
      refine Ev.iload_n (pc := 12) dX10_inWay_12 rfl rfl ?_
      refine Ev.aload_n (pc := 13) dX10_inWay_13 rfl rfl ?_
      refine Ev.getR (pc := 14) dX10_inWay_14 fl_X10_7 sh_79 rfl ?_
      refine Ev.iload_n (pc := 17) dX10_inWay_17 rfl rfl ?_
      obtain ⟨c2, h⟩ := ckA_elim h
      refine Ev.iald (pc := 18) dX10_inWay_18 sh_80 c2 ?_
      refine Ev.iload_n (pc := 19) dX10_inWay_19 rfl rfl ?_
      by_cases c3 : (σ 80 v3.toNatClampNeg) = v1
      · replace h := (if_pos c3).symm.trans h
        refine Ev.icmp_ne_f (pc := 20) dX10_inWay_20 ⟨27, rfl⟩ c3 ?_
        refine Ev.iconst (pc := 23) (v := 1) dX10_inWay_23 ki_1 ?_
        refine Ev.goto (pc := 24) (tgt := 28) dX10_inWay_24 rfl ?_
        exact Ev.weak2 (lj_X10_inWay_28 N (l_X10_inWay_4 N n) ih _ _ _ _ _ _ _ h) (lsubS (lsubS (lsubN (lsubS lsubE))))
      · replace h := (if_neg c3).symm.trans h
        refine Ev.icmp_ne_t (pc := 20) (tgt := 27) dX10_inWay_20 rfl c3 ?_
        refine Ev.iconst (pc := 27) (v := 0) dX10_inWay_27 ki_0 ?_
        exact Ev.weak2 (lj_X10_inWay_28 N (l_X10_inWay_4 N n) ih _ _ _ _ _ _ _ h) (lsubS (lsubS (lsubN (lsubS lsubE))))
theorem e_X10_inWay (N : Nat) (a1 : Int32) (σ : St) (v : Int32) (w : St) (h : o_X10_inWay N a1 σ = some (v, w)) : Ev md_X10_inWay 1 0 (lvE [vR 79, vI a1] 4) [] SH σ (some (vI v), SH, w) := by
  show Ev md_X10_inWay 1 0 [some (vR 79), some (vI a1), none, none] [] SH σ (some (vI v), SH, w)
  unfold o_X10_inWay at h
  refine Ev.iconst (pc := 0) (v := 0) dX10_inWay_0 ki_0 ?_
  refine Ev.istore_n (pc := 1) (lv' := [some (vR 79), some (vI a1), some (vI 0), none]) dX10_inWay_1 rfl (lt9 rfl) rfl rfl ?_
  refine Ev.iconst (pc := 2) (v := 0) dX10_inWay_2 ki_0 ?_
  refine Ev.istore_n (pc := 3) (lv' := [some (vR 79), some (vI a1), some (vI 0), some (vI 0)]) dX10_inWay_3 rfl (lt9 rfl) rfl rfl ?_
  exact Ev.weak2 (ll_X10_inWay_4 N N _ _ _ _ _ _ h) (lsubS (lsubS (lsubS (lsubS lsubE))))
theorem r_X10_inWay {N : Nat} {a1 : Int32} {σ : St} {v : Int32} {w : St} (h : o_X10_inWay N a1 σ = some (v, w)) : Rn md_X10_inWay 1 [vR 79, vI a1] SH σ (some (vI v), SH, w) := Rn.of ce_X10_inWay.1 (Nat.le_of_ble_eq_true rfl) (e_X10_inWay N _ _ _ _ h)
def j_X10_isWinter_20 (N : Nat) (v1 : Int32) (s0 : Int32) (σ : St) : Option (Int32 × St) := ckDI s0 (ckDI s0 (if (σ 92 (1 : Int32).toNatClampNeg) ≤ ((((v1 - (σ 92 (0 : Int32).toNatClampNeg)) - (v1 - (σ 92 (0 : Int32).toNatClampNeg)) / s0 * s0) + s0) - (((v1 - (σ 92 (0 : Int32).toNatClampNeg)) - (v1 - (σ 92 (0 : Int32).toNatClampNeg)) / s0 * s0) + s0) / s0 * s0) then (some (0, σ)) else (some (1, σ))))
def o_X10_isWinter (N : Nat) (a1 : Int32) (σ : St) : Option (Int32 × St) := if (2 : Int32) ≤ (σ 92 (2 : Int32).toNatClampNeg) then (j_X10_isWinter_20 N a1 (σ 92 (2 : Int32).toNatClampNeg) σ) else (j_X10_isWinter_20 N a1 2 σ)
theorem lj_X10_isWinter_20 (N : Nat) (v1 : Int32) (s0 : Int32) (σ : St) (v : Int32) (w : St) (h : j_X10_isWinter_20 N v1 s0 σ = some (v, w)) : Ev md_X10_isWinter 0 20 [some (vR 79), some (vI v1), none] [vI s0] SH σ (some (vI v), SH, w) := by
  unfold j_X10_isWinter_20 at h
  refine Ev.istore_n (pc := 20) (lv' := [some (vR 79), some (vI v1), some (vI s0)]) dX10_isWinter_20 rfl (lt9 rfl) rfl rfl ?_
  refine Ev.iload_n (pc := 21) dX10_isWinter_21 rfl rfl ?_
  refine Ev.aload_n (pc := 22) dX10_isWinter_22 rfl rfl ?_
  refine Ev.getR (pc := 23) dX10_isWinter_23 fl_X10_47 sh_79 rfl ?_
  refine Ev.iconst (pc := 26) (v := 0) dX10_isWinter_26 ki_0 ?_
  refine Ev.iald (pc := 27) dX10_isWinter_27 sh_92 in_0_6 ?_
  refine Ev.isub (pc := 28) dX10_isWinter_28 ?_
  refine Ev.iload_n (pc := 29) dX10_isWinter_29 rfl rfl ?_
  obtain ⟨c1, h⟩ := ckDI_elim h
  refine Ev.irem (pc := 30) dX10_isWinter_30 c1 ?_
  refine Ev.iload_n (pc := 31) dX10_isWinter_31 rfl rfl ?_
  refine Ev.iadd (pc := 32) dX10_isWinter_32 ?_
  refine Ev.iload_n (pc := 33) dX10_isWinter_33 rfl rfl ?_
  obtain ⟨c2, h⟩ := ckDI_elim h
  refine Ev.irem (pc := 34) dX10_isWinter_34 c2 ?_
  refine Ev.aload_n (pc := 35) dX10_isWinter_35 rfl rfl ?_
  refine Ev.getR (pc := 36) dX10_isWinter_36 fl_X10_47 sh_79 rfl ?_
  refine Ev.iconst (pc := 39) (v := 1) dX10_isWinter_39 ki_1 ?_
  refine Ev.iald (pc := 40) dX10_isWinter_40 sh_92 in_1_6 ?_
  by_cases c3 : (σ 92 (1 : Int32).toNatClampNeg) ≤ ((((v1 - (σ 92 (0 : Int32).toNatClampNeg)) - (v1 - (σ 92 (0 : Int32).toNatClampNeg)) / s0 * s0) + s0) - (((v1 - (σ 92 (0 : Int32).toNatClampNeg)) - (v1 - (σ 92 (0 : Int32).toNatClampNeg)) / s0 * s0) + s0) / s0 * s0)
  · replace h := (if_pos c3).symm.trans h
    refine Ev.icmp_ge_t (pc := 41) (tgt := 48) dX10_isWinter_41 rfl c3 ?_
    refine Ev.iconst (pc := 48) (v := 0) dX10_isWinter_48 ki_0 ?_
    obtain ⟨h1, h2⟩ := oeq h
    subst h1
    subst h2
    exact Ev.ret_i (pc := 49) dX10_isWinter_49 rfl nb_0
  · replace h := (if_neg c3).symm.trans h
    refine Ev.icmp_ge_f (pc := 41) dX10_isWinter_41 ⟨48, rfl⟩ c3 ?_
    refine Ev.iconst (pc := 44) (v := 1) dX10_isWinter_44 ki_1 ?_
    refine Ev.goto (pc := 45) (tgt := 49) dX10_isWinter_45 rfl ?_
    obtain ⟨h1, h2⟩ := oeq h
    subst h1
    subst h2
    exact Ev.ret_i (pc := 49) dX10_isWinter_49 rfl nb_1
theorem e_X10_isWinter (N : Nat) (a1 : Int32) (σ : St) (v : Int32) (w : St) (h : o_X10_isWinter N a1 σ = some (v, w)) : Ev md_X10_isWinter 0 0 (lvE [vR 79, vI a1] 3) [] SH σ (some (vI v), SH, w) := by
  show Ev md_X10_isWinter 0 0 [some (vR 79), some (vI a1), none] [] SH σ (some (vI v), SH, w)
  unfold o_X10_isWinter at h
  refine Ev.aload_n (pc := 0) dX10_isWinter_0 rfl rfl ?_
  refine Ev.getR (pc := 1) dX10_isWinter_1 fl_X10_47 sh_79 rfl ?_
  refine Ev.iconst (pc := 4) (v := 2) dX10_isWinter_4 ki_2 ?_
  refine Ev.iald (pc := 5) dX10_isWinter_5 sh_92 in_2_6 ?_
  refine Ev.iconst (pc := 6) (v := 2) dX10_isWinter_6 ki_2 ?_
  by_cases c1 : (2 : Int32) ≤ (σ 92 (2 : Int32).toNatClampNeg)
  · replace h := (if_pos c1).symm.trans h
    refine Ev.icmp_ge_t (pc := 7) (tgt := 14) dX10_isWinter_7 rfl c1 ?_
    refine Ev.aload_n (pc := 14) dX10_isWinter_14 rfl rfl ?_
    refine Ev.getR (pc := 15) dX10_isWinter_15 fl_X10_47 sh_79 rfl ?_
    refine Ev.iconst (pc := 18) (v := 2) dX10_isWinter_18 ki_2 ?_
    refine Ev.iald (pc := 19) dX10_isWinter_19 sh_92 in_2_6 ?_
    exact Ev.weak2 (lj_X10_isWinter_20 N _ _ _ _ _ h) (lsubS (lsubS (lsubN lsubE)))
  · replace h := (if_neg c1).symm.trans h
    refine Ev.icmp_ge_f (pc := 7) dX10_isWinter_7 ⟨14, rfl⟩ c1 ?_
    refine Ev.iconst (pc := 10) (v := 2) dX10_isWinter_10 ki_2 ?_
    refine Ev.goto (pc := 11) (tgt := 20) dX10_isWinter_11 rfl ?_
    exact Ev.weak2 (lj_X10_isWinter_20 N _ _ _ _ _ h) (lsubS (lsubS (lsubN lsubE)))
theorem r_X10_isWinter {N : Nat} {a1 : Int32} {σ : St} {v : Int32} {w : St} (h : o_X10_isWinter N a1 σ = some (v, w)) : Rn md_X10_isWinter 0 [vR 79, vI a1] SH σ (some (vI v), SH, w) := Rn.of ce_X10_isWinter.1 (Nat.le_of_ble_eq_true rfl) (e_X10_isWinter N _ _ _ _ h)
def o_X10_told (N : Nat) (a1 : Int32) (σ : St) : Option (Int32 × St) := if a1 = 0 then (some ((σ 79 2), σ)) else if a1 = 1 then (some ((σ 79 3), σ)) else if a1 = 2 then (some ((σ 79 4), σ)) else if a1 = 3 then (some ((σ 79 5), σ)) else if a1 = 4 then (some ((σ 79 23), σ)) else if a1 = 5 then (some ((σ 80 (37 : Int32).toNatClampNeg), σ)) else if a1 = 6 then (bd (o_X10_inWay N 0 σ) fun x8 σ9 => some (x8, σ9)) else if a1 = 7 then (bd (o_X10_inWay N 1 σ) fun x12 σ13 => some (x12, σ13)) else if a1 = 8 then (bd (o_X10_inWay N 2 σ) fun x16 σ17 => some (x16, σ17)) else if a1 = 9 then (bd (o_X10_inWay N 3 σ) fun x20 σ21 => some (x20, σ21)) else if a1 = 10 then (some ((σ 79 44), σ)) else if a1 = 11 then (some ((σ 79 28), σ)) else if a1 = 12 then (bd (o_X10_isWinter N (σ 80 (37 : Int32).toNatClampNeg) σ) fun x26 σ27 => some ((p_X10_one x26 σ27), σ27)) else (some ((-1000000002), σ))
theorem e_X10_told (N : Nat) (a1 : Int32) (σ : St) (v : Int32) (w : St) (h : o_X10_told N a1 σ = some (v, w)) : Ev md_X10_told 2 0 (lvE [vR 79, vI a1] 2) [] SH σ (some (vI v), SH, w) := by
  show Ev md_X10_told 2 0 [some (vR 79), some (vI a1)] [] SH σ (some (vI v), SH, w)
  unfold o_X10_told at h
  refine Ev.iload_n (pc := 0) dX10_told_0 rfl rfl ?_
  by_cases c1 : a1 = 0
  · replace h := (if_pos c1).symm.trans h
    refine Ev.swC (pc := 1) (c := 0) (tgt := 68) dX10_told_1 c1 (by decide) (by decide) rfl rfl ?_
    refine Ev.aload_n (pc := 68) dX10_told_68 rfl rfl ?_
    refine Ev.getI (pc := 69) dX10_told_69 fl_X10_166 sh_79 rfl ?_
    obtain ⟨h1, h2⟩ := oeq h
    subst h1
    subst h2
    exact Ev.ret_i (pc := 72) dX10_told_72 rfl rfl
  replace h := (if_neg c1).symm.trans h
  by_cases c2 : a1 = 1
  · replace h := (if_pos c2).symm.trans h
    refine Ev.swC (pc := 1) (c := 1) (tgt := 73) dX10_told_1 c2 (by decide) (by decide) rfl rfl ?_
    refine Ev.aload_n (pc := 73) dX10_told_73 rfl rfl ?_
    refine Ev.getI (pc := 74) dX10_told_74 fl_X10_169 sh_79 rfl ?_
    obtain ⟨h1, h2⟩ := oeq h
    subst h1
    subst h2
    exact Ev.ret_i (pc := 77) dX10_told_77 rfl rfl
  replace h := (if_neg c2).symm.trans h
  by_cases c3 : a1 = 2
  · replace h := (if_pos c3).symm.trans h
    refine Ev.swC (pc := 1) (c := 2) (tgt := 78) dX10_told_1 c3 (by decide) (by decide) rfl rfl ?_
    refine Ev.aload_n (pc := 78) dX10_told_78 rfl rfl ?_
    refine Ev.getI (pc := 79) dX10_told_79 fl_X10_172 sh_79 rfl ?_
    obtain ⟨h1, h2⟩ := oeq h
    subst h1
    subst h2
    exact Ev.ret_i (pc := 82) dX10_told_82 rfl rfl
  replace h := (if_neg c3).symm.trans h
  by_cases c4 : a1 = 3
  · replace h := (if_pos c4).symm.trans h
    refine Ev.swC (pc := 1) (c := 3) (tgt := 83) dX10_told_1 c4 (by decide) (by decide) rfl rfl ?_
    refine Ev.aload_n (pc := 83) dX10_told_83 rfl rfl ?_
    refine Ev.getI (pc := 84) dX10_told_84 fl_X10_175 sh_79 rfl ?_
    obtain ⟨h1, h2⟩ := oeq h
    subst h1
    subst h2
    exact Ev.ret_i (pc := 87) dX10_told_87 rfl rfl
  replace h := (if_neg c4).symm.trans h
  by_cases c5 : a1 = 4
  · replace h := (if_pos c5).symm.trans h
    refine Ev.swC (pc := 1) (c := 4) (tgt := 88) dX10_told_1 c5 (by decide) (by decide) rfl rfl ?_
    refine Ev.aload_n (pc := 88) dX10_told_88 rfl rfl ?_
    refine Ev.getI (pc := 89) dX10_told_89 fl_X10_94 sh_79 rfl ?_
    obtain ⟨h1, h2⟩ := oeq h
    subst h1
    subst h2
    exact Ev.ret_i (pc := 92) dX10_told_92 rfl rfl
  replace h := (if_neg c5).symm.trans h
  by_cases c6 : a1 = 5
  · replace h := (if_pos c6).symm.trans h
    refine Ev.swC (pc := 1) (c := 5) (tgt := 93) dX10_told_1 c6 (by decide) (by decide) rfl rfl ?_
    refine Ev.aload_n (pc := 93) dX10_told_93 rfl rfl ?_
    refine Ev.getR (pc := 94) dX10_told_94 fl_X10_7 sh_79 rfl ?_
    refine Ev.bipush (pc := 97) (v := 37) dX10_told_97 kb_37 ?_
    refine Ev.iald (pc := 99) dX10_told_99 sh_80 in_37_1360 ?_
    obtain ⟨h1, h2⟩ := oeq h
    subst h1
    subst h2
    exact Ev.ret_i (pc := 100) dX10_told_100 rfl rfl
  replace h := (if_neg c6).symm.trans h
  by_cases c7 : a1 = 6
  · replace h := (if_pos c7).symm.trans h
    refine Ev.swC (pc := 1) (c := 6) (tgt := 101) dX10_told_1 c7 (by decide) (by decide) rfl rfl ?_
    refine Ev.aload_n (pc := 101) dX10_told_101 rfl rfl ?_
    refine Ev.iconst (pc := 102) (v := 0) dX10_told_102 ki_0 ?_
    obtain ⟨x8, σ9, g10, h⟩ := bd_elim h
    refine Ev.cVi (pc := 103) (k := 79) (av := [vI 0]) (rest := []) dX10_told_103 ce_X10_inWay ml_X10_198 rfl sh_79 cl_X10 sh_sc (Nat.le_of_ble_eq_true rfl) (Nat.le_of_ble_eq_true rfl) (r_X10_inWay g10) ?_
    obtain ⟨h1, h2⟩ := oeq h
    subst h1
    subst h2
    exact Ev.ret_i (pc := 106) dX10_told_106 rfl rfl
  replace h := (if_neg c7).symm.trans h
  by_cases c11 : a1 = 7
  · replace h := (if_pos c11).symm.trans h
    refine Ev.swC (pc := 1) (c := 7) (tgt := 107) dX10_told_1 c11 (by decide) (by decide) rfl rfl ?_
    refine Ev.aload_n (pc := 107) dX10_told_107 rfl rfl ?_
    refine Ev.iconst (pc := 108) (v := 1) dX10_told_108 ki_1 ?_
    obtain ⟨x12, σ13, g14, h⟩ := bd_elim h
    refine Ev.cVi (pc := 109) (k := 79) (av := [vI 1]) (rest := []) dX10_told_109 ce_X10_inWay ml_X10_198 rfl sh_79 cl_X10 sh_sc (Nat.le_of_ble_eq_true rfl) (Nat.le_of_ble_eq_true rfl) (r_X10_inWay g14) ?_
    obtain ⟨h1, h2⟩ := oeq h
    subst h1
    subst h2
    exact Ev.ret_i (pc := 112) dX10_told_112 rfl rfl
  replace h := (if_neg c11).symm.trans h
  by_cases c15 : a1 = 8
  · replace h := (if_pos c15).symm.trans h
    refine Ev.swC (pc := 1) (c := 8) (tgt := 113) dX10_told_1 c15 (by decide) (by decide) rfl rfl ?_
    refine Ev.aload_n (pc := 113) dX10_told_113 rfl rfl ?_
    refine Ev.iconst (pc := 114) (v := 2) dX10_told_114 ki_2 ?_
    obtain ⟨x16, σ17, g18, h⟩ := bd_elim h
    refine Ev.cVi (pc := 115) (k := 79) (av := [vI 2]) (rest := []) dX10_told_115 ce_X10_inWay ml_X10_198 rfl sh_79 cl_X10 sh_sc (Nat.le_of_ble_eq_true rfl) (Nat.le_of_ble_eq_true rfl) (r_X10_inWay g18) ?_
    obtain ⟨h1, h2⟩ := oeq h
    subst h1
    subst h2
    exact Ev.ret_i (pc := 118) dX10_told_118 rfl rfl
  replace h := (if_neg c15).symm.trans h
  by_cases c19 : a1 = 9
  · replace h := (if_pos c19).symm.trans h
    refine Ev.swC (pc := 1) (c := 9) (tgt := 119) dX10_told_1 c19 (by decide) (by decide) rfl rfl ?_
    refine Ev.aload_n (pc := 119) dX10_told_119 rfl rfl ?_
    refine Ev.iconst (pc := 120) (v := 3) dX10_told_120 ki_3 ?_
    obtain ⟨x20, σ21, g22, h⟩ := bd_elim h
    refine Ev.cVi (pc := 121) (k := 79) (av := [vI 3]) (rest := []) dX10_told_121 ce_X10_inWay ml_X10_198 rfl sh_79 cl_X10 sh_sc (Nat.le_of_ble_eq_true rfl) (Nat.le_of_ble_eq_true rfl) (r_X10_inWay g22) ?_
    obtain ⟨h1, h2⟩ := oeq h
    subst h1
    subst h2
    exact Ev.ret_i (pc := 124) dX10_told_124 rfl rfl
  replace h := (if_neg c19).symm.trans h
  by_cases c23 : a1 = 10
  · replace h := (if_pos c23).symm.trans h
    refine Ev.swC (pc := 1) (c := 10) (tgt := 125) dX10_told_1 c23 (by decide) (by decide) rfl rfl ?_
    refine Ev.aload_n (pc := 125) dX10_told_125 rfl rfl ?_
    refine Ev.getI (pc := 126) dX10_told_126 fl_X10_181 sh_79 rfl ?_
    obtain ⟨h1, h2⟩ := oeq h
    subst h1
    subst h2
    exact Ev.ret_i (pc := 129) dX10_told_129 rfl rfl
  replace h := (if_neg c23).symm.trans h
  by_cases c24 : a1 = 11
  · replace h := (if_pos c24).symm.trans h
    refine Ev.swC (pc := 1) (c := 11) (tgt := 130) dX10_told_1 c24 (by decide) (by decide) rfl rfl ?_
    refine Ev.aload_n (pc := 130) dX10_told_130 rfl rfl ?_
    refine Ev.getI (pc := 131) dX10_told_131 fl_X10_184 sh_79 rfl ?_
    obtain ⟨h1, h2⟩ := oeq h
    subst h1
    subst h2
    exact Ev.ret_i (pc := 134) dX10_told_134 rfl rfl
  replace h := (if_neg c24).symm.trans h
  by_cases c25 : a1 = 12
  · replace h := (if_pos c25).symm.trans h
    refine Ev.swC (pc := 1) (c := 12) (tgt := 135) dX10_told_1 c25 (by decide) (by decide) rfl rfl ?_
    refine Ev.aload_n (pc := 135) dX10_told_135 rfl rfl ?_
    refine Ev.aload_n (pc := 136) dX10_told_136 rfl rfl ?_
    refine Ev.getR (pc := 137) dX10_told_137 fl_X10_7 sh_79 rfl ?_
    refine Ev.bipush (pc := 140) (v := 37) dX10_told_140 kb_37 ?_
    refine Ev.iald (pc := 142) dX10_told_142 sh_80 in_37_1360 ?_
    obtain ⟨x26, σ27, g28, h⟩ := bd_elim h
    refine Ev.cVi (pc := 143) (k := 79) (av := [vI (σ 80 (37 : Int32).toNatClampNeg)]) (rest := []) dX10_told_143 ce_X10_isWinter ml_X10_187 rfl sh_79 cl_X10 sh_sc (Nat.le_of_ble_eq_true rfl) (Nat.le_of_ble_eq_true rfl) (r_X10_isWinter g28) ?_
    refine Ev.cTi (pc := 146) (av := [vI x26]) (rest := []) dX10_told_146 ce_X10_one ml_X10_191 rfl sh_sc (Nat.le_of_ble_eq_true rfl) (Nat.le_of_ble_eq_true rfl) (r_X10_one _ _) ?_
    obtain ⟨h1, h2⟩ := oeq h
    subst h1
    subst h2
    exact Ev.ret_i (pc := 149) dX10_told_149 rfl rfl
  replace h := (if_neg c25).symm.trans h
  refine Ev.swD (pc := 1) (tgt := 150) (tl := [0, 1, 2, 3, 4, 5, 6, 7, 8, 9, 10, 11, 12]) dX10_told_1 (not_mem_cons9 (neI c1 rfl) (not_mem_cons9 (neI c2 rfl) (not_mem_cons9 (neI c3 rfl) (not_mem_cons9 (neI c4 rfl) (not_mem_cons9 (neI c5 rfl) (not_mem_cons9 (neI c6 rfl) (not_mem_cons9 (neI c7 rfl) (not_mem_cons9 (neI c11 rfl) (not_mem_cons9 (neI c15 rfl) (not_mem_cons9 (neI c19 rfl) (not_mem_cons9 (neI c23 rfl) (not_mem_cons9 (neI c24 rfl) (not_mem_cons9 (neI c25 rfl) (not_mem_nil9)))))))))))))) rfl rfl rfl ?_
  refine Ev.ldc (pc := 150) dX10_told_150 kc_X10_93 ?_
  obtain ⟨h1, h2⟩ := oeq h
  subst h1
  subst h2
  exact Ev.ret_i (pc := 152) dX10_told_152 rfl rfl
theorem r_X10_told {N : Nat} {a1 : Int32} {σ : St} {v : Int32} {w : St} (h : o_X10_told N a1 σ = some (v, w)) : Rn md_X10_told 2 [vR 79, vI a1] SH σ (some (vI v), SH, w) := Rn.of ce_X10_told.1 (Nat.le_of_ble_eq_true rfl) (e_X10_told N _ _ _ _ h)
def j_X5_hasTown_16  (σ : St) : Int32 := 0
def p_X5_hasTown (a1 : Int32) (σ : St) : Int32 := if a1 < 0 then (j_X5_hasTown_16 σ) else (if (σ 1 0) ≤ a1 then (j_X5_hasTown_16 σ) else 1)
theorem lj_X5_hasTown_16  (σ : St) (v : Int32) (h : j_X5_hasTown_16  σ = v) : Ev md_X5_hasTown 0 16 [none, none] [] SH σ (some (vI v), SH, σ) := by
  unfold j_X5_hasTown_16 at h
  refine Ev.iconst (pc := 16) (v := 0) dX5_hasTown_16 ki_0 ?_
  subst h
  exact Ev.ret_i (pc := 17) dX5_hasTown_17 rfl nb_0
theorem e_X5_hasTown (a1 : Int32) (σ : St) (v : Int32) (h : p_X5_hasTown a1 σ = v) : Ev md_X5_hasTown 0 0 (lvE [vR 1, vI a1] 2) [] SH σ (some (vI v), SH, σ) := by
  show Ev md_X5_hasTown 0 0 [some (vR 1), some (vI a1)] [] SH σ (some (vI v), SH, σ)
  unfold p_X5_hasTown at h
  refine Ev.iload_n (pc := 0) dX5_hasTown_0 rfl rfl ?_
  by_cases c1 : a1 < 0
  · replace h := (if_pos c1).symm.trans h
    refine Ev.if_lt_t (pc := 1) (tgt := 16) dX5_hasTown_1 rfl c1 ?_
    exact Ev.weak2 (lj_X5_hasTown_16 _ _ h) (lsubN (lsubN lsubE))
  · replace h := (if_neg c1).symm.trans h
    refine Ev.if_lt_f (pc := 1) dX5_hasTown_1 ⟨16, rfl⟩ c1 ?_
    refine Ev.iload_n (pc := 4) dX5_hasTown_4 rfl rfl ?_
    refine Ev.aload_n (pc := 5) dX5_hasTown_5 rfl rfl ?_
    refine Ev.getI (pc := 6) dX5_hasTown_6 fl_X5_39 sh_1 rfl ?_
    by_cases c2 : (σ 1 0) ≤ a1
    · replace h := (if_pos c2).symm.trans h
      refine Ev.icmp_ge_t (pc := 9) (tgt := 16) dX5_hasTown_9 rfl c2 ?_
      exact Ev.weak2 (lj_X5_hasTown_16 _ _ h) (lsubN (lsubN lsubE))
    · replace h := (if_neg c2).symm.trans h
      refine Ev.icmp_ge_f (pc := 9) dX5_hasTown_9 ⟨16, rfl⟩ c2 ?_
      refine Ev.iconst (pc := 12) (v := 1) dX5_hasTown_12 ki_1 ?_
      refine Ev.goto (pc := 13) (tgt := 17) dX5_hasTown_13 rfl ?_
      subst h
      exact Ev.ret_i (pc := 17) dX5_hasTown_17 rfl nb_1
theorem r_X5_hasTown (a1 : Int32) (σ : St) : Rn md_X5_hasTown 0 [vR 1, vI a1] SH σ (some (vI (p_X5_hasTown a1 σ)), SH, σ) := Rn.of ce_X5_hasTown.1 (Nat.le_of_ble_eq_true rfl) (e_X5_hasTown _ _ _ rfl)
def j_X5_distance_31  (σ : St) : Int32 := (-1)
def p_X5_distance (a1 : Int32) (a2 : Int32) (σ : St) : Int32 := if (p_X5_hasTown a1 σ) = 0 then (j_X5_distance_31 σ) else (if (p_X5_hasTown a2 σ) = 0 then (j_X5_distance_31 σ) else ((at_ σ 10 25 ((a1 * 5) + a2))))
theorem lj_X5_distance_31  (σ : St) (v : Int32) (h : j_X5_distance_31  σ = v) : Ev md_X5_distance 1 31 [none, none, none] [] SH σ (some (vI v), SH, σ) := by
  unfold j_X5_distance_31 at h
  refine Ev.iconst (pc := 31) (v := (-1)) dX5_distance_31 ki_m1 ?_
  subst h
  exact Ev.ret_i (pc := 32) dX5_distance_32 rfl rfl
theorem e_X5_distance (a1 : Int32) (a2 : Int32) (σ : St) (v : Int32) (h : p_X5_distance a1 a2 σ = v) : Ev md_X5_distance 1 0 (lvE [vR 1, vI a1, vI a2] 3) [] SH σ (some (vI v), SH, σ) := by
  show Ev md_X5_distance 1 0 [some (vR 1), some (vI a1), some (vI a2)] [] SH σ (some (vI v), SH, σ)
  unfold p_X5_distance at h
  refine Ev.aload_n (pc := 0) dX5_distance_0 rfl rfl ?_
  refine Ev.iload_n (pc := 1) dX5_distance_1 rfl rfl ?_
  refine Ev.cVi (pc := 2) (k := 1) (av := [vI a1]) (rest := []) dX5_distance_2 ce_X5_hasTown ml_X5_73 rfl sh_1 cl_X5 sh_sc (Nat.le_of_ble_eq_true rfl) (Nat.le_of_ble_eq_true rfl) (r_X5_hasTown _ _) ?_
  by_cases c1 : (p_X5_hasTown a1 σ) = 0
  · replace h := (if_pos c1).symm.trans h
    refine Ev.if_eq_t (pc := 5) (tgt := 31) dX5_distance_5 rfl c1 ?_
    exact Ev.weak2 (lj_X5_distance_31 _ _ h) (lsubN (lsubN (lsubN lsubE)))
  · replace h := (if_neg c1).symm.trans h
    refine Ev.if_eq_f (pc := 5) dX5_distance_5 ⟨31, rfl⟩ c1 ?_
    refine Ev.aload_n (pc := 8) dX5_distance_8 rfl rfl ?_
    refine Ev.iload_n (pc := 9) dX5_distance_9 rfl rfl ?_
    refine Ev.cVi (pc := 10) (k := 1) (av := [vI a2]) (rest := []) dX5_distance_10 ce_X5_hasTown ml_X5_73 rfl sh_1 cl_X5 sh_sc (Nat.le_of_ble_eq_true rfl) (Nat.le_of_ble_eq_true rfl) (r_X5_hasTown _ _) ?_
    by_cases c2 : (p_X5_hasTown a2 σ) = 0
    · replace h := (if_pos c2).symm.trans h
      refine Ev.if_eq_t (pc := 13) (tgt := 31) dX5_distance_13 rfl c2 ?_
      exact Ev.weak2 (lj_X5_distance_31 _ _ h) (lsubN (lsubN (lsubN lsubE)))
    · replace h := (if_neg c2).symm.trans h
      refine Ev.if_eq_f (pc := 13) dX5_distance_13 ⟨31, rfl⟩ c2 ?_
      refine Ev.aload_n (pc := 16) dX5_distance_16 rfl rfl ?_
      refine Ev.getR (pc := 17) dX5_distance_17 fl_X5_36 sh_1 rfl ?_
      refine Ev.iload_n (pc := 20) dX5_distance_20 rfl rfl ?_
      refine Ev.iconst (pc := 21) (v := 5) dX5_distance_21 ki_5 ?_
      refine Ev.imul (pc := 22) dX5_distance_22 ?_
      refine Ev.iload_n (pc := 23) dX5_distance_23 rfl rfl ?_
      refine Ev.iadd (pc := 24) dX5_distance_24 ?_
      refine Ev.cTi (pc := 25) (av := [vR 10, vI ((a1 * 5) + a2)]) (rest := []) dX5_distance_25 ce_X9_at ml_X5_65 rfl sh_sc (Nat.le_of_ble_eq_true rfl) (Nat.le_of_ble_eq_true rfl) (r_at sh_10 (by decide) _ _) ?_
      refine Ev.goto (pc := 28) (tgt := 32) dX5_distance_28 rfl ?_
      subst h
      exact Ev.ret_i (pc := 32) dX5_distance_32 rfl rfl
theorem r_X5_distance (a1 : Int32) (a2 : Int32) (σ : St) : Rn md_X5_distance 1 [vR 1, vI a1, vI a2] SH σ (some (vI (p_X5_distance a1 a2 σ)), SH, σ) := Rn.of ce_X5_distance.1 (Nat.le_of_ble_eq_true rfl) (e_X5_distance _ _ _ _ rfl)
def p_X9_far (a1 : Int32) (a2 : Int32) (σ : St) : Int32 := if (p_X5_hasTown a1 σ) = 0 then (-1000000001) else (if (p_X5_hasTown a2 σ) = 0 then (-1000000001) else ((p_X5_distance a1 a2 σ)))
theorem e_X9_far (a1 : Int32) (a2 : Int32) (σ : St) (v : Int32) (h : p_X9_far a1 a2 σ = v) : Ev md_X9_far 2 0 (lvE [vR 0, vI a1, vI a2] 3) [] SH σ (some (vI v), SH, σ) := by
  show Ev md_X9_far 2 0 [some (vR 0), some (vI a1), some (vI a2)] [] SH σ (some (vI v), SH, σ)
  unfold p_X9_far at h
  refine Ev.aload_n (pc := 0) dX9_far_0 rfl rfl ?_
  refine Ev.getR (pc := 1) dX9_far_1 fl_X9_10 sh_0 rfl ?_
  refine Ev.iload_n (pc := 4) dX9_far_4 rfl rfl ?_
  refine Ev.cVi (pc := 5) (k := 1) (av := [vI a1]) (rest := []) dX9_far_5 ce_X5_hasTown ml_X9_142 rfl sh_1 cl_X5 sh_sc (Nat.le_of_ble_eq_true rfl) (Nat.le_of_ble_eq_true rfl) (r_X5_hasTown _ _) ?_
  by_cases c1 : (p_X5_hasTown a1 σ) = 0
  · replace h := (if_pos c1).symm.trans h
    refine Ev.if_eq_t (pc := 8) (tgt := 22) dX9_far_8 rfl c1 ?_
    refine Ev.ldc (pc := 22) dX9_far_22 kc_X9_145 ?_
    subst h
    exact Ev.ret_i (pc := 24) dX9_far_24 rfl rfl
  · replace h := (if_neg c1).symm.trans h
    refine Ev.if_eq_f (pc := 8) dX9_far_8 ⟨22, rfl⟩ c1 ?_
    refine Ev.aload_n (pc := 11) dX9_far_11 rfl rfl ?_
    refine Ev.getR (pc := 12) dX9_far_12 fl_X9_10 sh_0 rfl ?_
    refine Ev.iload_n (pc := 15) dX9_far_15 rfl rfl ?_
    refine Ev.cVi (pc := 16) (k := 1) (av := [vI a2]) (rest := []) dX9_far_16 ce_X5_hasTown ml_X9_142 rfl sh_1 cl_X5 sh_sc (Nat.le_of_ble_eq_true rfl) (Nat.le_of_ble_eq_true rfl) (r_X5_hasTown _ _) ?_
    by_cases c2 : (p_X5_hasTown a2 σ) = 0
    · replace h := (if_pos c2).symm.trans h
      refine Ev.if_ne_f (pc := 19) dX9_far_19 ⟨25, rfl⟩ c2 ?_
      refine Ev.ldc (pc := 22) dX9_far_22 kc_X9_145 ?_
      subst h
      exact Ev.ret_i (pc := 24) dX9_far_24 rfl rfl
    · replace h := (if_neg c2).symm.trans h
      refine Ev.if_ne_t (pc := 19) (tgt := 25) dX9_far_19 rfl c2 ?_
      refine Ev.aload_n (pc := 25) dX9_far_25 rfl rfl ?_
      refine Ev.getR (pc := 26) dX9_far_26 fl_X9_10 sh_0 rfl ?_
      refine Ev.iload_n (pc := 29) dX9_far_29 rfl rfl ?_
      refine Ev.iload_n (pc := 30) dX9_far_30 rfl rfl ?_
      refine Ev.cVi (pc := 31) (k := 1) (av := [vI a1, vI a2]) (rest := []) dX9_far_31 ce_X5_distance ml_X9_146 rfl sh_1 cl_X5 sh_sc (Nat.le_of_ble_eq_true rfl) (Nat.le_of_ble_eq_true rfl) (r_X5_distance _ _ _) ?_
      subst h
      exact Ev.ret_i (pc := 34) dX9_far_34 rfl rfl
theorem r_X9_far (a1 : Int32) (a2 : Int32) (σ : St) : Rn md_X9_far 2 [vR 0, vI a1, vI a2] SH σ (some (vI (p_X9_far a1 a2 σ)), SH, σ) := Rn.of ce_X9_far.1 (Nat.le_of_ble_eq_true rfl) (e_X9_far _ _ _ _ rfl)
def o_X10_isTown (N : Nat) (a1 : Int32) (σ : St) : Option (Int32 × St) := ckB (p_X10_in a1.toInt64 0 (((σ 79 2) - 1).toInt64) σ) (some ((p_X10_in a1.toInt64 0 (((σ 79 2) - 1).toInt64) σ), σ))
theorem e_X10_isTown (N : Nat) (a1 : Int32) (σ : St) (v : Int32) (w : St) (h : o_X10_isTown N a1 σ = some (v, w)) : Ev md_X10_isTown 1 0 (lvE [vR 79, vI a1] 2) [] SH σ (some (vI v), SH, w) := by
  show Ev md_X10_isTown 1 0 [some (vR 79), some (vI a1)] [] SH σ (some (vI v), SH, w)
  unfold o_X10_isTown at h
  refine Ev.iload_n (pc := 0) dX10_isTown_0 rfl rfl ?_
  refine Ev.i2l (pc := 1) dX10_isTown_1 ?_
  refine Ev.lconst (pc := 2) (v := 0) dX10_isTown_2 kL_0 ?_
  refine Ev.aload_n (pc := 3) dX10_isTown_3 rfl rfl ?_
  refine Ev.getI (pc := 4) dX10_isTown_4 fl_X10_166 sh_79 rfl ?_
  refine Ev.iconst (pc := 7) (v := 1) dX10_isTown_7 ki_1 ?_
  refine Ev.isub (pc := 8) dX10_isTown_8 ?_
  refine Ev.i2l (pc := 9) dX10_isTown_9 ?_
  refine Ev.cTi (pc := 10) (av := [vL a1.toInt64, vL 0, vL (((σ 79 2) - 1).toInt64)]) (rest := []) dX10_isTown_10 ce_X10_in ml_X10_89 rfl sh_sc (Nat.le_of_ble_eq_true rfl) (Nat.le_of_ble_eq_true rfl) (r_X10_in _ _ _ _) ?_
  obtain ⟨c1, h⟩ := ckB_elim h
  obtain ⟨h1, h2⟩ := oeq h
  subst h1
  subst h2
  exact Ev.ret_i (pc := 13) dX10_isTown_13 rfl c1.1
theorem r_X10_isTown {N : Nat} {a1 : Int32} {σ : St} {v : Int32} {w : St} (h : o_X10_isTown N a1 σ = some (v, w)) : Rn md_X10_isTown 1 [vR 79, vI a1] SH σ (some (vI v), SH, w) := Rn.of ce_X10_isTown.1 (Nat.le_of_ble_eq_true rfl) (e_X10_isTown N _ _ _ _ h)
def o_X10_far (N : Nat) (a1 : Int32) (a2 : Int32) (σ : St) : Option (Int32 × St) := bd (o_X10_isTown N a1 σ) fun x1 σ2 => if x1 = 0 then (some ((-1000000001), σ2)) else (bd (o_X10_isTown N a2 σ2) fun x5 σ6 => if x5 = 0 then (some ((-1000000001), σ6)) else (ckA ((5 * a1) + a2) 25 (if (σ6 83 ((5 * a1) + a2).toNatClampNeg) < 99999999 then (ckA ((5 * a1) + a2) 25 (some ((σ6 83 ((5 * a1) + a2).toNatClampNeg), σ6))) else (some ((-1), σ6)))))
theorem e_X10_far (N : Nat) (a1 : Int32) (a2 : Int32) (σ : St) (v : Int32) (w : St) (h : o_X10_far N a1 a2 σ = some (v, w)) : Ev md_X10_far 2 0 (lvE [vR 79, vI a1, vI a2] 3) [] SH σ (some (vI v), SH, w) := by
  show Ev md_X10_far 2 0 [some (vR 79), some (vI a1), some (vI a2)] [] SH σ (some (vI v), SH, w)
  unfold o_X10_far at h
  refine Ev.aload_n (pc := 0) dX10_far_0 rfl rfl ?_
  refine Ev.iload_n (pc := 1) dX10_far_1 rfl rfl ?_
  obtain ⟨x1, σ2, g3, h⟩ := bd_elim h
  refine Ev.cVi (pc := 2) (k := 79) (av := [vI a1]) (rest := []) dX10_far_2 ce_X10_isTown ml_X10_202 rfl sh_79 cl_X10 sh_sc (Nat.le_of_ble_eq_true rfl) (Nat.le_of_ble_eq_true rfl) (r_X10_isTown g3) ?_
  by_cases c4 : x1 = 0
  · replace h := (if_pos c4).symm.trans h
    refine Ev.if_eq_t (pc := 5) (tgt := 16) dX10_far_5 rfl c4 ?_
    refine Ev.ldc (pc := 16) dX10_far_16 kc_X10_205 ?_
    obtain ⟨h1, h2⟩ := oeq h
    subst h1
    subst h2
    exact Ev.ret_i (pc := 18) dX10_far_18 rfl rfl
  · replace h := (if_neg c4).symm.trans h
    refine Ev.if_eq_f (pc := 5) dX10_far_5 ⟨16, rfl⟩ c4 ?_
    refine Ev.aload_n (pc := 8) dX10_far_8 rfl rfl ?_
    refine Ev.iload_n (pc := 9) dX10_far_9 rfl rfl ?_
    obtain ⟨x5, σ6, g7, h⟩ := bd_elim h
    refine Ev.cVi (pc := 10) (k := 79) (av := [vI a2]) (rest := []) dX10_far_10 ce_X10_isTown ml_X10_202 rfl sh_79 cl_X10 sh_sc (Nat.le_of_ble_eq_true rfl) (Nat.le_of_ble_eq_true rfl) (r_X10_isTown g7) ?_
    by_cases c8 : x5 = 0
    · replace h := (if_pos c8).symm.trans h
      refine Ev.if_ne_f (pc := 13) dX10_far_13 ⟨19, rfl⟩ c8 ?_
      refine Ev.ldc (pc := 16) dX10_far_16 kc_X10_205 ?_
      obtain ⟨h1, h2⟩ := oeq h
      subst h1
      subst h2
      exact Ev.ret_i (pc := 18) dX10_far_18 rfl rfl
    · replace h := (if_neg c8).symm.trans h
      refine Ev.if_ne_t (pc := 13) (tgt := 19) dX10_far_13 rfl c8 ?_
      refine Ev.aload_n (pc := 19) dX10_far_19 rfl rfl ?_
      refine Ev.getR (pc := 20) dX10_far_20 fl_X10_20 sh_79 rfl ?_
      refine Ev.iconst (pc := 23) (v := 5) dX10_far_23 ki_5 ?_
      refine Ev.iload_n (pc := 24) dX10_far_24 rfl rfl ?_
      refine Ev.imul (pc := 25) dX10_far_25 ?_
      refine Ev.iload_n (pc := 26) dX10_far_26 rfl rfl ?_
      refine Ev.iadd (pc := 27) dX10_far_27 ?_
      obtain ⟨c9, h⟩ := ckA_elim h
      refine Ev.iald (pc := 28) dX10_far_28 sh_83 c9 ?_
      refine Ev.ldc (pc := 29) dX10_far_29 kc_X10_156 ?_
      by_cases c10 : (σ6 83 ((5 * a1) + a2).toNatClampNeg) < 99999999
      · replace h := (if_pos c10).symm.trans h
        refine Ev.icmp_lt_t (pc := 31) (tgt := 38) dX10_far_31 rfl c10 ?_
        refine Ev.aload_n (pc := 38) dX10_far_38 rfl rfl ?_
        refine Ev.getR (pc := 39) dX10_far_39 fl_X10_20 sh_79 rfl ?_
        refine Ev.iconst (pc := 42) (v := 5) dX10_far_42 ki_5 ?_
        refine Ev.iload_n (pc := 43) dX10_far_43 rfl rfl ?_
        refine Ev.imul (pc := 44) dX10_far_44 ?_
        refine Ev.iload_n (pc := 45) dX10_far_45 rfl rfl ?_
        refine Ev.iadd (pc := 46) dX10_far_46 ?_
        obtain ⟨c11, h⟩ := ckA_elim h
        refine Ev.iald (pc := 47) dX10_far_47 sh_83 c11 ?_
        obtain ⟨h1, h2⟩ := oeq h
        subst h1
        subst h2
        exact Ev.ret_i (pc := 48) dX10_far_48 rfl rfl
      · replace h := (if_neg c10).symm.trans h
        refine Ev.icmp_lt_f (pc := 31) dX10_far_31 ⟨38, rfl⟩ c10 ?_
        refine Ev.iconst (pc := 34) (v := (-1)) dX10_far_34 ki_m1 ?_
        refine Ev.goto (pc := 35) (tgt := 48) dX10_far_35 rfl ?_
        obtain ⟨h1, h2⟩ := oeq h
        subst h1
        subst h2
        exact Ev.ret_i (pc := 48) dX10_far_48 rfl rfl
theorem r_X10_far {N : Nat} {a1 : Int32} {a2 : Int32} {σ : St} {v : Int32} {w : St} (h : o_X10_far N a1 a2 σ = some (v, w)) : Rn md_X10_far 2 [vR 79, vI a1, vI a2] SH σ (some (vI v), SH, w) := Rn.of ce_X10_far.1 (Nat.le_of_ble_eq_true rfl) (e_X10_far N _ _ _ _ _ h)
def j_X5_hasKeeper_16  (σ : St) : Int32 := 0
def p_X5_hasKeeper (a1 : Int32) (σ : St) : Int32 := if a1 < 0 then (j_X5_hasKeeper_16 σ) else (if (σ 1 2) ≤ a1 then (j_X5_hasKeeper_16 σ) else 1)
theorem lj_X5_hasKeeper_16  (σ : St) (v : Int32) (h : j_X5_hasKeeper_16  σ = v) : Ev md_X5_hasKeeper 0 16 [none, none] [] SH σ (some (vI v), SH, σ) := by
  unfold j_X5_hasKeeper_16 at h
  refine Ev.iconst (pc := 16) (v := 0) dX5_hasKeeper_16 ki_0 ?_
  subst h
  exact Ev.ret_i (pc := 17) dX5_hasKeeper_17 rfl nb_0
theorem e_X5_hasKeeper (a1 : Int32) (σ : St) (v : Int32) (h : p_X5_hasKeeper a1 σ = v) : Ev md_X5_hasKeeper 0 0 (lvE [vR 1, vI a1] 2) [] SH σ (some (vI v), SH, σ) := by
  show Ev md_X5_hasKeeper 0 0 [some (vR 1), some (vI a1)] [] SH σ (some (vI v), SH, σ)
  unfold p_X5_hasKeeper at h
  refine Ev.iload_n (pc := 0) dX5_hasKeeper_0 rfl rfl ?_
  by_cases c1 : a1 < 0
  · replace h := (if_pos c1).symm.trans h
    refine Ev.if_lt_t (pc := 1) (tgt := 16) dX5_hasKeeper_1 rfl c1 ?_
    exact Ev.weak2 (lj_X5_hasKeeper_16 _ _ h) (lsubN (lsubN lsubE))
  · replace h := (if_neg c1).symm.trans h
    refine Ev.if_lt_f (pc := 1) dX5_hasKeeper_1 ⟨16, rfl⟩ c1 ?_
    refine Ev.iload_n (pc := 4) dX5_hasKeeper_4 rfl rfl ?_
    refine Ev.aload_n (pc := 5) dX5_hasKeeper_5 rfl rfl ?_
    refine Ev.getI (pc := 6) dX5_hasKeeper_6 fl_X5_46 sh_1 rfl ?_
    by_cases c2 : (σ 1 2) ≤ a1
    · replace h := (if_pos c2).symm.trans h
      refine Ev.icmp_ge_t (pc := 9) (tgt := 16) dX5_hasKeeper_9 rfl c2 ?_
      exact Ev.weak2 (lj_X5_hasKeeper_16 _ _ h) (lsubN (lsubN lsubE))
    · replace h := (if_neg c2).symm.trans h
      refine Ev.icmp_ge_f (pc := 9) dX5_hasKeeper_9 ⟨16, rfl⟩ c2 ?_
      refine Ev.iconst (pc := 12) (v := 1) dX5_hasKeeper_12 ki_1 ?_
      refine Ev.goto (pc := 13) (tgt := 17) dX5_hasKeeper_13 rfl ?_
      subst h
      exact Ev.ret_i (pc := 17) dX5_hasKeeper_17 rfl nb_1
theorem r_X5_hasKeeper (a1 : Int32) (σ : St) : Rn md_X5_hasKeeper 0 [vR 1, vI a1] SH σ (some (vI (p_X5_hasKeeper a1 σ)), SH, σ) := Rn.of ce_X5_hasKeeper.1 (Nat.le_of_ble_eq_true rfl) (e_X5_hasKeeper _ _ _ rfl)
def p_X1_townOf_23 (a1 : Int32) (σ : St) : Int32 := (at_ σ 24 31 (22 + a1))
theorem e_X1_townOf_23 (a1 : Int32) (σ : St) (v : Int32) (h : p_X1_townOf_23 a1 σ = v) : Ev md_X1_townOf 1 0 (lvE [vR 23, vI a1] 2) [] SH σ (some (vI v), SH, σ) := by
  show Ev md_X1_townOf 1 0 [some (vR 23), some (vI a1)] [] SH σ (some (vI v), SH, σ)
  unfold p_X1_townOf_23 at h
  refine Ev.aload_n (pc := 0) dX1_townOf_0 rfl rfl ?_
  refine Ev.getR (pc := 1) dX1_townOf_1 fl_X1_11 sh_23 rfl ?_
  refine Ev.bipush (pc := 4) (v := 22) dX1_townOf_4 kb_22 ?_
  refine Ev.iload_n (pc := 6) dX1_townOf_6 rfl rfl ?_
  refine Ev.iadd (pc := 7) dX1_townOf_7 ?_
  refine Ev.cTi (pc := 8) (av := [vR 24, vI (22 + a1)]) (rest := []) dX1_townOf_8 ce_X9_at ml_X1_28 rfl sh_sc (Nat.le_of_ble_eq_true rfl) (Nat.le_of_ble_eq_true rfl) (r_at sh_24 (by decide) _ _) ?_
  subst h
  exact Ev.ret_i (pc := 11) dX1_townOf_11 rfl rfl
theorem r_X1_townOf_23 (a1 : Int32) (σ : St) : Rn md_X1_townOf 1 [vR 23, vI a1] SH σ (some (vI (p_X1_townOf_23 a1 σ)), SH, σ) := Rn.of ce_X1_townOf.1 (Nat.le_of_ble_eq_true rfl) (e_X1_townOf_23 _ _ _ rfl)
def p_X1_thereOn_23 (a1 : Int32) (σ : St) : Int32 := (at_ σ 24 31 (25 + a1))
theorem e_X1_thereOn_23 (a1 : Int32) (σ : St) (v : Int32) (h : p_X1_thereOn_23 a1 σ = v) : Ev md_X1_thereOn 1 0 (lvE [vR 23, vI a1] 2) [] SH σ (some (vI v), SH, σ) := by
  show Ev md_X1_thereOn 1 0 [some (vR 23), some (vI a1)] [] SH σ (some (vI v), SH, σ)
  unfold p_X1_thereOn_23 at h
  refine Ev.aload_n (pc := 0) dX1_thereOn_0 rfl rfl ?_
  refine Ev.getR (pc := 1) dX1_thereOn_1 fl_X1_11 sh_23 rfl ?_
  refine Ev.bipush (pc := 4) (v := 25) dX1_thereOn_4 kb_25 ?_
  refine Ev.iload_n (pc := 6) dX1_thereOn_6 rfl rfl ?_
  refine Ev.iadd (pc := 7) dX1_thereOn_7 ?_
  refine Ev.cTi (pc := 8) (av := [vR 24, vI (25 + a1)]) (rest := []) dX1_thereOn_8 ce_X9_at ml_X1_28 rfl sh_sc (Nat.le_of_ble_eq_true rfl) (Nat.le_of_ble_eq_true rfl) (r_at sh_24 (by decide) _ _) ?_
  subst h
  exact Ev.ret_i (pc := 11) dX1_thereOn_11 rfl rfl
theorem r_X1_thereOn_23 (a1 : Int32) (σ : St) : Rn md_X1_thereOn 1 [vR 23, vI a1] SH σ (some (vI (p_X1_thereOn_23 a1 σ)), SH, σ) := Rn.of ce_X1_thereOn.1 (Nat.le_of_ble_eq_true rfl) (e_X1_thereOn_23 _ _ _ rfl)
def p_X1_holderOf_23 (a1 : Int32) (σ : St) : Int32 := (at_ σ 24 31 (15 + a1))
theorem e_X1_holderOf_23 (a1 : Int32) (σ : St) (v : Int32) (h : p_X1_holderOf_23 a1 σ = v) : Ev md_X1_holderOf 1 0 (lvE [vR 23, vI a1] 2) [] SH σ (some (vI v), SH, σ) := by
  show Ev md_X1_holderOf 1 0 [some (vR 23), some (vI a1)] [] SH σ (some (vI v), SH, σ)
  unfold p_X1_holderOf_23 at h
  refine Ev.aload_n (pc := 0) dX1_holderOf_0 rfl rfl ?_
  refine Ev.getR (pc := 1) dX1_holderOf_1 fl_X1_11 sh_23 rfl ?_
  refine Ev.bipush (pc := 4) (v := 15) dX1_holderOf_4 kb_15 ?_
  refine Ev.iload_n (pc := 6) dX1_holderOf_6 rfl rfl ?_
  refine Ev.iadd (pc := 7) dX1_holderOf_7 ?_
  refine Ev.cTi (pc := 8) (av := [vR 24, vI (15 + a1)]) (rest := []) dX1_holderOf_8 ce_X9_at ml_X1_28 rfl sh_sc (Nat.le_of_ble_eq_true rfl) (Nat.le_of_ble_eq_true rfl) (r_at sh_24 (by decide) _ _) ?_
  subst h
  exact Ev.ret_i (pc := 11) dX1_holderOf_11 rfl rfl
theorem r_X1_holderOf_23 (a1 : Int32) (σ : St) : Rn md_X1_holderOf 1 [vR 23, vI a1] SH σ (some (vI (p_X1_holderOf_23 a1 σ)), SH, σ) := Rn.of ce_X1_holderOf.1 (Nat.le_of_ble_eq_true rfl) (e_X1_holderOf_23 _ _ _ rfl)
def j_X1_heldBy_32 (N : Nat) (K_4 : Int32 → Int32 → Int32 → St → Option (Int32 × St)) (v1 : Int32) (v3 : Int32) (s0 : Int32) (s1 : Int32) (σ : St) : Option (Int32 × St) := bt (s0 ||| s1) fun x1 => bt (v3 + 1) fun x2 => K_4 v1 x1 x2 σ
def l_X1_heldBy_4 (N : Nat) : Nat → Int32 → Int32 → Int32 → St → Option (Int32 × St)
  | 0, _, _, _, _ => none
  | n + 1, v1, v2, v3, σ => if (σ 1 3) ≤ v3 then (some (v2, σ)) else (if (p_X1_holderOf_23 v3 σ) = v1 then (j_X1_heldBy_32 N (l_X1_heldBy_4 N n) v1 v3 v2 (1 <<< (v3 &&& 31)) σ) else (j_X1_heldBy_32 N (l_X1_heldBy_4 N n) v1 v3 v2 0 σ))
def o_X1_heldBy (N : Nat) (a1 : Int32) (σ : St) : Option (Int32 × St) := l_X1_heldBy_4 N N a1 0 0 σ
theorem lj_X1_heldBy_32 (N : Nat) (K_4 : Int32 → Int32 → Int32 → St → Option (Int32 × St)) (hK_4 : ∀ (v1 : Int32) (v2 : Int32) (v3 : Int32) (σ : St) (v : Int32) (w : St), K_4 v1 v2 v3 σ = some (v, w) → Ev md_X1_heldBy 2 4 [some (vR 23), some (vI v1), some (vI v2), some (vI v3)] [] SH σ (some (vI v), SH, w)) (v1 : Int32) (v3 : Int32) (s0 : Int32) (s1 : Int32) (σ : St) (v : Int32) (w : St) (h : j_X1_heldBy_32 N K_4 v1 v3 s0 s1 σ = some (v, w)) : Ev md_X1_heldBy 2 32 [some (vR 23), some (vI v1), none, some (vI v3)] [vI s1, vI s0] SH σ (some (vI v), SH, w) := by
  unfold j_X1_heldBy_32 at h
  refine Ev.ior (pc := 32) dX1_heldBy_32 ?_
  refine Ev.nmI (fun x1 e9 => ?_)
  replace h := bt_app h x1 e9
  refine Ev.istore_n (pc := 33) (lv' := [some (vR 23), some (vI v1), some (vI x1), some (vI v3)]) dX1_heldBy_33 rfl (lt9 rfl) rfl rfl ?_
  obtain ⟨x2, e_x2, h⟩ := bt_elim h
  refine Ev.iinc (pc := 34) (v := x2) (lv' := [some (vR 23), some (vI v1), some (vI x1), some (vI x2)]) dX1_heldBy_34 rfl (by rw [ki_1, e_x2]) (lt9 rfl) rfl rfl ?_
  refine Ev.goto (pc := 37) (tgt := 4) dX1_heldBy_37 rfl ?_
  exact Ev.weak2 (hK_4 _ _ _ _ _ _ h) (lsubS (lsubS (lsubS (lsubS lsubE))))
theorem ll_X1_heldBy_4 (N : Nat) : ∀ (n : Nat) (v1 : Int32) (v2 : Int32) (v3 : Int32) (σ : St) (v : Int32) (w : St), l_X1_heldBy_4 N n v1 v2 v3 σ = some (v, w) → Ev md_X1_heldBy 2 4 [some (vR 23), some (vI v1), some (vI v2), some (vI v3)] [] SH σ (some (vI v), SH, w) := by
  intro n
  induction n with
  | zero =>
    intro v1 v2 v3 σ v w h
    rw [l_X1_heldBy_4] at h
    cases h
  | succ n ih =>
    intro v1 v2 v3 σ v w h
    rw [l_X1_heldBy_4] at h
    refine Ev.iload_n (pc := 4) dX1_heldBy_4 rfl rfl ?_
    refine Ev.aload_n (pc := 5) dX1_heldBy_5 rfl rfl ?_
    refine Ev.getR (pc := 6) dX1_heldBy_6 fl_X1_15 sh_23 rfl ?_
    refine Ev.getI (pc := 9) dX1_heldBy_9 fl_X1_50 sh_1 rfl ?_
    by_cases c1 : (σ 1 3) ≤ v3
    · replace h := (if_pos c1).symm.trans h
      refine Ev.icmp_ge_t (pc := 12) (tgt := 40) dX1_heldBy_12 rfl c1 ?_
      refine Ev.iload_n (pc := 40) dX1_heldBy_40 rfl rfl ?_
      obtain ⟨h1, h2⟩ := oeq h
      subst h1
      subst h2
      exact Ev.ret_i (pc := 41) dX1_heldBy_41 rfl rfl
    · replace h := (if_neg c1).symm.trans h
      refine Ev.icmp_ge_f (pc := 12) dX1_heldBy_12 ⟨40, rfl⟩ c1 ?_
      refine Ev.iload_n (pc := 15) dX1_heldBy_15 rfl rfl ?_
      refine Ev.aload_n (pc := 16) dX1_heldBy_16 rfl rfl ?_
      refine Ev.iload_n (pc := 17) dX1_heldBy_17 rfl rfl ?_
      refine Ev.cVi (pc := 18) (k := 23) (av := [vI v3]) (rest := [vI v2]) dX1_heldBy_18 ce_X1_holderOf ml_X1_54 rfl sh_23 cl_X1 sh_sc (Nat.le_of_ble_eq_true rfl) (Nat.le_of_ble_eq_true rfl) (r_X1_holderOf_23 _ _) ?_
      refine Ev.iload_n (pc := 21) dX1_heldBy_21 rfl rfl ?_
      by_cases c2 : (p_X1_holderOf_23 v3 σ) = v1
      · replace h := (if_pos c2).symm.trans h
        refine Ev.icmp_ne_f (pc := 22) dX1_heldBy_22 ⟨31, rfl⟩ c2 ?_
        refine Ev.iconst (pc := 25) (v := 1) dX1_heldBy_25 ki_1 ?_
        refine Ev.iload_n (pc := 26) dX1_heldBy_26 rfl rfl ?_
        refine Ev.ishl (pc := 27) dX1_heldBy_27 ?_
        refine Ev.goto (pc := 28) (tgt := 32) dX1_heldBy_28 rfl ?_
        exact Ev.weak2 (lj_X1_heldBy_32 N (l_X1_heldBy_4 N n) ih _ _ _ _ _ _ _ h) (lsubS (lsubS (lsubN (lsubS lsubE))))
      · replace h := (if_neg c2).symm.trans h
        refine Ev.icmp_ne_t (pc := 22) (tgt := 31) dX1_heldBy_22 rfl c2 ?_
        refine Ev.iconst (pc := 31) (v := 0) dX1_heldBy_31 ki_0 ?_
        exact Ev.weak2 (lj_X1_heldBy_32 N (l_X1_heldBy_4 N n) ih _ _ _ _ _ _ _ h) (lsubS (lsubS (lsubN (lsubS lsubE))))
theorem e_X1_heldBy (N : Nat) (a1 : Int32) (σ : St) (v : Int32) (w : St) (h : o_X1_heldBy N a1 σ = some (v, w)) : Ev md_X1_heldBy 2 0 (lvE [vR 23, vI a1] 4) [] SH σ (some (vI v), SH, w) := by
  show Ev md_X1_heldBy 2 0 [some (vR 23), some (vI a1), none, none] [] SH σ (some (vI v), SH, w)
  unfold o_X1_heldBy at h
  refine Ev.iconst (pc := 0) (v := 0) dX1_heldBy_0 ki_0 ?_
  refine Ev.istore_n (pc := 1) (lv' := [some (vR 23), some (vI a1), some (vI 0), none]) dX1_heldBy_1 rfl (lt9 rfl) rfl rfl ?_
  refine Ev.iconst (pc := 2) (v := 0) dX1_heldBy_2 ki_0 ?_
  refine Ev.istore_n (pc := 3) (lv' := [some (vR 23), some (vI a1), some (vI 0), some (vI 0)]) dX1_heldBy_3 rfl (lt9 rfl) rfl rfl ?_
  exact Ev.weak2 (ll_X1_heldBy_4 N N _ _ _ _ _ _ h) (lsubS (lsubS (lsubS (lsubS lsubE))))
theorem r_X1_heldBy {N : Nat} {a1 : Int32} {σ : St} {v : Int32} {w : St} (h : o_X1_heldBy N a1 σ = some (v, w)) : Rn md_X1_heldBy 2 [vR 23, vI a1] SH σ (some (vI v), SH, w) := Rn.of ce_X1_heldBy.1 (Nat.le_of_ble_eq_true rfl) (e_X1_heldBy N _ _ _ _ h)
def o_X9_keeper (N : Nat) (a1 : Int32) (a2 : Int32) (σ : St) : Option (Int32 × St) := if (p_X5_hasKeeper a1 σ) = 0 then (some ((-1000000001), σ)) else (if a2 = 0 then (some ((p_X1_townOf_23 a1 σ), σ)) else if a2 = 1 then (some ((at_ σ 3 3 a1), σ)) else if a2 = 2 then (some ((p_X1_thereOn_23 a1 σ), σ)) else if a2 = 3 then (bd (o_X1_heldBy N a1 σ) fun x6 σ7 => some (x6, σ7)) else (some ((-1000000002), σ)))
theorem e_X9_keeper (N : Nat) (a1 : Int32) (a2 : Int32) (σ : St) (v : Int32) (w : St) (h : o_X9_keeper N a1 a2 σ = some (v, w)) : Ev md_X9_keeper 3 0 (lvE [vR 0, vI a1, vI a2] 3) [] SH σ (some (vI v), SH, w) := by
  show Ev md_X9_keeper 3 0 [some (vR 0), some (vI a1), some (vI a2)] [] SH σ (some (vI v), SH, w)
  unfold o_X9_keeper at h
  refine Ev.aload_n (pc := 0) dX9_keeper_0 rfl rfl ?_
  refine Ev.getR (pc := 1) dX9_keeper_1 fl_X9_10 sh_0 rfl ?_
  refine Ev.iload_n (pc := 4) dX9_keeper_4 rfl rfl ?_
  refine Ev.cVi (pc := 5) (k := 1) (av := [vI a1]) (rest := []) dX9_keeper_5 ce_X5_hasKeeper ml_X9_150 rfl sh_1 cl_X5 sh_sc (Nat.le_of_ble_eq_true rfl) (Nat.le_of_ble_eq_true rfl) (r_X5_hasKeeper _ _) ?_
  by_cases c1 : (p_X5_hasKeeper a1 σ) = 0
  · replace h := (if_pos c1).symm.trans h
    refine Ev.if_ne_f (pc := 8) dX9_keeper_8 ⟨14, rfl⟩ c1 ?_
    refine Ev.ldc (pc := 11) dX9_keeper_11 kc_X9_145 ?_
    obtain ⟨h1, h2⟩ := oeq h
    subst h1
    subst h2
    exact Ev.ret_i (pc := 13) dX9_keeper_13 rfl rfl
  · replace h := (if_neg c1).symm.trans h
    refine Ev.if_ne_t (pc := 8) (tgt := 14) dX9_keeper_8 rfl c1 ?_
    refine Ev.iload_n (pc := 14) dX9_keeper_14 rfl rfl ?_
    by_cases c2 : a2 = 0
    · replace h := (if_pos c2).symm.trans h
      refine Ev.swC (pc := 15) (c := 0) (tgt := 44) dX9_keeper_15 c2 (by decide) (by decide) rfl rfl ?_
      refine Ev.aload_n (pc := 44) dX9_keeper_44 rfl rfl ?_
      refine Ev.getR (pc := 45) dX9_keeper_45 fl_X9_31 sh_0 rfl ?_
      refine Ev.iload_n (pc := 48) dX9_keeper_48 rfl rfl ?_
      refine Ev.cVi (pc := 49) (k := 23) (av := [vI a1]) (rest := []) dX9_keeper_49 ce_X1_townOf ml_X9_153 rfl sh_23 cl_X1 sh_sc (Nat.le_of_ble_eq_true rfl) (Nat.le_of_ble_eq_true rfl) (r_X1_townOf_23 _ _) ?_
      obtain ⟨h1, h2⟩ := oeq h
      subst h1
      subst h2
      exact Ev.ret_i (pc := 52) dX9_keeper_52 rfl rfl
    replace h := (if_neg c2).symm.trans h
    by_cases c3 : a2 = 1
    · replace h := (if_pos c3).symm.trans h
      refine Ev.swC (pc := 15) (c := 1) (tgt := 53) dX9_keeper_15 c3 (by decide) (by decide) rfl rfl ?_
      refine Ev.aload_n (pc := 53) dX9_keeper_53 rfl rfl ?_
      refine Ev.getR (pc := 54) dX9_keeper_54 fl_X9_10 sh_0 rfl ?_
      refine Ev.getR (pc := 57) dX9_keeper_57 fl_X9_156 sh_1 rfl ?_
      refine Ev.iload_n (pc := 60) dX9_keeper_60 rfl rfl ?_
      refine Ev.cTi (pc := 61) (av := [vR 3, vI a1]) (rest := []) dX9_keeper_61 ce_X9_at ml_X9_160 rfl sh_sc (Nat.le_of_ble_eq_true rfl) (Nat.le_of_ble_eq_true rfl) (r_at sh_3 (by decide) _ _) ?_
      obtain ⟨h1, h2⟩ := oeq h
      subst h1
      subst h2
      exact Ev.ret_i (pc := 64) dX9_keeper_64 rfl rfl
    replace h := (if_neg c3).symm.trans h
    by_cases c4 : a2 = 2
    · replace h := (if_pos c4).symm.trans h
      refine Ev.swC (pc := 15) (c := 2) (tgt := 65) dX9_keeper_15 c4 (by decide) (by decide) rfl rfl ?_
      refine Ev.aload_n (pc := 65) dX9_keeper_65 rfl rfl ?_
      refine Ev.getR (pc := 66) dX9_keeper_66 fl_X9_31 sh_0 rfl ?_
      refine Ev.iload_n (pc := 69) dX9_keeper_69 rfl rfl ?_
      refine Ev.cVi (pc := 70) (k := 23) (av := [vI a1]) (rest := []) dX9_keeper_70 ce_X1_thereOn ml_X9_164 rfl sh_23 cl_X1 sh_sc (Nat.le_of_ble_eq_true rfl) (Nat.le_of_ble_eq_true rfl) (r_X1_thereOn_23 _ _) ?_
      obtain ⟨h1, h2⟩ := oeq h
      subst h1
      subst h2
      exact Ev.ret_i (pc := 73) dX9_keeper_73 rfl rfl
    replace h := (if_neg c4).symm.trans h
    by_cases c5 : a2 = 3
    · replace h := (if_pos c5).symm.trans h
      refine Ev.swC (pc := 15) (c := 3) (tgt := 74) dX9_keeper_15 c5 (by decide) (by decide) rfl rfl ?_
      refine Ev.aload_n (pc := 74) dX9_keeper_74 rfl rfl ?_
      refine Ev.getR (pc := 75) dX9_keeper_75 fl_X9_31 sh_0 rfl ?_
      refine Ev.iload_n (pc := 78) dX9_keeper_78 rfl rfl ?_
      obtain ⟨x6, σ7, g8, h⟩ := bd_elim h
      refine Ev.cVi (pc := 79) (k := 23) (av := [vI a1]) (rest := []) dX9_keeper_79 ce_X1_heldBy ml_X9_167 rfl sh_23 cl_X1 sh_sc (Nat.le_of_ble_eq_true rfl) (Nat.le_of_ble_eq_true rfl) (r_X1_heldBy g8) ?_
      obtain ⟨h1, h2⟩ := oeq h
      subst h1
      subst h2
      exact Ev.ret_i (pc := 82) dX9_keeper_82 rfl rfl
    replace h := (if_neg c5).symm.trans h
    refine Ev.swD (pc := 15) (tgt := 83) (tl := [0, 1, 2, 3]) dX9_keeper_15 (not_mem_cons9 (neI c2 rfl) (not_mem_cons9 (neI c3 rfl) (not_mem_cons9 (neI c4 rfl) (not_mem_cons9 (neI c5 rfl) (not_mem_nil9))))) rfl rfl rfl ?_
    refine Ev.ldc (pc := 83) dX9_keeper_83 kc_X9_81 ?_
    obtain ⟨h1, h2⟩ := oeq h
    subst h1
    subst h2
    exact Ev.ret_i (pc := 85) dX9_keeper_85 rfl rfl
theorem r_X9_keeper {N : Nat} {a1 : Int32} {a2 : Int32} {σ : St} {v : Int32} {w : St} (h : o_X9_keeper N a1 a2 σ = some (v, w)) : Rn md_X9_keeper 3 [vR 0, vI a1, vI a2] SH σ (some (vI v), SH, w) := Rn.of ce_X9_keeper.1 (Nat.le_of_ble_eq_true rfl) (e_X9_keeper N _ _ _ _ _ h)
def o_X10_isKeeper (N : Nat) (a1 : Int32) (σ : St) : Option (Int32 × St) := ckB (p_X10_in a1.toInt64 0 (((σ 79 4) - 1).toInt64) σ) (some ((p_X10_in a1.toInt64 0 (((σ 79 4) - 1).toInt64) σ), σ))
theorem e_X10_isKeeper (N : Nat) (a1 : Int32) (σ : St) (v : Int32) (w : St) (h : o_X10_isKeeper N a1 σ = some (v, w)) : Ev md_X10_isKeeper 1 0 (lvE [vR 79, vI a1] 2) [] SH σ (some (vI v), SH, w) := by
  show Ev md_X10_isKeeper 1 0 [some (vR 79), some (vI a1)] [] SH σ (some (vI v), SH, w)
  unfold o_X10_isKeeper at h
  refine Ev.iload_n (pc := 0) dX10_isKeeper_0 rfl rfl ?_
  refine Ev.i2l (pc := 1) dX10_isKeeper_1 ?_
  refine Ev.lconst (pc := 2) (v := 0) dX10_isKeeper_2 kL_0 ?_
  refine Ev.aload_n (pc := 3) dX10_isKeeper_3 rfl rfl ?_
  refine Ev.getI (pc := 4) dX10_isKeeper_4 fl_X10_172 sh_79 rfl ?_
  refine Ev.iconst (pc := 7) (v := 1) dX10_isKeeper_7 ki_1 ?_
  refine Ev.isub (pc := 8) dX10_isKeeper_8 ?_
  refine Ev.i2l (pc := 9) dX10_isKeeper_9 ?_
  refine Ev.cTi (pc := 10) (av := [vL a1.toInt64, vL 0, vL (((σ 79 4) - 1).toInt64)]) (rest := []) dX10_isKeeper_10 ce_X10_in ml_X10_89 rfl sh_sc (Nat.le_of_ble_eq_true rfl) (Nat.le_of_ble_eq_true rfl) (r_X10_in _ _ _ _) ?_
  obtain ⟨c1, h⟩ := ckB_elim h
  obtain ⟨h1, h2⟩ := oeq h
  subst h1
  subst h2
  exact Ev.ret_i (pc := 13) dX10_isKeeper_13 rfl c1.1
theorem r_X10_isKeeper {N : Nat} {a1 : Int32} {σ : St} {v : Int32} {w : St} (h : o_X10_isKeeper N a1 σ = some (v, w)) : Rn md_X10_isKeeper 1 [vR 79, vI a1] SH σ (some (vI v), SH, w) := Rn.of ce_X10_isKeeper.1 (Nat.le_of_ble_eq_true rfl) (e_X10_isKeeper N _ _ _ _ h)
def j_X10_ofKeeper_31 (N : Nat) (K_4 : Int32 → Int32 → Int32 → St → Option (Int32 × St)) (v1 : Int32) (v3 : Int32) (s0 : Int32) (s1 : Int32) (σ : St) : Option (Int32 × St) := bt (s0 ||| ((p_X10_one s1 σ) <<< (v3 &&& 31))) fun x1 => bt (v3 + 1) fun x2 => K_4 v1 x1 x2 σ
def l_X10_ofKeeper_4 (N : Nat) : Nat → Int32 → Int32 → Int32 → St → Option (Int32 × St)
  | 0, _, _, _, _ => none
  | n + 1, v1, v2, v3, σ => if (σ 79 5) ≤ v3 then (some (v2, σ)) else (ckA (14 + v3) 1360 (if (σ 80 (14 + v3).toNatClampNeg) = v1 then (j_X10_ofKeeper_31 N (l_X10_ofKeeper_4 N n) v1 v3 v2 1 σ) else (j_X10_ofKeeper_31 N (l_X10_ofKeeper_4 N n) v1 v3 v2 0 σ)))
def o_X10_ofKeeper (N : Nat) (a1 : Int32) (σ : St) : Option (Int32 × St) := l_X10_ofKeeper_4 N N a1 0 0 σ
theorem lj_X10_ofKeeper_31 (N : Nat) (K_4 : Int32 → Int32 → Int32 → St → Option (Int32 × St)) (hK_4 : ∀ (v1 : Int32) (v2 : Int32) (v3 : Int32) (σ : St) (v : Int32) (w : St), K_4 v1 v2 v3 σ = some (v, w) → Ev md_X10_ofKeeper 1 4 [some (vR 79), some (vI v1), some (vI v2), some (vI v3)] [] SH σ (some (vI v), SH, w)) (v1 : Int32) (v3 : Int32) (s0 : Int32) (s1 : Int32) (σ : St) (v : Int32) (w : St) (h : j_X10_ofKeeper_31 N K_4 v1 v3 s0 s1 σ = some (v, w)) : Ev md_X10_ofKeeper 1 31 [some (vR 79), some (vI v1), none, some (vI v3)] [vI s1, vI s0] SH σ (some (vI v), SH, w) := by
  unfold j_X10_ofKeeper_31 at h
  refine Ev.cTi (pc := 31) (av := [vI s1]) (rest := [vI s0]) dX10_ofKeeper_31 ce_X10_one ml_X10_191 rfl sh_sc (Nat.le_of_ble_eq_true rfl) (Nat.le_of_ble_eq_true rfl) (r_X10_one _ _) ?_
  refine Ev.iload_n (pc := 34) dX10_ofKeeper_34 rfl rfl ?_
  refine Ev.ishl (pc := 35) dX10_ofKeeper_35 ?_
  refine Ev.ior (pc := 36) dX10_ofKeeper_36 ?_
  refine Ev.nmI (fun x1 e9 => ?_)
  replace h := bt_app h x1 e9
  refine Ev.istore_n (pc := 37) (lv' := [some (vR 79), some (vI v1), some (vI x1), some (vI v3)]) dX10_ofKeeper_37 rfl (lt9 rfl) rfl rfl ?_
  obtain ⟨x2, e_x2, h⟩ := bt_elim h
  refine Ev.iinc (pc := 38) (v := x2) (lv' := [some (vR 79), some (vI v1), some (vI x1), some (vI x2)]) dX10_ofKeeper_38 rfl (by rw [ki_1, e_x2]) (lt9 rfl) rfl rfl ?_
  refine Ev.goto (pc := 41) (tgt := 4) dX10_ofKeeper_41 rfl ?_
  exact Ev.weak2 (hK_4 _ _ _ _ _ _ h) (lsubS (lsubS (lsubS (lsubS lsubE))))
theorem ll_X10_ofKeeper_4 (N : Nat) : ∀ (n : Nat) (v1 : Int32) (v2 : Int32) (v3 : Int32) (σ : St) (v : Int32) (w : St), l_X10_ofKeeper_4 N n v1 v2 v3 σ = some (v, w) → Ev md_X10_ofKeeper 1 4 [some (vR 79), some (vI v1), some (vI v2), some (vI v3)] [] SH σ (some (vI v), SH, w) := by
  intro n
  induction n with
  | zero =>
    intro v1 v2 v3 σ v w h
    rw [l_X10_ofKeeper_4] at h
    cases h
  | succ n ih =>
    intro v1 v2 v3 σ v w h
    rw [l_X10_ofKeeper_4] at h
    refine Ev.iload_n (pc := 4) dX10_ofKeeper_4 rfl rfl ?_
    refine Ev.aload_n (pc := 5) dX10_ofKeeper_5 rfl rfl ?_
    refine Ev.getI (pc := 6) dX10_ofKeeper_6 fl_X10_175 sh_79 rfl ?_
    by_cases c1 : (σ 79 5) ≤ v3
    · replace h := (if_pos c1).symm.trans h
      refine Ev.icmp_ge_t (pc := 9) (tgt := 44) dX10_ofKeeper_9 rfl c1 ?_
      refine Ev.iload_n (pc := 44) dX10_ofKeeper_44 rfl rfl ?_
      obtain ⟨h1, h2⟩ := oeq h
      subst h1
      subst h2
      exact Ev.ret_i (pc := 45) dX10_ofKeeper_45 rfl rfl
    · replace h := (if_neg c1).symm.trans h
      refine Ev.icmp_ge_f (pc := 9) dX10_ofKeeper_9 ⟨44, rfl⟩ c1 ?_
      refine Ev.iload_n (pc := 12) dX10_ofKeeper_12 rfl rfl ?_
      refine Ev.aload_n (pc := 13) dX10_ofKeeper_13 rfl rfl ?_
      refine Ev.getR (pc := 14) dX10_ofKeeper_14 fl_X10_7 sh_79 rfl ?_
      refine Ev.bipush (pc := 17) (v := 14) dX10_ofKeeper_17 kb_14 ?_
      refine Ev.iload_n (pc := 19) dX10_ofKeeper_19 rfl rfl ?_
      refine Ev.iadd (pc := 20) dX10_ofKeeper_20 ?_
      obtain ⟨c2, h⟩ := ckA_elim h
      refine Ev.iald (pc := 21) dX10_ofKeeper_21 sh_80 c2 ?_
      refine Ev.iload_n (pc := 22) dX10_ofKeeper_22 rfl rfl ?_
      by_cases c3 : (σ 80 (14 + v3).toNatClampNeg) = v1
      · replace h := (if_pos c3).symm.trans h
        refine Ev.icmp_ne_f (pc := 23) dX10_ofKeeper_23 ⟨30, rfl⟩ c3 ?_
        refine Ev.iconst (pc := 26) (v := 1) dX10_ofKeeper_26 ki_1 ?_
        refine Ev.goto (pc := 27) (tgt := 31) dX10_ofKeeper_27 rfl ?_
        exact Ev.weak2 (lj_X10_ofKeeper_31 N (l_X10_ofKeeper_4 N n) ih _ _ _ _ _ _ _ h) (lsubS (lsubS (lsubN (lsubS lsubE))))
      · replace h := (if_neg c3).symm.trans h
        refine Ev.icmp_ne_t (pc := 23) (tgt := 30) dX10_ofKeeper_23 rfl c3 ?_
        refine Ev.iconst (pc := 30) (v := 0) dX10_ofKeeper_30 ki_0 ?_
        exact Ev.weak2 (lj_X10_ofKeeper_31 N (l_X10_ofKeeper_4 N n) ih _ _ _ _ _ _ _ h) (lsubS (lsubS (lsubN (lsubS lsubE))))
theorem e_X10_ofKeeper (N : Nat) (a1 : Int32) (σ : St) (v : Int32) (w : St) (h : o_X10_ofKeeper N a1 σ = some (v, w)) : Ev md_X10_ofKeeper 1 0 (lvE [vR 79, vI a1] 4) [] SH σ (some (vI v), SH, w) := by
  show Ev md_X10_ofKeeper 1 0 [some (vR 79), some (vI a1), none, none] [] SH σ (some (vI v), SH, w)
  unfold o_X10_ofKeeper at h
  refine Ev.iconst (pc := 0) (v := 0) dX10_ofKeeper_0 ki_0 ?_
  refine Ev.istore_n (pc := 1) (lv' := [some (vR 79), some (vI a1), some (vI 0), none]) dX10_ofKeeper_1 rfl (lt9 rfl) rfl rfl ?_
  refine Ev.iconst (pc := 2) (v := 0) dX10_ofKeeper_2 ki_0 ?_
  refine Ev.istore_n (pc := 3) (lv' := [some (vR 79), some (vI a1), some (vI 0), some (vI 0)]) dX10_ofKeeper_3 rfl (lt9 rfl) rfl rfl ?_
  exact Ev.weak2 (ll_X10_ofKeeper_4 N N _ _ _ _ _ _ h) (lsubS (lsubS (lsubS (lsubS lsubE))))
theorem r_X10_ofKeeper {N : Nat} {a1 : Int32} {σ : St} {v : Int32} {w : St} (h : o_X10_ofKeeper N a1 σ = some (v, w)) : Rn md_X10_ofKeeper 1 [vR 79, vI a1] SH σ (some (vI v), SH, w) := Rn.of ce_X10_ofKeeper.1 (Nat.le_of_ble_eq_true rfl) (e_X10_ofKeeper N _ _ _ _ h)
def o_X10_keeper (N : Nat) (a1 : Int32) (a2 : Int32) (σ : St) : Option (Int32 × St) := bd (o_X10_isKeeper N a1 σ) fun x1 σ2 => if x1 = 0 then (some ((-1000000001), σ2)) else (if a2 = 0 then (ckA (28 + a1) 1360 (some ((σ2 80 (28 + a1).toNatClampNeg), σ2))) else (if a2 = 1 then (ckA a1 6 (some ((σ2 85 a1.toNatClampNeg), σ2))) else (if a2 = 2 then (ckA (31 + a1) 1360 (some ((σ2 80 (31 + a1).toNatClampNeg), σ2))) else (if a2 = 3 then (bd (o_X10_ofKeeper N a1 σ2) fun x9 σ10 => some (x9, σ10)) else (some ((-1000000002), σ2))))))
theorem e_X10_keeper (N : Nat) (a1 : Int32) (a2 : Int32) (σ : St) (v : Int32) (w : St) (h : o_X10_keeper N a1 a2 σ = some (v, w)) : Ev md_X10_keeper 2 0 (lvE [vR 79, vI a1, vI a2] 3) [] SH σ (some (vI v), SH, w) := by
  show Ev md_X10_keeper 2 0 [some (vR 79), some (vI a1), some (vI a2)] [] SH σ (some (vI v), SH, w)
  unfold o_X10_keeper at h
  refine Ev.aload_n (pc := 0) dX10_keeper_0 rfl rfl ?_
  refine Ev.iload_n (pc := 1) dX10_keeper_1 rfl rfl ?_
  obtain ⟨x1, σ2, g3, h⟩ := bd_elim h
  refine Ev.cVi (pc := 2) (k := 79) (av := [vI a1]) (rest := []) dX10_keeper_2 ce_X10_isKeeper ml_X10_206 rfl sh_79 cl_X10 sh_sc (Nat.le_of_ble_eq_true rfl) (Nat.le_of_ble_eq_true rfl) (r_X10_isKeeper g3) ?_
  by_cases c4 : x1 = 0
  · replace h := (if_pos c4).symm.trans h
    refine Ev.if_ne_f (pc := 5) dX10_keeper_5 ⟨11, rfl⟩ c4 ?_
    refine Ev.ldc (pc := 8) dX10_keeper_8 kc_X10_205 ?_
    obtain ⟨h1, h2⟩ := oeq h
    subst h1
    subst h2
    exact Ev.ret_i (pc := 10) dX10_keeper_10 rfl rfl
  · replace h := (if_neg c4).symm.trans h
    refine Ev.if_ne_t (pc := 5) (tgt := 11) dX10_keeper_5 rfl c4 ?_
    refine Ev.iload_n (pc := 11) dX10_keeper_11 rfl rfl ?_
    by_cases c5 : a2 = 0
    · replace h := (if_pos c5).symm.trans h
      refine Ev.if_ne_f (pc := 12) dX10_keeper_12 ⟨27, rfl⟩ c5 ?_
      refine Ev.aload_n (pc := 15) dX10_keeper_15 rfl rfl ?_
      refine Ev.getR (pc := 16) dX10_keeper_16 fl_X10_7 sh_79 rfl ?_
      refine Ev.bipush (pc := 19) (v := 28) dX10_keeper_19 kb_28 ?_
      refine Ev.iload_n (pc := 21) dX10_keeper_21 rfl rfl ?_
      refine Ev.iadd (pc := 22) dX10_keeper_22 ?_
      obtain ⟨c14, h⟩ := ckA_elim h
      refine Ev.iald (pc := 23) dX10_keeper_23 sh_80 c14 ?_
      refine Ev.goto (pc := 24) (tgt := 73) dX10_keeper_24 rfl ?_
      obtain ⟨h1, h2⟩ := oeq h
      subst h1
      subst h2
      exact Ev.ret_i (pc := 73) dX10_keeper_73 rfl rfl
    · replace h := (if_neg c5).symm.trans h
      refine Ev.if_ne_t (pc := 12) (tgt := 27) dX10_keeper_12 rfl c5 ?_
      refine Ev.iload_n (pc := 27) dX10_keeper_27 rfl rfl ?_
      refine Ev.iconst (pc := 28) (v := 1) dX10_keeper_28 ki_1 ?_
      by_cases c6 : a2 = 1
      · replace h := (if_pos c6).symm.trans h
        refine Ev.icmp_ne_f (pc := 29) dX10_keeper_29 ⟨41, rfl⟩ c6 ?_
        refine Ev.aload_n (pc := 32) dX10_keeper_32 rfl rfl ?_
        refine Ev.getR (pc := 33) dX10_keeper_33 fl_X10_26 sh_79 rfl ?_
        refine Ev.iload_n (pc := 36) dX10_keeper_36 rfl rfl ?_
        obtain ⟨c13, h⟩ := ckA_elim h
        refine Ev.iald (pc := 37) dX10_keeper_37 sh_85 c13 ?_
        refine Ev.goto (pc := 38) (tgt := 73) dX10_keeper_38 rfl ?_
        obtain ⟨h1, h2⟩ := oeq h
        subst h1
        subst h2
        exact Ev.ret_i (pc := 73) dX10_keeper_73 rfl rfl
      · replace h := (if_neg c6).symm.trans h
        refine Ev.icmp_ne_t (pc := 29) (tgt := 41) dX10_keeper_29 rfl c6 ?_
        refine Ev.iload_n (pc := 41) dX10_keeper_41 rfl rfl ?_
        refine Ev.iconst (pc := 42) (v := 2) dX10_keeper_42 ki_2 ?_
        by_cases c7 : a2 = 2
        · replace h := (if_pos c7).symm.trans h
          refine Ev.icmp_ne_f (pc := 43) dX10_keeper_43 ⟨58, rfl⟩ c7 ?_
          refine Ev.aload_n (pc := 46) dX10_keeper_46 rfl rfl ?_
          refine Ev.getR (pc := 47) dX10_keeper_47 fl_X10_7 sh_79 rfl ?_
          refine Ev.bipush (pc := 50) (v := 31) dX10_keeper_50 kb_31 ?_
          refine Ev.iload_n (pc := 52) dX10_keeper_52 rfl rfl ?_
          refine Ev.iadd (pc := 53) dX10_keeper_53 ?_
          obtain ⟨c12, h⟩ := ckA_elim h
          refine Ev.iald (pc := 54) dX10_keeper_54 sh_80 c12 ?_
          refine Ev.goto (pc := 55) (tgt := 73) dX10_keeper_55 rfl ?_
          obtain ⟨h1, h2⟩ := oeq h
          subst h1
          subst h2
          exact Ev.ret_i (pc := 73) dX10_keeper_73 rfl rfl
        · replace h := (if_neg c7).symm.trans h
          refine Ev.icmp_ne_t (pc := 43) (tgt := 58) dX10_keeper_43 rfl c7 ?_
          refine Ev.iload_n (pc := 58) dX10_keeper_58 rfl rfl ?_
          refine Ev.iconst (pc := 59) (v := 3) dX10_keeper_59 ki_3 ?_
          by_cases c8 : a2 = 3
          · replace h := (if_pos c8).symm.trans h
            refine Ev.icmp_ne_f (pc := 60) dX10_keeper_60 ⟨71, rfl⟩ c8 ?_
            refine Ev.aload_n (pc := 63) dX10_keeper_63 rfl rfl ?_
            refine Ev.iload_n (pc := 64) dX10_keeper_64 rfl rfl ?_
            obtain ⟨x9, σ10, g11, h⟩ := bd_elim h
            refine Ev.cVi (pc := 65) (k := 79) (av := [vI a1]) (rest := []) dX10_keeper_65 ce_X10_ofKeeper ml_X10_209 rfl sh_79 cl_X10 sh_sc (Nat.le_of_ble_eq_true rfl) (Nat.le_of_ble_eq_true rfl) (r_X10_ofKeeper g11) ?_
            refine Ev.goto (pc := 68) (tgt := 73) dX10_keeper_68 rfl ?_
            obtain ⟨h1, h2⟩ := oeq h
            subst h1
            subst h2
            exact Ev.ret_i (pc := 73) dX10_keeper_73 rfl rfl
          · replace h := (if_neg c8).symm.trans h
            refine Ev.icmp_ne_t (pc := 60) (tgt := 71) dX10_keeper_60 rfl c8 ?_
            refine Ev.ldc (pc := 71) dX10_keeper_71 kc_X10_93 ?_
            obtain ⟨h1, h2⟩ := oeq h
            subst h1
            subst h2
            exact Ev.ret_i (pc := 73) dX10_keeper_73 rfl rfl
theorem r_X10_keeper {N : Nat} {a1 : Int32} {a2 : Int32} {σ : St} {v : Int32} {w : St} (h : o_X10_keeper N a1 a2 σ = some (v, w)) : Rn md_X10_keeper 2 [vR 79, vI a1, vI a2] SH σ (some (vI v), SH, w) := Rn.of ce_X10_keeper.1 (Nat.le_of_ble_eq_true rfl) (e_X10_keeper N _ _ _ _ _ h)
def j_X5_hasPromise_16  (σ : St) : Int32 := 0
def p_X5_hasPromise (a1 : Int32) (σ : St) : Int32 := if a1 < 0 then (j_X5_hasPromise_16 σ) else (if (σ 1 3) ≤ a1 then (j_X5_hasPromise_16 σ) else 1)
theorem lj_X5_hasPromise_16  (σ : St) (v : Int32) (h : j_X5_hasPromise_16  σ = v) : Ev md_X5_hasPromise 0 16 [none, none] [] SH σ (some (vI v), SH, σ) := by
  unfold j_X5_hasPromise_16 at h
  refine Ev.iconst (pc := 16) (v := 0) dX5_hasPromise_16 ki_0 ?_
  subst h
  exact Ev.ret_i (pc := 17) dX5_hasPromise_17 rfl nb_0
theorem e_X5_hasPromise (a1 : Int32) (σ : St) (v : Int32) (h : p_X5_hasPromise a1 σ = v) : Ev md_X5_hasPromise 0 0 (lvE [vR 1, vI a1] 2) [] SH σ (some (vI v), SH, σ) := by
  show Ev md_X5_hasPromise 0 0 [some (vR 1), some (vI a1)] [] SH σ (some (vI v), SH, σ)
  unfold p_X5_hasPromise at h
  refine Ev.iload_n (pc := 0) dX5_hasPromise_0 rfl rfl ?_
  by_cases c1 : a1 < 0
  · replace h := (if_pos c1).symm.trans h
    refine Ev.if_lt_t (pc := 1) (tgt := 16) dX5_hasPromise_1 rfl c1 ?_
    exact Ev.weak2 (lj_X5_hasPromise_16 _ _ h) (lsubN (lsubN lsubE))
  · replace h := (if_neg c1).symm.trans h
    refine Ev.if_lt_f (pc := 1) dX5_hasPromise_1 ⟨16, rfl⟩ c1 ?_
    refine Ev.iload_n (pc := 4) dX5_hasPromise_4 rfl rfl ?_
    refine Ev.aload_n (pc := 5) dX5_hasPromise_5 rfl rfl ?_
    refine Ev.getI (pc := 6) dX5_hasPromise_6 fl_X5_49 sh_1 rfl ?_
    by_cases c2 : (σ 1 3) ≤ a1
    · replace h := (if_pos c2).symm.trans h
      refine Ev.icmp_ge_t (pc := 9) (tgt := 16) dX5_hasPromise_9 rfl c2 ?_
      exact Ev.weak2 (lj_X5_hasPromise_16 _ _ h) (lsubN (lsubN lsubE))
    · replace h := (if_neg c2).symm.trans h
      refine Ev.icmp_ge_f (pc := 9) dX5_hasPromise_9 ⟨16, rfl⟩ c2 ?_
      refine Ev.iconst (pc := 12) (v := 1) dX5_hasPromise_12 ki_1 ?_
      refine Ev.goto (pc := 13) (tgt := 17) dX5_hasPromise_13 rfl ?_
      subst h
      exact Ev.ret_i (pc := 17) dX5_hasPromise_17 rfl nb_1
theorem r_X5_hasPromise (a1 : Int32) (σ : St) : Rn md_X5_hasPromise 0 [vR 1, vI a1] SH σ (some (vI (p_X5_hasPromise a1 σ)), SH, σ) := Rn.of ce_X5_hasPromise.1 (Nat.le_of_ble_eq_true rfl) (e_X5_hasPromise _ _ _ rfl)
def p_X1_givenOn_23 (a1 : Int32) (σ : St) : Int32 := bt (at_ σ 9 7 a1) fun x1 => if x1 = (-1) then 0 else (if (at_ σ 24 31 (1 + x1)) = 1 then ((at_ σ 24 31 (8 + x1))) else (-1))
theorem e_X1_givenOn_23 (a1 : Int32) (σ : St) (v : Int32) (h : p_X1_givenOn_23 a1 σ = v) : Ev md_X1_givenOn 1 0 (lvE [vR 23, vI a1] 3) [] SH σ (some (vI v), SH, σ) := by
  show Ev md_X1_givenOn 1 0 [some (vR 23), some (vI a1), none] [] SH σ (some (vI v), SH, σ)
  unfold p_X1_givenOn_23 at h
  refine Ev.aload_n (pc := 0) dX1_givenOn_0 rfl rfl ?_
  refine Ev.getR (pc := 1) dX1_givenOn_1 fl_X1_15 sh_23 rfl ?_
  refine Ev.getR (pc := 4) dX1_givenOn_4 fl_X1_66 sh_1 rfl ?_
  refine Ev.iload_n (pc := 7) dX1_givenOn_7 rfl rfl ?_
  refine Ev.cTi (pc := 8) (av := [vR 9, vI a1]) (rest := []) dX1_givenOn_8 ce_X9_at ml_X1_28 rfl sh_sc (Nat.le_of_ble_eq_true rfl) (Nat.le_of_ble_eq_true rfl) (r_at sh_9 (by decide) _ _) ?_
  refine Ev.nmI (fun x1 e9 => ?_)
  replace h := bt_app h x1 e9
  refine Ev.istore_n (pc := 11) (lv' := [some (vR 23), some (vI a1), some (vI x1)]) dX1_givenOn_11 rfl (lt9 rfl) rfl rfl ?_
  refine Ev.iload_n (pc := 12) dX1_givenOn_12 rfl rfl ?_
  refine Ev.iconst (pc := 13) (v := (-1)) dX1_givenOn_13 ki_m1 ?_
  by_cases c2 : x1 = (-1)
  · replace h := (if_pos c2).symm.trans h
    refine Ev.icmp_ne_f (pc := 14) dX1_givenOn_14 ⟨19, rfl⟩ c2 ?_
    refine Ev.iconst (pc := 17) (v := 0) dX1_givenOn_17 ki_0 ?_
    subst h
    exact Ev.ret_i (pc := 18) dX1_givenOn_18 rfl rfl
  · replace h := (if_neg c2).symm.trans h
    refine Ev.icmp_ne_t (pc := 14) (tgt := 19) dX1_givenOn_14 rfl c2 ?_
    refine Ev.aload_n (pc := 19) dX1_givenOn_19 rfl rfl ?_
    refine Ev.getR (pc := 20) dX1_givenOn_20 fl_X1_11 sh_23 rfl ?_
    refine Ev.iconst (pc := 23) (v := 1) dX1_givenOn_23 ki_1 ?_
    refine Ev.iload_n (pc := 24) dX1_givenOn_24 rfl rfl ?_
    refine Ev.iadd (pc := 25) dX1_givenOn_25 ?_
    refine Ev.cTi (pc := 26) (av := [vR 24, vI (1 + x1)]) (rest := []) dX1_givenOn_26 ce_X9_at ml_X1_28 rfl sh_sc (Nat.le_of_ble_eq_true rfl) (Nat.le_of_ble_eq_true rfl) (r_at sh_24 (by decide) _ _) ?_
    refine Ev.iconst (pc := 29) (v := 1) dX1_givenOn_29 ki_1 ?_
    by_cases c3 : (at_ σ 24 31 (1 + x1)) = 1
    · replace h := (if_pos c3).symm.trans h
      refine Ev.icmp_ne_f (pc := 30) dX1_givenOn_30 ⟨47, rfl⟩ c3 ?_
      refine Ev.aload_n (pc := 33) dX1_givenOn_33 rfl rfl ?_
      refine Ev.getR (pc := 34) dX1_givenOn_34 fl_X1_11 sh_23 rfl ?_
      refine Ev.bipush (pc := 37) (v := 8) dX1_givenOn_37 kb_8 ?_
      refine Ev.iload_n (pc := 39) dX1_givenOn_39 rfl rfl ?_
      refine Ev.iadd (pc := 40) dX1_givenOn_40 ?_
      refine Ev.cTi (pc := 41) (av := [vR 24, vI (8 + x1)]) (rest := []) dX1_givenOn_41 ce_X9_at ml_X1_28 rfl sh_sc (Nat.le_of_ble_eq_true rfl) (Nat.le_of_ble_eq_true rfl) (r_at sh_24 (by decide) _ _) ?_
      refine Ev.goto (pc := 44) (tgt := 48) dX1_givenOn_44 rfl ?_
      subst h
      exact Ev.ret_i (pc := 48) dX1_givenOn_48 rfl rfl
    · replace h := (if_neg c3).symm.trans h
      refine Ev.icmp_ne_t (pc := 30) (tgt := 47) dX1_givenOn_30 rfl c3 ?_
      refine Ev.iconst (pc := 47) (v := (-1)) dX1_givenOn_47 ki_m1 ?_
      subst h
      exact Ev.ret_i (pc := 48) dX1_givenOn_48 rfl rfl
theorem r_X1_givenOn_23 (a1 : Int32) (σ : St) : Rn md_X1_givenOn 1 [vR 23, vI a1] SH σ (some (vI (p_X1_givenOn_23 a1 σ)), SH, σ) := Rn.of ce_X1_givenOn.1 (Nat.le_of_ble_eq_true rfl) (e_X1_givenOn_23 _ _ _ rfl)
def p_J9_max_7cf53 (a0 : Int32) (a1 : Int32) (σ : St) : Int32 := if a0 < a1 then a1 else a0
theorem e_J9_max_7cf53 (a0 : Int32) (a1 : Int32) (σ : St) (v : Int32) (h : p_J9_max_7cf53 a0 a1 σ = v) : Ev md_J9_max_7cf53 0 0 (lvE [vI a0, vI a1] 2) [] SH σ (some (vI v), SH, σ) := by
  show Ev md_J9_max_7cf53 0 0 [some (vI a0), some (vI a1)] [] SH σ (some (vI v), SH, σ)
  unfold p_J9_max_7cf53 at h
  refine Ev.iload_n (pc := 0) dJ9_max_7cf53_0 rfl rfl ?_
  refine Ev.iload_n (pc := 1) dJ9_max_7cf53_1 rfl rfl ?_
  by_cases c1 : a0 < a1
  · replace h := (if_pos c1).symm.trans h
    refine Ev.icmp_lt_t (pc := 2) (tgt := 9) dJ9_max_7cf53_2 rfl c1 ?_
    refine Ev.iload_n (pc := 9) dJ9_max_7cf53_9 rfl rfl ?_
    subst h
    exact Ev.ret_i (pc := 10) dJ9_max_7cf53_10 rfl rfl
  · replace h := (if_neg c1).symm.trans h
    refine Ev.icmp_lt_f (pc := 2) dJ9_max_7cf53_2 ⟨9, rfl⟩ c1 ?_
    refine Ev.iload_n (pc := 5) dJ9_max_7cf53_5 rfl rfl ?_
    refine Ev.goto (pc := 6) (tgt := 10) dJ9_max_7cf53_6 rfl ?_
    subst h
    exact Ev.ret_i (pc := 10) dJ9_max_7cf53_10 rfl rfl
theorem r_J9_max_7cf53 (a0 : Int32) (a1 : Int32) (σ : St) : Rn md_J9_max_7cf53 0 [vI a0, vI a1] SH σ (some (vI (p_J9_max_7cf53 a0 a1 σ)), SH, σ) := Rn.of ce_J9_max_7cf53.1 (Nat.le_of_ble_eq_true rfl) (e_J9_max_7cf53 _ _ _ _ rfl)
def j_X5_ripeDay_21 (N : Nat) (v1 : Int32) (v2 : Int32) (σ : St) : Option (Int32 × St) := some ((v1 + v2), σ)
def o_X5_ripeDay (N : Nat) (a1 : Int32) (a2 : Int32) (σ : St) : Option (Int32 × St) := bt ((σ 1 6) - (σ 1 5)) fun x1 => if (σ 1 6) ≤ 0 then (j_X5_ripeDay_21 N a1 a2 σ) else (if (0 : Int32) < x1 then (bd (o_J9_floorMod_7cf53 N (a1 - (σ 1 4)) (σ 1 6) σ) fun x4 σ5 => bt (p_J9_max_7cf53 x4 (σ5 1 5) σ5) fun x7 => bt ((a1 + x7) - x4) fun x8 => bt ((σ5 1 6) - x7) fun x9 => if x9 < a2 then (bt ((a2 - x9) - 1) fun x11 => ckDI x1 (ckDI x1 (some ((((((x8 + x9) + ((x11 / x1) * (σ5 1 6))) + (σ5 1 5)) + (x11 - x11 / x1 * x1)) + 1), σ5)))) else (some ((x8 + a2), σ5))) else (j_X5_ripeDay_21 N a1 a2 σ))
theorem lj_X5_ripeDay_21 (N : Nat) (v1 : Int32) (v2 : Int32) (σ : St) (v : Int32) (w : St) (h : j_X5_ripeDay_21 N v1 v2 σ = some (v, w)) : Ev md_X5_ripeDay 1 21 [none, some (vI v1), some (vI v2), none, none, none, none, none, none] [] SH σ (some (vI v), SH, w) := by
  unfold j_X5_ripeDay_21 at h
  refine Ev.iload_n (pc := 21) dX5_ripeDay_21 rfl rfl ?_
  refine Ev.iload_n (pc := 22) dX5_ripeDay_22 rfl rfl ?_
  refine Ev.iadd (pc := 23) dX5_ripeDay_23 ?_
  obtain ⟨h1, h2⟩ := oeq h
  subst h1
  subst h2
  exact Ev.ret_i (pc := 24) dX5_ripeDay_24 rfl rfl
theorem e_X5_ripeDay (N : Nat) (a1 : Int32) (a2 : Int32) (σ : St) (v : Int32) (w : St) (h : o_X5_ripeDay N a1 a2 σ = some (v, w)) : Ev md_X5_ripeDay 1 0 (lvE [vR 1, vI a1, vI a2] 9) [] SH σ (some (vI v), SH, w) := by
  show Ev md_X5_ripeDay 1 0 [some (vR 1), some (vI a1), some (vI a2), none, none, none, none, none, none] [] SH σ (some (vI v), SH, w)
  unfold o_X5_ripeDay at h
  refine Ev.aload_n (pc := 0) dX5_ripeDay_0 rfl rfl ?_
  refine Ev.getI (pc := 1) dX5_ripeDay_1 fl_X5_58 sh_1 rfl ?_
  refine Ev.aload_n (pc := 4) dX5_ripeDay_4 rfl rfl ?_
  refine Ev.getI (pc := 5) dX5_ripeDay_5 fl_X5_55 sh_1 rfl ?_
  refine Ev.isub (pc := 8) dX5_ripeDay_8 ?_
  refine Ev.nmI (fun x1 e9 => ?_)
  replace h := bt_app h x1 e9
  refine Ev.istore_n (pc := 9) (lv' := [some (vR 1), some (vI a1), some (vI a2), some (vI x1), none, none, none, none, none]) dX5_ripeDay_9 rfl (lt9 rfl) rfl rfl ?_
  refine Ev.aload_n (pc := 10) dX5_ripeDay_10 rfl rfl ?_
  refine Ev.getI (pc := 11) dX5_ripeDay_11 fl_X5_58 sh_1 rfl ?_
  by_cases c2 : (σ 1 6) ≤ 0
  · replace h := (if_pos c2).symm.trans h
    refine Ev.if_le_t (pc := 14) (tgt := 21) dX5_ripeDay_14 rfl c2 ?_
    exact Ev.weak2 (lj_X5_ripeDay_21 N _ _ _ _ _ h) (lsubN (lsubS (lsubS (lsubN (lsubN (lsubN (lsubN (lsubN (lsubN lsubE)))))))))
  · replace h := (if_neg c2).symm.trans h
    refine Ev.if_le_f (pc := 14) dX5_ripeDay_14 ⟨21, rfl⟩ c2 ?_
    refine Ev.iload_n (pc := 17) dX5_ripeDay_17 rfl rfl ?_
    by_cases c3 : (0 : Int32) < x1
    · replace h := (if_pos c3).symm.trans h
      refine Ev.if_gt_t (pc := 18) (tgt := 25) dX5_ripeDay_18 rfl c3 ?_
      refine Ev.iload_n (pc := 25) dX5_ripeDay_25 rfl rfl ?_
      refine Ev.aload_n (pc := 26) dX5_ripeDay_26 rfl rfl ?_
      refine Ev.getI (pc := 27) dX5_ripeDay_27 fl_X5_52 sh_1 rfl ?_
      refine Ev.isub (pc := 30) dX5_ripeDay_30 ?_
      refine Ev.aload_n (pc := 31) dX5_ripeDay_31 rfl rfl ?_
      refine Ev.getI (pc := 32) dX5_ripeDay_32 fl_X5_58 sh_1 rfl ?_
      obtain ⟨x4, σ5, g6, h⟩ := bd_elim h
      refine Ev.cTi (pc := 35) (av := [vI (a1 - (σ 1 4)), vI (σ 1 6)]) (rest := []) dX5_ripeDay_35 ce_J9_floorMod_7cf53 ml_X5_77 rfl sh_sc (Nat.le_of_ble_eq_true rfl) (Nat.le_of_ble_eq_true rfl) (r_J9_floorMod_7cf53 g6) ?_
      refine Ev.istore (pc := 38) (lv' := [some (vR 1), some (vI a1), some (vI a2), some (vI x1), some (vI x4), none, none, none, none]) dX5_ripeDay_38 (lt9 rfl) rfl rfl ?_
      refine Ev.iload (pc := 40) dX5_ripeDay_40 rfl ?_
      refine Ev.aload_n (pc := 42) dX5_ripeDay_42 rfl rfl ?_
      refine Ev.getI (pc := 43) dX5_ripeDay_43 fl_X5_55 sh_1 rfl ?_
      refine Ev.cTi (pc := 46) (av := [vI x4, vI (σ5 1 5)]) (rest := []) dX5_ripeDay_46 ce_J9_max_7cf53 ml_X5_83 rfl sh_sc (Nat.le_of_ble_eq_true rfl) (Nat.le_of_ble_eq_true rfl) (r_J9_max_7cf53 _ _ _) ?_
      refine Ev.nmI (fun x7 e9 => ?_)
      replace h := bt_app h x7 e9
      refine Ev.istore (pc := 49) (lv' := [some (vR 1), some (vI a1), some (vI a2), some (vI x1), some (vI x4), some (vI x7), none, none, none]) dX5_ripeDay_49 (lt9 rfl) rfl rfl ?_
      refine Ev.iload_n (pc := 51) dX5_ripeDay_51 rfl rfl ?_
      refine Ev.iload (pc := 52) dX5_ripeDay_52 rfl ?_
      refine Ev.iadd (pc := 54) dX5_ripeDay_54 ?_
      refine Ev.iload (pc := 55) dX5_ripeDay_55 rfl ?_
      refine Ev.isub (pc := 57) dX5_ripeDay_57 ?_
      refine Ev.nmI (fun x8 e9 => ?_)
      replace h := bt_app h x8 e9
      refine Ev.istore (pc := 58) (lv' := [some (vR 1), some (vI a1), some (vI a2), some (vI x1), some (vI x4), some (vI x7), some (vI x8), none, none]) dX5_ripeDay_58 (lt9 rfl) rfl rfl ?_
      refine Ev.aload_n (pc := 60) dX5_ripeDay_60 rfl rfl ?_
      refine Ev.getI (pc := 61) dX5_ripeDay_61 fl_X5_58 sh_1 rfl ?_
      refine Ev.iload (pc := 64) dX5_ripeDay_64 rfl ?_
      refine Ev.isub (pc := 66) dX5_ripeDay_66 ?_
      refine Ev.nmI (fun x9 e9 => ?_)
      replace h := bt_app h x9 e9
      refine Ev.istore (pc := 67) (lv' := [some (vR 1), some (vI a1), some (vI a2), some (vI x1), some (vI x4), some (vI x7), some (vI x8), some (vI x9), none]) dX5_ripeDay_67 (lt9 rfl) rfl rfl ?_
      refine Ev.iload_n (pc := 69) dX5_ripeDay_69 rfl rfl ?_
      refine Ev.iload (pc := 70) dX5_ripeDay_70 rfl ?_
      by_cases c10 : x9 < a2
      · replace h := (if_pos c10).symm.trans h
        refine Ev.icmp_gt_t (pc := 72) (tgt := 80) dX5_ripeDay_72 rfl c10 ?_
        refine Ev.iload_n (pc := 80) dX5_ripeDay_80 rfl rfl ?_
        refine Ev.iload (pc := 81) dX5_ripeDay_81 rfl ?_
        refine Ev.isub (pc := 83) dX5_ripeDay_83 ?_
        refine Ev.iconst (pc := 84) (v := 1) dX5_ripeDay_84 ki_1 ?_
        refine Ev.isub (pc := 85) dX5_ripeDay_85 ?_
        refine Ev.nmI (fun x11 e9 => ?_)
        replace h := bt_app h x11 e9
        refine Ev.istore (pc := 86) (lv' := [some (vR 1), some (vI a1), some (vI a2), some (vI x1), some (vI x4), some (vI x7), some (vI x8), some (vI x9), some (vI x11)]) dX5_ripeDay_86 (lt9 rfl) rfl rfl ?_
        refine Ev.iload (pc := 88) dX5_ripeDay_88 rfl ?_
        refine Ev.iload (pc := 90) dX5_ripeDay_90 rfl ?_
        refine Ev.iadd (pc := 92) dX5_ripeDay_92 ?_
        refine Ev.iload (pc := 93) dX5_ripeDay_93 rfl ?_
        refine Ev.iload_n (pc := 95) dX5_ripeDay_95 rfl rfl ?_
        obtain ⟨c12, h⟩ := ckDI_elim h
        refine Ev.idiv (pc := 96) dX5_ripeDay_96 c12 ?_
        refine Ev.aload_n (pc := 97) dX5_ripeDay_97 rfl rfl ?_
        refine Ev.getI (pc := 98) dX5_ripeDay_98 fl_X5_58 sh_1 rfl ?_
        refine Ev.imul (pc := 101) dX5_ripeDay_101 ?_
        refine Ev.iadd (pc := 102) dX5_ripeDay_102 ?_
        refine Ev.aload_n (pc := 103) dX5_ripeDay_103 rfl rfl ?_
        refine Ev.getI (pc := 104) dX5_ripeDay_104 fl_X5_55 sh_1 rfl ?_
        refine Ev.iadd (pc := 107) dX5_ripeDay_107 ?_
        refine Ev.iload (pc := 108) dX5_ripeDay_108 rfl ?_
        refine Ev.iload_n (pc := 110) dX5_ripeDay_110 rfl rfl ?_
        obtain ⟨c13, h⟩ := ckDI_elim h
        refine Ev.irem (pc := 111) dX5_ripeDay_111 c13 ?_
        refine Ev.iadd (pc := 112) dX5_ripeDay_112 ?_
        refine Ev.iconst (pc := 113) (v := 1) dX5_ripeDay_113 ki_1 ?_
        refine Ev.iadd (pc := 114) dX5_ripeDay_114 ?_
        obtain ⟨h1, h2⟩ := oeq h
        subst h1
        subst h2
        exact Ev.ret_i (pc := 115) dX5_ripeDay_115 rfl rfl
      · replace h := (if_neg c10).symm.trans h
        refine Ev.icmp_gt_f (pc := 72) dX5_ripeDay_72 ⟨80, rfl⟩ c10 ?_
        refine Ev.iload (pc := 75) dX5_ripeDay_75 rfl ?_
        refine Ev.iload_n (pc := 77) dX5_ripeDay_77 rfl rfl ?_
        refine Ev.iadd (pc := 78) dX5_ripeDay_78 ?_
        obtain ⟨h1, h2⟩ := oeq h
        subst h1
        subst h2
        exact Ev.ret_i (pc := 79) dX5_ripeDay_79 rfl rfl
    · replace h := (if_neg c3).symm.trans h
      refine Ev.if_gt_f (pc := 18) dX5_ripeDay_18 ⟨25, rfl⟩ c3 ?_
      exact Ev.weak2 (lj_X5_ripeDay_21 N _ _ _ _ _ h) (lsubN (lsubS (lsubS (lsubN (lsubN (lsubN (lsubN (lsubN (lsubN lsubE)))))))))
theorem r_X5_ripeDay {N : Nat} {a1 : Int32} {a2 : Int32} {σ : St} {v : Int32} {w : St} (h : o_X5_ripeDay N a1 a2 σ = some (v, w)) : Rn md_X5_ripeDay 1 [vR 1, vI a1, vI a2] SH σ (some (vI v), SH, w) := Rn.of ce_X5_ripeDay.1 (Nat.le_of_ble_eq_true rfl) (e_X5_ripeDay N _ _ _ _ _ h)
def o_X1_ripeOn_23 (N : Nat) (a1 : Int32) (σ : St) : Option (Int32 × St) := bt (p_X1_givenOn_23 a1 σ) fun x1 => if x1 = (-1) then (some ((-1), σ)) else (bd (o_X5_ripeDay N x1 (at_ σ 6 7 a1) σ) fun x3 σ4 => some (x3, σ4))
theorem e_X1_ripeOn_23 (N : Nat) (a1 : Int32) (σ : St) (v : Int32) (w : St) (h : o_X1_ripeOn_23 N a1 σ = some (v, w)) : Ev md_X1_ripeOn 2 0 (lvE [vR 23, vI a1] 3) [] SH σ (some (vI v), SH, w) := by
  show Ev md_X1_ripeOn 2 0 [some (vR 23), some (vI a1), none] [] SH σ (some (vI v), SH, w)
  unfold o_X1_ripeOn_23 at h
  refine Ev.aload_n (pc := 0) dX1_ripeOn_0 rfl rfl ?_
  refine Ev.iload_n (pc := 1) dX1_ripeOn_1 rfl rfl ?_
  refine Ev.cVi (pc := 2) (k := 23) (av := [vI a1]) (rest := []) dX1_ripeOn_2 ce_X1_givenOn ml_X1_69 rfl sh_23 cl_X1 sh_sc (Nat.le_of_ble_eq_true rfl) (Nat.le_of_ble_eq_true rfl) (r_X1_givenOn_23 _ _) ?_
  refine Ev.nmI (fun x1 e9 => ?_)
  replace h := bt_app h x1 e9
  refine Ev.istore_n (pc := 5) (lv' := [some (vR 23), some (vI a1), some (vI x1)]) dX1_ripeOn_5 rfl (lt9 rfl) rfl rfl ?_
  refine Ev.iload_n (pc := 6) dX1_ripeOn_6 rfl rfl ?_
  refine Ev.iconst (pc := 7) (v := (-1)) dX1_ripeOn_7 ki_m1 ?_
  by_cases c2 : x1 = (-1)
  · replace h := (if_pos c2).symm.trans h
    refine Ev.icmp_ne_f (pc := 8) dX1_ripeOn_8 ⟨15, rfl⟩ c2 ?_
    refine Ev.iconst (pc := 11) (v := (-1)) dX1_ripeOn_11 ki_m1 ?_
    refine Ev.goto (pc := 12) (tgt := 34) dX1_ripeOn_12 rfl ?_
    obtain ⟨h1, h2⟩ := oeq h
    subst h1
    subst h2
    exact Ev.ret_i (pc := 34) dX1_ripeOn_34 rfl rfl
  · replace h := (if_neg c2).symm.trans h
    refine Ev.icmp_ne_t (pc := 8) (tgt := 15) dX1_ripeOn_8 rfl c2 ?_
    refine Ev.aload_n (pc := 15) dX1_ripeOn_15 rfl rfl ?_
    refine Ev.getR (pc := 16) dX1_ripeOn_16 fl_X1_15 sh_23 rfl ?_
    refine Ev.iload_n (pc := 19) dX1_ripeOn_19 rfl rfl ?_
    refine Ev.aload_n (pc := 20) dX1_ripeOn_20 rfl rfl ?_
    refine Ev.getR (pc := 21) dX1_ripeOn_21 fl_X1_15 sh_23 rfl ?_
    refine Ev.getR (pc := 24) dX1_ripeOn_24 fl_X1_72 sh_1 rfl ?_
    refine Ev.iload_n (pc := 27) dX1_ripeOn_27 rfl rfl ?_
    refine Ev.cTi (pc := 28) (av := [vR 6, vI a1]) (rest := [vI x1, vR 1]) dX1_ripeOn_28 ce_X9_at ml_X1_28 rfl sh_sc (Nat.le_of_ble_eq_true rfl) (Nat.le_of_ble_eq_true rfl) (r_at sh_6 (by decide) _ _) ?_
    obtain ⟨x3, σ4, g5, h⟩ := bd_elim h
    refine Ev.cVi (pc := 31) (k := 1) (av := [vI x1, vI (at_ σ 6 7 a1)]) (rest := []) dX1_ripeOn_31 ce_X5_ripeDay ml_X1_75 rfl sh_1 cl_X5 sh_sc (Nat.le_of_ble_eq_true rfl) (Nat.le_of_ble_eq_true rfl) (r_X5_ripeDay g5) ?_
    obtain ⟨h1, h2⟩ := oeq h
    subst h1
    subst h2
    exact Ev.ret_i (pc := 34) dX1_ripeOn_34 rfl rfl
theorem r_X1_ripeOn_23 {N : Nat} {a1 : Int32} {σ : St} {v : Int32} {w : St} (h : o_X1_ripeOn_23 N a1 σ = some (v, w)) : Rn md_X1_ripeOn 2 [vR 23, vI a1] SH σ (some (vI v), SH, w) := Rn.of ce_X1_ripeOn.1 (Nat.le_of_ble_eq_true rfl) (e_X1_ripeOn_23 N _ _ _ _ h)
def p_X1_endedOn (a1 : Int32) (σ : St) : Int32 := (at_ σ 24 31 (8 + a1))
theorem e_X1_endedOn (a1 : Int32) (σ : St) (v : Int32) (h : p_X1_endedOn a1 σ = v) : Ev md_X1_endedOn 1 0 (lvE [vR 23, vI a1] 2) [] SH σ (some (vI v), SH, σ) := by
  show Ev md_X1_endedOn 1 0 [some (vR 23), some (vI a1)] [] SH σ (some (vI v), SH, σ)
  unfold p_X1_endedOn at h
  refine Ev.aload_n (pc := 0) dX1_endedOn_0 rfl rfl ?_
  refine Ev.getR (pc := 1) dX1_endedOn_1 fl_X1_11 sh_23 rfl ?_
  refine Ev.bipush (pc := 4) (v := 8) dX1_endedOn_4 kb_8 ?_
  refine Ev.iload_n (pc := 6) dX1_endedOn_6 rfl rfl ?_
  refine Ev.iadd (pc := 7) dX1_endedOn_7 ?_
  refine Ev.cTi (pc := 8) (av := [vR 24, vI (8 + a1)]) (rest := []) dX1_endedOn_8 ce_X9_at ml_X1_28 rfl sh_sc (Nat.le_of_ble_eq_true rfl) (Nat.le_of_ble_eq_true rfl) (r_at sh_24 (by decide) _ _) ?_
  subst h
  exact Ev.ret_i (pc := 11) dX1_endedOn_11 rfl rfl
theorem r_X1_endedOn (a1 : Int32) (σ : St) : Rn md_X1_endedOn 1 [vR 23, vI a1] SH σ (some (vI (p_X1_endedOn a1 σ)), SH, σ) := Rn.of ce_X1_endedOn.1 (Nat.le_of_ble_eq_true rfl) (e_X1_endedOn _ _ _ rfl)
def o_X9_promise (N : Nat) (a1 : Int32) (a2 : Int32) (σ : St) : Option (Int32 × St) := if (p_X5_hasPromise a1 σ) = 0 then (some ((-1000000001), σ)) else (if a2 = 0 then (some ((p_X1_holderOf_23 a1 σ), σ)) else if a2 = 1 then (some ((at_ σ 5 7 a1), σ)) else if a2 = 2 then (some ((at_ σ 6 7 a1), σ)) else if a2 = 3 then (some ((at_ σ 7 7 a1), σ)) else if a2 = 4 then (some ((at_ σ 8 7 a1), σ)) else if a2 = 5 then (some ((at_ σ 9 7 a1), σ)) else if a2 = 6 then (some ((p_X1_how_23 a1 σ), σ)) else if a2 = 7 then (bd (o_X1_ripeOn_23 N a1 σ) fun x10 σ11 => some (x10, σ11)) else if a2 = 8 then (some ((p_X1_endedOn a1 σ), σ)) else (some ((-1000000002), σ)))
theorem e_X9_promise (N : Nat) (a1 : Int32) (a2 : Int32) (σ : St) (v : Int32) (w : St) (h : o_X9_promise N a1 a2 σ = some (v, w)) : Ev md_X9_promise 3 0 (lvE [vR 0, vI a1, vI a2] 3) [] SH σ (some (vI v), SH, w) := by
  show Ev md_X9_promise 3 0 [some (vR 0), some (vI a1), some (vI a2)] [] SH σ (some (vI v), SH, w)
  unfold o_X9_promise at h
  refine Ev.aload_n (pc := 0) dX9_promise_0 rfl rfl ?_
  refine Ev.getR (pc := 1) dX9_promise_1 fl_X9_10 sh_0 rfl ?_
  refine Ev.iload_n (pc := 4) dX9_promise_4 rfl rfl ?_
  refine Ev.cVi (pc := 5) (k := 1) (av := [vI a1]) (rest := []) dX9_promise_5 ce_X5_hasPromise ml_X9_170 rfl sh_1 cl_X5 sh_sc (Nat.le_of_ble_eq_true rfl) (Nat.le_of_ble_eq_true rfl) (r_X5_hasPromise _ _) ?_
  by_cases c1 : (p_X5_hasPromise a1 σ) = 0
  · replace h := (if_pos c1).symm.trans h
    refine Ev.if_ne_f (pc := 8) dX9_promise_8 ⟨14, rfl⟩ c1 ?_
    refine Ev.ldc (pc := 11) dX9_promise_11 kc_X9_145 ?_
    obtain ⟨h1, h2⟩ := oeq h
    subst h1
    subst h2
    exact Ev.ret_i (pc := 13) dX9_promise_13 rfl rfl
  · replace h := (if_neg c1).symm.trans h
    refine Ev.if_ne_t (pc := 8) (tgt := 14) dX9_promise_8 rfl c1 ?_
    refine Ev.iload_n (pc := 14) dX9_promise_14 rfl rfl ?_
    by_cases c2 : a2 = 0
    · replace h := (if_pos c2).symm.trans h
      refine Ev.swC (pc := 15) (c := 0) (tgt := 64) dX9_promise_15 c2 (by decide) (by decide) rfl rfl ?_
      refine Ev.aload_n (pc := 64) dX9_promise_64 rfl rfl ?_
      refine Ev.getR (pc := 65) dX9_promise_65 fl_X9_31 sh_0 rfl ?_
      refine Ev.iload_n (pc := 68) dX9_promise_68 rfl rfl ?_
      refine Ev.cVi (pc := 69) (k := 23) (av := [vI a1]) (rest := []) dX9_promise_69 ce_X1_holderOf ml_X9_173 rfl sh_23 cl_X1 sh_sc (Nat.le_of_ble_eq_true rfl) (Nat.le_of_ble_eq_true rfl) (r_X1_holderOf_23 _ _) ?_
      obtain ⟨h1, h2⟩ := oeq h
      subst h1
      subst h2
      exact Ev.ret_i (pc := 72) dX9_promise_72 rfl rfl
    replace h := (if_neg c2).symm.trans h
    by_cases c3 : a2 = 1
    · replace h := (if_pos c3).symm.trans h
      refine Ev.swC (pc := 15) (c := 1) (tgt := 73) dX9_promise_15 c3 (by decide) (by decide) rfl rfl ?_
      refine Ev.aload_n (pc := 73) dX9_promise_73 rfl rfl ?_
      refine Ev.getR (pc := 74) dX9_promise_74 fl_X9_10 sh_0 rfl ?_
      refine Ev.getR (pc := 77) dX9_promise_77 fl_X9_176 sh_1 rfl ?_
      refine Ev.iload_n (pc := 80) dX9_promise_80 rfl rfl ?_
      refine Ev.cTi (pc := 81) (av := [vR 5, vI a1]) (rest := []) dX9_promise_81 ce_X9_at ml_X9_160 rfl sh_sc (Nat.le_of_ble_eq_true rfl) (Nat.le_of_ble_eq_true rfl) (r_at sh_5 (by decide) _ _) ?_
      obtain ⟨h1, h2⟩ := oeq h
      subst h1
      subst h2
      exact Ev.ret_i (pc := 84) dX9_promise_84 rfl rfl
    replace h := (if_neg c3).symm.trans h
    by_cases c4 : a2 = 2
    · replace h := (if_pos c4).symm.trans h
      refine Ev.swC (pc := 15) (c := 2) (tgt := 85) dX9_promise_15 c4 (by decide) (by decide) rfl rfl ?_
      refine Ev.aload_n (pc := 85) dX9_promise_85 rfl rfl ?_
      refine Ev.getR (pc := 86) dX9_promise_86 fl_X9_10 sh_0 rfl ?_
      refine Ev.getR (pc := 89) dX9_promise_89 fl_X9_179 sh_1 rfl ?_
      refine Ev.iload_n (pc := 92) dX9_promise_92 rfl rfl ?_
      refine Ev.cTi (pc := 93) (av := [vR 6, vI a1]) (rest := []) dX9_promise_93 ce_X9_at ml_X9_160 rfl sh_sc (Nat.le_of_ble_eq_true rfl) (Nat.le_of_ble_eq_true rfl) (r_at sh_6 (by decide) _ _) ?_
      obtain ⟨h1, h2⟩ := oeq h
      subst h1
      subst h2
      exact Ev.ret_i (pc := 96) dX9_promise_96 rfl rfl
    replace h := (if_neg c4).symm.trans h
    by_cases c5 : a2 = 3
    · replace h := (if_pos c5).symm.trans h
      refine Ev.swC (pc := 15) (c := 3) (tgt := 97) dX9_promise_15 c5 (by decide) (by decide) rfl rfl ?_
      refine Ev.aload_n (pc := 97) dX9_promise_97 rfl rfl ?_
      refine Ev.getR (pc := 98) dX9_promise_98 fl_X9_10 sh_0 rfl ?_
      refine Ev.getR (pc := 101) dX9_promise_101 fl_X9_182 sh_1 rfl ?_
      refine Ev.iload_n (pc := 104) dX9_promise_104 rfl rfl ?_
      refine Ev.cTi (pc := 105) (av := [vR 7, vI a1]) (rest := []) dX9_promise_105 ce_X9_at ml_X9_160 rfl sh_sc (Nat.le_of_ble_eq_true rfl) (Nat.le_of_ble_eq_true rfl) (r_at sh_7 (by decide) _ _) ?_
      obtain ⟨h1, h2⟩ := oeq h
      subst h1
      subst h2
      exact Ev.ret_i (pc := 108) dX9_promise_108 rfl rfl
    replace h := (if_neg c5).symm.trans h
    by_cases c6 : a2 = 4
    · replace h := (if_pos c6).symm.trans h
      refine Ev.swC (pc := 15) (c := 4) (tgt := 109) dX9_promise_15 c6 (by decide) (by decide) rfl rfl ?_
      refine Ev.aload_n (pc := 109) dX9_promise_109 rfl rfl ?_
      refine Ev.getR (pc := 110) dX9_promise_110 fl_X9_10 sh_0 rfl ?_
      refine Ev.getR (pc := 113) dX9_promise_113 fl_X9_185 sh_1 rfl ?_
      refine Ev.iload_n (pc := 116) dX9_promise_116 rfl rfl ?_
      refine Ev.cTi (pc := 117) (av := [vR 8, vI a1]) (rest := []) dX9_promise_117 ce_X9_at ml_X9_160 rfl sh_sc (Nat.le_of_ble_eq_true rfl) (Nat.le_of_ble_eq_true rfl) (r_at sh_8 (by decide) _ _) ?_
      obtain ⟨h1, h2⟩ := oeq h
      subst h1
      subst h2
      exact Ev.ret_i (pc := 120) dX9_promise_120 rfl rfl
    replace h := (if_neg c6).symm.trans h
    by_cases c7 : a2 = 5
    · replace h := (if_pos c7).symm.trans h
      refine Ev.swC (pc := 15) (c := 5) (tgt := 121) dX9_promise_15 c7 (by decide) (by decide) rfl rfl ?_
      refine Ev.aload_n (pc := 121) dX9_promise_121 rfl rfl ?_
      refine Ev.getR (pc := 122) dX9_promise_122 fl_X9_10 sh_0 rfl ?_
      refine Ev.getR (pc := 125) dX9_promise_125 fl_X9_188 sh_1 rfl ?_
      refine Ev.iload_n (pc := 128) dX9_promise_128 rfl rfl ?_
      refine Ev.cTi (pc := 129) (av := [vR 9, vI a1]) (rest := []) dX9_promise_129 ce_X9_at ml_X9_160 rfl sh_sc (Nat.le_of_ble_eq_true rfl) (Nat.le_of_ble_eq_true rfl) (r_at sh_9 (by decide) _ _) ?_
      obtain ⟨h1, h2⟩ := oeq h
      subst h1
      subst h2
      exact Ev.ret_i (pc := 132) dX9_promise_132 rfl rfl
    replace h := (if_neg c7).symm.trans h
    by_cases c8 : a2 = 6
    · replace h := (if_pos c8).symm.trans h
      refine Ev.swC (pc := 15) (c := 6) (tgt := 133) dX9_promise_15 c8 (by decide) (by decide) rfl rfl ?_
      refine Ev.aload_n (pc := 133) dX9_promise_133 rfl rfl ?_
      refine Ev.getR (pc := 134) dX9_promise_134 fl_X9_31 sh_0 rfl ?_
      refine Ev.iload_n (pc := 137) dX9_promise_137 rfl rfl ?_
      refine Ev.cVi (pc := 138) (k := 23) (av := [vI a1]) (rest := []) dX9_promise_138 ce_X1_how ml_X9_191 rfl sh_23 cl_X1 sh_sc (Nat.le_of_ble_eq_true rfl) (Nat.le_of_ble_eq_true rfl) (r_X1_how_23 _ _) ?_
      obtain ⟨h1, h2⟩ := oeq h
      subst h1
      subst h2
      exact Ev.ret_i (pc := 141) dX9_promise_141 rfl rfl
    replace h := (if_neg c8).symm.trans h
    by_cases c9 : a2 = 7
    · replace h := (if_pos c9).symm.trans h
      refine Ev.swC (pc := 15) (c := 7) (tgt := 142) dX9_promise_15 c9 (by decide) (by decide) rfl rfl ?_
      refine Ev.aload_n (pc := 142) dX9_promise_142 rfl rfl ?_
      refine Ev.getR (pc := 143) dX9_promise_143 fl_X9_31 sh_0 rfl ?_
      refine Ev.iload_n (pc := 146) dX9_promise_146 rfl rfl ?_
      obtain ⟨x10, σ11, g12, h⟩ := bd_elim h
      refine Ev.cVi (pc := 147) (k := 23) (av := [vI a1]) (rest := []) dX9_promise_147 ce_X1_ripeOn ml_X9_194 rfl sh_23 cl_X1 sh_sc (Nat.le_of_ble_eq_true rfl) (Nat.le_of_ble_eq_true rfl) (r_X1_ripeOn_23 g12) ?_
      obtain ⟨h1, h2⟩ := oeq h
      subst h1
      subst h2
      exact Ev.ret_i (pc := 150) dX9_promise_150 rfl rfl
    replace h := (if_neg c9).symm.trans h
    by_cases c13 : a2 = 8
    · replace h := (if_pos c13).symm.trans h
      refine Ev.swC (pc := 15) (c := 8) (tgt := 151) dX9_promise_15 c13 (by decide) (by decide) rfl rfl ?_
      refine Ev.aload_n (pc := 151) dX9_promise_151 rfl rfl ?_
      refine Ev.getR (pc := 152) dX9_promise_152 fl_X9_31 sh_0 rfl ?_
      refine Ev.iload_n (pc := 155) dX9_promise_155 rfl rfl ?_
      refine Ev.cVi (pc := 156) (k := 23) (av := [vI a1]) (rest := []) dX9_promise_156 ce_X1_endedOn ml_X9_197 rfl sh_23 cl_X1 sh_sc (Nat.le_of_ble_eq_true rfl) (Nat.le_of_ble_eq_true rfl) (r_X1_endedOn _ _) ?_
      obtain ⟨h1, h2⟩ := oeq h
      subst h1
      subst h2
      exact Ev.ret_i (pc := 159) dX9_promise_159 rfl rfl
    replace h := (if_neg c13).symm.trans h
    refine Ev.swD (pc := 15) (tgt := 160) (tl := [0, 1, 2, 3, 4, 5, 6, 7, 8]) dX9_promise_15 (not_mem_cons9 (neI c2 rfl) (not_mem_cons9 (neI c3 rfl) (not_mem_cons9 (neI c4 rfl) (not_mem_cons9 (neI c5 rfl) (not_mem_cons9 (neI c6 rfl) (not_mem_cons9 (neI c7 rfl) (not_mem_cons9 (neI c8 rfl) (not_mem_cons9 (neI c9 rfl) (not_mem_cons9 (neI c13 rfl) (not_mem_nil9)))))))))) rfl rfl rfl ?_
    refine Ev.ldc (pc := 160) dX9_promise_160 kc_X9_81 ?_
    obtain ⟨h1, h2⟩ := oeq h
    subst h1
    subst h2
    exact Ev.ret_i (pc := 162) dX9_promise_162 rfl rfl
theorem r_X9_promise {N : Nat} {a1 : Int32} {a2 : Int32} {σ : St} {v : Int32} {w : St} (h : o_X9_promise N a1 a2 σ = some (v, w)) : Rn md_X9_promise 3 [vR 0, vI a1, vI a2] SH σ (some (vI v), SH, w) := Rn.of ce_X9_promise.1 (Nat.le_of_ble_eq_true rfl) (e_X9_promise N _ _ _ _ _ h)
def o_X10_isPromise (N : Nat) (a1 : Int32) (σ : St) : Option (Int32 × St) := ckB (p_X10_in a1.toInt64 0 (((σ 79 5) - 1).toInt64) σ) (some ((p_X10_in a1.toInt64 0 (((σ 79 5) - 1).toInt64) σ), σ))
theorem e_X10_isPromise (N : Nat) (a1 : Int32) (σ : St) (v : Int32) (w : St) (h : o_X10_isPromise N a1 σ = some (v, w)) : Ev md_X10_isPromise 1 0 (lvE [vR 79, vI a1] 2) [] SH σ (some (vI v), SH, w) := by
  show Ev md_X10_isPromise 1 0 [some (vR 79), some (vI a1)] [] SH σ (some (vI v), SH, w)
  unfold o_X10_isPromise at h
  refine Ev.iload_n (pc := 0) dX10_isPromise_0 rfl rfl ?_
  refine Ev.i2l (pc := 1) dX10_isPromise_1 ?_
  refine Ev.lconst (pc := 2) (v := 0) dX10_isPromise_2 kL_0 ?_
  refine Ev.aload_n (pc := 3) dX10_isPromise_3 rfl rfl ?_
  refine Ev.getI (pc := 4) dX10_isPromise_4 fl_X10_175 sh_79 rfl ?_
  refine Ev.iconst (pc := 7) (v := 1) dX10_isPromise_7 ki_1 ?_
  refine Ev.isub (pc := 8) dX10_isPromise_8 ?_
  refine Ev.i2l (pc := 9) dX10_isPromise_9 ?_
  refine Ev.cTi (pc := 10) (av := [vL a1.toInt64, vL 0, vL (((σ 79 5) - 1).toInt64)]) (rest := []) dX10_isPromise_10 ce_X10_in ml_X10_89 rfl sh_sc (Nat.le_of_ble_eq_true rfl) (Nat.le_of_ble_eq_true rfl) (r_X10_in _ _ _ _) ?_
  obtain ⟨c1, h⟩ := ckB_elim h
  obtain ⟨h1, h2⟩ := oeq h
  subst h1
  subst h2
  exact Ev.ret_i (pc := 13) dX10_isPromise_13 rfl c1.1
theorem r_X10_isPromise {N : Nat} {a1 : Int32} {σ : St} {v : Int32} {w : St} (h : o_X10_isPromise N a1 σ = some (v, w)) : Rn md_X10_isPromise 1 [vR 79, vI a1] SH σ (some (vI v), SH, w) := Rn.of ce_X10_isPromise.1 (Nat.le_of_ble_eq_true rfl) (e_X10_isPromise N _ _ _ _ h)
def j_X10_ripeBy_25 (N : Nat) (K_5 : Int32 → Int32 → St → Option (Int32 × St)) (v3 : Int32) (s0 : Int32) (s1 : Int32) (σ : St) : Option (Int32 × St) := bt (s0 - (p_X10_one s1 σ)) fun x1 => bt (v3 + 1) fun x2 => K_5 x2 x1 σ
def l_X10_ripeBy_5 (N : Nat) : Nat → Int32 → Int32 → St → Option (Int32 × St)
  | 0, _, _, _ => none
  | n + 1, v3, v4, σ => if v4 ≤ 0 then (some (v3, σ)) else (bd (o_X10_isWinter N v3 σ) fun x2 σ3 => if x2 = 0 then (j_X10_ripeBy_25 N (l_X10_ripeBy_5 N n) v3 v4 1 σ3) else (j_X10_ripeBy_25 N (l_X10_ripeBy_5 N n) v3 v4 0 σ3))
def o_X10_ripeBy (N : Nat) (a1 : Int32) (a2 : Int32) (σ : St) : Option (Int32 × St) := l_X10_ripeBy_5 N N a2 a1 σ
theorem lj_X10_ripeBy_25 (N : Nat) (K_5 : Int32 → Int32 → St → Option (Int32 × St)) (hK_5 : ∀ (v3 : Int32) (v4 : Int32) (σ : St) (v : Int32) (w : St), K_5 v3 v4 σ = some (v, w) → Ev md_X10_ripeBy 1 5 [some (vR 79), none, none, some (vI v3), some (vI v4)] [] SH σ (some (vI v), SH, w)) (v3 : Int32) (s0 : Int32) (s1 : Int32) (σ : St) (v : Int32) (w : St) (h : j_X10_ripeBy_25 N K_5 v3 s0 s1 σ = some (v, w)) : Ev md_X10_ripeBy 1 25 [some (vR 79), none, none, some (vI v3), none] [vI s1, vI s0] SH σ (some (vI v), SH, w) := by
  unfold j_X10_ripeBy_25 at h
  refine Ev.cTi (pc := 25) (av := [vI s1]) (rest := [vI s0]) dX10_ripeBy_25 ce_X10_one ml_X10_191 rfl sh_sc (Nat.le_of_ble_eq_true rfl) (Nat.le_of_ble_eq_true rfl) (r_X10_one _ _) ?_
  refine Ev.isub (pc := 28) dX10_ripeBy_28 ?_
  refine Ev.nmI (fun x1 e9 => ?_)
  replace h := bt_app h x1 e9
  refine Ev.istore (pc := 29) (lv' := [some (vR 79), none, none, some (vI v3), some (vI x1)]) dX10_ripeBy_29 (lt9 rfl) rfl rfl ?_
  obtain ⟨x2, e_x2, h⟩ := bt_elim h
  refine Ev.iinc (pc := 31) (v := x2) (lv' := [some (vR 79), none, none, some (vI x2), some (vI x1)]) dX10_ripeBy_31 rfl (by rw [ki_1, e_x2]) (lt9 rfl) rfl rfl ?_
  refine Ev.goto (pc := 34) (tgt := 5) dX10_ripeBy_34 rfl ?_
  exact Ev.weak2 (hK_5 _ _ _ _ _ h) (lsubS (lsubN (lsubN (lsubS (lsubS lsubE)))))
theorem ll_X10_ripeBy_5 (N : Nat) : ∀ (n : Nat) (v3 : Int32) (v4 : Int32) (σ : St) (v : Int32) (w : St), l_X10_ripeBy_5 N n v3 v4 σ = some (v, w) → Ev md_X10_ripeBy 1 5 [some (vR 79), none, none, some (vI v3), some (vI v4)] [] SH σ (some (vI v), SH, w) := by
  intro n
  induction n with
  | zero =>
    intro v3 v4 σ v w h
    rw [l_X10_ripeBy_5] at h
    cases h
  | succ n ih =>
    intro v3 v4 σ v w h
    rw [l_X10_ripeBy_5] at h
    refine Ev.iload (pc := 5) dX10_ripeBy_5 rfl ?_
    by_cases c1 : v4 ≤ 0
    · replace h := (if_pos c1).symm.trans h
      refine Ev.if_le_t (pc := 7) (tgt := 37) dX10_ripeBy_7 rfl c1 ?_
      refine Ev.iload_n (pc := 37) dX10_ripeBy_37 rfl rfl ?_
      obtain ⟨h1, h2⟩ := oeq h
      subst h1
      subst h2
      exact Ev.ret_i (pc := 38) dX10_ripeBy_38 rfl rfl
    · replace h := (if_neg c1).symm.trans h
      refine Ev.if_le_f (pc := 7) dX10_ripeBy_7 ⟨37, rfl⟩ c1 ?_
      refine Ev.iload (pc := 10) dX10_ripeBy_10 rfl ?_
      refine Ev.aload_n (pc := 12) dX10_ripeBy_12 rfl rfl ?_
      refine Ev.iload_n (pc := 13) dX10_ripeBy_13 rfl rfl ?_
      obtain ⟨x2, σ3, g4, h⟩ := bd_elim h
      refine Ev.cVi (pc := 14) (k := 79) (av := [vI v3]) (rest := [vI v4]) dX10_ripeBy_14 ce_X10_isWinter ml_X10_187 rfl sh_79 cl_X10 sh_sc (Nat.le_of_ble_eq_true rfl) (Nat.le_of_ble_eq_true rfl) (r_X10_isWinter g4) ?_
      by_cases c5 : x2 = 0
      · replace h := (if_pos c5).symm.trans h
        refine Ev.if_ne_f (pc := 17) dX10_ripeBy_17 ⟨24, rfl⟩ c5 ?_
        refine Ev.iconst (pc := 20) (v := 1) dX10_ripeBy_20 ki_1 ?_
        refine Ev.goto (pc := 21) (tgt := 25) dX10_ripeBy_21 rfl ?_
        exact Ev.weak2 (lj_X10_ripeBy_25 N (l_X10_ripeBy_5 N n) ih _ _ _ _ _ _ h) (lsubS (lsubN (lsubN (lsubS (lsubN lsubE)))))
      · replace h := (if_neg c5).symm.trans h
        refine Ev.if_ne_t (pc := 17) (tgt := 24) dX10_ripeBy_17 rfl c5 ?_
        refine Ev.iconst (pc := 24) (v := 0) dX10_ripeBy_24 ki_0 ?_
        exact Ev.weak2 (lj_X10_ripeBy_25 N (l_X10_ripeBy_5 N n) ih _ _ _ _ _ _ h) (lsubS (lsubN (lsubN (lsubS (lsubN lsubE)))))
theorem e_X10_ripeBy (N : Nat) (a1 : Int32) (a2 : Int32) (σ : St) (v : Int32) (w : St) (h : o_X10_ripeBy N a1 a2 σ = some (v, w)) : Ev md_X10_ripeBy 1 0 (lvE [vR 79, vI a1, vI a2] 5) [] SH σ (some (vI v), SH, w) := by
  show Ev md_X10_ripeBy 1 0 [some (vR 79), some (vI a1), some (vI a2), none, none] [] SH σ (some (vI v), SH, w)
  unfold o_X10_ripeBy at h
  refine Ev.iload_n (pc := 0) dX10_ripeBy_0 rfl rfl ?_
  refine Ev.istore_n (pc := 1) (lv' := [some (vR 79), some (vI a1), some (vI a2), some (vI a2), none]) dX10_ripeBy_1 rfl (lt9 rfl) rfl rfl ?_
  refine Ev.iload_n (pc := 2) dX10_ripeBy_2 rfl rfl ?_
  refine Ev.istore (pc := 3) (lv' := [some (vR 79), some (vI a1), some (vI a2), some (vI a2), some (vI a1)]) dX10_ripeBy_3 (lt9 rfl) rfl rfl ?_
  exact Ev.weak2 (ll_X10_ripeBy_5 N N _ _ _ _ _ h) (lsubS (lsubN (lsubN (lsubS (lsubS lsubE)))))
theorem r_X10_ripeBy {N : Nat} {a1 : Int32} {a2 : Int32} {σ : St} {v : Int32} {w : St} (h : o_X10_ripeBy N a1 a2 σ = some (v, w)) : Rn md_X10_ripeBy 1 [vR 79, vI a1, vI a2] SH σ (some (vI v), SH, w) := Rn.of ce_X10_ripeBy.1 (Nat.le_of_ble_eq_true rfl) (e_X10_ripeBy N _ _ _ _ _ h)
def o_X10_ripe (N : Nat) (a1 : Int32) (a2 : Int32) (σ : St) : Option (Int32 × St) := ckA ((a1 + 21) + a2) 1360 (if (0 : Int32) ≤ (σ 80 ((a1 + 21) + a2).toNatClampNeg) then (ckA a2 14 (ckA ((a1 + 21) + a2) 1360 (bd (o_X10_ripeBy N (σ 88 a2.toNatClampNeg) (σ 80 ((a1 + 21) + a2).toNatClampNeg) σ) fun x5 σ6 => some (x5, σ6)))) else (some ((-1), σ)))
theorem e_X10_ripe (N : Nat) (a1 : Int32) (a2 : Int32) (σ : St) (v : Int32) (w : St) (h : o_X10_ripe N a1 a2 σ = some (v, w)) : Ev md_X10_ripe 2 0 (lvE [vR 79, vI a1, vI a2] 3) [] SH σ (some (vI v), SH, w) := by
  show Ev md_X10_ripe 2 0 [some (vR 79), some (vI a1), some (vI a2)] [] SH σ (some (vI v), SH, w)
  unfold o_X10_ripe at h
  refine Ev.aload_n (pc := 0) dX10_ripe_0 rfl rfl ?_
  refine Ev.getR (pc := 1) dX10_ripe_1 fl_X10_7 sh_79 rfl ?_
  refine Ev.iload_n (pc := 4) dX10_ripe_4 rfl rfl ?_
  refine Ev.bipush (pc := 5) (v := 21) dX10_ripe_5 kb_21 ?_
  refine Ev.iadd (pc := 7) dX10_ripe_7 ?_
  refine Ev.iload_n (pc := 8) dX10_ripe_8 rfl rfl ?_
  refine Ev.iadd (pc := 9) dX10_ripe_9 ?_
  obtain ⟨c1, h⟩ := ckA_elim h
  refine Ev.iald (pc := 10) dX10_ripe_10 sh_80 c1 ?_
  by_cases c2 : (0 : Int32) ≤ (σ 80 ((a1 + 21) + a2).toNatClampNeg)
  · replace h := (if_pos c2).symm.trans h
    refine Ev.if_ge_t (pc := 11) (tgt := 18) dX10_ripe_11 rfl c2 ?_
    refine Ev.aload_n (pc := 18) dX10_ripe_18 rfl rfl ?_
    refine Ev.aload_n (pc := 19) dX10_ripe_19 rfl rfl ?_
    refine Ev.getR (pc := 20) dX10_ripe_20 fl_X10_35 sh_79 rfl ?_
    refine Ev.iload_n (pc := 23) dX10_ripe_23 rfl rfl ?_
    obtain ⟨c3, h⟩ := ckA_elim h
    refine Ev.iald (pc := 24) dX10_ripe_24 sh_88 c3 ?_
    refine Ev.aload_n (pc := 25) dX10_ripe_25 rfl rfl ?_
    refine Ev.getR (pc := 26) dX10_ripe_26 fl_X10_7 sh_79 rfl ?_
    refine Ev.iload_n (pc := 29) dX10_ripe_29 rfl rfl ?_
    refine Ev.bipush (pc := 30) (v := 21) dX10_ripe_30 kb_21 ?_
    refine Ev.iadd (pc := 32) dX10_ripe_32 ?_
    refine Ev.iload_n (pc := 33) dX10_ripe_33 rfl rfl ?_
    refine Ev.iadd (pc := 34) dX10_ripe_34 ?_
    obtain ⟨c4, h⟩ := ckA_elim h
    refine Ev.iald (pc := 35) dX10_ripe_35 sh_80 c4 ?_
    obtain ⟨x5, σ6, g7, h⟩ := bd_elim h
    refine Ev.cVi (pc := 36) (k := 79) (av := [vI (σ 88 a2.toNatClampNeg), vI (σ 80 ((a1 + 21) + a2).toNatClampNeg)]) (rest := []) dX10_ripe_36 ce_X10_ripeBy ml_X10_195 rfl sh_79 cl_X10 sh_sc (Nat.le_of_ble_eq_true rfl) (Nat.le_of_ble_eq_true rfl) (r_X10_ripeBy g7) ?_
    obtain ⟨h1, h2⟩ := oeq h
    subst h1
    subst h2
    exact Ev.ret_i (pc := 39) dX10_ripe_39 rfl rfl
  · replace h := (if_neg c2).symm.trans h
    refine Ev.if_ge_f (pc := 11) dX10_ripe_11 ⟨18, rfl⟩ c2 ?_
    refine Ev.iconst (pc := 14) (v := (-1)) dX10_ripe_14 ki_m1 ?_
    refine Ev.goto (pc := 15) (tgt := 39) dX10_ripe_15 rfl ?_
    obtain ⟨h1, h2⟩ := oeq h
    subst h1
    subst h2
    exact Ev.ret_i (pc := 39) dX10_ripe_39 rfl rfl
theorem r_X10_ripe {N : Nat} {a1 : Int32} {a2 : Int32} {σ : St} {v : Int32} {w : St} (h : o_X10_ripe N a1 a2 σ = some (v, w)) : Rn md_X10_ripe 2 [vR 79, vI a1, vI a2] SH σ (some (vI v), SH, w) := Rn.of ce_X10_ripe.1 (Nat.le_of_ble_eq_true rfl) (e_X10_ripe N _ _ _ _ _ h)
def o_X10_promise (N : Nat) (a1 : Int32) (a2 : Int32) (σ : St) : Option (Int32 × St) := bd (o_X10_isPromise N a1 σ) fun x1 σ2 => if x1 = 0 then (some ((-1000000001), σ2)) else (if a2 = 0 then (ckA (14 + a1) 1360 (some ((σ2 80 (14 + a1).toNatClampNeg), σ2))) else if a2 = 1 then (ckA a1 14 (some ((σ2 87 a1.toNatClampNeg), σ2))) else if a2 = 2 then (ckA a1 14 (some ((σ2 88 a1.toNatClampNeg), σ2))) else if a2 = 3 then (ckA a1 14 (some ((σ2 89 a1.toNatClampNeg), σ2))) else if a2 = 4 then (ckA a1 14 (some ((σ2 90 a1.toNatClampNeg), σ2))) else if a2 = 5 then (ckA a1 14 (if (σ2 91 a1.toNatClampNeg) = 9 then (some ((-1), σ2)) else (ckA a1 14 (some ((σ2 91 a1.toNatClampNeg), σ2))))) else if a2 = 6 then (ckA a1 1360 (some ((σ2 80 a1.toNatClampNeg), σ2))) else if a2 = 7 then (bd (o_X10_ripe N 0 a1 σ2) fun x22 σ23 => some (x22, σ23)) else if a2 = 8 then (ckA (7 + a1) 1360 (some ((σ2 80 (7 + a1).toNatClampNeg), σ2))) else (some ((-1000000002), σ2)))
theorem e_X10_promise (N : Nat) (a1 : Int32) (a2 : Int32) (σ : St) (v : Int32) (w : St) (h : o_X10_promise N a1 a2 σ = some (v, w)) : Ev md_X10_promise 3 0 (lvE [vR 79, vI a1, vI a2] 3) [] SH σ (some (vI v), SH, w) := by
  show Ev md_X10_promise 3 0 [some (vR 79), some (vI a1), some (vI a2)] [] SH σ (some (vI v), SH, w)
  unfold o_X10_promise at h
  refine Ev.aload_n (pc := 0) dX10_promise_0 rfl rfl ?_
  refine Ev.iload_n (pc := 1) dX10_promise_1 rfl rfl ?_
  obtain ⟨x1, σ2, g3, h⟩ := bd_elim h
  refine Ev.cVi (pc := 2) (k := 79) (av := [vI a1]) (rest := []) dX10_promise_2 ce_X10_isPromise ml_X10_212 rfl sh_79 cl_X10 sh_sc (Nat.le_of_ble_eq_true rfl) (Nat.le_of_ble_eq_true rfl) (r_X10_isPromise g3) ?_
  by_cases c4 : x1 = 0
  · replace h := (if_pos c4).symm.trans h
    refine Ev.if_ne_f (pc := 5) dX10_promise_5 ⟨11, rfl⟩ c4 ?_
    refine Ev.ldc (pc := 8) dX10_promise_8 kc_X10_205 ?_
    obtain ⟨h1, h2⟩ := oeq h
    subst h1
    subst h2
    exact Ev.ret_i (pc := 10) dX10_promise_10 rfl rfl
  · replace h := (if_neg c4).symm.trans h
    refine Ev.if_ne_t (pc := 5) (tgt := 11) dX10_promise_5 rfl c4 ?_
    refine Ev.iload_n (pc := 11) dX10_promise_11 rfl rfl ?_
    by_cases c5 : a2 = 0
    · replace h := (if_pos c5).symm.trans h
      refine Ev.swC (pc := 12) (c := 0) (tgt := 64) dX10_promise_12 c5 (by decide) (by decide) rfl rfl ?_
      refine Ev.aload_n (pc := 64) dX10_promise_64 rfl rfl ?_
      refine Ev.getR (pc := 65) dX10_promise_65 fl_X10_7 sh_79 rfl ?_
      refine Ev.bipush (pc := 68) (v := 14) dX10_promise_68 kb_14 ?_
      refine Ev.iload_n (pc := 70) dX10_promise_70 rfl rfl ?_
      refine Ev.iadd (pc := 71) dX10_promise_71 ?_
      obtain ⟨c6, h⟩ := ckA_elim h
      refine Ev.iald (pc := 72) dX10_promise_72 sh_80 c6 ?_
      obtain ⟨h1, h2⟩ := oeq h
      subst h1
      subst h2
      exact Ev.ret_i (pc := 73) dX10_promise_73 rfl rfl
    replace h := (if_neg c5).symm.trans h
    by_cases c7 : a2 = 1
    · replace h := (if_pos c7).symm.trans h
      refine Ev.swC (pc := 12) (c := 1) (tgt := 74) dX10_promise_12 c7 (by decide) (by decide) rfl rfl ?_
      refine Ev.aload_n (pc := 74) dX10_promise_74 rfl rfl ?_
      refine Ev.getR (pc := 75) dX10_promise_75 fl_X10_32 sh_79 rfl ?_
      refine Ev.iload_n (pc := 78) dX10_promise_78 rfl rfl ?_
      obtain ⟨c8, h⟩ := ckA_elim h
      refine Ev.iald (pc := 79) dX10_promise_79 sh_87 c8 ?_
      obtain ⟨h1, h2⟩ := oeq h
      subst h1
      subst h2
      exact Ev.ret_i (pc := 80) dX10_promise_80 rfl rfl
    replace h := (if_neg c7).symm.trans h
    by_cases c9 : a2 = 2
    · replace h := (if_pos c9).symm.trans h
      refine Ev.swC (pc := 12) (c := 2) (tgt := 81) dX10_promise_12 c9 (by decide) (by decide) rfl rfl ?_
      refine Ev.aload_n (pc := 81) dX10_promise_81 rfl rfl ?_
      refine Ev.getR (pc := 82) dX10_promise_82 fl_X10_35 sh_79 rfl ?_
      refine Ev.iload_n (pc := 85) dX10_promise_85 rfl rfl ?_
      obtain ⟨c10, h⟩ := ckA_elim h
      refine Ev.iald (pc := 86) dX10_promise_86 sh_88 c10 ?_
      obtain ⟨h1, h2⟩ := oeq h
      subst h1
      subst h2
      exact Ev.ret_i (pc := 87) dX10_promise_87 rfl rfl
    replace h := (if_neg c9).symm.trans h
    by_cases c11 : a2 = 3
    · replace h := (if_pos c11).symm.trans h
      refine Ev.swC (pc := 12) (c := 3) (tgt := 88) dX10_promise_12 c11 (by decide) (by decide) rfl rfl ?_
      refine Ev.aload_n (pc := 88) dX10_promise_88 rfl rfl ?_
      refine Ev.getR (pc := 89) dX10_promise_89 fl_X10_38 sh_79 rfl ?_
      refine Ev.iload_n (pc := 92) dX10_promise_92 rfl rfl ?_
      obtain ⟨c12, h⟩ := ckA_elim h
      refine Ev.iald (pc := 93) dX10_promise_93 sh_89 c12 ?_
      obtain ⟨h1, h2⟩ := oeq h
      subst h1
      subst h2
      exact Ev.ret_i (pc := 94) dX10_promise_94 rfl rfl
    replace h := (if_neg c11).symm.trans h
    by_cases c13 : a2 = 4
    · replace h := (if_pos c13).symm.trans h
      refine Ev.swC (pc := 12) (c := 4) (tgt := 95) dX10_promise_12 c13 (by decide) (by decide) rfl rfl ?_
      refine Ev.aload_n (pc := 95) dX10_promise_95 rfl rfl ?_
      refine Ev.getR (pc := 96) dX10_promise_96 fl_X10_41 sh_79 rfl ?_
      refine Ev.iload_n (pc := 99) dX10_promise_99 rfl rfl ?_
      obtain ⟨c14, h⟩ := ckA_elim h
      refine Ev.iald (pc := 100) dX10_promise_100 sh_90 c14 ?_
      obtain ⟨h1, h2⟩ := oeq h
      subst h1
      subst h2
      exact Ev.ret_i (pc := 101) dX10_promise_101 rfl rfl
    replace h := (if_neg c13).symm.trans h
    by_cases c15 : a2 = 5
    · replace h := (if_pos c15).symm.trans h
      refine Ev.swC (pc := 12) (c := 5) (tgt := 102) dX10_promise_12 c15 (by decide) (by decide) rfl rfl ?_
      refine Ev.aload_n (pc := 102) dX10_promise_102 rfl rfl ?_
      refine Ev.getR (pc := 103) dX10_promise_103 fl_X10_44 sh_79 rfl ?_
      refine Ev.iload_n (pc := 106) dX10_promise_106 rfl rfl ?_
      obtain ⟨c16, h⟩ := ckA_elim h
      refine Ev.iald (pc := 107) dX10_promise_107 sh_91 c16 ?_
      refine Ev.bipush (pc := 108) (v := 9) dX10_promise_108 kb_9 ?_
      by_cases c17 : (σ2 91 a1.toNatClampNeg) = 9
      · replace h := (if_pos c17).symm.trans h
        refine Ev.icmp_ne_f (pc := 110) dX10_promise_110 ⟨117, rfl⟩ c17 ?_
        refine Ev.iconst (pc := 113) (v := (-1)) dX10_promise_113 ki_m1 ?_
        refine Ev.goto (pc := 114) (tgt := 123) dX10_promise_114 rfl ?_
        obtain ⟨h1, h2⟩ := oeq h
        subst h1
        subst h2
        exact Ev.ret_i (pc := 123) dX10_promise_123 rfl rfl
      · replace h := (if_neg c17).symm.trans h
        refine Ev.icmp_ne_t (pc := 110) (tgt := 117) dX10_promise_110 rfl c17 ?_
        refine Ev.aload_n (pc := 117) dX10_promise_117 rfl rfl ?_
        refine Ev.getR (pc := 118) dX10_promise_118 fl_X10_44 sh_79 rfl ?_
        refine Ev.iload_n (pc := 121) dX10_promise_121 rfl rfl ?_
        obtain ⟨c18, h⟩ := ckA_elim h
        refine Ev.iald (pc := 122) dX10_promise_122 sh_91 c18 ?_
        obtain ⟨h1, h2⟩ := oeq h
        subst h1
        subst h2
        exact Ev.ret_i (pc := 123) dX10_promise_123 rfl rfl
    replace h := (if_neg c15).symm.trans h
    by_cases c19 : a2 = 6
    · replace h := (if_pos c19).symm.trans h
      refine Ev.swC (pc := 12) (c := 6) (tgt := 124) dX10_promise_12 c19 (by decide) (by decide) rfl rfl ?_
      refine Ev.aload_n (pc := 124) dX10_promise_124 rfl rfl ?_
      refine Ev.getR (pc := 125) dX10_promise_125 fl_X10_7 sh_79 rfl ?_
      refine Ev.iload_n (pc := 128) dX10_promise_128 rfl rfl ?_
      obtain ⟨c20, h⟩ := ckA_elim h
      refine Ev.iald (pc := 129) dX10_promise_129 sh_80 c20 ?_
      obtain ⟨h1, h2⟩ := oeq h
      subst h1
      subst h2
      exact Ev.ret_i (pc := 130) dX10_promise_130 rfl rfl
    replace h := (if_neg c19).symm.trans h
    by_cases c21 : a2 = 7
    · replace h := (if_pos c21).symm.trans h
      refine Ev.swC (pc := 12) (c := 7) (tgt := 131) dX10_promise_12 c21 (by decide) (by decide) rfl rfl ?_
      refine Ev.aload_n (pc := 131) dX10_promise_131 rfl rfl ?_
      refine Ev.iconst (pc := 132) (v := 0) dX10_promise_132 ki_0 ?_
      refine Ev.iload_n (pc := 133) dX10_promise_133 rfl rfl ?_
      obtain ⟨x22, σ23, g24, h⟩ := bd_elim h
      refine Ev.cVi (pc := 134) (k := 79) (av := [vI 0, vI a1]) (rest := []) dX10_promise_134 ce_X10_ripe ml_X10_215 rfl sh_79 cl_X10 sh_sc (Nat.le_of_ble_eq_true rfl) (Nat.le_of_ble_eq_true rfl) (r_X10_ripe g24) ?_
      obtain ⟨h1, h2⟩ := oeq h
      subst h1
      subst h2
      exact Ev.ret_i (pc := 137) dX10_promise_137 rfl rfl
    replace h := (if_neg c21).symm.trans h
    by_cases c25 : a2 = 8
    · replace h := (if_pos c25).symm.trans h
      refine Ev.swC (pc := 12) (c := 8) (tgt := 138) dX10_promise_12 c25 (by decide) (by decide) rfl rfl ?_
      refine Ev.aload_n (pc := 138) dX10_promise_138 rfl rfl ?_
      refine Ev.getR (pc := 139) dX10_promise_139 fl_X10_7 sh_79 rfl ?_
      refine Ev.bipush (pc := 142) (v := 7) dX10_promise_142 kb_7 ?_
      refine Ev.iload_n (pc := 144) dX10_promise_144 rfl rfl ?_
      refine Ev.iadd (pc := 145) dX10_promise_145 ?_
      obtain ⟨c26, h⟩ := ckA_elim h
      refine Ev.iald (pc := 146) dX10_promise_146 sh_80 c26 ?_
      obtain ⟨h1, h2⟩ := oeq h
      subst h1
      subst h2
      exact Ev.ret_i (pc := 147) dX10_promise_147 rfl rfl
    replace h := (if_neg c25).symm.trans h
    refine Ev.swD (pc := 12) (tgt := 148) (tl := [0, 1, 2, 3, 4, 5, 6, 7, 8]) dX10_promise_12 (not_mem_cons9 (neI c5 rfl) (not_mem_cons9 (neI c7 rfl) (not_mem_cons9 (neI c9 rfl) (not_mem_cons9 (neI c11 rfl) (not_mem_cons9 (neI c13 rfl) (not_mem_cons9 (neI c15 rfl) (not_mem_cons9 (neI c19 rfl) (not_mem_cons9 (neI c21 rfl) (not_mem_cons9 (neI c25 rfl) (not_mem_nil9)))))))))) rfl rfl rfl ?_
    refine Ev.ldc (pc := 148) dX10_promise_148 kc_X10_93 ?_
    obtain ⟨h1, h2⟩ := oeq h
    subst h1
    subst h2
    exact Ev.ret_i (pc := 150) dX10_promise_150 rfl rfl
theorem r_X10_promise {N : Nat} {a1 : Int32} {a2 : Int32} {σ : St} {v : Int32} {w : St} (h : o_X10_promise N a1 a2 σ = some (v, w)) : Rn md_X10_promise 3 [vR 79, vI a1, vI a2] SH σ (some (vI v), SH, w) := Rn.of ce_X10_promise.1 (Nat.le_of_ble_eq_true rfl) (e_X10_promise N _ _ _ _ _ h)
def p_X1_fellOn (a1 : Int32) (σ : St) : Int32 := (at_ σ 24 31 (28 + a1))
theorem e_X1_fellOn (a1 : Int32) (σ : St) (v : Int32) (h : p_X1_fellOn a1 σ = v) : Ev md_X1_fellOn 1 0 (lvE [vR 23, vI a1] 2) [] SH σ (some (vI v), SH, σ) := by
  show Ev md_X1_fellOn 1 0 [some (vR 23), some (vI a1)] [] SH σ (some (vI v), SH, σ)
  unfold p_X1_fellOn at h
  refine Ev.aload_n (pc := 0) dX1_fellOn_0 rfl rfl ?_
  refine Ev.getR (pc := 1) dX1_fellOn_1 fl_X1_11 sh_23 rfl ?_
  refine Ev.bipush (pc := 4) (v := 28) dX1_fellOn_4 kb_28 ?_
  refine Ev.iload_n (pc := 6) dX1_fellOn_6 rfl rfl ?_
  refine Ev.iadd (pc := 7) dX1_fellOn_7 ?_
  refine Ev.cTi (pc := 8) (av := [vR 24, vI (28 + a1)]) (rest := []) dX1_fellOn_8 ce_X9_at ml_X1_28 rfl sh_sc (Nat.le_of_ble_eq_true rfl) (Nat.le_of_ble_eq_true rfl) (r_at sh_24 (by decide) _ _) ?_
  subst h
  exact Ev.ret_i (pc := 11) dX1_fellOn_11 rfl rfl
theorem r_X1_fellOn (a1 : Int32) (σ : St) : Rn md_X1_fellOn 1 [vR 23, vI a1] SH σ (some (vI (p_X1_fellOn a1 σ)), SH, σ) := Rn.of ce_X1_fellOn.1 (Nat.le_of_ble_eq_true rfl) (e_X1_fellOn _ _ _ rfl)
def j_X9_fell_9  (σ : St) : Int32 := (-1000000001)
def p_X9_fell (a1 : Int32) (σ : St) : Int32 := if a1 < 0 then (j_X9_fell_9 σ) else (if a1 < 3 then ((p_X1_fellOn a1 σ)) else (j_X9_fell_9 σ))
theorem lj_X9_fell_9  (σ : St) (v : Int32) (h : j_X9_fell_9  σ = v) : Ev md_X9_fell 2 9 [none, none] [] SH σ (some (vI v), SH, σ) := by
  unfold j_X9_fell_9 at h
  refine Ev.ldc (pc := 9) dX9_fell_9 kc_X9_145 ?_
  refine Ev.goto (pc := 11) (tgt := 22) dX9_fell_11 rfl ?_
  subst h
  exact Ev.ret_i (pc := 22) dX9_fell_22 rfl rfl
theorem e_X9_fell (a1 : Int32) (σ : St) (v : Int32) (h : p_X9_fell a1 σ = v) : Ev md_X9_fell 2 0 (lvE [vR 0, vI a1] 2) [] SH σ (some (vI v), SH, σ) := by
  show Ev md_X9_fell 2 0 [some (vR 0), some (vI a1)] [] SH σ (some (vI v), SH, σ)
  unfold p_X9_fell at h
  refine Ev.iload_n (pc := 0) dX9_fell_0 rfl rfl ?_
  by_cases c1 : a1 < 0
  · replace h := (if_pos c1).symm.trans h
    refine Ev.if_lt_t (pc := 1) (tgt := 9) dX9_fell_1 rfl c1 ?_
    exact Ev.weak2 (lj_X9_fell_9 _ _ h) (lsubN (lsubN lsubE))
  · replace h := (if_neg c1).symm.trans h
    refine Ev.if_lt_f (pc := 1) dX9_fell_1 ⟨9, rfl⟩ c1 ?_
    refine Ev.iload_n (pc := 4) dX9_fell_4 rfl rfl ?_
    refine Ev.iconst (pc := 5) (v := 3) dX9_fell_5 ki_3 ?_
    by_cases c2 : a1 < 3
    · replace h := (if_pos c2).symm.trans h
      refine Ev.icmp_lt_t (pc := 6) (tgt := 14) dX9_fell_6 rfl c2 ?_
      refine Ev.aload_n (pc := 14) dX9_fell_14 rfl rfl ?_
      refine Ev.getR (pc := 15) dX9_fell_15 fl_X9_31 sh_0 rfl ?_
      refine Ev.iload_n (pc := 18) dX9_fell_18 rfl rfl ?_
      refine Ev.cVi (pc := 19) (k := 23) (av := [vI a1]) (rest := []) dX9_fell_19 ce_X1_fellOn ml_X9_200 rfl sh_23 cl_X1 sh_sc (Nat.le_of_ble_eq_true rfl) (Nat.le_of_ble_eq_true rfl) (r_X1_fellOn _ _) ?_
      subst h
      exact Ev.ret_i (pc := 22) dX9_fell_22 rfl rfl
    · replace h := (if_neg c2).symm.trans h
      refine Ev.icmp_lt_f (pc := 6) dX9_fell_6 ⟨14, rfl⟩ c2 ?_
      exact Ev.weak2 (lj_X9_fell_9 _ _ h) (lsubN (lsubN lsubE))
theorem r_X9_fell (a1 : Int32) (σ : St) : Rn md_X9_fell 2 [vR 0, vI a1] SH σ (some (vI (p_X9_fell a1 σ)), SH, σ) := Rn.of ce_X9_fell.1 (Nat.le_of_ble_eq_true rfl) (e_X9_fell _ _ _ rfl)
def o_X10_fell (N : Nat) (a1 : Int32) (σ : St) : Option (Int32 × St) := if (p_X10_in a1.toInt64 0 2 σ) = 0 then (some ((-1000000001), σ)) else (ckA (34 + a1) 1360 (some ((σ 80 (34 + a1).toNatClampNeg), σ)))
theorem e_X10_fell (N : Nat) (a1 : Int32) (σ : St) (v : Int32) (w : St) (h : o_X10_fell N a1 σ = some (v, w)) : Ev md_X10_fell 1 0 (lvE [vR 79, vI a1] 2) [] SH σ (some (vI v), SH, w) := by
  show Ev md_X10_fell 1 0 [some (vR 79), some (vI a1)] [] SH σ (some (vI v), SH, w)
  unfold o_X10_fell at h
  refine Ev.iload_n (pc := 0) dX10_fell_0 rfl rfl ?_
  refine Ev.i2l (pc := 1) dX10_fell_1 ?_
  refine Ev.lconst (pc := 2) (v := 0) dX10_fell_2 kL_0 ?_
  refine Ev.ldc2 (pc := 3) dX10_fell_3 kl_X10_218 ?_
  refine Ev.cTi (pc := 6) (av := [vL a1.toInt64, vL 0, vL 2]) (rest := []) dX10_fell_6 ce_X10_in ml_X10_89 rfl sh_sc (Nat.le_of_ble_eq_true rfl) (Nat.le_of_ble_eq_true rfl) (r_X10_in _ _ _ _) ?_
  by_cases c1 : (p_X10_in a1.toInt64 0 2 σ) = 0
  · replace h := (if_pos c1).symm.trans h
    refine Ev.if_eq_t (pc := 9) (tgt := 24) dX10_fell_9 rfl c1 ?_
    refine Ev.ldc (pc := 24) dX10_fell_24 kc_X10_205 ?_
    obtain ⟨h1, h2⟩ := oeq h
    subst h1
    subst h2
    exact Ev.ret_i (pc := 26) dX10_fell_26 rfl rfl
  · replace h := (if_neg c1).symm.trans h
    refine Ev.if_eq_f (pc := 9) dX10_fell_9 ⟨24, rfl⟩ c1 ?_
    refine Ev.aload_n (pc := 12) dX10_fell_12 rfl rfl ?_
    refine Ev.getR (pc := 13) dX10_fell_13 fl_X10_7 sh_79 rfl ?_
    refine Ev.bipush (pc := 16) (v := 34) dX10_fell_16 kb_34 ?_
    refine Ev.iload_n (pc := 18) dX10_fell_18 rfl rfl ?_
    refine Ev.iadd (pc := 19) dX10_fell_19 ?_
    obtain ⟨c2, h⟩ := ckA_elim h
    refine Ev.iald (pc := 20) dX10_fell_20 sh_80 c2 ?_
    refine Ev.goto (pc := 21) (tgt := 26) dX10_fell_21 rfl ?_
    obtain ⟨h1, h2⟩ := oeq h
    subst h1
    subst h2
    exact Ev.ret_i (pc := 26) dX10_fell_26 rfl rfl
theorem r_X10_fell {N : Nat} {a1 : Int32} {σ : St} {v : Int32} {w : St} (h : o_X10_fell N a1 σ = some (v, w)) : Rn md_X10_fell 1 [vR 79, vI a1] SH σ (some (vI v), SH, w) := Rn.of ce_X10_fell.1 (Nat.le_of_ble_eq_true rfl) (e_X10_fell N _ _ _ _ h)
def p_X1_onTheWay (a1 : Int32) (σ : St) : Int32 := if (p_X1_thereOn_23 a1 σ) ≤ (p_X1_today_23 σ) then 0 else 1
theorem e_X1_onTheWay (a1 : Int32) (σ : St) (v : Int32) (h : p_X1_onTheWay a1 σ = v) : Ev md_X1_onTheWay 2 0 (lvE [vR 23, vI a1] 2) [] SH σ (some (vI v), SH, σ) := by
  show Ev md_X1_onTheWay 2 0 [some (vR 23), some (vI a1)] [] SH σ (some (vI v), SH, σ)
  unfold p_X1_onTheWay at h
  refine Ev.aload_n (pc := 0) dX1_onTheWay_0 rfl rfl ?_
  refine Ev.iload_n (pc := 1) dX1_onTheWay_1 rfl rfl ?_
  refine Ev.cVi (pc := 2) (k := 23) (av := [vI a1]) (rest := []) dX1_onTheWay_2 ce_X1_thereOn ml_X1_43 rfl sh_23 cl_X1 sh_sc (Nat.le_of_ble_eq_true rfl) (Nat.le_of_ble_eq_true rfl) (r_X1_thereOn_23 _ _) ?_
  refine Ev.aload_n (pc := 5) dX1_onTheWay_5 rfl rfl ?_
  refine Ev.cVi (pc := 6) (k := 23) (av := []) (rest := [vI (p_X1_thereOn_23 a1 σ)]) dX1_onTheWay_6 ce_X1_today ml_X1_46 rfl sh_23 cl_X1 sh_sc (Nat.le_of_ble_eq_true rfl) (Nat.le_of_ble_eq_true rfl) (r_X1_today_23  _) ?_
  by_cases c1 : (p_X1_thereOn_23 a1 σ) ≤ (p_X1_today_23 σ)
  · replace h := (if_pos c1).symm.trans h
    refine Ev.icmp_le_t (pc := 9) (tgt := 16) dX1_onTheWay_9 rfl c1 ?_
    refine Ev.iconst (pc := 16) (v := 0) dX1_onTheWay_16 ki_0 ?_
    subst h
    exact Ev.ret_i (pc := 17) dX1_onTheWay_17 rfl nb_0
  · replace h := (if_neg c1).symm.trans h
    refine Ev.icmp_le_f (pc := 9) dX1_onTheWay_9 ⟨16, rfl⟩ c1 ?_
    refine Ev.iconst (pc := 12) (v := 1) dX1_onTheWay_12 ki_1 ?_
    refine Ev.goto (pc := 13) (tgt := 17) dX1_onTheWay_13 rfl ?_
    subst h
    exact Ev.ret_i (pc := 17) dX1_onTheWay_17 rfl nb_1
theorem r_X1_onTheWay (a1 : Int32) (σ : St) : Rn md_X1_onTheWay 2 [vR 23, vI a1] SH σ (some (vI (p_X1_onTheWay a1 σ)), SH, σ) := Rn.of ce_X1_onTheWay.1 (Nat.le_of_ble_eq_true rfl) (e_X1_onTheWay _ _ _ rfl)
def t_X1_sendTo_23 (a1 : Int32) (a2 : Int32) (a3 : Int32) (σ : St) : St := bt (put_ σ 24 31 (22 + a1) a2) fun σ1 => bt (put_ σ1 24 31 (25 + a1) a3) fun σ2 => σ2
theorem e_X1_sendTo_23 (a1 : Int32) (a2 : Int32) (a3 : Int32) (σ : St) (q : St) (h : t_X1_sendTo_23 a1 a2 a3 σ = q) : Ev md_X1_sendTo 1 0 (lvE [vR 23, vI a1, vI a2, vI a3] 4) [] SH σ (none, SH, q) := by
  show Ev md_X1_sendTo 1 0 [some (vR 23), some (vI a1), some (vI a2), some (vI a3)] [] SH σ (none, SH, q)
  unfold t_X1_sendTo_23 at h
  refine Ev.aload_n (pc := 0) dX1_sendTo_0 rfl rfl ?_
  refine Ev.getR (pc := 1) dX1_sendTo_1 fl_X1_11 sh_23 rfl ?_
  refine Ev.bipush (pc := 4) (v := 22) dX1_sendTo_4 kb_22 ?_
  refine Ev.iload_n (pc := 6) dX1_sendTo_6 rfl rfl ?_
  refine Ev.iadd (pc := 7) dX1_sendTo_7 ?_
  refine Ev.iload_n (pc := 8) dX1_sendTo_8 rfl rfl ?_
  refine Ev.cTv (pc := 9) (av := [vR 24, vI (22 + a1), vI a2]) (rest := []) dX1_sendTo_9 ce_X9_put ml_X1_19 rfl sh_sc (Nat.le_of_ble_eq_true rfl) (Nat.le_of_ble_eq_true rfl) (r_put sh_24 (by decide) _ _ _) ?_
  refine Ev.nmS (fun σ1 e9 => ?_)
  replace h := bt_app h σ1 e9
  refine Ev.aload_n (pc := 12) dX1_sendTo_12 rfl rfl ?_
  refine Ev.getR (pc := 13) dX1_sendTo_13 fl_X1_11 sh_23 rfl ?_
  refine Ev.bipush (pc := 16) (v := 25) dX1_sendTo_16 kb_25 ?_
  refine Ev.iload_n (pc := 18) dX1_sendTo_18 rfl rfl ?_
  refine Ev.iadd (pc := 19) dX1_sendTo_19 ?_
  refine Ev.iload_n (pc := 20) dX1_sendTo_20 rfl rfl ?_
  refine Ev.cTv (pc := 21) (av := [vR 24, vI (25 + a1), vI a3]) (rest := []) dX1_sendTo_21 ce_X9_put ml_X1_19 rfl sh_sc (Nat.le_of_ble_eq_true rfl) (Nat.le_of_ble_eq_true rfl) (r_put sh_24 (by decide) _ _ _) ?_
  refine Ev.nmS (fun σ2 e9 => ?_)
  replace h := bt_app h σ2 e9
  subst h
  exact Ev.ret_v (pc := 24) dX1_sendTo_24 rfl
theorem r_X1_sendTo_23 (a1 : Int32) (a2 : Int32) (a3 : Int32) (σ : St) : Rn md_X1_sendTo 1 [vR 23, vI a1, vI a2, vI a3] SH σ (none, SH, t_X1_sendTo_23 a1 a2 a3 σ) := Rn.of ce_X1_sendTo.1 (Nat.le_of_ble_eq_true rfl) (e_X1_sendTo_23 _ _ _ _ _ rfl)
def t_X1_depart (a1 : Int32) (a2 : Int32) (σ : St) : Int32 × St := bt (p_X5_distance (p_X1_townOf_23 a1 σ) a2 σ) fun x1 => if (p_X1_onTheWay a1 σ) = 0 then (if (p_X1_townOf_23 a1 σ) = a2 then ((0, σ)) else (if x1 = (-1) then ((0, σ)) else (bt (t_X1_sendTo_23 a1 a2 ((p_X1_today_23 σ) + x1) σ) fun σ5 => (1, σ5)))) else ((0, σ))
theorem e_X1_depart (a1 : Int32) (a2 : Int32) (σ : St) (q : Int32 × St) (h : t_X1_depart a1 a2 σ = q) : Ev md_X1_depart 3 0 (lvE [vR 23, vI a1, vI a2] 4) [] SH σ (some (vI q.1), SH, q.2) := by
  show Ev md_X1_depart 3 0 [some (vR 23), some (vI a1), some (vI a2), none] [] SH σ (some (vI q.1), SH, q.2)
  unfold t_X1_depart at h
  refine Ev.aload_n (pc := 0) dX1_depart_0 rfl rfl ?_
  refine Ev.getR (pc := 1) dX1_depart_1 fl_X1_15 sh_23 rfl ?_
  refine Ev.aload_n (pc := 4) dX1_depart_4 rfl rfl ?_
  refine Ev.iload_n (pc := 5) dX1_depart_5 rfl rfl ?_
  refine Ev.cVi (pc := 6) (k := 23) (av := [vI a1]) (rest := [vR 1]) dX1_depart_6 ce_X1_townOf ml_X1_88 rfl sh_23 cl_X1 sh_sc (Nat.le_of_ble_eq_true rfl) (Nat.le_of_ble_eq_true rfl) (r_X1_townOf_23 _ _) ?_
  refine Ev.iload_n (pc := 9) dX1_depart_9 rfl rfl ?_
  refine Ev.cVi (pc := 10) (k := 1) (av := [vI (p_X1_townOf_23 a1 σ), vI a2]) (rest := []) dX1_depart_10 ce_X5_distance ml_X1_108 rfl sh_1 cl_X5 sh_sc (Nat.le_of_ble_eq_true rfl) (Nat.le_of_ble_eq_true rfl) (r_X5_distance _ _ _) ?_
  refine Ev.nmI (fun x1 e9 => ?_)
  replace h := bt_app h x1 e9
  refine Ev.istore_n (pc := 13) (lv' := [some (vR 23), some (vI a1), some (vI a2), some (vI x1)]) dX1_depart_13 rfl (lt9 rfl) rfl rfl ?_
  refine Ev.aload_n (pc := 14) dX1_depart_14 rfl rfl ?_
  refine Ev.iload_n (pc := 15) dX1_depart_15 rfl rfl ?_
  refine Ev.cVi (pc := 16) (k := 23) (av := [vI a1]) (rest := []) dX1_depart_16 ce_X1_onTheWay ml_X1_94 rfl sh_23 cl_X1 sh_sc (Nat.le_of_ble_eq_true rfl) (Nat.le_of_ble_eq_true rfl) (r_X1_onTheWay _ _) ?_
  by_cases c2 : (p_X1_onTheWay a1 σ) = 0
  · replace h := (if_pos c2).symm.trans h
    refine Ev.if_ne_f (pc := 19) dX1_depart_19 ⟨36, rfl⟩ c2 ?_
    refine Ev.aload_n (pc := 22) dX1_depart_22 rfl rfl ?_
    refine Ev.iload_n (pc := 23) dX1_depart_23 rfl rfl ?_
    refine Ev.cVi (pc := 24) (k := 23) (av := [vI a1]) (rest := []) dX1_depart_24 ce_X1_townOf ml_X1_88 rfl sh_23 cl_X1 sh_sc (Nat.le_of_ble_eq_true rfl) (Nat.le_of_ble_eq_true rfl) (r_X1_townOf_23 _ _) ?_
    refine Ev.iload_n (pc := 27) dX1_depart_27 rfl rfl ?_
    by_cases c3 : (p_X1_townOf_23 a1 σ) = a2
    · replace h := (if_pos c3).symm.trans h
      refine Ev.icmp_eq_t (pc := 28) (tgt := 36) dX1_depart_28 rfl c3 ?_
      refine Ev.iconst (pc := 36) (v := 0) dX1_depart_36 ki_0 ?_
      subst h
      exact Ev.ret_i (pc := 37) dX1_depart_37 rfl nb_0
    · replace h := (if_neg c3).symm.trans h
      refine Ev.icmp_eq_f (pc := 28) dX1_depart_28 ⟨36, rfl⟩ c3 ?_
      refine Ev.iload_n (pc := 31) dX1_depart_31 rfl rfl ?_
      refine Ev.iconst (pc := 32) (v := (-1)) dX1_depart_32 ki_m1 ?_
      by_cases c4 : x1 = (-1)
      · replace h := (if_pos c4).symm.trans h
        refine Ev.icmp_ne_f (pc := 33) dX1_depart_33 ⟨38, rfl⟩ c4 ?_
        refine Ev.iconst (pc := 36) (v := 0) dX1_depart_36 ki_0 ?_
        subst h
        exact Ev.ret_i (pc := 37) dX1_depart_37 rfl nb_0
      · replace h := (if_neg c4).symm.trans h
        refine Ev.icmp_ne_t (pc := 33) (tgt := 38) dX1_depart_33 rfl c4 ?_
        refine Ev.aload_n (pc := 38) dX1_depart_38 rfl rfl ?_
        refine Ev.iload_n (pc := 39) dX1_depart_39 rfl rfl ?_
        refine Ev.iload_n (pc := 40) dX1_depart_40 rfl rfl ?_
        refine Ev.aload_n (pc := 41) dX1_depart_41 rfl rfl ?_
        refine Ev.cVi (pc := 42) (k := 23) (av := []) (rest := [vI a2, vI a1, vR 23]) dX1_depart_42 ce_X1_today ml_X1_46 rfl sh_23 cl_X1 sh_sc (Nat.le_of_ble_eq_true rfl) (Nat.le_of_ble_eq_true rfl) (r_X1_today_23  _) ?_
        refine Ev.iload_n (pc := 45) dX1_depart_45 rfl rfl ?_
        refine Ev.iadd (pc := 46) dX1_depart_46 ?_
        refine Ev.cVv (pc := 47) (k := 23) (av := [vI a1, vI a2, vI ((p_X1_today_23 σ) + x1)]) (rest := []) dX1_depart_47 ce_X1_sendTo ml_X1_111 rfl sh_23 cl_X1 sh_sc (Nat.le_of_ble_eq_true rfl) (Nat.le_of_ble_eq_true rfl) (r_X1_sendTo_23 _ _ _ _) ?_
        refine Ev.nmS (fun σ5 e9 => ?_)
        replace h := bt_app h σ5 e9
        refine Ev.iconst (pc := 50) (v := 1) dX1_depart_50 ki_1 ?_
        subst h
        exact Ev.ret_i (pc := 51) dX1_depart_51 rfl nb_1
  · replace h := (if_neg c2).symm.trans h
    refine Ev.if_ne_t (pc := 19) (tgt := 36) dX1_depart_19 rfl c2 ?_
    refine Ev.iconst (pc := 36) (v := 0) dX1_depart_36 ki_0 ?_
    subst h
    exact Ev.ret_i (pc := 37) dX1_depart_37 rfl nb_0
theorem r_X1_depart (a1 : Int32) (a2 : Int32) (σ : St) : Rn md_X1_depart 3 [vR 23, vI a1, vI a2] SH σ (some (vI (t_X1_depart a1 a2 σ).1), SH, (t_X1_depart a1 a2 σ).2) := Rn.of ce_X1_depart.1 (Nat.le_of_ble_eq_true rfl) (e_X1_depart _ _ _ _ rfl)
def t_X9_go (a1 : Int32) (a2 : Int32) (σ : St) : Int32 × St := if (p_X5_hasKeeper a1 σ) = 0 then (((-1000000001), σ)) else (if (p_X5_hasTown a2 σ) = 0 then (((-1000000001), σ)) else (bt (t_X1_depart a1 a2 σ) fun q3 => if q3.1 = 0 then (((-1000000003), q3.2)) else (((p_X1_thereOn_23 a1 q3.2), q3.2))))
theorem e_X9_go (a1 : Int32) (a2 : Int32) (σ : St) (q : Int32 × St) (h : t_X9_go a1 a2 σ = q) : Ev md_X9_go 4 0 (lvE [vR 0, vI a1, vI a2] 3) [] SH σ (some (vI q.1), SH, q.2) := by
  show Ev md_X9_go 4 0 [some (vR 0), some (vI a1), some (vI a2)] [] SH σ (some (vI q.1), SH, q.2)
  unfold t_X9_go at h
  refine Ev.aload_n (pc := 0) dX9_go_0 rfl rfl ?_
  refine Ev.getR (pc := 1) dX9_go_1 fl_X9_10 sh_0 rfl ?_
  refine Ev.iload_n (pc := 4) dX9_go_4 rfl rfl ?_
  refine Ev.cVi (pc := 5) (k := 1) (av := [vI a1]) (rest := []) dX9_go_5 ce_X5_hasKeeper ml_X9_150 rfl sh_1 cl_X5 sh_sc (Nat.le_of_ble_eq_true rfl) (Nat.le_of_ble_eq_true rfl) (r_X5_hasKeeper _ _) ?_
  by_cases c1 : (p_X5_hasKeeper a1 σ) = 0
  · replace h := (if_pos c1).symm.trans h
    refine Ev.if_eq_t (pc := 8) (tgt := 22) dX9_go_8 rfl c1 ?_
    refine Ev.ldc (pc := 22) dX9_go_22 kc_X9_145 ?_
    subst h
    exact Ev.ret_i (pc := 24) dX9_go_24 rfl rfl
  · replace h := (if_neg c1).symm.trans h
    refine Ev.if_eq_f (pc := 8) dX9_go_8 ⟨22, rfl⟩ c1 ?_
    refine Ev.aload_n (pc := 11) dX9_go_11 rfl rfl ?_
    refine Ev.getR (pc := 12) dX9_go_12 fl_X9_10 sh_0 rfl ?_
    refine Ev.iload_n (pc := 15) dX9_go_15 rfl rfl ?_
    refine Ev.cVi (pc := 16) (k := 1) (av := [vI a2]) (rest := []) dX9_go_16 ce_X5_hasTown ml_X9_142 rfl sh_1 cl_X5 sh_sc (Nat.le_of_ble_eq_true rfl) (Nat.le_of_ble_eq_true rfl) (r_X5_hasTown _ _) ?_
    by_cases c2 : (p_X5_hasTown a2 σ) = 0
    · replace h := (if_pos c2).symm.trans h
      refine Ev.if_ne_f (pc := 19) dX9_go_19 ⟨25, rfl⟩ c2 ?_
      refine Ev.ldc (pc := 22) dX9_go_22 kc_X9_145 ?_
      subst h
      exact Ev.ret_i (pc := 24) dX9_go_24 rfl rfl
    · replace h := (if_neg c2).symm.trans h
      refine Ev.if_ne_t (pc := 19) (tgt := 25) dX9_go_19 rfl c2 ?_
      refine Ev.aload_n (pc := 25) dX9_go_25 rfl rfl ?_
      refine Ev.getR (pc := 26) dX9_go_26 fl_X9_31 sh_0 rfl ?_
      refine Ev.iload_n (pc := 29) dX9_go_29 rfl rfl ?_
      refine Ev.iload_n (pc := 30) dX9_go_30 rfl rfl ?_
      refine Ev.cVi (pc := 31) (k := 23) (av := [vI a1, vI a2]) (rest := []) dX9_go_31 ce_X1_depart ml_X9_203 rfl sh_23 cl_X1 sh_sc (Nat.le_of_ble_eq_true rfl) (Nat.le_of_ble_eq_true rfl) (r_X1_depart _ _ _) ?_
      refine Ev.nmQ (fun q3 e9 => ?_)
      replace h := bt_app h q3 e9
      by_cases c4 : q3.1 = 0
      · replace h := (if_pos c4).symm.trans h
        refine Ev.if_eq_t (pc := 34) (tgt := 48) dX9_go_34 rfl c4 ?_
        refine Ev.ldc (pc := 48) dX9_go_48 kc_X9_207 ?_
        subst h
        exact Ev.ret_i (pc := 50) dX9_go_50 rfl rfl
      · replace h := (if_neg c4).symm.trans h
        refine Ev.if_eq_f (pc := 34) dX9_go_34 ⟨48, rfl⟩ c4 ?_
        refine Ev.aload_n (pc := 37) dX9_go_37 rfl rfl ?_
        refine Ev.getR (pc := 38) dX9_go_38 fl_X9_31 sh_0 rfl ?_
        refine Ev.iload_n (pc := 41) dX9_go_41 rfl rfl ?_
        refine Ev.cVi (pc := 42) (k := 23) (av := [vI a1]) (rest := []) dX9_go_42 ce_X1_thereOn ml_X9_164 rfl sh_23 cl_X1 sh_sc (Nat.le_of_ble_eq_true rfl) (Nat.le_of_ble_eq_true rfl) (r_X1_thereOn_23 _ _) ?_
        refine Ev.goto (pc := 45) (tgt := 50) dX9_go_45 rfl ?_
        subst h
        exact Ev.ret_i (pc := 50) dX9_go_50 rfl rfl
theorem r_X9_go (a1 : Int32) (a2 : Int32) (σ : St) : Rn md_X9_go 4 [vR 0, vI a1, vI a2] SH σ (some (vI (t_X9_go a1 a2 σ).1), SH, (t_X9_go a1 a2 σ).2) := Rn.of ce_X9_go.1 (Nat.le_of_ble_eq_true rfl) (e_X9_go _ _ _ _ rfl)
def o_X10_isOnWay (N : Nat) (a1 : Int32) (σ : St) : Option (Int32 × St) := ckA (31 + a1) 1360 (if (σ 80 (31 + a1).toNatClampNeg) ≤ (σ 80 (37 : Int32).toNatClampNeg) then (some (0, σ)) else (some (1, σ)))
theorem e_X10_isOnWay (N : Nat) (a1 : Int32) (σ : St) (v : Int32) (w : St) (h : o_X10_isOnWay N a1 σ = some (v, w)) : Ev md_X10_isOnWay 0 0 (lvE [vR 79, vI a1] 2) [] SH σ (some (vI v), SH, w) := by
  show Ev md_X10_isOnWay 0 0 [some (vR 79), some (vI a1)] [] SH σ (some (vI v), SH, w)
  unfold o_X10_isOnWay at h
  refine Ev.aload_n (pc := 0) dX10_isOnWay_0 rfl rfl ?_
  refine Ev.getR (pc := 1) dX10_isOnWay_1 fl_X10_7 sh_79 rfl ?_
  refine Ev.bipush (pc := 4) (v := 31) dX10_isOnWay_4 kb_31 ?_
  refine Ev.iload_n (pc := 6) dX10_isOnWay_6 rfl rfl ?_
  refine Ev.iadd (pc := 7) dX10_isOnWay_7 ?_
  obtain ⟨c1, h⟩ := ckA_elim h
  refine Ev.iald (pc := 8) dX10_isOnWay_8 sh_80 c1 ?_
  refine Ev.aload_n (pc := 9) dX10_isOnWay_9 rfl rfl ?_
  refine Ev.getR (pc := 10) dX10_isOnWay_10 fl_X10_7 sh_79 rfl ?_
  refine Ev.bipush (pc := 13) (v := 37) dX10_isOnWay_13 kb_37 ?_
  refine Ev.iald (pc := 15) dX10_isOnWay_15 sh_80 in_37_1360 ?_
  by_cases c2 : (σ 80 (31 + a1).toNatClampNeg) ≤ (σ 80 (37 : Int32).toNatClampNeg)
  · replace h := (if_pos c2).symm.trans h
    refine Ev.icmp_le_t (pc := 16) (tgt := 23) dX10_isOnWay_16 rfl c2 ?_
    refine Ev.iconst (pc := 23) (v := 0) dX10_isOnWay_23 ki_0 ?_
    obtain ⟨h1, h2⟩ := oeq h
    subst h1
    subst h2
    exact Ev.ret_i (pc := 24) dX10_isOnWay_24 rfl nb_0
  · replace h := (if_neg c2).symm.trans h
    refine Ev.icmp_le_f (pc := 16) dX10_isOnWay_16 ⟨23, rfl⟩ c2 ?_
    refine Ev.iconst (pc := 19) (v := 1) dX10_isOnWay_19 ki_1 ?_
    refine Ev.goto (pc := 20) (tgt := 24) dX10_isOnWay_20 rfl ?_
    obtain ⟨h1, h2⟩ := oeq h
    subst h1
    subst h2
    exact Ev.ret_i (pc := 24) dX10_isOnWay_24 rfl nb_1
theorem r_X10_isOnWay {N : Nat} {a1 : Int32} {σ : St} {v : Int32} {w : St} (h : o_X10_isOnWay N a1 σ = some (v, w)) : Rn md_X10_isOnWay 0 [vR 79, vI a1] SH σ (some (vI v), SH, w) := Rn.of ce_X10_isOnWay.1 (Nat.le_of_ble_eq_true rfl) (e_X10_isOnWay N _ _ _ _ h)
def j_X10_canGo_48 (N : Nat)  (σ : St) : Option (Int32 × St) := some (0, σ)
def o_X10_canGo (N : Nat) (a1 : Int32) (a2 : Int32) (σ : St) : Option (Int32 × St) := bd (o_X10_isOnWay N a1 σ) fun x1 σ2 => if x1 = 0 then (ckA (28 + a1) 1360 (if (σ2 80 (28 + a1).toNatClampNeg) = a2 then (j_X10_canGo_48 N σ2) else (ckA (28 + a1) 1360 (ckA ((5 * (σ2 80 (28 + a1).toNatClampNeg)) + a2) 25 (if (99999999 : Int32) ≤ (σ2 83 ((5 * (σ2 80 (28 + a1).toNatClampNeg)) + a2).toNatClampNeg) then (j_X10_canGo_48 N σ2) else (some (1, σ2))))))) else (j_X10_canGo_48 N σ2)
theorem lj_X10_canGo_48 (N : Nat)  (σ : St) (v : Int32) (w : St) (h : j_X10_canGo_48 N  σ = some (v, w)) : Ev md_X10_canGo 1 48 [none, none, none] [] SH σ (some (vI v), SH, w) := by
  unfold j_X10_canGo_48 at h
  refine Ev.iconst (pc := 48) (v := 0) dX10_canGo_48 ki_0 ?_
  obtain ⟨h1, h2⟩ := oeq h
  subst h1
  subst h2
  exact Ev.ret_i (pc := 49) dX10_canGo_49 rfl nb_0
theorem e_X10_canGo (N : Nat) (a1 : Int32) (a2 : Int32) (σ : St) (v : Int32) (w : St) (h : o_X10_canGo N a1 a2 σ = some (v, w)) : Ev md_X10_canGo 1 0 (lvE [vR 79, vI a1, vI a2] 3) [] SH σ (some (vI v), SH, w) := by
  show Ev md_X10_canGo 1 0 [some (vR 79), some (vI a1), some (vI a2)] [] SH σ (some (vI v), SH, w)
  unfold o_X10_canGo at h
  refine Ev.aload_n (pc := 0) dX10_canGo_0 rfl rfl ?_
  refine Ev.iload_n (pc := 1) dX10_canGo_1 rfl rfl ?_
  obtain ⟨x1, σ2, g3, h⟩ := bd_elim h
  refine Ev.cVi (pc := 2) (k := 79) (av := [vI a1]) (rest := []) dX10_canGo_2 ce_X10_isOnWay ml_X10_220 rfl sh_79 cl_X10 sh_sc (Nat.le_of_ble_eq_true rfl) (Nat.le_of_ble_eq_true rfl) (r_X10_isOnWay g3) ?_
  by_cases c4 : x1 = 0
  · replace h := (if_pos c4).symm.trans h
    refine Ev.if_ne_f (pc := 5) dX10_canGo_5 ⟨48, rfl⟩ c4 ?_
    refine Ev.aload_n (pc := 8) dX10_canGo_8 rfl rfl ?_
    refine Ev.getR (pc := 9) dX10_canGo_9 fl_X10_7 sh_79 rfl ?_
    refine Ev.bipush (pc := 12) (v := 28) dX10_canGo_12 kb_28 ?_
    refine Ev.iload_n (pc := 14) dX10_canGo_14 rfl rfl ?_
    refine Ev.iadd (pc := 15) dX10_canGo_15 ?_
    obtain ⟨c5, h⟩ := ckA_elim h
    refine Ev.iald (pc := 16) dX10_canGo_16 sh_80 c5 ?_
    refine Ev.iload_n (pc := 17) dX10_canGo_17 rfl rfl ?_
    by_cases c6 : (σ2 80 (28 + a1).toNatClampNeg) = a2
    · replace h := (if_pos c6).symm.trans h
      refine Ev.icmp_eq_t (pc := 18) (tgt := 48) dX10_canGo_18 rfl c6 ?_
      exact Ev.weak2 (lj_X10_canGo_48 N _ _ _ h) (lsubN (lsubN (lsubN lsubE)))
    · replace h := (if_neg c6).symm.trans h
      refine Ev.icmp_eq_f (pc := 18) dX10_canGo_18 ⟨48, rfl⟩ c6 ?_
      refine Ev.aload_n (pc := 21) dX10_canGo_21 rfl rfl ?_
      refine Ev.getR (pc := 22) dX10_canGo_22 fl_X10_20 sh_79 rfl ?_
      refine Ev.iconst (pc := 25) (v := 5) dX10_canGo_25 ki_5 ?_
      refine Ev.aload_n (pc := 26) dX10_canGo_26 rfl rfl ?_
      refine Ev.getR (pc := 27) dX10_canGo_27 fl_X10_7 sh_79 rfl ?_
      refine Ev.bipush (pc := 30) (v := 28) dX10_canGo_30 kb_28 ?_
      refine Ev.iload_n (pc := 32) dX10_canGo_32 rfl rfl ?_
      refine Ev.iadd (pc := 33) dX10_canGo_33 ?_
      obtain ⟨c7, h⟩ := ckA_elim h
      refine Ev.iald (pc := 34) dX10_canGo_34 sh_80 c7 ?_
      refine Ev.imul (pc := 35) dX10_canGo_35 ?_
      refine Ev.iload_n (pc := 36) dX10_canGo_36 rfl rfl ?_
      refine Ev.iadd (pc := 37) dX10_canGo_37 ?_
      obtain ⟨c8, h⟩ := ckA_elim h
      refine Ev.iald (pc := 38) dX10_canGo_38 sh_83 c8 ?_
      refine Ev.ldc (pc := 39) dX10_canGo_39 kc_X10_156 ?_
      by_cases c9 : (99999999 : Int32) ≤ (σ2 83 ((5 * (σ2 80 (28 + a1).toNatClampNeg)) + a2).toNatClampNeg)
      · replace h := (if_pos c9).symm.trans h
        refine Ev.icmp_ge_t (pc := 41) (tgt := 48) dX10_canGo_41 rfl c9 ?_
        exact Ev.weak2 (lj_X10_canGo_48 N _ _ _ h) (lsubN (lsubN (lsubN lsubE)))
      · replace h := (if_neg c9).symm.trans h
        refine Ev.icmp_ge_f (pc := 41) dX10_canGo_41 ⟨48, rfl⟩ c9 ?_
        refine Ev.iconst (pc := 44) (v := 1) dX10_canGo_44 ki_1 ?_
        refine Ev.goto (pc := 45) (tgt := 49) dX10_canGo_45 rfl ?_
        obtain ⟨h1, h2⟩ := oeq h
        subst h1
        subst h2
        exact Ev.ret_i (pc := 49) dX10_canGo_49 rfl nb_1
  · replace h := (if_neg c4).symm.trans h
    refine Ev.if_ne_t (pc := 5) (tgt := 48) dX10_canGo_5 rfl c4 ?_
    exact Ev.weak2 (lj_X10_canGo_48 N _ _ _ h) (lsubN (lsubN (lsubN lsubE)))
theorem r_X10_canGo {N : Nat} {a1 : Int32} {a2 : Int32} {σ : St} {v : Int32} {w : St} (h : o_X10_canGo N a1 a2 σ = some (v, w)) : Rn md_X10_canGo 1 [vR 79, vI a1, vI a2] SH σ (some (vI v), SH, w) := Rn.of ce_X10_canGo.1 (Nat.le_of_ble_eq_true rfl) (e_X10_canGo N _ _ _ _ _ h)
def o_X10_goTo (N : Nat) (a1 : Int32) (a2 : Int32) (σ : St) : Option (Unit × St) := ckA (28 + a1) 1360 (ckA ((5 * (σ 80 (28 + a1).toNatClampNeg)) + a2) 25 (ckA (31 + a1) 1360 (bt (st σ 80 (31 + a1).toNatClampNeg ((σ 80 (37 : Int32).toNatClampNeg) + (σ 83 ((5 * (σ 80 (28 + a1).toNatClampNeg)) + a2).toNatClampNeg))) fun σ4 => ckA (28 + a1) 1360 (bt (st σ4 80 (28 + a1).toNatClampNeg a2) fun σ6 => some ((), σ6)))))
theorem e_X10_goTo (N : Nat) (a1 : Int32) (a2 : Int32) (σ : St) (v : Unit) (w : St) (h : o_X10_goTo N a1 a2 σ = some (v, w)) : Ev md_X10_goTo 0 0 (lvE [vR 79, vI a1, vI a2] 3) [] SH σ (none, SH, w) := by
  show Ev md_X10_goTo 0 0 [some (vR 79), some (vI a1), some (vI a2)] [] SH σ (none, SH, w)
  unfold o_X10_goTo at h
  refine Ev.aload_n (pc := 0) dX10_goTo_0 rfl rfl ?_
  refine Ev.getR (pc := 1) dX10_goTo_1 fl_X10_7 sh_79 rfl ?_
  refine Ev.bipush (pc := 4) (v := 31) dX10_goTo_4 kb_31 ?_
  refine Ev.iload_n (pc := 6) dX10_goTo_6 rfl rfl ?_
  refine Ev.iadd (pc := 7) dX10_goTo_7 ?_
  refine Ev.aload_n (pc := 8) dX10_goTo_8 rfl rfl ?_
  refine Ev.getR (pc := 9) dX10_goTo_9 fl_X10_7 sh_79 rfl ?_
  refine Ev.bipush (pc := 12) (v := 37) dX10_goTo_12 kb_37 ?_
  refine Ev.iald (pc := 14) dX10_goTo_14 sh_80 in_37_1360 ?_
  refine Ev.aload_n (pc := 15) dX10_goTo_15 rfl rfl ?_
  refine Ev.getR (pc := 16) dX10_goTo_16 fl_X10_20 sh_79 rfl ?_
  refine Ev.iconst (pc := 19) (v := 5) dX10_goTo_19 ki_5 ?_
  refine Ev.aload_n (pc := 20) dX10_goTo_20 rfl rfl ?_
  refine Ev.getR (pc := 21) dX10_goTo_21 fl_X10_7 sh_79 rfl ?_
  refine Ev.bipush (pc := 24) (v := 28) dX10_goTo_24 kb_28 ?_
  refine Ev.iload_n (pc := 26) dX10_goTo_26 rfl rfl ?_
  refine Ev.iadd (pc := 27) dX10_goTo_27 ?_
  obtain ⟨c1, h⟩ := ckA_elim h
  refine Ev.iald (pc := 28) dX10_goTo_28 sh_80 c1 ?_
  refine Ev.imul (pc := 29) dX10_goTo_29 ?_
  refine Ev.iload_n (pc := 30) dX10_goTo_30 rfl rfl ?_
  refine Ev.iadd (pc := 31) dX10_goTo_31 ?_
  obtain ⟨c2, h⟩ := ckA_elim h
  refine Ev.iald (pc := 32) dX10_goTo_32 sh_83 c2 ?_
  refine Ev.iadd (pc := 33) dX10_goTo_33 ?_
  obtain ⟨c3, h⟩ := ckA_elim h
  refine Ev.iast (pc := 34) dX10_goTo_34 sh_80 c3 ?_
  refine Ev.nmS (fun σ4 e9 => ?_)
  replace h := bt_app h σ4 e9
  refine Ev.aload_n (pc := 35) dX10_goTo_35 rfl rfl ?_
  refine Ev.getR (pc := 36) dX10_goTo_36 fl_X10_7 sh_79 rfl ?_
  refine Ev.bipush (pc := 39) (v := 28) dX10_goTo_39 kb_28 ?_
  refine Ev.iload_n (pc := 41) dX10_goTo_41 rfl rfl ?_
  refine Ev.iadd (pc := 42) dX10_goTo_42 ?_
  refine Ev.iload_n (pc := 43) dX10_goTo_43 rfl rfl ?_
  obtain ⟨c5, h⟩ := ckA_elim h
  refine Ev.iast (pc := 44) dX10_goTo_44 sh_80 c5 ?_
  refine Ev.nmS (fun σ6 e9 => ?_)
  replace h := bt_app h σ6 e9
  obtain ⟨h1, h2⟩ := oeq h
  subst h1
  subst h2
  exact Ev.ret_v (pc := 45) dX10_goTo_45 rfl
theorem r_X10_goTo {N : Nat} {a1 : Int32} {a2 : Int32} {σ : St} {v : Unit} {w : St} (h : o_X10_goTo N a1 a2 σ = some (v, w)) : Rn md_X10_goTo 0 [vR 79, vI a1, vI a2] SH σ (none, SH, w) := Rn.of ce_X10_goTo.1 (Nat.le_of_ble_eq_true rfl) (e_X10_goTo N _ _ _ _ _ h)
def o_X10_go (N : Nat) (a1 : Int32) (a2 : Int32) (σ : St) : Option (Int32 × St) := bd (o_X10_isKeeper N a1 σ) fun x1 σ2 => if x1 = 0 then (some ((-1000000001), σ2)) else (bd (o_X10_isTown N a2 σ2) fun x5 σ6 => if x5 = 0 then (some ((-1000000001), σ6)) else (bd (o_X10_canGo N a1 a2 σ6) fun x9 σ10 => if x9 = 0 then (some ((-1000000003), σ10)) else (bd (o_X10_goTo N a1 a2 σ10) fun u13 σ14 => ckA (31 + a1) 1360 (some ((σ14 80 (31 + a1).toNatClampNeg), σ14)))))
theorem e_X10_go (N : Nat) (a1 : Int32) (a2 : Int32) (σ : St) (v : Int32) (w : St) (h : o_X10_go N a1 a2 σ = some (v, w)) : Ev md_X10_go 2 0 (lvE [vR 79, vI a1, vI a2] 3) [] SH σ (some (vI v), SH, w) := by
  show Ev md_X10_go 2 0 [some (vR 79), some (vI a1), some (vI a2)] [] SH σ (some (vI v), SH, w)
  unfold o_X10_go at h
  refine Ev.aload_n (pc := 0) dX10_go_0 rfl rfl ?_
  refine Ev.iload_n (pc := 1) dX10_go_1 rfl rfl ?_
  obtain ⟨x1, σ2, g3, h⟩ := bd_elim h
  refine Ev.cVi (pc := 2) (k := 79) (av := [vI a1]) (rest := []) dX10_go_2 ce_X10_isKeeper ml_X10_206 rfl sh_79 cl_X10 sh_sc (Nat.le_of_ble_eq_true rfl) (Nat.le_of_ble_eq_true rfl) (r_X10_isKeeper g3) ?_
  by_cases c4 : x1 = 0
  · replace h := (if_pos c4).symm.trans h
    refine Ev.if_eq_t (pc := 5) (tgt := 16) dX10_go_5 rfl c4 ?_
    refine Ev.ldc (pc := 16) dX10_go_16 kc_X10_205 ?_
    obtain ⟨h1, h2⟩ := oeq h
    subst h1
    subst h2
    exact Ev.ret_i (pc := 18) dX10_go_18 rfl rfl
  · replace h := (if_neg c4).symm.trans h
    refine Ev.if_eq_f (pc := 5) dX10_go_5 ⟨16, rfl⟩ c4 ?_
    refine Ev.aload_n (pc := 8) dX10_go_8 rfl rfl ?_
    refine Ev.iload_n (pc := 9) dX10_go_9 rfl rfl ?_
    obtain ⟨x5, σ6, g7, h⟩ := bd_elim h
    refine Ev.cVi (pc := 10) (k := 79) (av := [vI a2]) (rest := []) dX10_go_10 ce_X10_isTown ml_X10_202 rfl sh_79 cl_X10 sh_sc (Nat.le_of_ble_eq_true rfl) (Nat.le_of_ble_eq_true rfl) (r_X10_isTown g7) ?_
    by_cases c8 : x5 = 0
    · replace h := (if_pos c8).symm.trans h
      refine Ev.if_ne_f (pc := 13) dX10_go_13 ⟨19, rfl⟩ c8 ?_
      refine Ev.ldc (pc := 16) dX10_go_16 kc_X10_205 ?_
      obtain ⟨h1, h2⟩ := oeq h
      subst h1
      subst h2
      exact Ev.ret_i (pc := 18) dX10_go_18 rfl rfl
    · replace h := (if_neg c8).symm.trans h
      refine Ev.if_ne_t (pc := 13) (tgt := 19) dX10_go_13 rfl c8 ?_
      refine Ev.aload_n (pc := 19) dX10_go_19 rfl rfl ?_
      refine Ev.iload_n (pc := 20) dX10_go_20 rfl rfl ?_
      refine Ev.iload_n (pc := 21) dX10_go_21 rfl rfl ?_
      obtain ⟨x9, σ10, g11, h⟩ := bd_elim h
      refine Ev.cVi (pc := 22) (k := 79) (av := [vI a1, vI a2]) (rest := []) dX10_go_22 ce_X10_canGo ml_X10_223 rfl sh_79 cl_X10 sh_sc (Nat.le_of_ble_eq_true rfl) (Nat.le_of_ble_eq_true rfl) (r_X10_canGo g11) ?_
      by_cases c12 : x9 = 0
      · replace h := (if_pos c12).symm.trans h
        refine Ev.if_ne_f (pc := 25) dX10_go_25 ⟨31, rfl⟩ c12 ?_
        refine Ev.ldc (pc := 28) dX10_go_28 kc_X10_227 ?_
        obtain ⟨h1, h2⟩ := oeq h
        subst h1
        subst h2
        exact Ev.ret_i (pc := 30) dX10_go_30 rfl rfl
      · replace h := (if_neg c12).symm.trans h
        refine Ev.if_ne_t (pc := 25) (tgt := 31) dX10_go_25 rfl c12 ?_
        refine Ev.aload_n (pc := 31) dX10_go_31 rfl rfl ?_
        refine Ev.iload_n (pc := 32) dX10_go_32 rfl rfl ?_
        refine Ev.iload_n (pc := 33) dX10_go_33 rfl rfl ?_
        obtain ⟨u13, σ14, g15, h⟩ := bd_elim h
        refine Ev.cVv (pc := 34) (k := 79) (av := [vI a1, vI a2]) (rest := []) dX10_go_34 ce_X10_goTo ml_X10_228 rfl sh_79 cl_X10 sh_sc (Nat.le_of_ble_eq_true rfl) (Nat.le_of_ble_eq_true rfl) (r_X10_goTo g15) ?_
        refine Ev.aload_n (pc := 37) dX10_go_37 rfl rfl ?_
        refine Ev.getR (pc := 38) dX10_go_38 fl_X10_7 sh_79 rfl ?_
        refine Ev.bipush (pc := 41) (v := 31) dX10_go_41 kb_31 ?_
        refine Ev.iload_n (pc := 43) dX10_go_43 rfl rfl ?_
        refine Ev.iadd (pc := 44) dX10_go_44 ?_
        obtain ⟨c16, h⟩ := ckA_elim h
        refine Ev.iald (pc := 45) dX10_go_45 sh_80 c16 ?_
        obtain ⟨h1, h2⟩ := oeq h
        subst h1
        subst h2
        exact Ev.ret_i (pc := 46) dX10_go_46 rfl rfl
theorem r_X10_go {N : Nat} {a1 : Int32} {a2 : Int32} {σ : St} {v : Int32} {w : St} (h : o_X10_go N a1 a2 σ = some (v, w)) : Rn md_X10_go 2 [vR 79, vI a1, vI a2] SH σ (some (vI v), SH, w) := Rn.of ce_X10_go.1 (Nat.le_of_ble_eq_true rfl) (e_X10_go N _ _ _ _ _ h)
def p_X9_refusalOfDays (a1 : Int32) (σ : St) : Int32 := if a1 < 1 then (-1000000002) else (if a1 ≤ 99 then (if (σ 1 0) = 0 then (-1000000003) else (if (p_X1_today_23 σ) ≤ 9000 then 0 else (-1000000004))) else (-1000000002))
theorem e_X9_refusalOfDays (a1 : Int32) (σ : St) (v : Int32) (h : p_X9_refusalOfDays a1 σ = v) : Ev md_X9_refusalOfDays 2 0 (lvE [vR 0, vI a1] 2) [] SH σ (some (vI v), SH, σ) := by
  show Ev md_X9_refusalOfDays 2 0 [some (vR 0), some (vI a1)] [] SH σ (some (vI v), SH, σ)
  unfold p_X9_refusalOfDays at h
  refine Ev.iload_n (pc := 0) dX9_refusalOfDays_0 rfl rfl ?_
  refine Ev.iconst (pc := 1) (v := 1) dX9_refusalOfDays_1 ki_1 ?_
  by_cases c1 : a1 < 1
  · replace h := (if_pos c1).symm.trans h
    refine Ev.icmp_lt_t (pc := 2) (tgt := 11) dX9_refusalOfDays_2 rfl c1 ?_
    refine Ev.ldc (pc := 11) dX9_refusalOfDays_11 kc_X9_81 ?_
    subst h
    exact Ev.ret_i (pc := 13) dX9_refusalOfDays_13 rfl rfl
  · replace h := (if_neg c1).symm.trans h
    refine Ev.icmp_lt_f (pc := 2) dX9_refusalOfDays_2 ⟨11, rfl⟩ c1 ?_
    refine Ev.iload_n (pc := 5) dX9_refusalOfDays_5 rfl rfl ?_
    refine Ev.bipush (pc := 6) (v := 99) dX9_refusalOfDays_6 kb_99 ?_
    by_cases c2 : a1 ≤ 99
    · replace h := (if_pos c2).symm.trans h
      refine Ev.icmp_le_t (pc := 8) (tgt := 14) dX9_refusalOfDays_8 rfl c2 ?_
      refine Ev.aload_n (pc := 14) dX9_refusalOfDays_14 rfl rfl ?_
      refine Ev.getR (pc := 15) dX9_refusalOfDays_15 fl_X9_10 sh_0 rfl ?_
      refine Ev.getI (pc := 18) dX9_refusalOfDays_18 fl_X9_106 sh_1 rfl ?_
      by_cases c3 : (σ 1 0) = 0
      · replace h := (if_pos c3).symm.trans h
        refine Ev.if_ne_f (pc := 21) dX9_refusalOfDays_21 ⟨27, rfl⟩ c3 ?_
        refine Ev.ldc (pc := 24) dX9_refusalOfDays_24 kc_X9_207 ?_
        subst h
        exact Ev.ret_i (pc := 26) dX9_refusalOfDays_26 rfl rfl
      · replace h := (if_neg c3).symm.trans h
        refine Ev.if_ne_t (pc := 21) (tgt := 27) dX9_refusalOfDays_21 rfl c3 ?_
        refine Ev.aload_n (pc := 27) dX9_refusalOfDays_27 rfl rfl ?_
        refine Ev.getR (pc := 28) dX9_refusalOfDays_28 fl_X9_31 sh_0 rfl ?_
        refine Ev.cVi (pc := 31) (k := 23) (av := []) (rest := []) dX9_refusalOfDays_31 ce_X1_today ml_X9_125 rfl sh_23 cl_X1 sh_sc (Nat.le_of_ble_eq_true rfl) (Nat.le_of_ble_eq_true rfl) (r_X1_today_23  _) ?_
        refine Ev.sipush (pc := 34) (v := 9000) dX9_refusalOfDays_34 ks_9000 ?_
        by_cases c4 : (p_X1_today_23 σ) ≤ 9000
        · replace h := (if_pos c4).symm.trans h
          refine Ev.icmp_le_t (pc := 37) (tgt := 45) dX9_refusalOfDays_37 rfl c4 ?_
          refine Ev.iconst (pc := 45) (v := 0) dX9_refusalOfDays_45 ki_0 ?_
          subst h
          exact Ev.ret_i (pc := 46) dX9_refusalOfDays_46 rfl rfl
        · replace h := (if_neg c4).symm.trans h
          refine Ev.icmp_le_f (pc := 37) dX9_refusalOfDays_37 ⟨45, rfl⟩ c4 ?_
          refine Ev.ldc (pc := 40) dX9_refusalOfDays_40 kc_X9_86 ?_
          refine Ev.goto (pc := 42) (tgt := 46) dX9_refusalOfDays_42 rfl ?_
          subst h
          exact Ev.ret_i (pc := 46) dX9_refusalOfDays_46 rfl rfl
    · replace h := (if_neg c2).symm.trans h
      refine Ev.icmp_le_f (pc := 8) dX9_refusalOfDays_8 ⟨14, rfl⟩ c2 ?_
      refine Ev.ldc (pc := 11) dX9_refusalOfDays_11 kc_X9_81 ?_
      subst h
      exact Ev.ret_i (pc := 13) dX9_refusalOfDays_13 rfl rfl
theorem r_X9_refusalOfDays (a1 : Int32) (σ : St) : Rn md_X9_refusalOfDays 2 [vR 0, vI a1] SH σ (some (vI (p_X9_refusalOfDays a1 σ)), SH, σ) := Rn.of ce_X9_refusalOfDays.1 (Nat.le_of_ble_eq_true rfl) (e_X9_refusalOfDays _ _ _ rfl)
def t_X6_add  (σ : St) : St := bt (cpO_ σ (some 24) (rwA_ 27 30 (σ 25 1)) 31 31) fun σ1 => bt (st σ1 25 1 (((σ1 25 1) + 1) - ((σ1 25 1) + 1) / 30 * 30)) fun σ2 => bt (st σ2 25 2 (p_J9_min_7cf53 ((σ2 25 2) + 1) 30 σ2)) fun σ3 => σ3
theorem e_X6_add  (σ : St) (q : St) (h : t_X6_add  σ = q) : Ev md_X6_add 1 0 (lvE [vR 25, vR 23] 2) [] SH σ (none, SH, q) := by
  show Ev md_X6_add 1 0 [some (vR 25), some (vR 23)] [] SH σ (none, SH, q)
  unfold t_X6_add at h
  refine Ev.aload_n (pc := 0) dX6_add_0 rfl rfl ?_
  refine Ev.getR (pc := 1) dX6_add_1 fl_X6_22 sh_23 rfl ?_
  refine Ev.aload_n (pc := 4) dX6_add_4 rfl rfl ?_
  refine Ev.getR (pc := 5) dX6_add_5 fl_X6_13 sh_25 rfl ?_
  refine Ev.aload_n (pc := 8) dX6_add_8 rfl rfl ?_
  refine Ev.getI (pc := 9) dX6_add_9 fl_X6_26 sh_25 rfl ?_
  refine Ev.cTq (pc := 12) (av := [vR 26, vI (σ 25 1)]) (rest := [vR 24]) dX6_add_12 ce_X9_rowAt ml_X6_29 rfl sh_sc (Nat.le_of_ble_eq_true rfl) (Nat.le_of_ble_eq_true rfl) (r_rowAt sh_26 hr_26 (by decide) _ _) ?_
  refine Ev.cTv (pc := 15) (av := [vR 24, .inr (.inr (rwA_ 27 30 (σ 25 1)))]) (rest := []) dX6_add_15 ce_X9_copy ml_X6_33 rfl sh_sc (Nat.le_of_ble_eq_true rfl) (Nat.le_of_ble_eq_true rfl) (r_copy (hs_some sh_24) (hq_26 _) (by decide) (by decide) _) ?_
  refine Ev.nmS (fun σ1 e9 => ?_)
  replace h := bt_app h σ1 e9
  refine Ev.aload_n (pc := 18) dX6_add_18 rfl rfl ?_
  refine Ev.aload_n (pc := 19) dX6_add_19 rfl rfl ?_
  refine Ev.getI (pc := 20) dX6_add_20 fl_X6_26 sh_25 rfl ?_
  refine Ev.iconst (pc := 23) (v := 1) dX6_add_23 ki_1 ?_
  refine Ev.iadd (pc := 24) dX6_add_24 ?_
  refine Ev.bipush (pc := 25) (v := 30) dX6_add_25 kb_30 ?_
  refine Ev.irem (pc := 27) dX6_add_27 (by decide) ?_
  refine Ev.putI (pc := 28) dX6_add_28 pl_X6_26 sh_25 rfl rfl rfl ?_
  refine Ev.nmS (fun σ2 e9 => ?_)
  replace h := bt_app h σ2 e9
  refine Ev.aload_n (pc := 31) dX6_add_31 rfl rfl ?_
  refine Ev.aload_n (pc := 32) dX6_add_32 rfl rfl ?_
  refine Ev.getI (pc := 33) dX6_add_33 fl_X6_18 sh_25 rfl ?_
  refine Ev.iconst (pc := 36) (v := 1) dX6_add_36 ki_1 ?_
  refine Ev.iadd (pc := 37) dX6_add_37 ?_
  refine Ev.bipush (pc := 38) (v := 30) dX6_add_38 kb_30 ?_
  refine Ev.cTi (pc := 40) (av := [vI ((σ2 25 2) + 1), vI 30]) (rest := [vR 25]) dX6_add_40 ce_J9_min_7cf53 ml_X6_37 rfl sh_sc (Nat.le_of_ble_eq_true rfl) (Nat.le_of_ble_eq_true rfl) (r_J9_min_7cf53 _ _ _) ?_
  refine Ev.putI (pc := 43) dX6_add_43 pl_X6_18 sh_25 rfl rfl rfl ?_
  refine Ev.nmS (fun σ3 e9 => ?_)
  replace h := bt_app h σ3 e9
  subst h
  exact Ev.ret_v (pc := 46) dX6_add_46 rfl
theorem r_X6_add  (σ : St) : Rn md_X6_add 1 [vR 25, vR 23] SH σ (none, SH, t_X6_add  σ) := Rn.of ce_X6_add.1 (Nat.le_of_ble_eq_true rfl) (e_X6_add  _ _ rfl)
def j_X1_isOpen_23_23  (σ : St) : Int32 := 0
def p_X1_isOpen_23 (a1 : Int32) (σ : St) : Int32 := if (p_X5_hasPromise a1 σ) = 0 then (j_X1_isOpen_23_23 σ) else (if (p_X1_how_23 a1 σ) = 0 then 1 else (j_X1_isOpen_23_23 σ))
theorem lj_X1_isOpen_23_23  (σ : St) (v : Int32) (h : j_X1_isOpen_23_23  σ = v) : Ev md_X1_isOpen 2 23 [none, none] [] SH σ (some (vI v), SH, σ) := by
  unfold j_X1_isOpen_23_23 at h
  refine Ev.iconst (pc := 23) (v := 0) dX1_isOpen_23 ki_0 ?_
  subst h
  exact Ev.ret_i (pc := 24) dX1_isOpen_24 rfl nb_0
theorem e_X1_isOpen_23 (a1 : Int32) (σ : St) (v : Int32) (h : p_X1_isOpen_23 a1 σ = v) : Ev md_X1_isOpen 2 0 (lvE [vR 23, vI a1] 2) [] SH σ (some (vI v), SH, σ) := by
  show Ev md_X1_isOpen 2 0 [some (vR 23), some (vI a1)] [] SH σ (some (vI v), SH, σ)
  unfold p_X1_isOpen_23 at h
  refine Ev.aload_n (pc := 0) dX1_isOpen_0 rfl rfl ?_
  refine Ev.getR (pc := 1) dX1_isOpen_1 fl_X1_15 sh_23 rfl ?_
  refine Ev.iload_n (pc := 4) dX1_isOpen_4 rfl rfl ?_
  refine Ev.cVi (pc := 5) (k := 1) (av := [vI a1]) (rest := []) dX1_isOpen_5 ce_X5_hasPromise ml_X1_35 rfl sh_1 cl_X5 sh_sc (Nat.le_of_ble_eq_true rfl) (Nat.le_of_ble_eq_true rfl) (r_X5_hasPromise _ _) ?_
  by_cases c1 : (p_X5_hasPromise a1 σ) = 0
  · replace h := (if_pos c1).symm.trans h
    refine Ev.if_eq_t (pc := 8) (tgt := 23) dX1_isOpen_8 rfl c1 ?_
    exact Ev.weak2 (lj_X1_isOpen_23_23 _ _ h) (lsubN (lsubN lsubE))
  · replace h := (if_neg c1).symm.trans h
    refine Ev.if_eq_f (pc := 8) dX1_isOpen_8 ⟨23, rfl⟩ c1 ?_
    refine Ev.aload_n (pc := 11) dX1_isOpen_11 rfl rfl ?_
    refine Ev.iload_n (pc := 12) dX1_isOpen_12 rfl rfl ?_
    refine Ev.cVi (pc := 13) (k := 23) (av := [vI a1]) (rest := []) dX1_isOpen_13 ce_X1_how ml_X1_39 rfl sh_23 cl_X1 sh_sc (Nat.le_of_ble_eq_true rfl) (Nat.le_of_ble_eq_true rfl) (r_X1_how_23 _ _) ?_
    by_cases c2 : (p_X1_how_23 a1 σ) = 0
    · replace h := (if_pos c2).symm.trans h
      refine Ev.if_ne_f (pc := 16) dX1_isOpen_16 ⟨23, rfl⟩ c2 ?_
      refine Ev.iconst (pc := 19) (v := 1) dX1_isOpen_19 ki_1 ?_
      refine Ev.goto (pc := 20) (tgt := 24) dX1_isOpen_20 rfl ?_
      subst h
      exact Ev.ret_i (pc := 24) dX1_isOpen_24 rfl nb_1
    · replace h := (if_neg c2).symm.trans h
      refine Ev.if_ne_t (pc := 16) (tgt := 23) dX1_isOpen_16 rfl c2 ?_
      exact Ev.weak2 (lj_X1_isOpen_23_23 _ _ h) (lsubN (lsubN lsubE))
theorem r_X1_isOpen_23 (a1 : Int32) (σ : St) : Rn md_X1_isOpen 2 [vR 23, vI a1] SH σ (some (vI (p_X1_isOpen_23 a1 σ)), SH, σ) := Rn.of ce_X1_isOpen.1 (Nat.le_of_ble_eq_true rfl) (e_X1_isOpen_23 _ _ _ rfl)
def t_X1_end_23 (a1 : Int32) (a2 : Int32) (a3 : Int32) (σ : St) : St := bt (put_ σ 24 31 (1 + a1) a2) fun σ1 => bt (put_ σ1 24 31 (8 + a1) a3) fun σ2 => σ2
theorem e_X1_end_23 (a1 : Int32) (a2 : Int32) (a3 : Int32) (σ : St) (q : St) (h : t_X1_end_23 a1 a2 a3 σ = q) : Ev md_X1_end 1 0 (lvE [vR 23, vI a1, vI a2, vI a3] 4) [] SH σ (none, SH, q) := by
  show Ev md_X1_end 1 0 [some (vR 23), some (vI a1), some (vI a2), some (vI a3)] [] SH σ (none, SH, q)
  unfold t_X1_end_23 at h
  refine Ev.aload_n (pc := 0) dX1_end_0 rfl rfl ?_
  refine Ev.getR (pc := 1) dX1_end_1 fl_X1_11 sh_23 rfl ?_
  refine Ev.iconst (pc := 4) (v := 1) dX1_end_4 ki_1 ?_
  refine Ev.iload_n (pc := 5) dX1_end_5 rfl rfl ?_
  refine Ev.iadd (pc := 6) dX1_end_6 ?_
  refine Ev.iload_n (pc := 7) dX1_end_7 rfl rfl ?_
  refine Ev.cTv (pc := 8) (av := [vR 24, vI (1 + a1), vI a2]) (rest := []) dX1_end_8 ce_X9_put ml_X1_19 rfl sh_sc (Nat.le_of_ble_eq_true rfl) (Nat.le_of_ble_eq_true rfl) (r_put sh_24 (by decide) _ _ _) ?_
  refine Ev.nmS (fun σ1 e9 => ?_)
  replace h := bt_app h σ1 e9
  refine Ev.aload_n (pc := 11) dX1_end_11 rfl rfl ?_
  refine Ev.getR (pc := 12) dX1_end_12 fl_X1_11 sh_23 rfl ?_
  refine Ev.bipush (pc := 15) (v := 8) dX1_end_15 kb_8 ?_
  refine Ev.iload_n (pc := 17) dX1_end_17 rfl rfl ?_
  refine Ev.iadd (pc := 18) dX1_end_18 ?_
  refine Ev.iload_n (pc := 19) dX1_end_19 rfl rfl ?_
  refine Ev.cTv (pc := 20) (av := [vR 24, vI (8 + a1), vI a3]) (rest := []) dX1_end_20 ce_X9_put ml_X1_19 rfl sh_sc (Nat.le_of_ble_eq_true rfl) (Nat.le_of_ble_eq_true rfl) (r_put sh_24 (by decide) _ _ _) ?_
  refine Ev.nmS (fun σ2 e9 => ?_)
  replace h := bt_app h σ2 e9
  subst h
  exact Ev.ret_v (pc := 23) dX1_end_23 rfl
theorem r_X1_end_23 (a1 : Int32) (a2 : Int32) (a3 : Int32) (σ : St) : Rn md_X1_end 1 [vR 23, vI a1, vI a2, vI a3] SH σ (none, SH, t_X1_end_23 a1 a2 a3 σ) := Rn.of ce_X1_end.1 (Nat.le_of_ble_eq_true rfl) (e_X1_end_23 _ _ _ _ _ rfl)
def j_X1_lose_127 (N : Nat) (K_55 : Int32 → Int32 → St → Option (Unit × St)) (v1 : Int32) (v5 : Int32) (σ : St) : Option (Unit × St) := bt (v5 + 1) fun x1 => K_55 v1 x1 σ
def j_X1_lose_116 (N : Nat) (K_55 : Int32 → Int32 → St → Option (Unit × St)) (v1 : Int32) (v5 : Int32) (σ : St) : Option (Unit × St) := bt (t_X1_end_23 v5 3 (p_X1_today_23 σ) σ) fun σ1 => j_X1_lose_127 N K_55 v1 v5 σ1
def l_X1_lose_55 (N : Nat) : Nat → Int32 → Int32 → St → Option (Unit × St)
  | 0, _, _, _ => none
  | n + 1, v1, v5, σ => if (σ 1 3) ≤ v5 then (some ((), σ)) else (bt (at_ σ 9 7 v5) fun x2 => if (p_X1_isOpen_23 v5 σ) = 0 then (j_X1_lose_127 N (l_X1_lose_55 N n) v1 v5 σ) else (if x2 < v1 then (j_X1_lose_127 N (l_X1_lose_55 N n) v1 v5 σ) else (if (p_X1_how_23 x2 σ) = 2 then (j_X1_lose_116 N (l_X1_lose_55 N n) v1 v5 σ) else (if (p_X1_how_23 x2 σ) = 3 then (j_X1_lose_116 N (l_X1_lose_55 N n) v1 v5 σ) else (j_X1_lose_127 N (l_X1_lose_55 N n) v1 v5 σ)))))
def o_X1_lose (N : Nat) (a1 : Int32) (a2 : Int32) (a3 : Int32) (σ : St) : Option (Unit × St) := bt (28 + (at_ σ 3 3 (p_X1_holderOf_23 a1 σ))) fun x1 => bt (put_ σ 24 31 x1 ((at_ σ 24 31 x1) + a3)) fun σ2 => bt (t_X1_end_23 a1 a2 (p_X1_today_23 σ2) σ2) fun σ3 => bt (a1 + 1) fun x4 => l_X1_lose_55 N N a1 x4 σ3
theorem lj_X1_lose_127 (N : Nat) (K_55 : Int32 → Int32 → St → Option (Unit × St)) (hK_55 : ∀ (v1 : Int32) (v5 : Int32) (σ : St) (v : Unit) (w : St), K_55 v1 v5 σ = some (v, w) → Ev md_X1_lose 3 55 [some (vR 23), some (vI v1), none, none, none, some (vI v5), none] [] SH σ (none, SH, w)) (v1 : Int32) (v5 : Int32) (σ : St) (v : Unit) (w : St) (h : j_X1_lose_127 N K_55 v1 v5 σ = some (v, w)) : Ev md_X1_lose 3 127 [some (vR 23), some (vI v1), none, none, none, some (vI v5), none] [] SH σ (none, SH, w) := by
  unfold j_X1_lose_127 at h
  obtain ⟨x1, e_x1, h⟩ := bt_elim h
  refine Ev.iinc (pc := 127) (v := x1) (lv' := [some (vR 23), some (vI v1), none, none, none, some (vI x1), none]) dX1_lose_127 rfl (by rw [ki_1, e_x1]) (lt9 rfl) rfl rfl ?_
  refine Ev.goto (pc := 130) (tgt := 55) dX1_lose_130 rfl ?_
  exact Ev.weak2 (hK_55 _ _ _ _ _ h) (lsubS (lsubS (lsubN (lsubN (lsubN (lsubS (lsubN lsubE)))))))
theorem lj_X1_lose_116 (N : Nat) (K_55 : Int32 → Int32 → St → Option (Unit × St)) (hK_55 : ∀ (v1 : Int32) (v5 : Int32) (σ : St) (v : Unit) (w : St), K_55 v1 v5 σ = some (v, w) → Ev md_X1_lose 3 55 [some (vR 23), some (vI v1), none, none, none, some (vI v5), none] [] SH σ (none, SH, w)) (v1 : Int32) (v5 : Int32) (σ : St) (v : Unit) (w : St) (h : j_X1_lose_116 N K_55 v1 v5 σ = some (v, w)) : Ev md_X1_lose 3 116 [some (vR 23), some (vI v1), none, none, none, some (vI v5), none] [] SH σ (none, SH, w) := by
  unfold j_X1_lose_116 at h
  refine Ev.aload_n (pc := 116) dX1_lose_116 rfl rfl ?_
  refine Ev.iload (pc := 117) dX1_lose_117 rfl ?_
  refine Ev.iconst (pc := 119) (v := 3) dX1_lose_119 ki_3 ?_
  refine Ev.aload_n (pc := 120) dX1_lose_120 rfl rfl ?_
  refine Ev.cVi (pc := 121) (k := 23) (av := []) (rest := [vI 3, vI v5, vR 23]) dX1_lose_121 ce_X1_today ml_X1_46 rfl sh_23 cl_X1 sh_sc (Nat.le_of_ble_eq_true rfl) (Nat.le_of_ble_eq_true rfl) (r_X1_today_23  _) ?_
  refine Ev.cVv (pc := 124) (k := 23) (av := [vI v5, vI 3, vI (p_X1_today_23 σ)]) (rest := []) dX1_lose_124 ce_X1_end ml_X1_104 rfl sh_23 cl_X1 sh_sc (Nat.le_of_ble_eq_true rfl) (Nat.le_of_ble_eq_true rfl) (r_X1_end_23 _ _ _ _) ?_
  refine Ev.nmS (fun σ1 e9 => ?_)
  replace h := bt_app h σ1 e9
  exact Ev.weak2 (lj_X1_lose_127 N K_55 hK_55 _ _ _ _ _ h) (lsubS (lsubS (lsubN (lsubN (lsubN (lsubS (lsubN lsubE)))))))
theorem ll_X1_lose_55 (N : Nat) : ∀ (n : Nat) (v1 : Int32) (v5 : Int32) (σ : St) (v : Unit) (w : St), l_X1_lose_55 N n v1 v5 σ = some (v, w) → Ev md_X1_lose 3 55 [some (vR 23), some (vI v1), none, none, none, some (vI v5), none] [] SH σ (none, SH, w) := by
  intro n
  induction n with
  | zero =>
    intro v1 v5 σ v w h
    rw [l_X1_lose_55] at h
    cases h
  | succ n ih =>
    intro v1 v5 σ v w h
    rw [l_X1_lose_55] at h
    refine Ev.iload (pc := 55) dX1_lose_55 rfl ?_
    refine Ev.aload_n (pc := 57) dX1_lose_57 rfl rfl ?_
    refine Ev.getR (pc := 58) dX1_lose_58 fl_X1_15 sh_23 rfl ?_
    refine Ev.getI (pc := 61) dX1_lose_61 fl_X1_50 sh_1 rfl ?_
    by_cases c1 : (σ 1 3) ≤ v5
    · replace h := (if_pos c1).symm.trans h
      refine Ev.icmp_ge_t (pc := 64) (tgt := 133) dX1_lose_64 rfl c1 ?_
      obtain ⟨h1, h2⟩ := oeq h
      subst h1
      subst h2
      exact Ev.ret_v (pc := 133) dX1_lose_133 rfl
    · replace h := (if_neg c1).symm.trans h
      refine Ev.icmp_ge_f (pc := 64) dX1_lose_64 ⟨133, rfl⟩ c1 ?_
      refine Ev.aload_n (pc := 67) dX1_lose_67 rfl rfl ?_
      refine Ev.getR (pc := 68) dX1_lose_68 fl_X1_15 sh_23 rfl ?_
      refine Ev.getR (pc := 71) dX1_lose_71 fl_X1_66 sh_1 rfl ?_
      refine Ev.iload (pc := 74) dX1_lose_74 rfl ?_
      refine Ev.cTi (pc := 76) (av := [vR 9, vI v5]) (rest := []) dX1_lose_76 ce_X9_at ml_X1_28 rfl sh_sc (Nat.le_of_ble_eq_true rfl) (Nat.le_of_ble_eq_true rfl) (r_at sh_9 (by decide) _ _) ?_
      refine Ev.nmI (fun x2 e9 => ?_)
      replace h := bt_app h x2 e9
      refine Ev.istore (pc := 79) (lv' := [some (vR 23), some (vI v1), none, none, none, some (vI v5), some (vI x2)]) dX1_lose_79 (lt9 rfl) rfl rfl ?_
      refine Ev.aload_n (pc := 81) dX1_lose_81 rfl rfl ?_
      refine Ev.iload (pc := 82) dX1_lose_82 rfl ?_
      refine Ev.cVi (pc := 84) (k := 23) (av := [vI v5]) (rest := []) dX1_lose_84 ce_X1_isOpen ml_X1_85 rfl sh_23 cl_X1 sh_sc (Nat.le_of_ble_eq_true rfl) (Nat.le_of_ble_eq_true rfl) (r_X1_isOpen_23 _ _) ?_
      by_cases c3 : (p_X1_isOpen_23 v5 σ) = 0
      · replace h := (if_pos c3).symm.trans h
        refine Ev.if_eq_t (pc := 87) (tgt := 127) dX1_lose_87 rfl c3 ?_
        exact Ev.weak2 (lj_X1_lose_127 N (l_X1_lose_55 N n) ih _ _ _ _ _ h) (lsubS (lsubS (lsubN (lsubN (lsubN (lsubS (lsubN lsubE)))))))
      · replace h := (if_neg c3).symm.trans h
        refine Ev.if_eq_f (pc := 87) dX1_lose_87 ⟨127, rfl⟩ c3 ?_
        refine Ev.iload (pc := 90) dX1_lose_90 rfl ?_
        refine Ev.iload_n (pc := 92) dX1_lose_92 rfl rfl ?_
        by_cases c4 : x2 < v1
        · replace h := (if_pos c4).symm.trans h
          refine Ev.icmp_lt_t (pc := 93) (tgt := 127) dX1_lose_93 rfl c4 ?_
          exact Ev.weak2 (lj_X1_lose_127 N (l_X1_lose_55 N n) ih _ _ _ _ _ h) (lsubS (lsubS (lsubN (lsubN (lsubN (lsubS (lsubN lsubE)))))))
        · replace h := (if_neg c4).symm.trans h
          refine Ev.icmp_lt_f (pc := 93) dX1_lose_93 ⟨127, rfl⟩ c4 ?_
          refine Ev.aload_n (pc := 96) dX1_lose_96 rfl rfl ?_
          refine Ev.iload (pc := 97) dX1_lose_97 rfl ?_
          refine Ev.cVi (pc := 99) (k := 23) (av := [vI x2]) (rest := []) dX1_lose_99 ce_X1_how ml_X1_39 rfl sh_23 cl_X1 sh_sc (Nat.le_of_ble_eq_true rfl) (Nat.le_of_ble_eq_true rfl) (r_X1_how_23 _ _) ?_
          refine Ev.iconst (pc := 102) (v := 2) dX1_lose_102 ki_2 ?_
          by_cases c5 : (p_X1_how_23 x2 σ) = 2
          · replace h := (if_pos c5).symm.trans h
            refine Ev.icmp_eq_t (pc := 103) (tgt := 116) dX1_lose_103 rfl c5 ?_
            exact Ev.weak2 (lj_X1_lose_116 N (l_X1_lose_55 N n) ih _ _ _ _ _ h) (lsubS (lsubS (lsubN (lsubN (lsubN (lsubS (lsubN lsubE)))))))
          · replace h := (if_neg c5).symm.trans h
            refine Ev.icmp_eq_f (pc := 103) dX1_lose_103 ⟨116, rfl⟩ c5 ?_
            refine Ev.aload_n (pc := 106) dX1_lose_106 rfl rfl ?_
            refine Ev.iload (pc := 107) dX1_lose_107 rfl ?_
            refine Ev.cVi (pc := 109) (k := 23) (av := [vI x2]) (rest := []) dX1_lose_109 ce_X1_how ml_X1_39 rfl sh_23 cl_X1 sh_sc (Nat.le_of_ble_eq_true rfl) (Nat.le_of_ble_eq_true rfl) (r_X1_how_23 _ _) ?_
            refine Ev.iconst (pc := 112) (v := 3) dX1_lose_112 ki_3 ?_
            by_cases c6 : (p_X1_how_23 x2 σ) = 3
            · replace h := (if_pos c6).symm.trans h
              refine Ev.icmp_ne_f (pc := 113) dX1_lose_113 ⟨127, rfl⟩ c6 ?_
              exact Ev.weak2 (lj_X1_lose_116 N (l_X1_lose_55 N n) ih _ _ _ _ _ h) (lsubS (lsubS (lsubN (lsubN (lsubN (lsubS (lsubN lsubE)))))))
            · replace h := (if_neg c6).symm.trans h
              refine Ev.icmp_ne_t (pc := 113) (tgt := 127) dX1_lose_113 rfl c6 ?_
              exact Ev.weak2 (lj_X1_lose_127 N (l_X1_lose_55 N n) ih _ _ _ _ _ h) (lsubS (lsubS (lsubN (lsubN (lsubN (lsubS (lsubN lsubE)))))))
theorem e_X1_lose (N : Nat) (a1 : Int32) (a2 : Int32) (a3 : Int32) (σ : St) (v : Unit) (w : St) (h : o_X1_lose N a1 a2 a3 σ = some (v, w)) : Ev md_X1_lose 3 0 (lvE [vR 23, vI a1, vI a2, vI a3] 7) [] SH σ (none, SH, w) := by
  show Ev md_X1_lose 3 0 [some (vR 23), some (vI a1), some (vI a2), some (vI a3), none, none, none] [] SH σ (none, SH, w)
  unfold o_X1_lose at h
  refine Ev.bipush (pc := 0) (v := 28) dX1_lose_0 kb_28 ?_
  refine Ev.aload_n (pc := 2) dX1_lose_2 rfl rfl ?_
  refine Ev.getR (pc := 3) dX1_lose_3 fl_X1_15 sh_23 rfl ?_
  refine Ev.getR (pc := 6) dX1_lose_6 fl_X1_101 sh_1 rfl ?_
  refine Ev.aload_n (pc := 9) dX1_lose_9 rfl rfl ?_
  refine Ev.iload_n (pc := 10) dX1_lose_10 rfl rfl ?_
  refine Ev.cVi (pc := 11) (k := 23) (av := [vI a1]) (rest := [vR 3, vI 28]) dX1_lose_11 ce_X1_holderOf ml_X1_54 rfl sh_23 cl_X1 sh_sc (Nat.le_of_ble_eq_true rfl) (Nat.le_of_ble_eq_true rfl) (r_X1_holderOf_23 _ _) ?_
  refine Ev.cTi (pc := 14) (av := [vR 3, vI (p_X1_holderOf_23 a1 σ)]) (rest := [vI 28]) dX1_lose_14 ce_X9_at ml_X1_28 rfl sh_sc (Nat.le_of_ble_eq_true rfl) (Nat.le_of_ble_eq_true rfl) (r_at sh_3 (by decide) _ _) ?_
  refine Ev.iadd (pc := 17) dX1_lose_17 ?_
  refine Ev.nmI (fun x1 e9 => ?_)
  replace h := bt_app h x1 e9
  refine Ev.istore (pc := 18) (lv' := [some (vR 23), some (vI a1), some (vI a2), some (vI a3), some (vI x1), none, none]) dX1_lose_18 (lt9 rfl) rfl rfl ?_
  refine Ev.aload_n (pc := 20) dX1_lose_20 rfl rfl ?_
  refine Ev.getR (pc := 21) dX1_lose_21 fl_X1_11 sh_23 rfl ?_
  refine Ev.iload (pc := 24) dX1_lose_24 rfl ?_
  refine Ev.aload_n (pc := 26) dX1_lose_26 rfl rfl ?_
  refine Ev.getR (pc := 27) dX1_lose_27 fl_X1_11 sh_23 rfl ?_
  refine Ev.iload (pc := 30) dX1_lose_30 rfl ?_
  refine Ev.cTi (pc := 32) (av := [vR 24, vI x1]) (rest := [vI x1, vR 24]) dX1_lose_32 ce_X9_at ml_X1_28 rfl sh_sc (Nat.le_of_ble_eq_true rfl) (Nat.le_of_ble_eq_true rfl) (r_at sh_24 (by decide) _ _) ?_
  refine Ev.iload_n (pc := 35) dX1_lose_35 rfl rfl ?_
  refine Ev.iadd (pc := 36) dX1_lose_36 ?_
  refine Ev.cTv (pc := 37) (av := [vR 24, vI x1, vI ((at_ σ 24 31 x1) + a3)]) (rest := []) dX1_lose_37 ce_X9_put ml_X1_19 rfl sh_sc (Nat.le_of_ble_eq_true rfl) (Nat.le_of_ble_eq_true rfl) (r_put sh_24 (by decide) _ _ _) ?_
  refine Ev.nmS (fun σ2 e9 => ?_)
  replace h := bt_app h σ2 e9
  refine Ev.aload_n (pc := 40) dX1_lose_40 rfl rfl ?_
  refine Ev.iload_n (pc := 41) dX1_lose_41 rfl rfl ?_
  refine Ev.iload_n (pc := 42) dX1_lose_42 rfl rfl ?_
  refine Ev.aload_n (pc := 43) dX1_lose_43 rfl rfl ?_
  refine Ev.cVi (pc := 44) (k := 23) (av := []) (rest := [vI a2, vI a1, vR 23]) dX1_lose_44 ce_X1_today ml_X1_46 rfl sh_23 cl_X1 sh_sc (Nat.le_of_ble_eq_true rfl) (Nat.le_of_ble_eq_true rfl) (r_X1_today_23  _) ?_
  refine Ev.cVv (pc := 47) (k := 23) (av := [vI a1, vI a2, vI (p_X1_today_23 σ2)]) (rest := []) dX1_lose_47 ce_X1_end ml_X1_104 rfl sh_23 cl_X1 sh_sc (Nat.le_of_ble_eq_true rfl) (Nat.le_of_ble_eq_true rfl) (r_X1_end_23 _ _ _ _) ?_
  refine Ev.nmS (fun σ3 e9 => ?_)
  replace h := bt_app h σ3 e9
  refine Ev.iload_n (pc := 50) dX1_lose_50 rfl rfl ?_
  refine Ev.iconst (pc := 51) (v := 1) dX1_lose_51 ki_1 ?_
  refine Ev.iadd (pc := 52) dX1_lose_52 ?_
  refine Ev.nmI (fun x4 e9 => ?_)
  replace h := bt_app h x4 e9
  refine Ev.istore (pc := 53) (lv' := [some (vR 23), some (vI a1), some (vI a2), some (vI a3), some (vI x1), some (vI x4), none]) dX1_lose_53 (lt9 rfl) rfl rfl ?_
  exact Ev.weak2 (ll_X1_lose_55 N N _ _ _ _ _ h) (lsubS (lsubS (lsubN (lsubN (lsubN (lsubS (lsubN lsubE)))))))
theorem r_X1_lose {N : Nat} {a1 : Int32} {a2 : Int32} {a3 : Int32} {σ : St} {v : Unit} {w : St} (h : o_X1_lose N a1 a2 a3 σ = some (v, w)) : Rn md_X1_lose 3 [vR 23, vI a1, vI a2, vI a3] SH σ (none, SH, w) := Rn.of ce_X1_lose.1 (Nat.le_of_ble_eq_true rfl) (e_X1_lose N _ _ _ _ _ _ h)
def j_X1_pass_69 (N : Nat) (K_2 : Int32 → St → Option (Unit × St)) (v1 : Int32) (σ : St) : Option (Unit × St) := bt (v1 + 1) fun x1 => K_2 x1 σ
def l_X1_pass_2 (N : Nat) : Nat → Int32 → St → Option (Unit × St)
  | 0, _, _ => none
  | n + 1, v1, σ => if (σ 1 3) ≤ v1 then (bt (put_ σ 24 31 0 ((p_X1_today_23 σ) + 1)) fun σ2 => some ((), σ2)) else (bd (o_X1_ripeOn_23 N v1 σ) fun x3 σ4 => if (p_X1_isOpen_23 v1 σ4) = 0 then (j_X1_pass_69 N (l_X1_pass_2 N n) v1 σ4) else (if x3 = (-1) then (j_X1_pass_69 N (l_X1_pass_2 N n) v1 σ4) else (if (p_X1_today_23 σ4) < (x3 + (at_ σ4 7 7 v1)) then (j_X1_pass_69 N (l_X1_pass_2 N n) v1 σ4) else (bd (o_X1_lose N v1 2 (at_ σ4 8 7 v1) σ4) fun u9 σ10 => j_X1_pass_69 N (l_X1_pass_2 N n) v1 σ10))))
def o_X1_pass (N : Nat)  (σ : St) : Option (Unit × St) := l_X1_pass_2 N N 0 σ
theorem lj_X1_pass_69 (N : Nat) (K_2 : Int32 → St → Option (Unit × St)) (hK_2 : ∀ (v1 : Int32) (σ : St) (v : Unit) (w : St), K_2 v1 σ = some (v, w) → Ev md_X1_pass 4 2 [some (vR 23), some (vI v1), none] [] SH σ (none, SH, w)) (v1 : Int32) (σ : St) (v : Unit) (w : St) (h : j_X1_pass_69 N K_2 v1 σ = some (v, w)) : Ev md_X1_pass 4 69 [some (vR 23), some (vI v1), none] [] SH σ (none, SH, w) := by
  unfold j_X1_pass_69 at h
  obtain ⟨x1, e_x1, h⟩ := bt_elim h
  refine Ev.iinc (pc := 69) (v := x1) (lv' := [some (vR 23), some (vI x1), none]) dX1_pass_69 rfl (by rw [ki_1, e_x1]) (lt9 rfl) rfl rfl ?_
  refine Ev.goto (pc := 72) (tgt := 2) dX1_pass_72 rfl ?_
  exact Ev.weak2 (hK_2 _ _ _ _ h) (lsubS (lsubS (lsubN lsubE)))
theorem ll_X1_pass_2 (N : Nat) : ∀ (n : Nat) (v1 : Int32) (σ : St) (v : Unit) (w : St), l_X1_pass_2 N n v1 σ = some (v, w) → Ev md_X1_pass 4 2 [some (vR 23), some (vI v1), none] [] SH σ (none, SH, w) := by
  intro n
  induction n with
  | zero =>
    intro v1 σ v w h
    rw [l_X1_pass_2] at h
    cases h
  | succ n ih =>
    intro v1 σ v w h
    rw [l_X1_pass_2] at h
    refine Ev.iload_n (pc := 2) dX1_pass_2 rfl rfl ?_
    refine Ev.aload_n (pc := 3) dX1_pass_3 rfl rfl ?_
    refine Ev.getR (pc := 4) dX1_pass_4 fl_X1_15 sh_23 rfl ?_
    refine Ev.getI (pc := 7) dX1_pass_7 fl_X1_50 sh_1 rfl ?_
    by_cases c1 : (σ 1 3) ≤ v1
    · replace h := (if_pos c1).symm.trans h
      refine Ev.icmp_ge_t (pc := 10) (tgt := 75) dX1_pass_10 rfl c1 ?_
      refine Ev.aload_n (pc := 75) dX1_pass_75 rfl rfl ?_
      refine Ev.getR (pc := 76) dX1_pass_76 fl_X1_11 sh_23 rfl ?_
      refine Ev.iconst (pc := 79) (v := 0) dX1_pass_79 ki_0 ?_
      refine Ev.aload_n (pc := 80) dX1_pass_80 rfl rfl ?_
      refine Ev.cVi (pc := 81) (k := 23) (av := []) (rest := [vI 0, vR 24]) dX1_pass_81 ce_X1_today ml_X1_46 rfl sh_23 cl_X1 sh_sc (Nat.le_of_ble_eq_true rfl) (Nat.le_of_ble_eq_true rfl) (r_X1_today_23  _) ?_
      refine Ev.iconst (pc := 84) (v := 1) dX1_pass_84 ki_1 ?_
      refine Ev.iadd (pc := 85) dX1_pass_85 ?_
      refine Ev.cTv (pc := 86) (av := [vR 24, vI 0, vI ((p_X1_today_23 σ) + 1)]) (rest := []) dX1_pass_86 ce_X9_put ml_X1_19 rfl sh_sc (Nat.le_of_ble_eq_true rfl) (Nat.le_of_ble_eq_true rfl) (r_put sh_24 (by decide) _ _ _) ?_
      refine Ev.nmS (fun σ2 e9 => ?_)
      replace h := bt_app h σ2 e9
      obtain ⟨h1, h2⟩ := oeq h
      subst h1
      subst h2
      exact Ev.ret_v (pc := 89) dX1_pass_89 rfl
    · replace h := (if_neg c1).symm.trans h
      refine Ev.icmp_ge_f (pc := 10) dX1_pass_10 ⟨75, rfl⟩ c1 ?_
      refine Ev.aload_n (pc := 13) dX1_pass_13 rfl rfl ?_
      refine Ev.iload_n (pc := 14) dX1_pass_14 rfl rfl ?_
      obtain ⟨x3, σ4, g5, h⟩ := bd_elim h
      refine Ev.cVi (pc := 15) (k := 23) (av := [vI v1]) (rest := []) dX1_pass_15 ce_X1_ripeOn ml_X1_79 rfl sh_23 cl_X1 sh_sc (Nat.le_of_ble_eq_true rfl) (Nat.le_of_ble_eq_true rfl) (r_X1_ripeOn_23 g5) ?_
      refine Ev.istore_n (pc := 18) (lv' := [some (vR 23), some (vI v1), some (vI x3)]) dX1_pass_18 rfl (lt9 rfl) rfl rfl ?_
      refine Ev.aload_n (pc := 19) dX1_pass_19 rfl rfl ?_
      refine Ev.iload_n (pc := 20) dX1_pass_20 rfl rfl ?_
      refine Ev.cVi (pc := 21) (k := 23) (av := [vI v1]) (rest := []) dX1_pass_21 ce_X1_isOpen ml_X1_85 rfl sh_23 cl_X1 sh_sc (Nat.le_of_ble_eq_true rfl) (Nat.le_of_ble_eq_true rfl) (r_X1_isOpen_23 _ _) ?_
      by_cases c6 : (p_X1_isOpen_23 v1 σ4) = 0
      · replace h := (if_pos c6).symm.trans h
        refine Ev.if_eq_t (pc := 24) (tgt := 69) dX1_pass_24 rfl c6 ?_
        exact Ev.weak2 (lj_X1_pass_69 N (l_X1_pass_2 N n) ih _ _ _ _ h) (lsubS (lsubS (lsubN lsubE)))
      · replace h := (if_neg c6).symm.trans h
        refine Ev.if_eq_f (pc := 24) dX1_pass_24 ⟨69, rfl⟩ c6 ?_
        refine Ev.iload_n (pc := 27) dX1_pass_27 rfl rfl ?_
        refine Ev.iconst (pc := 28) (v := (-1)) dX1_pass_28 ki_m1 ?_
        by_cases c7 : x3 = (-1)
        · replace h := (if_pos c7).symm.trans h
          refine Ev.icmp_eq_t (pc := 29) (tgt := 69) dX1_pass_29 rfl c7 ?_
          exact Ev.weak2 (lj_X1_pass_69 N (l_X1_pass_2 N n) ih _ _ _ _ h) (lsubS (lsubS (lsubN lsubE)))
        · replace h := (if_neg c7).symm.trans h
          refine Ev.icmp_eq_f (pc := 29) dX1_pass_29 ⟨69, rfl⟩ c7 ?_
          refine Ev.aload_n (pc := 32) dX1_pass_32 rfl rfl ?_
          refine Ev.cVi (pc := 33) (k := 23) (av := []) (rest := []) dX1_pass_33 ce_X1_today ml_X1_46 rfl sh_23 cl_X1 sh_sc (Nat.le_of_ble_eq_true rfl) (Nat.le_of_ble_eq_true rfl) (r_X1_today_23  _) ?_
          refine Ev.iload_n (pc := 36) dX1_pass_36 rfl rfl ?_
          refine Ev.aload_n (pc := 37) dX1_pass_37 rfl rfl ?_
          refine Ev.getR (pc := 38) dX1_pass_38 fl_X1_15 sh_23 rfl ?_
          refine Ev.getR (pc := 41) dX1_pass_41 fl_X1_82 sh_1 rfl ?_
          refine Ev.iload_n (pc := 44) dX1_pass_44 rfl rfl ?_
          refine Ev.cTi (pc := 45) (av := [vR 7, vI v1]) (rest := [vI x3, vI (p_X1_today_23 σ4)]) dX1_pass_45 ce_X9_at ml_X1_28 rfl sh_sc (Nat.le_of_ble_eq_true rfl) (Nat.le_of_ble_eq_true rfl) (r_at sh_7 (by decide) _ _) ?_
          refine Ev.iadd (pc := 48) dX1_pass_48 ?_
          by_cases c8 : (p_X1_today_23 σ4) < (x3 + (at_ σ4 7 7 v1))
          · replace h := (if_pos c8).symm.trans h
            refine Ev.icmp_lt_t (pc := 49) (tgt := 69) dX1_pass_49 rfl c8 ?_
            exact Ev.weak2 (lj_X1_pass_69 N (l_X1_pass_2 N n) ih _ _ _ _ h) (lsubS (lsubS (lsubN lsubE)))
          · replace h := (if_neg c8).symm.trans h
            refine Ev.icmp_lt_f (pc := 49) dX1_pass_49 ⟨69, rfl⟩ c8 ?_
            refine Ev.aload_n (pc := 52) dX1_pass_52 rfl rfl ?_
            refine Ev.iload_n (pc := 53) dX1_pass_53 rfl rfl ?_
            refine Ev.iconst (pc := 54) (v := 2) dX1_pass_54 ki_2 ?_
            refine Ev.aload_n (pc := 55) dX1_pass_55 rfl rfl ?_
            refine Ev.getR (pc := 56) dX1_pass_56 fl_X1_15 sh_23 rfl ?_
            refine Ev.getR (pc := 59) dX1_pass_59 fl_X1_114 sh_1 rfl ?_
            refine Ev.iload_n (pc := 62) dX1_pass_62 rfl rfl ?_
            refine Ev.cTi (pc := 63) (av := [vR 8, vI v1]) (rest := [vI 2, vI v1, vR 23]) dX1_pass_63 ce_X9_at ml_X1_28 rfl sh_sc (Nat.le_of_ble_eq_true rfl) (Nat.le_of_ble_eq_true rfl) (r_at sh_8 (by decide) _ _) ?_
            obtain ⟨u9, σ10, g11, h⟩ := bd_elim h
            refine Ev.cVv (pc := 66) (k := 23) (av := [vI v1, vI 2, vI (at_ σ4 8 7 v1)]) (rest := []) dX1_pass_66 ce_X1_lose ml_X1_117 rfl sh_23 cl_X1 sh_sc (Nat.le_of_ble_eq_true rfl) (Nat.le_of_ble_eq_true rfl) (r_X1_lose g11) ?_
            exact Ev.weak2 (lj_X1_pass_69 N (l_X1_pass_2 N n) ih _ _ _ _ h) (lsubS (lsubS (lsubN lsubE)))
theorem e_X1_pass (N : Nat)  (σ : St) (v : Unit) (w : St) (h : o_X1_pass N  σ = some (v, w)) : Ev md_X1_pass 4 0 (lvE [vR 23] 3) [] SH σ (none, SH, w) := by
  show Ev md_X1_pass 4 0 [some (vR 23), none, none] [] SH σ (none, SH, w)
  unfold o_X1_pass at h
  refine Ev.iconst (pc := 0) (v := 0) dX1_pass_0 ki_0 ?_
  refine Ev.istore_n (pc := 1) (lv' := [some (vR 23), some (vI 0), none]) dX1_pass_1 rfl (lt9 rfl) rfl rfl ?_
  exact Ev.weak2 (ll_X1_pass_2 N N _ _ _ _ h) (lsubS (lsubS (lsubN lsubE)))
theorem r_X1_pass {N : Nat}  {σ : St} {v : Unit} {w : St} (h : o_X1_pass N  σ = some (v, w)) : Rn md_X1_pass 4 [vR 23] SH σ (none, SH, w) := Rn.of ce_X1_pass.1 (Nat.le_of_ble_eq_true rfl) (e_X1_pass N  _ _ _ h)
def o_X9_endDay (N : Nat)  (σ : St) : Option (Unit × St) := bt (t_X6_add  σ) fun σ1 => bd (o_X1_pass N  σ1) fun u2 σ3 => some ((), σ3)
theorem e_X9_endDay (N : Nat)  (σ : St) (v : Unit) (w : St) (h : o_X9_endDay N  σ = some (v, w)) : Ev md_X9_endDay 5 0 (lvE [vR 0] 1) [] SH σ (none, SH, w) := by
  show Ev md_X9_endDay 5 0 [some (vR 0)] [] SH σ (none, SH, w)
  unfold o_X9_endDay at h
  refine Ev.aload_n (pc := 0) dX9_endDay_0 rfl rfl ?_
  refine Ev.getR (pc := 1) dX9_endDay_1 fl_X9_38 sh_0 rfl ?_
  refine Ev.aload_n (pc := 4) dX9_endDay_4 rfl rfl ?_
  refine Ev.getR (pc := 5) dX9_endDay_5 fl_X9_31 sh_0 rfl ?_
  refine Ev.cVv (pc := 8) (k := 25) (av := [vR 23]) (rest := []) dX9_endDay_8 ce_X6_add ml_X9_315 rfl sh_25 cl_X6 sh_sc (Nat.le_of_ble_eq_true rfl) (Nat.le_of_ble_eq_true rfl) (r_X6_add  _) ?_
  refine Ev.nmS (fun σ1 e9 => ?_)
  replace h := bt_app h σ1 e9
  refine Ev.aload_n (pc := 11) dX9_endDay_11 rfl rfl ?_
  refine Ev.getR (pc := 12) dX9_endDay_12 fl_X9_31 sh_0 rfl ?_
  obtain ⟨u2, σ3, g4, h⟩ := bd_elim h
  refine Ev.cVv (pc := 15) (k := 23) (av := []) (rest := []) dX9_endDay_15 ce_X1_pass ml_X9_318 rfl sh_23 cl_X1 sh_sc (Nat.le_of_ble_eq_true rfl) (Nat.le_of_ble_eq_true rfl) (r_X1_pass g4) ?_
  obtain ⟨h1, h2⟩ := oeq h
  subst h1
  subst h2
  exact Ev.ret_v (pc := 18) dX9_endDay_18 rfl
theorem r_X9_endDay {N : Nat}  {σ : St} {v : Unit} {w : St} (h : o_X9_endDay N  σ = some (v, w)) : Rn md_X9_endDay 5 [vR 0] SH σ (none, SH, w) := Rn.of ce_X9_endDay.1 (Nat.le_of_ble_eq_true rfl) (e_X9_endDay N  _ _ _ h)
def l_X9_day_14 (N : Nat) : Nat → Int32 → Int32 → St → Option (Int32 × St)
  | 0, _, _, _ => none
  | n + 1, v1, v3, σ => if v1 ≤ v3 then (some ((p_X1_today_23 σ), σ)) else (bd (o_X9_endDay N  σ) fun u2 σ3 => bt (v3 + 1) fun x5 => l_X9_day_14 N n v1 x5 σ3)
def o_X9_day (N : Nat) (a1 : Int32) (σ : St) : Option (Int32 × St) := bt (p_X9_refusalOfDays a1 σ) fun x1 => if x1 = 0 then (l_X9_day_14 N N a1 0 σ) else (some (x1, σ))
theorem ll_X9_day_14 (N : Nat) : ∀ (n : Nat) (v1 : Int32) (v3 : Int32) (σ : St) (v : Int32) (w : St), l_X9_day_14 N n v1 v3 σ = some (v, w) → Ev md_X9_day 6 14 [some (vR 0), some (vI v1), none, some (vI v3)] [] SH σ (some (vI v), SH, w) := by
  intro n
  induction n with
  | zero =>
    intro v1 v3 σ v w h
    rw [l_X9_day_14] at h
    cases h
  | succ n ih =>
    intro v1 v3 σ v w h
    rw [l_X9_day_14] at h
    refine Ev.iload_n (pc := 14) dX9_day_14 rfl rfl ?_
    refine Ev.iload_n (pc := 15) dX9_day_15 rfl rfl ?_
    by_cases c1 : v1 ≤ v3
    · replace h := (if_pos c1).symm.trans h
      refine Ev.icmp_ge_t (pc := 16) (tgt := 29) dX9_day_16 rfl c1 ?_
      refine Ev.aload_n (pc := 29) dX9_day_29 rfl rfl ?_
      refine Ev.getR (pc := 30) dX9_day_30 fl_X9_31 sh_0 rfl ?_
      refine Ev.cVi (pc := 33) (k := 23) (av := []) (rest := []) dX9_day_33 ce_X1_today ml_X9_125 rfl sh_23 cl_X1 sh_sc (Nat.le_of_ble_eq_true rfl) (Nat.le_of_ble_eq_true rfl) (r_X1_today_23  _) ?_
      obtain ⟨h1, h2⟩ := oeq h
      subst h1
      subst h2
      exact Ev.ret_i (pc := 36) dX9_day_36 rfl rfl
    · replace h := (if_neg c1).symm.trans h
      refine Ev.icmp_ge_f (pc := 16) dX9_day_16 ⟨29, rfl⟩ c1 ?_
      refine Ev.aload_n (pc := 19) dX9_day_19 rfl rfl ?_
      obtain ⟨u2, σ3, g4, h⟩ := bd_elim h
      refine Ev.cVv (pc := 20) (k := 0) (av := []) (rest := []) dX9_day_20 ce_X9_endDay ml_X9_211 rfl sh_0 cl_X9 sh_sc (Nat.le_of_ble_eq_true rfl) (Nat.le_of_ble_eq_true rfl) (r_X9_endDay g4) ?_
      obtain ⟨x5, e_x5, h⟩ := bt_elim h
      refine Ev.iinc (pc := 23) (v := x5) (lv' := [some (vR 0), some (vI v1), none, some (vI x5)]) dX9_day_23 rfl (by rw [ki_1, e_x5]) (lt9 rfl) rfl rfl ?_
      refine Ev.goto (pc := 26) (tgt := 14) dX9_day_26 rfl ?_
      exact Ev.weak2 (ih _ _ _ _ _ h) (lsubS (lsubS (lsubN (lsubS lsubE))))
theorem e_X9_day (N : Nat) (a1 : Int32) (σ : St) (v : Int32) (w : St) (h : o_X9_day N a1 σ = some (v, w)) : Ev md_X9_day 6 0 (lvE [vR 0, vI a1] 4) [] SH σ (some (vI v), SH, w) := by
  show Ev md_X9_day 6 0 [some (vR 0), some (vI a1), none, none] [] SH σ (some (vI v), SH, w)
  unfold o_X9_day at h
  refine Ev.aload_n (pc := 0) dX9_day_0 rfl rfl ?_
  refine Ev.iload_n (pc := 1) dX9_day_1 rfl rfl ?_
  refine Ev.cVi (pc := 2) (k := 0) (av := [vI a1]) (rest := []) dX9_day_2 ce_X9_refusalOfDays ml_X9_208 rfl sh_0 cl_X9 sh_sc (Nat.le_of_ble_eq_true rfl) (Nat.le_of_ble_eq_true rfl) (r_X9_refusalOfDays _ _) ?_
  refine Ev.nmI (fun x1 e9 => ?_)
  replace h := bt_app h x1 e9
  refine Ev.istore_n (pc := 5) (lv' := [some (vR 0), some (vI a1), some (vI x1), none]) dX9_day_5 rfl (lt9 rfl) rfl rfl ?_
  refine Ev.iload_n (pc := 6) dX9_day_6 rfl rfl ?_
  by_cases c2 : x1 = 0
  · replace h := (if_pos c2).symm.trans h
    refine Ev.if_eq_t (pc := 7) (tgt := 12) dX9_day_7 rfl c2 ?_
    refine Ev.iconst (pc := 12) (v := 0) dX9_day_12 ki_0 ?_
    refine Ev.istore_n (pc := 13) (lv' := [some (vR 0), some (vI a1), some (vI x1), some (vI 0)]) dX9_day_13 rfl (lt9 rfl) rfl rfl ?_
    exact Ev.weak2 (ll_X9_day_14 N N _ _ _ _ _ h) (lsubS (lsubS (lsubN (lsubS lsubE))))
  · replace h := (if_neg c2).symm.trans h
    refine Ev.if_eq_f (pc := 7) dX9_day_7 ⟨12, rfl⟩ c2 ?_
    refine Ev.iload_n (pc := 10) dX9_day_10 rfl rfl ?_
    obtain ⟨h1, h2⟩ := oeq h
    subst h1
    subst h2
    exact Ev.ret_i (pc := 11) dX9_day_11 rfl rfl
theorem r_X9_day {N : Nat} {a1 : Int32} {σ : St} {v : Int32} {w : St} (h : o_X9_day N a1 σ = some (v, w)) : Rn md_X9_day 6 [vR 0, vI a1] SH σ (some (vI v), SH, w) := Rn.of ce_X9_day.1 (Nat.le_of_ble_eq_true rfl) (e_X9_day N _ _ _ _ h)
def p_X10_refusedDays (a1 : Int32) (σ : St) : Int32 := if (p_X10_in a1.toInt64 1 99 σ) = 0 then (-1000000002) else (if (σ 79 2) = 0 then (-1000000003) else (if (σ 80 (37 : Int32).toNatClampNeg) ≤ 9000 then 0 else (-1000000004)))
theorem e_X10_refusedDays (a1 : Int32) (σ : St) (v : Int32) (h : p_X10_refusedDays a1 σ = v) : Ev md_X10_refusedDays 1 0 (lvE [vR 79, vI a1] 2) [] SH σ (some (vI v), SH, σ) := by
  show Ev md_X10_refusedDays 1 0 [some (vR 79), some (vI a1)] [] SH σ (some (vI v), SH, σ)
  unfold p_X10_refusedDays at h
  refine Ev.iload_n (pc := 0) dX10_refusedDays_0 rfl rfl ?_
  refine Ev.i2l (pc := 1) dX10_refusedDays_1 ?_
  refine Ev.lconst (pc := 2) (v := 1) dX10_refusedDays_2 kL_1 ?_
  refine Ev.ldc2 (pc := 3) dX10_refusedDays_3 kl_X10_247 ?_
  refine Ev.cTi (pc := 6) (av := [vL a1.toInt64, vL 1, vL 99]) (rest := []) dX10_refusedDays_6 ce_X10_in ml_X10_89 rfl sh_sc (Nat.le_of_ble_eq_true rfl) (Nat.le_of_ble_eq_true rfl) (r_X10_in _ _ _ _) ?_
  by_cases c1 : (p_X10_in a1.toInt64 1 99 σ) = 0
  · replace h := (if_pos c1).symm.trans h
    refine Ev.if_ne_f (pc := 9) dX10_refusedDays_9 ⟨17, rfl⟩ c1 ?_
    refine Ev.ldc (pc := 12) dX10_refusedDays_12 kc_X10_93 ?_
    refine Ev.goto (pc := 14) (tgt := 48) dX10_refusedDays_14 rfl ?_
    subst h
    exact Ev.ret_i (pc := 48) dX10_refusedDays_48 rfl rfl
  · replace h := (if_neg c1).symm.trans h
    refine Ev.if_ne_t (pc := 9) (tgt := 17) dX10_refusedDays_9 rfl c1 ?_
    refine Ev.aload_n (pc := 17) dX10_refusedDays_17 rfl rfl ?_
    refine Ev.getI (pc := 18) dX10_refusedDays_18 fl_X10_166 sh_79 rfl ?_
    by_cases c2 : (σ 79 2) = 0
    · replace h := (if_pos c2).symm.trans h
      refine Ev.if_ne_f (pc := 21) dX10_refusedDays_21 ⟨29, rfl⟩ c2 ?_
      refine Ev.ldc (pc := 24) dX10_refusedDays_24 kc_X10_227 ?_
      refine Ev.goto (pc := 26) (tgt := 48) dX10_refusedDays_26 rfl ?_
      subst h
      exact Ev.ret_i (pc := 48) dX10_refusedDays_48 rfl rfl
    · replace h := (if_neg c2).symm.trans h
      refine Ev.if_ne_t (pc := 21) (tgt := 29) dX10_refusedDays_21 rfl c2 ?_
      refine Ev.aload_n (pc := 29) dX10_refusedDays_29 rfl rfl ?_
      refine Ev.getR (pc := 30) dX10_refusedDays_30 fl_X10_7 sh_79 rfl ?_
      refine Ev.bipush (pc := 33) (v := 37) dX10_refusedDays_33 kb_37 ?_
      refine Ev.iald (pc := 35) dX10_refusedDays_35 sh_80 in_37_1360 ?_
      refine Ev.sipush (pc := 36) (v := 9000) dX10_refusedDays_36 ks_9000 ?_
      by_cases c3 : (σ 80 (37 : Int32).toNatClampNeg) ≤ 9000
      · replace h := (if_pos c3).symm.trans h
        refine Ev.icmp_le_t (pc := 39) (tgt := 47) dX10_refusedDays_39 rfl c3 ?_
        refine Ev.iconst (pc := 47) (v := 0) dX10_refusedDays_47 ki_0 ?_
        subst h
        exact Ev.ret_i (pc := 48) dX10_refusedDays_48 rfl rfl
      · replace h := (if_neg c3).symm.trans h
        refine Ev.icmp_le_f (pc := 39) dX10_refusedDays_39 ⟨47, rfl⟩ c3 ?_
        refine Ev.ldc (pc := 42) dX10_refusedDays_42 kc_X10_97 ?_
        refine Ev.goto (pc := 44) (tgt := 48) dX10_refusedDays_44 rfl ?_
        subst h
        exact Ev.ret_i (pc := 48) dX10_refusedDays_48 rfl rfl
theorem r_X10_refusedDays (a1 : Int32) (σ : St) : Rn md_X10_refusedDays 1 [vR 79, vI a1] SH σ (some (vI (p_X10_refusedDays a1 σ)), SH, σ) := Rn.of ce_X10_refusedDays.1 (Nat.le_of_ble_eq_true rfl) (e_X10_refusedDays _ _ _ rfl)
def l_X10_copy_2 (N : Nat) : Nat → Int32 → Int32 → Int32 → St → Option (Unit × St)
  | 0, _, _, _, _ => none
  | n + 1, v1, v2, v3, σ => if (40 : Int32) ≤ v3 then (some ((), σ)) else (ckA (v1 + v3) 1360 (ckA (v2 + v3) 1360 (bt (st σ 80 (v2 + v3).toNatClampNeg (σ 80 (v1 + v3).toNatClampNeg)) fun σ4 => bt (v3 + 1) fun x5 => l_X10_copy_2 N n v1 v2 x5 σ4)))
def o_X10_copy (N : Nat) (a1 : Int32) (a2 : Int32) (σ : St) : Option (Unit × St) := l_X10_copy_2 N N a1 a2 0 σ
theorem ll_X10_copy_2 (N : Nat) : ∀ (n : Nat) (v1 : Int32) (v2 : Int32) (v3 : Int32) (σ : St) (v : Unit) (w : St), l_X10_copy_2 N n v1 v2 v3 σ = some (v, w) → Ev md_X10_copy 0 2 [some (vR 79), some (vI v1), some (vI v2), some (vI v3)] [] SH σ (none, SH, w) := by
  intro n
  induction n with
  | zero =>
    intro v1 v2 v3 σ v w h
    rw [l_X10_copy_2] at h
    cases h
  | succ n ih =>
    intro v1 v2 v3 σ v w h
    rw [l_X10_copy_2] at h
    refine Ev.iload_n (pc := 2) dX10_copy_2 rfl rfl ?_
    refine Ev.bipush (pc := 3) (v := 40) dX10_copy_3 kb_40 ?_
    by_cases c1 : (40 : Int32) ≤ v3
    · replace h := (if_pos c1).symm.trans h
      refine Ev.icmp_ge_t (pc := 5) (tgt := 30) dX10_copy_5 rfl c1 ?_
      obtain ⟨h1, h2⟩ := oeq h
      subst h1
      subst h2
      exact Ev.ret_v (pc := 30) dX10_copy_30 rfl
    · replace h := (if_neg c1).symm.trans h
      refine Ev.icmp_ge_f (pc := 5) dX10_copy_5 ⟨30, rfl⟩ c1 ?_
      refine Ev.aload_n (pc := 8) dX10_copy_8 rfl rfl ?_
      refine Ev.getR (pc := 9) dX10_copy_9 fl_X10_7 sh_79 rfl ?_
      refine Ev.iload_n (pc := 12) dX10_copy_12 rfl rfl ?_
      refine Ev.iload_n (pc := 13) dX10_copy_13 rfl rfl ?_
      refine Ev.iadd (pc := 14) dX10_copy_14 ?_
      refine Ev.aload_n (pc := 15) dX10_copy_15 rfl rfl ?_
      refine Ev.getR (pc := 16) dX10_copy_16 fl_X10_7 sh_79 rfl ?_
      refine Ev.iload_n (pc := 19) dX10_copy_19 rfl rfl ?_
      refine Ev.iload_n (pc := 20) dX10_copy_20 rfl rfl ?_
      refine Ev.iadd (pc := 21) dX10_copy_21 ?_
      obtain ⟨c2, h⟩ := ckA_elim h
      refine Ev.iald (pc := 22) dX10_copy_22 sh_80 c2 ?_
      obtain ⟨c3, h⟩ := ckA_elim h
      refine Ev.iast (pc := 23) dX10_copy_23 sh_80 c3 ?_
      refine Ev.nmS (fun σ4 e9 => ?_)
      replace h := bt_app h σ4 e9
      obtain ⟨x5, e_x5, h⟩ := bt_elim h
      refine Ev.iinc (pc := 24) (v := x5) (lv' := [some (vR 79), some (vI v1), some (vI v2), some (vI x5)]) dX10_copy_24 rfl (by rw [ki_1, e_x5]) (lt9 rfl) rfl rfl ?_
      refine Ev.goto (pc := 27) (tgt := 2) dX10_copy_27 rfl ?_
      exact Ev.weak2 (ih _ _ _ _ _ _ h) (lsubS (lsubS (lsubS (lsubS lsubE))))
theorem e_X10_copy (N : Nat) (a1 : Int32) (a2 : Int32) (σ : St) (v : Unit) (w : St) (h : o_X10_copy N a1 a2 σ = some (v, w)) : Ev md_X10_copy 0 0 (lvE [vR 79, vI a1, vI a2] 4) [] SH σ (none, SH, w) := by
  show Ev md_X10_copy 0 0 [some (vR 79), some (vI a1), some (vI a2), none] [] SH σ (none, SH, w)
  unfold o_X10_copy at h
  refine Ev.iconst (pc := 0) (v := 0) dX10_copy_0 ki_0 ?_
  refine Ev.istore_n (pc := 1) (lv' := [some (vR 79), some (vI a1), some (vI a2), some (vI 0)]) dX10_copy_1 rfl (lt9 rfl) rfl rfl ?_
  exact Ev.weak2 (ll_X10_copy_2 N N _ _ _ _ _ _ h) (lsubS (lsubS (lsubS (lsubS lsubE))))
theorem r_X10_copy {N : Nat} {a1 : Int32} {a2 : Int32} {σ : St} {v : Unit} {w : St} (h : o_X10_copy N a1 a2 σ = some (v, w)) : Rn md_X10_copy 0 [vR 79, vI a1, vI a2] SH σ (none, SH, w) := Rn.of ce_X10_copy.1 (Nat.le_of_ble_eq_true rfl) (e_X10_copy N _ _ _ _ _ h)
