def j_X10_remember_55 (N : Nat)  (σ : St) : Option (Unit × St) := bd (o_X10_copy N 0 (160 + (40 * (σ 79 28))) σ) fun u1 σ2 => bt (st σ2 79 28 ((σ2 79 28) + 1)) fun σ4 => some ((), σ4)
def l_X10_remember_11 (N : Nat) : Nat → Int32 → St → Option (Unit × St)
  | 0, _, _ => none
  | n + 1, v1, σ => if (30 : Int32) ≤ v1 then (bt (st σ 79 28 ((σ 79 28) - 1)) fun σ2 => j_X10_remember_55 N σ2) else (bd (o_X10_copy N (160 + (40 * v1)) (160 + (40 * (v1 - 1))) σ) fun u3 σ4 => bt (v1 + 1) fun x6 => l_X10_remember_11 N n x6 σ4)
def o_X10_remember (N : Nat)  (σ : St) : Option (Unit × St) := if (σ 79 28) = 30 then (l_X10_remember_11 N N 1 σ) else (j_X10_remember_55 N σ)
theorem lj_X10_remember_55 (N : Nat)  (σ : St) (v : Unit) (w : St) (h : j_X10_remember_55 N  σ = some (v, w)) : Ev md_X10_remember 1 55 [some (vR 79), none] [] SH σ (none, SH, w) := by
  unfold j_X10_remember_55 at h
  refine Ev.aload_n (pc := 55) dX10_remember_55 rfl rfl ?_
  refine Ev.iconst (pc := 56) (v := 0) dX10_remember_56 ki_0 ?_
  refine Ev.sipush (pc := 57) (v := 160) dX10_remember_57 ks_160 ?_
  refine Ev.bipush (pc := 60) (v := 40) dX10_remember_60 kb_40 ?_
  refine Ev.aload_n (pc := 62) dX10_remember_62 rfl rfl ?_
  refine Ev.getI (pc := 63) dX10_remember_63 fl_X10_184 sh_79 rfl ?_
  refine Ev.imul (pc := 66) dX10_remember_66 ?_
  refine Ev.iadd (pc := 67) dX10_remember_67 ?_
  obtain ⟨u1, σ2, g3, h⟩ := bd_elim h
  refine Ev.cVv (pc := 68) (k := 79) (av := [vI 0, vI (160 + (40 * (σ 79 28)))]) (rest := []) dX10_remember_68 ce_X10_copy ml_X10_235 rfl sh_79 cl_X10 sh_sc (Nat.le_of_ble_eq_true rfl) (Nat.le_of_ble_eq_true rfl) (r_X10_copy g3) ?_
  refine Ev.aload_n (pc := 71) dX10_remember_71 rfl rfl ?_
  refine Ev.dup (pc := 72) dX10_remember_72 rfl ?_
  refine Ev.getI (pc := 73) dX10_remember_73 fl_X10_184 sh_79 rfl ?_
  refine Ev.iconst (pc := 76) (v := 1) dX10_remember_76 ki_1 ?_
  refine Ev.iadd (pc := 77) dX10_remember_77 ?_
  refine Ev.putI (pc := 78) dX10_remember_78 pl_X10_184 sh_79 rfl rfl rfl ?_
  refine Ev.nmS (fun σ4 e9 => ?_)
  replace h := bt_app h σ4 e9
  obtain ⟨h1, h2⟩ := oeq h
  subst h1
  subst h2
  exact Ev.ret_v (pc := 81) dX10_remember_81 rfl
theorem ll_X10_remember_11 (N : Nat) : ∀ (n : Nat) (v1 : Int32) (σ : St) (v : Unit) (w : St), l_X10_remember_11 N n v1 σ = some (v, w) → Ev md_X10_remember 1 11 [some (vR 79), some (vI v1)] [] SH σ (none, SH, w) := by
  intro n
  induction n with
  | zero =>
    intro v1 σ v w h
    rw [l_X10_remember_11] at h
    cases h
  | succ n ih =>
    intro v1 σ v w h
    rw [l_X10_remember_11] at h
    refine Ev.iload_n (pc := 11) dX10_remember_11 rfl rfl ?_
    refine Ev.bipush (pc := 12) (v := 30) dX10_remember_12 kb_30 ?_
    by_cases c1 : (30 : Int32) ≤ v1
    · replace h := (if_pos c1).symm.trans h
      refine Ev.icmp_ge_t (pc := 14) (tgt := 45) dX10_remember_14 rfl c1 ?_
      refine Ev.aload_n (pc := 45) dX10_remember_45 rfl rfl ?_
      refine Ev.dup (pc := 46) dX10_remember_46 rfl ?_
      refine Ev.getI (pc := 47) dX10_remember_47 fl_X10_184 sh_79 rfl ?_
      refine Ev.iconst (pc := 50) (v := 1) dX10_remember_50 ki_1 ?_
      refine Ev.isub (pc := 51) dX10_remember_51 ?_
      refine Ev.putI (pc := 52) dX10_remember_52 pl_X10_184 sh_79 rfl rfl rfl ?_
      refine Ev.nmS (fun σ2 e9 => ?_)
      replace h := bt_app h σ2 e9
      exact Ev.weak2 (lj_X10_remember_55 N _ _ _ h) (lsubS (lsubN lsubE))
    · replace h := (if_neg c1).symm.trans h
      refine Ev.icmp_ge_f (pc := 14) dX10_remember_14 ⟨45, rfl⟩ c1 ?_
      refine Ev.aload_n (pc := 17) dX10_remember_17 rfl rfl ?_
      refine Ev.sipush (pc := 18) (v := 160) dX10_remember_18 ks_160 ?_
      refine Ev.bipush (pc := 21) (v := 40) dX10_remember_21 kb_40 ?_
      refine Ev.iload_n (pc := 23) dX10_remember_23 rfl rfl ?_
      refine Ev.imul (pc := 24) dX10_remember_24 ?_
      refine Ev.iadd (pc := 25) dX10_remember_25 ?_
      refine Ev.sipush (pc := 26) (v := 160) dX10_remember_26 ks_160 ?_
      refine Ev.bipush (pc := 29) (v := 40) dX10_remember_29 kb_40 ?_
      refine Ev.iload_n (pc := 31) dX10_remember_31 rfl rfl ?_
      refine Ev.iconst (pc := 32) (v := 1) dX10_remember_32 ki_1 ?_
      refine Ev.isub (pc := 33) dX10_remember_33 ?_
      refine Ev.imul (pc := 34) dX10_remember_34 ?_
      refine Ev.iadd (pc := 35) dX10_remember_35 ?_
      obtain ⟨u3, σ4, g5, h⟩ := bd_elim h
      refine Ev.cVv (pc := 36) (k := 79) (av := [vI (160 + (40 * v1)), vI (160 + (40 * (v1 - 1)))]) (rest := []) dX10_remember_36 ce_X10_copy ml_X10_235 rfl sh_79 cl_X10 sh_sc (Nat.le_of_ble_eq_true rfl) (Nat.le_of_ble_eq_true rfl) (r_X10_copy g5) ?_
      obtain ⟨x6, e_x6, h⟩ := bt_elim h
      refine Ev.iinc (pc := 39) (v := x6) (lv' := [some (vR 79), some (vI x6)]) dX10_remember_39 rfl (by rw [ki_1, e_x6]) (lt9 rfl) rfl rfl ?_
      refine Ev.goto (pc := 42) (tgt := 11) dX10_remember_42 rfl ?_
      exact Ev.weak2 (ih _ _ _ _ h) (lsubS (lsubS lsubE))
theorem e_X10_remember (N : Nat)  (σ : St) (v : Unit) (w : St) (h : o_X10_remember N  σ = some (v, w)) : Ev md_X10_remember 1 0 (lvE [vR 79] 2) [] SH σ (none, SH, w) := by
  show Ev md_X10_remember 1 0 [some (vR 79), none] [] SH σ (none, SH, w)
  unfold o_X10_remember at h
  refine Ev.aload_n (pc := 0) dX10_remember_0 rfl rfl ?_
  refine Ev.getI (pc := 1) dX10_remember_1 fl_X10_184 sh_79 rfl ?_
  refine Ev.bipush (pc := 4) (v := 30) dX10_remember_4 kb_30 ?_
  by_cases c1 : (σ 79 28) = 30
  · replace h := (if_pos c1).symm.trans h
    refine Ev.icmp_ne_f (pc := 6) dX10_remember_6 ⟨55, rfl⟩ c1 ?_
    refine Ev.iconst (pc := 9) (v := 1) dX10_remember_9 ki_1 ?_
    refine Ev.istore_n (pc := 10) (lv' := [some (vR 79), some (vI 1)]) dX10_remember_10 rfl (lt9 rfl) rfl rfl ?_
    exact Ev.weak2 (ll_X10_remember_11 N N _ _ _ _ h) (lsubS (lsubS lsubE))
  · replace h := (if_neg c1).symm.trans h
    refine Ev.icmp_ne_t (pc := 6) (tgt := 55) dX10_remember_6 rfl c1 ?_
    exact Ev.weak2 (lj_X10_remember_55 N _ _ _ h) (lsubS (lsubN lsubE))
theorem r_X10_remember {N : Nat}  {σ : St} {v : Unit} {w : St} (h : o_X10_remember N  σ = some (v, w)) : Rn md_X10_remember 1 [vR 79] SH σ (none, SH, w) := Rn.of ce_X10_remember.1 (Nat.le_of_ble_eq_true rfl) (e_X10_remember N  _ _ _ h)
def o_X10_fallOn (N : Nat) (a1 : Int32) (a2 : Int32) (σ : St) : Option (Unit × St) := ckA (14 + a1) 1360 (ckA (σ 80 (14 + a1).toNatClampNeg) 6 (bt (σ 85 (σ 80 (14 + a1).toNatClampNeg).toNatClampNeg) fun x3 => ckA (34 + x3) 1360 (ckA (34 + x3) 1360 (bt (st σ 80 (34 + x3).toNatClampNeg ((σ 80 (34 + x3).toNatClampNeg) + a2)) fun σ6 => some ((), σ6)))))
theorem e_X10_fallOn (N : Nat) (a1 : Int32) (a2 : Int32) (σ : St) (v : Unit) (w : St) (h : o_X10_fallOn N a1 a2 σ = some (v, w)) : Ev md_X10_fallOn 0 0 (lvE [vR 79, vI a1, vI a2] 4) [] SH σ (none, SH, w) := by
  show Ev md_X10_fallOn 0 0 [some (vR 79), some (vI a1), some (vI a2), none] [] SH σ (none, SH, w)
  unfold o_X10_fallOn at h
  refine Ev.aload_n (pc := 0) dX10_fallOn_0 rfl rfl ?_
  refine Ev.getR (pc := 1) dX10_fallOn_1 fl_X10_26 sh_79 rfl ?_
  refine Ev.aload_n (pc := 4) dX10_fallOn_4 rfl rfl ?_
  refine Ev.getR (pc := 5) dX10_fallOn_5 fl_X10_7 sh_79 rfl ?_
  refine Ev.bipush (pc := 8) (v := 14) dX10_fallOn_8 kb_14 ?_
  refine Ev.iload_n (pc := 10) dX10_fallOn_10 rfl rfl ?_
  refine Ev.iadd (pc := 11) dX10_fallOn_11 ?_
  obtain ⟨c1, h⟩ := ckA_elim h
  refine Ev.iald (pc := 12) dX10_fallOn_12 sh_80 c1 ?_
  obtain ⟨c2, h⟩ := ckA_elim h
  refine Ev.iald (pc := 13) dX10_fallOn_13 sh_85 c2 ?_
  refine Ev.nmI (fun x3 e9 => ?_)
  replace h := bt_app h x3 e9
  refine Ev.istore_n (pc := 14) (lv' := [some (vR 79), some (vI a1), some (vI a2), some (vI x3)]) dX10_fallOn_14 rfl (lt9 rfl) rfl rfl ?_
  refine Ev.aload_n (pc := 15) dX10_fallOn_15 rfl rfl ?_
  refine Ev.getR (pc := 16) dX10_fallOn_16 fl_X10_7 sh_79 rfl ?_
  refine Ev.bipush (pc := 19) (v := 34) dX10_fallOn_19 kb_34 ?_
  refine Ev.iload_n (pc := 21) dX10_fallOn_21 rfl rfl ?_
  refine Ev.iadd (pc := 22) dX10_fallOn_22 ?_
  refine Ev.dup2 (pc := 23) dX10_fallOn_23 rfl rfl ?_
  obtain ⟨c4, h⟩ := ckA_elim h
  refine Ev.iald (pc := 24) dX10_fallOn_24 sh_80 c4 ?_
  refine Ev.iload_n (pc := 25) dX10_fallOn_25 rfl rfl ?_
  refine Ev.iadd (pc := 26) dX10_fallOn_26 ?_
  obtain ⟨c5, h⟩ := ckA_elim h
  refine Ev.iast (pc := 27) dX10_fallOn_27 sh_80 c5 ?_
  refine Ev.nmS (fun σ6 e9 => ?_)
  replace h := bt_app h σ6 e9
  obtain ⟨h1, h2⟩ := oeq h
  subst h1
  subst h2
  exact Ev.ret_v (pc := 28) dX10_fallOn_28 rfl
theorem r_X10_fallOn {N : Nat} {a1 : Int32} {a2 : Int32} {σ : St} {v : Unit} {w : St} (h : o_X10_fallOn N a1 a2 σ = some (v, w)) : Rn md_X10_fallOn 0 [vR 79, vI a1, vI a2] SH σ (none, SH, w) := Rn.of ce_X10_fallOn.1 (Nat.le_of_ble_eq_true rfl) (e_X10_fallOn N _ _ _ _ _ h)
def p_X10_has (a0 : Int32) (a1 : Int32) (σ : St) : Int32 := if ((a0 >>> (a1 &&& 31)) &&& 1) = 1 then 1 else 0
theorem e_X10_has (a0 : Int32) (a1 : Int32) (σ : St) (v : Int32) (h : p_X10_has a0 a1 σ = v) : Ev md_X10_has 0 0 (lvE [vI a0, vI a1] 2) [] SH σ (some (vI v), SH, σ) := by
  show Ev md_X10_has 0 0 [some (vI a0), some (vI a1)] [] SH σ (some (vI v), SH, σ)
  unfold p_X10_has at h
  refine Ev.iload_n (pc := 0) dX10_has_0 rfl rfl ?_
  refine Ev.iload_n (pc := 1) dX10_has_1 rfl rfl ?_
  refine Ev.ishr (pc := 2) dX10_has_2 ?_
  refine Ev.iconst (pc := 3) (v := 1) dX10_has_3 ki_1 ?_
  refine Ev.iand (pc := 4) dX10_has_4 ?_
  refine Ev.iconst (pc := 5) (v := 1) dX10_has_5 ki_1 ?_
  by_cases c1 : ((a0 >>> (a1 &&& 31)) &&& 1) = 1
  · replace h := (if_pos c1).symm.trans h
    refine Ev.icmp_ne_f (pc := 6) dX10_has_6 ⟨13, rfl⟩ c1 ?_
    refine Ev.iconst (pc := 9) (v := 1) dX10_has_9 ki_1 ?_
    refine Ev.goto (pc := 10) (tgt := 14) dX10_has_10 rfl ?_
    subst h
    exact Ev.ret_i (pc := 14) dX10_has_14 rfl nb_1
  · replace h := (if_neg c1).symm.trans h
    refine Ev.icmp_ne_t (pc := 6) (tgt := 13) dX10_has_6 rfl c1 ?_
    refine Ev.iconst (pc := 13) (v := 0) dX10_has_13 ki_0 ?_
    subst h
    exact Ev.ret_i (pc := 14) dX10_has_14 rfl nb_0
theorem r_X10_has (a0 : Int32) (a1 : Int32) (σ : St) : Rn md_X10_has 0 [vI a0, vI a1] SH σ (some (vI (p_X10_has a0 a1 σ)), SH, σ) := Rn.of ce_X10_has.1 (Nat.le_of_ble_eq_true rfl) (e_X10_has _ _ _ _ rfl)
def j_X10_takeWith_78 (N : Nat) (K_8 : Int32 → Int32 → St → Option (Unit × St)) (v2 : Int32) (v3 : Int32) (σ : St) : Option (Unit × St) := bt (v3 + 1) fun x1 => K_8 v2 x1 σ
def l_X10_takeWith_8 (N : Nat) : Nat → Int32 → Int32 → St → Option (Unit × St)
  | 0, _, _, _ => none
  | n + 1, v2, v3, σ => if (σ 79 5) ≤ v3 then (some ((), σ)) else (ckA v3 14 (if (σ 91 v3.toNatClampNeg) = 9 then (j_X10_takeWith_78 N (l_X10_takeWith_8 N n) v2 v3 σ) else (ckA v3 14 (if (p_X10_has v2 (σ 91 v3.toNatClampNeg) σ) = 0 then (j_X10_takeWith_78 N (l_X10_takeWith_8 N n) v2 v3 σ) else (bt (v2 ||| (1 <<< (v3 &&& 31))) fun x6 => ckA v3 1360 (if (σ 80 v3.toNatClampNeg) = 0 then (ckA v3 1360 (bt (st σ 80 v3.toNatClampNeg 3) fun σ10 => ckA (7 + v3) 1360 (bt (st σ10 80 (7 + v3).toNatClampNeg (σ10 80 (37 : Int32).toNatClampNeg)) fun σ12 => j_X10_takeWith_78 N (l_X10_takeWith_8 N n) x6 v3 σ12))) else (j_X10_takeWith_78 N (l_X10_takeWith_8 N n) x6 v3 σ)))))))
def o_X10_takeWith (N : Nat) (a1 : Int32) (σ : St) : Option (Unit × St) := bt (1 <<< (a1 &&& 31)) fun x1 => bt (a1 + 1) fun x2 => l_X10_takeWith_8 N N x1 x2 σ
theorem lj_X10_takeWith_78 (N : Nat) (K_8 : Int32 → Int32 → St → Option (Unit × St)) (hK_8 : ∀ (v2 : Int32) (v3 : Int32) (σ : St) (v : Unit) (w : St), K_8 v2 v3 σ = some (v, w) → Ev md_X10_takeWith 1 8 [some (vR 79), none, some (vI v2), some (vI v3)] [] SH σ (none, SH, w)) (v2 : Int32) (v3 : Int32) (σ : St) (v : Unit) (w : St) (h : j_X10_takeWith_78 N K_8 v2 v3 σ = some (v, w)) : Ev md_X10_takeWith 1 78 [some (vR 79), none, some (vI v2), some (vI v3)] [] SH σ (none, SH, w) := by
  unfold j_X10_takeWith_78 at h
  obtain ⟨x1, e_x1, h⟩ := bt_elim h
  refine Ev.iinc (pc := 78) (v := x1) (lv' := [some (vR 79), none, some (vI v2), some (vI x1)]) dX10_takeWith_78 rfl (by rw [ki_1, e_x1]) (lt9 rfl) rfl rfl ?_
  refine Ev.goto (pc := 81) (tgt := 8) dX10_takeWith_81 rfl ?_
  exact Ev.weak2 (hK_8 _ _ _ _ _ h) (lsubS (lsubN (lsubS (lsubS lsubE))))
theorem ll_X10_takeWith_8 (N : Nat) : ∀ (n : Nat) (v2 : Int32) (v3 : Int32) (σ : St) (v : Unit) (w : St), l_X10_takeWith_8 N n v2 v3 σ = some (v, w) → Ev md_X10_takeWith 1 8 [some (vR 79), none, some (vI v2), some (vI v3)] [] SH σ (none, SH, w) := by
  intro n
  induction n with
  | zero =>
    intro v2 v3 σ v w h
    rw [l_X10_takeWith_8] at h
    cases h
  | succ n ih =>
    intro v2 v3 σ v w h
    rw [l_X10_takeWith_8] at h
    refine Ev.iload_n (pc := 8) dX10_takeWith_8 rfl rfl ?_
    refine Ev.aload_n (pc := 9) dX10_takeWith_9 rfl rfl ?_
    refine Ev.getI (pc := 10) dX10_takeWith_10 fl_X10_175 sh_79 rfl ?_
    by_cases c1 : (σ 79 5) ≤ v3
    · replace h := (if_pos c1).symm.trans h
      refine Ev.icmp_ge_t (pc := 13) (tgt := 84) dX10_takeWith_13 rfl c1 ?_
      obtain ⟨h1, h2⟩ := oeq h
      subst h1
      subst h2
      exact Ev.ret_v (pc := 84) dX10_takeWith_84 rfl
    · replace h := (if_neg c1).symm.trans h
      refine Ev.icmp_ge_f (pc := 13) dX10_takeWith_13 ⟨84, rfl⟩ c1 ?_
      refine Ev.aload_n (pc := 16) dX10_takeWith_16 rfl rfl ?_
      refine Ev.getR (pc := 17) dX10_takeWith_17 fl_X10_44 sh_79 rfl ?_
      refine Ev.iload_n (pc := 20) dX10_takeWith_20 rfl rfl ?_
      obtain ⟨c2, h⟩ := ckA_elim h
      refine Ev.iald (pc := 21) dX10_takeWith_21 sh_91 c2 ?_
      refine Ev.bipush (pc := 22) (v := 9) dX10_takeWith_22 kb_9 ?_
      by_cases c3 : (σ 91 v3.toNatClampNeg) = 9
      · replace h := (if_pos c3).symm.trans h
        refine Ev.icmp_eq_t (pc := 24) (tgt := 78) dX10_takeWith_24 rfl c3 ?_
        exact Ev.weak2 (lj_X10_takeWith_78 N (l_X10_takeWith_8 N n) ih _ _ _ _ _ h) (lsubS (lsubN (lsubS (lsubS lsubE))))
      · replace h := (if_neg c3).symm.trans h
        refine Ev.icmp_eq_f (pc := 24) dX10_takeWith_24 ⟨78, rfl⟩ c3 ?_
        refine Ev.iload_n (pc := 27) dX10_takeWith_27 rfl rfl ?_
        refine Ev.aload_n (pc := 28) dX10_takeWith_28 rfl rfl ?_
        refine Ev.getR (pc := 29) dX10_takeWith_29 fl_X10_44 sh_79 rfl ?_
        refine Ev.iload_n (pc := 32) dX10_takeWith_32 rfl rfl ?_
        obtain ⟨c4, h⟩ := ckA_elim h
        refine Ev.iald (pc := 33) dX10_takeWith_33 sh_91 c4 ?_
        refine Ev.cTi (pc := 34) (av := [vI v2, vI (σ 91 v3.toNatClampNeg)]) (rest := []) dX10_takeWith_34 ce_X10_has ml_X10_232 rfl sh_sc (Nat.le_of_ble_eq_true rfl) (Nat.le_of_ble_eq_true rfl) (r_X10_has _ _ _) ?_
        by_cases c5 : (p_X10_has v2 (σ 91 v3.toNatClampNeg) σ) = 0
        · replace h := (if_pos c5).symm.trans h
          refine Ev.if_eq_t (pc := 37) (tgt := 78) dX10_takeWith_37 rfl c5 ?_
          exact Ev.weak2 (lj_X10_takeWith_78 N (l_X10_takeWith_8 N n) ih _ _ _ _ _ h) (lsubS (lsubN (lsubS (lsubS lsubE))))
        · replace h := (if_neg c5).symm.trans h
          refine Ev.if_eq_f (pc := 37) dX10_takeWith_37 ⟨78, rfl⟩ c5 ?_
          refine Ev.iload_n (pc := 40) dX10_takeWith_40 rfl rfl ?_
          refine Ev.iconst (pc := 41) (v := 1) dX10_takeWith_41 ki_1 ?_
          refine Ev.iload_n (pc := 42) dX10_takeWith_42 rfl rfl ?_
          refine Ev.ishl (pc := 43) dX10_takeWith_43 ?_
          refine Ev.ior (pc := 44) dX10_takeWith_44 ?_
          refine Ev.nmI (fun x6 e9 => ?_)
          replace h := bt_app h x6 e9
          refine Ev.istore_n (pc := 45) (lv' := [some (vR 79), none, some (vI x6), some (vI v3)]) dX10_takeWith_45 rfl (lt9 rfl) rfl rfl ?_
          refine Ev.aload_n (pc := 46) dX10_takeWith_46 rfl rfl ?_
          refine Ev.getR (pc := 47) dX10_takeWith_47 fl_X10_7 sh_79 rfl ?_
          refine Ev.iload_n (pc := 50) dX10_takeWith_50 rfl rfl ?_
          obtain ⟨c7, h⟩ := ckA_elim h
          refine Ev.iald (pc := 51) dX10_takeWith_51 sh_80 c7 ?_
          by_cases c8 : (σ 80 v3.toNatClampNeg) = 0
          · replace h := (if_pos c8).symm.trans h
            refine Ev.if_ne_f (pc := 52) dX10_takeWith_52 ⟨78, rfl⟩ c8 ?_
            refine Ev.aload_n (pc := 55) dX10_takeWith_55 rfl rfl ?_
            refine Ev.getR (pc := 56) dX10_takeWith_56 fl_X10_7 sh_79 rfl ?_
            refine Ev.iload_n (pc := 59) dX10_takeWith_59 rfl rfl ?_
            refine Ev.iconst (pc := 60) (v := 3) dX10_takeWith_60 ki_3 ?_
            obtain ⟨c9, h⟩ := ckA_elim h
            refine Ev.iast (pc := 61) dX10_takeWith_61 sh_80 c9 ?_
            refine Ev.nmS (fun σ10 e9 => ?_)
            replace h := bt_app h σ10 e9
            refine Ev.aload_n (pc := 62) dX10_takeWith_62 rfl rfl ?_
            refine Ev.getR (pc := 63) dX10_takeWith_63 fl_X10_7 sh_79 rfl ?_
            refine Ev.bipush (pc := 66) (v := 7) dX10_takeWith_66 kb_7 ?_
            refine Ev.iload_n (pc := 68) dX10_takeWith_68 rfl rfl ?_
            refine Ev.iadd (pc := 69) dX10_takeWith_69 ?_
            refine Ev.aload_n (pc := 70) dX10_takeWith_70 rfl rfl ?_
            refine Ev.getR (pc := 71) dX10_takeWith_71 fl_X10_7 sh_79 rfl ?_
            refine Ev.bipush (pc := 74) (v := 37) dX10_takeWith_74 kb_37 ?_
            refine Ev.iald (pc := 76) dX10_takeWith_76 sh_80 in_37_1360 ?_
            obtain ⟨c11, h⟩ := ckA_elim h
            refine Ev.iast (pc := 77) dX10_takeWith_77 sh_80 c11 ?_
            refine Ev.nmS (fun σ12 e9 => ?_)
            replace h := bt_app h σ12 e9
            exact Ev.weak2 (lj_X10_takeWith_78 N (l_X10_takeWith_8 N n) ih _ _ _ _ _ h) (lsubS (lsubN (lsubS (lsubS lsubE))))
          · replace h := (if_neg c8).symm.trans h
            refine Ev.if_ne_t (pc := 52) (tgt := 78) dX10_takeWith_52 rfl c8 ?_
            exact Ev.weak2 (lj_X10_takeWith_78 N (l_X10_takeWith_8 N n) ih _ _ _ _ _ h) (lsubS (lsubN (lsubS (lsubS lsubE))))
theorem e_X10_takeWith (N : Nat) (a1 : Int32) (σ : St) (v : Unit) (w : St) (h : o_X10_takeWith N a1 σ = some (v, w)) : Ev md_X10_takeWith 1 0 (lvE [vR 79, vI a1] 4) [] SH σ (none, SH, w) := by
  show Ev md_X10_takeWith 1 0 [some (vR 79), some (vI a1), none, none] [] SH σ (none, SH, w)
  unfold o_X10_takeWith at h
  refine Ev.iconst (pc := 0) (v := 1) dX10_takeWith_0 ki_1 ?_
  refine Ev.iload_n (pc := 1) dX10_takeWith_1 rfl rfl ?_
  refine Ev.ishl (pc := 2) dX10_takeWith_2 ?_
  refine Ev.nmI (fun x1 e9 => ?_)
  replace h := bt_app h x1 e9
  refine Ev.istore_n (pc := 3) (lv' := [some (vR 79), some (vI a1), some (vI x1), none]) dX10_takeWith_3 rfl (lt9 rfl) rfl rfl ?_
  refine Ev.iload_n (pc := 4) dX10_takeWith_4 rfl rfl ?_
  refine Ev.iconst (pc := 5) (v := 1) dX10_takeWith_5 ki_1 ?_
  refine Ev.iadd (pc := 6) dX10_takeWith_6 ?_
  refine Ev.nmI (fun x2 e9 => ?_)
  replace h := bt_app h x2 e9
  refine Ev.istore_n (pc := 7) (lv' := [some (vR 79), some (vI a1), some (vI x1), some (vI x2)]) dX10_takeWith_7 rfl (lt9 rfl) rfl rfl ?_
  exact Ev.weak2 (ll_X10_takeWith_8 N N _ _ _ _ _ h) (lsubS (lsubN (lsubS (lsubS lsubE))))
theorem r_X10_takeWith {N : Nat} {a1 : Int32} {σ : St} {v : Unit} {w : St} (h : o_X10_takeWith N a1 σ = some (v, w)) : Rn md_X10_takeWith 1 [vR 79, vI a1] SH σ (none, SH, w) := Rn.of ce_X10_takeWith.1 (Nat.le_of_ble_eq_true rfl) (e_X10_takeWith N _ _ _ _ h)
def j_X10_passDay_97 (N : Nat) (K_6 : Int32 → St → Option (Unit × St)) (v1 : Int32) (σ : St) : Option (Unit × St) := bt (v1 + 1) fun x1 => K_6 x1 σ
def l_X10_passDay_6 (N : Nat) : Nat → Int32 → St → Option (Unit × St)
  | 0, _, _ => none
  | n + 1, v1, σ => if (σ 79 5) ≤ v1 then (bt (st σ 80 (37 : Int32).toNatClampNeg ((σ 80 (37 : Int32).toNatClampNeg) + 1)) fun σ2 => some ((), σ2)) else (ckA v1 1360 (if (σ 80 v1.toNatClampNeg) = 0 then (ckA (21 + v1) 1360 (if (σ 80 (21 + v1).toNatClampNeg) < 0 then (j_X10_passDay_97 N (l_X10_passDay_6 N n) v1 σ) else (bd (o_X10_ripe N 0 v1 σ) fun x7 σ8 => ckA v1 14 (if (x7 + (σ8 89 v1.toNatClampNeg)) = (σ8 80 (37 : Int32).toNatClampNeg) then (ckA v1 1360 (bt (st σ8 80 v1.toNatClampNeg 2) fun σ13 => ckA (7 + v1) 1360 (bt (st σ13 80 (7 + v1).toNatClampNeg (σ13 80 (37 : Int32).toNatClampNeg)) fun σ15 => ckA v1 14 (bd (o_X10_fallOn N v1 (σ15 90 v1.toNatClampNeg) σ15) fun u17 σ18 => bd (o_X10_takeWith N v1 σ18) fun u20 σ21 => j_X10_passDay_97 N (l_X10_passDay_6 N n) v1 σ21)))) else (j_X10_passDay_97 N (l_X10_passDay_6 N n) v1 σ8))))) else (j_X10_passDay_97 N (l_X10_passDay_6 N n) v1 σ)))
def o_X10_passDay (N : Nat)  (σ : St) : Option (Unit × St) := bd (o_X10_remember N  σ) fun u1 σ2 => l_X10_passDay_6 N N 0 σ2
theorem lj_X10_passDay_97 (N : Nat) (K_6 : Int32 → St → Option (Unit × St)) (hK_6 : ∀ (v1 : Int32) (σ : St) (v : Unit) (w : St), K_6 v1 σ = some (v, w) → Ev md_X10_passDay 3 6 [some (vR 79), some (vI v1)] [] SH σ (none, SH, w)) (v1 : Int32) (σ : St) (v : Unit) (w : St) (h : j_X10_passDay_97 N K_6 v1 σ = some (v, w)) : Ev md_X10_passDay 3 97 [some (vR 79), some (vI v1)] [] SH σ (none, SH, w) := by
  unfold j_X10_passDay_97 at h
  obtain ⟨x1, e_x1, h⟩ := bt_elim h
  refine Ev.iinc (pc := 97) (v := x1) (lv' := [some (vR 79), some (vI x1)]) dX10_passDay_97 rfl (by rw [ki_1, e_x1]) (lt9 rfl) rfl rfl ?_
  refine Ev.goto (pc := 100) (tgt := 6) dX10_passDay_100 rfl ?_
  exact Ev.weak2 (hK_6 _ _ _ _ h) (lsubS (lsubS lsubE))
theorem ll_X10_passDay_6 (N : Nat) : ∀ (n : Nat) (v1 : Int32) (σ : St) (v : Unit) (w : St), l_X10_passDay_6 N n v1 σ = some (v, w) → Ev md_X10_passDay 3 6 [some (vR 79), some (vI v1)] [] SH σ (none, SH, w) := by
  intro n
  induction n with
  | zero =>
    intro v1 σ v w h
    rw [l_X10_passDay_6] at h
    cases h
  | succ n ih =>
    intro v1 σ v w h
    rw [l_X10_passDay_6] at h
    refine Ev.iload_n (pc := 6) dX10_passDay_6 rfl rfl ?_
    refine Ev.aload_n (pc := 7) dX10_passDay_7 rfl rfl ?_
    refine Ev.getI (pc := 8) dX10_passDay_8 fl_X10_175 sh_79 rfl ?_
    by_cases c1 : (σ 79 5) ≤ v1
    · replace h := (if_pos c1).symm.trans h
      refine Ev.icmp_ge_t (pc := 11) (tgt := 103) dX10_passDay_11 rfl c1 ?_
      refine Ev.aload_n (pc := 103) dX10_passDay_103 rfl rfl ?_
      refine Ev.getR (pc := 104) dX10_passDay_104 fl_X10_7 sh_79 rfl ?_
      refine Ev.bipush (pc := 107) (v := 37) dX10_passDay_107 kb_37 ?_
      refine Ev.dup2 (pc := 109) dX10_passDay_109 rfl rfl ?_
      refine Ev.iald (pc := 110) dX10_passDay_110 sh_80 in_37_1360 ?_
      refine Ev.iconst (pc := 111) (v := 1) dX10_passDay_111 ki_1 ?_
      refine Ev.iadd (pc := 112) dX10_passDay_112 ?_
      refine Ev.iast (pc := 113) dX10_passDay_113 sh_80 in_37_1360 ?_
      refine Ev.nmS (fun σ2 e9 => ?_)
      replace h := bt_app h σ2 e9
      obtain ⟨h1, h2⟩ := oeq h
      subst h1
      subst h2
      exact Ev.ret_v (pc := 114) dX10_passDay_114 rfl
    · replace h := (if_neg c1).symm.trans h
      refine Ev.icmp_ge_f (pc := 11) dX10_passDay_11 ⟨103, rfl⟩ c1 ?_
      refine Ev.aload_n (pc := 14) dX10_passDay_14 rfl rfl ?_
      refine Ev.getR (pc := 15) dX10_passDay_15 fl_X10_7 sh_79 rfl ?_
      refine Ev.iload_n (pc := 18) dX10_passDay_18 rfl rfl ?_
      obtain ⟨c3, h⟩ := ckA_elim h
      refine Ev.iald (pc := 19) dX10_passDay_19 sh_80 c3 ?_
      by_cases c4 : (σ 80 v1.toNatClampNeg) = 0
      · replace h := (if_pos c4).symm.trans h
        refine Ev.if_ne_f (pc := 20) dX10_passDay_20 ⟨97, rfl⟩ c4 ?_
        refine Ev.aload_n (pc := 23) dX10_passDay_23 rfl rfl ?_
        refine Ev.getR (pc := 24) dX10_passDay_24 fl_X10_7 sh_79 rfl ?_
        refine Ev.bipush (pc := 27) (v := 21) dX10_passDay_27 kb_21 ?_
        refine Ev.iload_n (pc := 29) dX10_passDay_29 rfl rfl ?_
        refine Ev.iadd (pc := 30) dX10_passDay_30 ?_
        obtain ⟨c5, h⟩ := ckA_elim h
        refine Ev.iald (pc := 31) dX10_passDay_31 sh_80 c5 ?_
        by_cases c6 : (σ 80 (21 + v1).toNatClampNeg) < 0
        · replace h := (if_pos c6).symm.trans h
          refine Ev.if_lt_t (pc := 32) (tgt := 97) dX10_passDay_32 rfl c6 ?_
          exact Ev.weak2 (lj_X10_passDay_97 N (l_X10_passDay_6 N n) ih _ _ _ _ h) (lsubS (lsubS lsubE))
        · replace h := (if_neg c6).symm.trans h
          refine Ev.if_lt_f (pc := 32) dX10_passDay_32 ⟨97, rfl⟩ c6 ?_
          refine Ev.aload_n (pc := 35) dX10_passDay_35 rfl rfl ?_
          refine Ev.iconst (pc := 36) (v := 0) dX10_passDay_36 ki_0 ?_
          refine Ev.iload_n (pc := 37) dX10_passDay_37 rfl rfl ?_
          obtain ⟨x7, σ8, g9, h⟩ := bd_elim h
          refine Ev.cVi (pc := 38) (k := 79) (av := [vI 0, vI v1]) (rest := []) dX10_passDay_38 ce_X10_ripe ml_X10_215 rfl sh_79 cl_X10 sh_sc (Nat.le_of_ble_eq_true rfl) (Nat.le_of_ble_eq_true rfl) (r_X10_ripe g9) ?_
          refine Ev.aload_n (pc := 41) dX10_passDay_41 rfl rfl ?_
          refine Ev.getR (pc := 42) dX10_passDay_42 fl_X10_38 sh_79 rfl ?_
          refine Ev.iload_n (pc := 45) dX10_passDay_45 rfl rfl ?_
          obtain ⟨c10, h⟩ := ckA_elim h
          refine Ev.iald (pc := 46) dX10_passDay_46 sh_89 c10 ?_
          refine Ev.iadd (pc := 47) dX10_passDay_47 ?_
          refine Ev.aload_n (pc := 48) dX10_passDay_48 rfl rfl ?_
          refine Ev.getR (pc := 49) dX10_passDay_49 fl_X10_7 sh_79 rfl ?_
          refine Ev.bipush (pc := 52) (v := 37) dX10_passDay_52 kb_37 ?_
          refine Ev.iald (pc := 54) dX10_passDay_54 sh_80 in_37_1360 ?_
          by_cases c11 : (x7 + (σ8 89 v1.toNatClampNeg)) = (σ8 80 (37 : Int32).toNatClampNeg)
          · replace h := (if_pos c11).symm.trans h
            refine Ev.icmp_ne_f (pc := 55) dX10_passDay_55 ⟨97, rfl⟩ c11 ?_
            refine Ev.aload_n (pc := 58) dX10_passDay_58 rfl rfl ?_
            refine Ev.getR (pc := 59) dX10_passDay_59 fl_X10_7 sh_79 rfl ?_
            refine Ev.iload_n (pc := 62) dX10_passDay_62 rfl rfl ?_
            refine Ev.iconst (pc := 63) (v := 2) dX10_passDay_63 ki_2 ?_
            obtain ⟨c12, h⟩ := ckA_elim h
            refine Ev.iast (pc := 64) dX10_passDay_64 sh_80 c12 ?_
            refine Ev.nmS (fun σ13 e9 => ?_)
            replace h := bt_app h σ13 e9
            refine Ev.aload_n (pc := 65) dX10_passDay_65 rfl rfl ?_
            refine Ev.getR (pc := 66) dX10_passDay_66 fl_X10_7 sh_79 rfl ?_
            refine Ev.bipush (pc := 69) (v := 7) dX10_passDay_69 kb_7 ?_
            refine Ev.iload_n (pc := 71) dX10_passDay_71 rfl rfl ?_
            refine Ev.iadd (pc := 72) dX10_passDay_72 ?_
            refine Ev.aload_n (pc := 73) dX10_passDay_73 rfl rfl ?_
            refine Ev.getR (pc := 74) dX10_passDay_74 fl_X10_7 sh_79 rfl ?_
            refine Ev.bipush (pc := 77) (v := 37) dX10_passDay_77 kb_37 ?_
            refine Ev.iald (pc := 79) dX10_passDay_79 sh_80 in_37_1360 ?_
            obtain ⟨c14, h⟩ := ckA_elim h
            refine Ev.iast (pc := 80) dX10_passDay_80 sh_80 c14 ?_
            refine Ev.nmS (fun σ15 e9 => ?_)
            replace h := bt_app h σ15 e9
            refine Ev.aload_n (pc := 81) dX10_passDay_81 rfl rfl ?_
            refine Ev.iload_n (pc := 82) dX10_passDay_82 rfl rfl ?_
            refine Ev.aload_n (pc := 83) dX10_passDay_83 rfl rfl ?_
            refine Ev.getR (pc := 84) dX10_passDay_84 fl_X10_41 sh_79 rfl ?_
            refine Ev.iload_n (pc := 87) dX10_passDay_87 rfl rfl ?_
            obtain ⟨c16, h⟩ := ckA_elim h
            refine Ev.iald (pc := 88) dX10_passDay_88 sh_90 c16 ?_
            obtain ⟨u17, σ18, g19, h⟩ := bd_elim h
            refine Ev.cVv (pc := 89) (k := 79) (av := [vI v1, vI (σ15 90 v1.toNatClampNeg)]) (rest := []) dX10_passDay_89 ce_X10_fallOn ml_X10_241 rfl sh_79 cl_X10 sh_sc (Nat.le_of_ble_eq_true rfl) (Nat.le_of_ble_eq_true rfl) (r_X10_fallOn g19) ?_
            refine Ev.aload_n (pc := 92) dX10_passDay_92 rfl rfl ?_
            refine Ev.iload_n (pc := 93) dX10_passDay_93 rfl rfl ?_
            obtain ⟨u20, σ21, g22, h⟩ := bd_elim h
            refine Ev.cVv (pc := 94) (k := 79) (av := [vI v1]) (rest := []) dX10_passDay_94 ce_X10_takeWith ml_X10_244 rfl sh_79 cl_X10 sh_sc (Nat.le_of_ble_eq_true rfl) (Nat.le_of_ble_eq_true rfl) (r_X10_takeWith g22) ?_
            exact Ev.weak2 (lj_X10_passDay_97 N (l_X10_passDay_6 N n) ih _ _ _ _ h) (lsubS (lsubS lsubE))
          · replace h := (if_neg c11).symm.trans h
            refine Ev.icmp_ne_t (pc := 55) (tgt := 97) dX10_passDay_55 rfl c11 ?_
            exact Ev.weak2 (lj_X10_passDay_97 N (l_X10_passDay_6 N n) ih _ _ _ _ h) (lsubS (lsubS lsubE))
      · replace h := (if_neg c4).symm.trans h
        refine Ev.if_ne_t (pc := 20) (tgt := 97) dX10_passDay_20 rfl c4 ?_
        exact Ev.weak2 (lj_X10_passDay_97 N (l_X10_passDay_6 N n) ih _ _ _ _ h) (lsubS (lsubS lsubE))
theorem e_X10_passDay (N : Nat)  (σ : St) (v : Unit) (w : St) (h : o_X10_passDay N  σ = some (v, w)) : Ev md_X10_passDay 3 0 (lvE [vR 79] 2) [] SH σ (none, SH, w) := by
  show Ev md_X10_passDay 3 0 [some (vR 79), none] [] SH σ (none, SH, w)
  unfold o_X10_passDay at h
  refine Ev.aload_n (pc := 0) dX10_passDay_0 rfl rfl ?_
  obtain ⟨u1, σ2, g3, h⟩ := bd_elim h
  refine Ev.cVv (pc := 1) (k := 79) (av := []) (rest := []) dX10_passDay_1 ce_X10_remember ml_X10_238 rfl sh_79 cl_X10 sh_sc (Nat.le_of_ble_eq_true rfl) (Nat.le_of_ble_eq_true rfl) (r_X10_remember g3) ?_
  refine Ev.iconst (pc := 4) (v := 0) dX10_passDay_4 ki_0 ?_
  refine Ev.istore_n (pc := 5) (lv' := [some (vR 79), some (vI 0)]) dX10_passDay_5 rfl (lt9 rfl) rfl rfl ?_
  exact Ev.weak2 (ll_X10_passDay_6 N N _ _ _ _ h) (lsubS (lsubS lsubE))
theorem r_X10_passDay {N : Nat}  {σ : St} {v : Unit} {w : St} (h : o_X10_passDay N  σ = some (v, w)) : Rn md_X10_passDay 3 [vR 79] SH σ (none, SH, w) := Rn.of ce_X10_passDay.1 (Nat.le_of_ble_eq_true rfl) (e_X10_passDay N  _ _ _ h)
def l_X10_day_16 (N : Nat) : Nat → Int32 → Int32 → St → Option (Int32 × St)
  | 0, _, _, _ => none
  | n + 1, v1, v2, σ => if v1 ≤ v2 then (some ((σ 80 (37 : Int32).toNatClampNeg), σ)) else (bd (o_X10_passDay N  σ) fun u2 σ3 => bt (v2 + 1) fun x5 => l_X10_day_16 N n v1 x5 σ3)
def o_X10_day (N : Nat) (a1 : Int32) (σ : St) : Option (Int32 × St) := if (0 : Int32) ≤ (p_X10_refusedDays a1 σ) then (l_X10_day_16 N N a1 0 σ) else (some ((p_X10_refusedDays a1 σ), σ))
theorem ll_X10_day_16 (N : Nat) : ∀ (n : Nat) (v1 : Int32) (v2 : Int32) (σ : St) (v : Int32) (w : St), l_X10_day_16 N n v1 v2 σ = some (v, w) → Ev md_X10_day 4 16 [some (vR 79), some (vI v1), some (vI v2)] [] SH σ (some (vI v), SH, w) := by
  intro n
  induction n with
  | zero =>
    intro v1 v2 σ v w h
    rw [l_X10_day_16] at h
    cases h
  | succ n ih =>
    intro v1 v2 σ v w h
    rw [l_X10_day_16] at h
    refine Ev.iload_n (pc := 16) dX10_day_16 rfl rfl ?_
    refine Ev.iload_n (pc := 17) dX10_day_17 rfl rfl ?_
    by_cases c1 : v1 ≤ v2
    · replace h := (if_pos c1).symm.trans h
      refine Ev.icmp_ge_t (pc := 18) (tgt := 31) dX10_day_18 rfl c1 ?_
      refine Ev.aload_n (pc := 31) dX10_day_31 rfl rfl ?_
      refine Ev.getR (pc := 32) dX10_day_32 fl_X10_7 sh_79 rfl ?_
      refine Ev.bipush (pc := 35) (v := 37) dX10_day_35 kb_37 ?_
      refine Ev.iald (pc := 37) dX10_day_37 sh_80 in_37_1360 ?_
      obtain ⟨h1, h2⟩ := oeq h
      subst h1
      subst h2
      exact Ev.ret_i (pc := 38) dX10_day_38 rfl rfl
    · replace h := (if_neg c1).symm.trans h
      refine Ev.icmp_ge_f (pc := 18) dX10_day_18 ⟨31, rfl⟩ c1 ?_
      refine Ev.aload_n (pc := 21) dX10_day_21 rfl rfl ?_
      obtain ⟨u2, σ3, g4, h⟩ := bd_elim h
      refine Ev.cVv (pc := 22) (k := 79) (av := []) (rest := []) dX10_day_22 ce_X10_passDay ml_X10_252 rfl sh_79 cl_X10 sh_sc (Nat.le_of_ble_eq_true rfl) (Nat.le_of_ble_eq_true rfl) (r_X10_passDay g4) ?_
      obtain ⟨x5, e_x5, h⟩ := bt_elim h
      refine Ev.iinc (pc := 25) (v := x5) (lv' := [some (vR 79), some (vI v1), some (vI x5)]) dX10_day_25 rfl (by rw [ki_1, e_x5]) (lt9 rfl) rfl rfl ?_
      refine Ev.goto (pc := 28) (tgt := 16) dX10_day_28 rfl ?_
      exact Ev.weak2 (ih _ _ _ _ _ h) (lsubS (lsubS (lsubS lsubE)))
theorem e_X10_day (N : Nat) (a1 : Int32) (σ : St) (v : Int32) (w : St) (h : o_X10_day N a1 σ = some (v, w)) : Ev md_X10_day 4 0 (lvE [vR 79, vI a1] 3) [] SH σ (some (vI v), SH, w) := by
  show Ev md_X10_day 4 0 [some (vR 79), some (vI a1), none] [] SH σ (some (vI v), SH, w)
  unfold o_X10_day at h
  refine Ev.aload_n (pc := 0) dX10_day_0 rfl rfl ?_
  refine Ev.iload_n (pc := 1) dX10_day_1 rfl rfl ?_
  refine Ev.cVi (pc := 2) (k := 79) (av := [vI a1]) (rest := []) dX10_day_2 ce_X10_refusedDays ml_X10_249 rfl sh_79 cl_X10 sh_sc (Nat.le_of_ble_eq_true rfl) (Nat.le_of_ble_eq_true rfl) (r_X10_refusedDays _ _) ?_
  by_cases c1 : (0 : Int32) ≤ (p_X10_refusedDays a1 σ)
  · replace h := (if_pos c1).symm.trans h
    refine Ev.if_ge_t (pc := 5) (tgt := 14) dX10_day_5 rfl c1 ?_
    refine Ev.iconst (pc := 14) (v := 0) dX10_day_14 ki_0 ?_
    refine Ev.istore_n (pc := 15) (lv' := [some (vR 79), some (vI a1), some (vI 0)]) dX10_day_15 rfl (lt9 rfl) rfl rfl ?_
    exact Ev.weak2 (ll_X10_day_16 N N _ _ _ _ _ h) (lsubS (lsubS (lsubS lsubE)))
  · replace h := (if_neg c1).symm.trans h
    refine Ev.if_ge_f (pc := 5) dX10_day_5 ⟨14, rfl⟩ c1 ?_
    refine Ev.aload_n (pc := 8) dX10_day_8 rfl rfl ?_
    refine Ev.iload_n (pc := 9) dX10_day_9 rfl rfl ?_
    refine Ev.cVi (pc := 10) (k := 79) (av := [vI a1]) (rest := []) dX10_day_10 ce_X10_refusedDays ml_X10_249 rfl sh_79 cl_X10 sh_sc (Nat.le_of_ble_eq_true rfl) (Nat.le_of_ble_eq_true rfl) (r_X10_refusedDays _ _) ?_
    obtain ⟨h1, h2⟩ := oeq h
    subst h1
    subst h2
    exact Ev.ret_i (pc := 13) dX10_day_13 rfl rfl
theorem r_X10_day {N : Nat} {a1 : Int32} {σ : St} {v : Int32} {w : St} (h : o_X10_day N a1 σ = some (v, w)) : Rn md_X10_day 4 [vR 79, vI a1] SH σ (some (vI v), SH, w) := Rn.of ce_X10_day.1 (Nat.le_of_ble_eq_true rfl) (e_X10_day N _ _ _ _ h)
def j_X1_mayBeKeptOn_23_37 (N : Nat)  (σ : St) : Option (Int32 × St) := some (0, σ)
def o_X1_mayBeKeptOn_23 (N : Nat) (a1 : Int32) (a2 : Int32) (σ : St) : Option (Int32 × St) := bd (o_X1_ripeOn_23 N a1 σ) fun x1 σ2 => if x1 = (-1) then (j_X1_mayBeKeptOn_23_37 N σ2) else (if a2 < x1 then (j_X1_mayBeKeptOn_23_37 N σ2) else (if (x1 + (at_ σ2 7 7 a1)) < a2 then (j_X1_mayBeKeptOn_23_37 N σ2) else (some (1, σ2))))
theorem lj_X1_mayBeKeptOn_23_37 (N : Nat)  (σ : St) (v : Int32) (w : St) (h : j_X1_mayBeKeptOn_23_37 N  σ = some (v, w)) : Ev md_X1_mayBeKeptOn 3 37 [none, none, none, none] [] SH σ (some (vI v), SH, w) := by
  unfold j_X1_mayBeKeptOn_23_37 at h
  refine Ev.iconst (pc := 37) (v := 0) dX1_mayBeKeptOn_37 ki_0 ?_
  obtain ⟨h1, h2⟩ := oeq h
  subst h1
  subst h2
  exact Ev.ret_i (pc := 38) dX1_mayBeKeptOn_38 rfl nb_0
theorem e_X1_mayBeKeptOn_23 (N : Nat) (a1 : Int32) (a2 : Int32) (σ : St) (v : Int32) (w : St) (h : o_X1_mayBeKeptOn_23 N a1 a2 σ = some (v, w)) : Ev md_X1_mayBeKeptOn 3 0 (lvE [vR 23, vI a1, vI a2] 4) [] SH σ (some (vI v), SH, w) := by
  show Ev md_X1_mayBeKeptOn 3 0 [some (vR 23), some (vI a1), some (vI a2), none] [] SH σ (some (vI v), SH, w)
  unfold o_X1_mayBeKeptOn_23 at h
  refine Ev.aload_n (pc := 0) dX1_mayBeKeptOn_0 rfl rfl ?_
  refine Ev.iload_n (pc := 1) dX1_mayBeKeptOn_1 rfl rfl ?_
  obtain ⟨x1, σ2, g3, h⟩ := bd_elim h
  refine Ev.cVi (pc := 2) (k := 23) (av := [vI a1]) (rest := []) dX1_mayBeKeptOn_2 ce_X1_ripeOn ml_X1_79 rfl sh_23 cl_X1 sh_sc (Nat.le_of_ble_eq_true rfl) (Nat.le_of_ble_eq_true rfl) (r_X1_ripeOn_23 g3) ?_
  refine Ev.istore_n (pc := 5) (lv' := [some (vR 23), some (vI a1), some (vI a2), some (vI x1)]) dX1_mayBeKeptOn_5 rfl (lt9 rfl) rfl rfl ?_
  refine Ev.iload_n (pc := 6) dX1_mayBeKeptOn_6 rfl rfl ?_
  refine Ev.iconst (pc := 7) (v := (-1)) dX1_mayBeKeptOn_7 ki_m1 ?_
  by_cases c4 : x1 = (-1)
  · replace h := (if_pos c4).symm.trans h
    refine Ev.icmp_eq_t (pc := 8) (tgt := 37) dX1_mayBeKeptOn_8 rfl c4 ?_
    exact Ev.weak2 (lj_X1_mayBeKeptOn_23_37 N _ _ _ h) (lsubN (lsubN (lsubN (lsubN lsubE))))
  · replace h := (if_neg c4).symm.trans h
    refine Ev.icmp_eq_f (pc := 8) dX1_mayBeKeptOn_8 ⟨37, rfl⟩ c4 ?_
    refine Ev.iload_n (pc := 11) dX1_mayBeKeptOn_11 rfl rfl ?_
    refine Ev.iload_n (pc := 12) dX1_mayBeKeptOn_12 rfl rfl ?_
    by_cases c5 : a2 < x1
    · replace h := (if_pos c5).symm.trans h
      refine Ev.icmp_lt_t (pc := 13) (tgt := 37) dX1_mayBeKeptOn_13 rfl c5 ?_
      exact Ev.weak2 (lj_X1_mayBeKeptOn_23_37 N _ _ _ h) (lsubN (lsubN (lsubN (lsubN lsubE))))
    · replace h := (if_neg c5).symm.trans h
      refine Ev.icmp_lt_f (pc := 13) dX1_mayBeKeptOn_13 ⟨37, rfl⟩ c5 ?_
      refine Ev.iload_n (pc := 16) dX1_mayBeKeptOn_16 rfl rfl ?_
      refine Ev.iload_n (pc := 17) dX1_mayBeKeptOn_17 rfl rfl ?_
      refine Ev.aload_n (pc := 18) dX1_mayBeKeptOn_18 rfl rfl ?_
      refine Ev.getR (pc := 19) dX1_mayBeKeptOn_19 fl_X1_15 sh_23 rfl ?_
      refine Ev.getR (pc := 22) dX1_mayBeKeptOn_22 fl_X1_82 sh_1 rfl ?_
      refine Ev.iload_n (pc := 25) dX1_mayBeKeptOn_25 rfl rfl ?_
      refine Ev.cTi (pc := 26) (av := [vR 7, vI a1]) (rest := [vI x1, vI a2]) dX1_mayBeKeptOn_26 ce_X9_at ml_X1_28 rfl sh_sc (Nat.le_of_ble_eq_true rfl) (Nat.le_of_ble_eq_true rfl) (r_at sh_7 (by decide) _ _) ?_
      refine Ev.iadd (pc := 29) dX1_mayBeKeptOn_29 ?_
      by_cases c6 : (x1 + (at_ σ2 7 7 a1)) < a2
      · replace h := (if_pos c6).symm.trans h
        refine Ev.icmp_gt_t (pc := 30) (tgt := 37) dX1_mayBeKeptOn_30 rfl c6 ?_
        exact Ev.weak2 (lj_X1_mayBeKeptOn_23_37 N _ _ _ h) (lsubN (lsubN (lsubN (lsubN lsubE))))
      · replace h := (if_neg c6).symm.trans h
        refine Ev.icmp_gt_f (pc := 30) dX1_mayBeKeptOn_30 ⟨37, rfl⟩ c6 ?_
        refine Ev.iconst (pc := 33) (v := 1) dX1_mayBeKeptOn_33 ki_1 ?_
        refine Ev.goto (pc := 34) (tgt := 38) dX1_mayBeKeptOn_34 rfl ?_
        obtain ⟨h1, h2⟩ := oeq h
        subst h1
        subst h2
        exact Ev.ret_i (pc := 38) dX1_mayBeKeptOn_38 rfl nb_1
theorem r_X1_mayBeKeptOn_23 {N : Nat} {a1 : Int32} {a2 : Int32} {σ : St} {v : Int32} {w : St} (h : o_X1_mayBeKeptOn_23 N a1 a2 σ = some (v, w)) : Rn md_X1_mayBeKeptOn 3 [vR 23, vI a1, vI a2] SH σ (some (vI v), SH, w) := Rn.of ce_X1_mayBeKeptOn.1 (Nat.le_of_ble_eq_true rfl) (e_X1_mayBeKeptOn_23 N _ _ _ _ _ h)
def j_X1_canKeep_57 (N : Nat)  (σ : St) : Option (Int32 × St) := some (0, σ)
def o_X1_canKeep (N : Nat) (a1 : Int32) (σ : St) : Option (Int32 × St) := bt (p_X1_holderOf_23 a1 σ) fun x1 => if (p_X1_isOpen_23 a1 σ) = 0 then (j_X1_canKeep_57 N σ) else (if (p_X1_townOf_23 x1 σ) = (at_ σ 5 7 a1) then (if (p_X1_onTheWay x1 σ) = 0 then (bd (o_X1_mayBeKeptOn_23 N a1 (p_X1_today_23 σ) σ) fun x5 σ6 => if x5 = 0 then (j_X1_canKeep_57 N σ6) else (some (1, σ6))) else (j_X1_canKeep_57 N σ)) else (j_X1_canKeep_57 N σ))
theorem lj_X1_canKeep_57 (N : Nat)  (σ : St) (v : Int32) (w : St) (h : j_X1_canKeep_57 N  σ = some (v, w)) : Ev md_X1_canKeep 4 57 [none, none, none] [] SH σ (some (vI v), SH, w) := by
  unfold j_X1_canKeep_57 at h
  refine Ev.iconst (pc := 57) (v := 0) dX1_canKeep_57 ki_0 ?_
  obtain ⟨h1, h2⟩ := oeq h
  subst h1
  subst h2
  exact Ev.ret_i (pc := 58) dX1_canKeep_58 rfl nb_0
theorem e_X1_canKeep (N : Nat) (a1 : Int32) (σ : St) (v : Int32) (w : St) (h : o_X1_canKeep N a1 σ = some (v, w)) : Ev md_X1_canKeep 4 0 (lvE [vR 23, vI a1] 3) [] SH σ (some (vI v), SH, w) := by
  show Ev md_X1_canKeep 4 0 [some (vR 23), some (vI a1), none] [] SH σ (some (vI v), SH, w)
  unfold o_X1_canKeep at h
  refine Ev.aload_n (pc := 0) dX1_canKeep_0 rfl rfl ?_
  refine Ev.iload_n (pc := 1) dX1_canKeep_1 rfl rfl ?_
  refine Ev.cVi (pc := 2) (k := 23) (av := [vI a1]) (rest := []) dX1_canKeep_2 ce_X1_holderOf ml_X1_54 rfl sh_23 cl_X1 sh_sc (Nat.le_of_ble_eq_true rfl) (Nat.le_of_ble_eq_true rfl) (r_X1_holderOf_23 _ _) ?_
  refine Ev.nmI (fun x1 e9 => ?_)
  replace h := bt_app h x1 e9
  refine Ev.istore_n (pc := 5) (lv' := [some (vR 23), some (vI a1), some (vI x1)]) dX1_canKeep_5 rfl (lt9 rfl) rfl rfl ?_
  refine Ev.aload_n (pc := 6) dX1_canKeep_6 rfl rfl ?_
  refine Ev.iload_n (pc := 7) dX1_canKeep_7 rfl rfl ?_
  refine Ev.cVi (pc := 8) (k := 23) (av := [vI a1]) (rest := []) dX1_canKeep_8 ce_X1_isOpen ml_X1_85 rfl sh_23 cl_X1 sh_sc (Nat.le_of_ble_eq_true rfl) (Nat.le_of_ble_eq_true rfl) (r_X1_isOpen_23 _ _) ?_
  by_cases c2 : (p_X1_isOpen_23 a1 σ) = 0
  · replace h := (if_pos c2).symm.trans h
    refine Ev.if_eq_t (pc := 11) (tgt := 57) dX1_canKeep_11 rfl c2 ?_
    exact Ev.weak2 (lj_X1_canKeep_57 N _ _ _ h) (lsubN (lsubN (lsubN lsubE)))
  · replace h := (if_neg c2).symm.trans h
    refine Ev.if_eq_f (pc := 11) dX1_canKeep_11 ⟨57, rfl⟩ c2 ?_
    refine Ev.aload_n (pc := 14) dX1_canKeep_14 rfl rfl ?_
    refine Ev.iload_n (pc := 15) dX1_canKeep_15 rfl rfl ?_
    refine Ev.cVi (pc := 16) (k := 23) (av := [vI x1]) (rest := []) dX1_canKeep_16 ce_X1_townOf ml_X1_88 rfl sh_23 cl_X1 sh_sc (Nat.le_of_ble_eq_true rfl) (Nat.le_of_ble_eq_true rfl) (r_X1_townOf_23 _ _) ?_
    refine Ev.aload_n (pc := 19) dX1_canKeep_19 rfl rfl ?_
    refine Ev.getR (pc := 20) dX1_canKeep_20 fl_X1_15 sh_23 rfl ?_
    refine Ev.getR (pc := 23) dX1_canKeep_23 fl_X1_91 sh_1 rfl ?_
    refine Ev.iload_n (pc := 26) dX1_canKeep_26 rfl rfl ?_
    refine Ev.cTi (pc := 27) (av := [vR 5, vI a1]) (rest := [vI (p_X1_townOf_23 x1 σ)]) dX1_canKeep_27 ce_X9_at ml_X1_28 rfl sh_sc (Nat.le_of_ble_eq_true rfl) (Nat.le_of_ble_eq_true rfl) (r_at sh_5 (by decide) _ _) ?_
    by_cases c3 : (p_X1_townOf_23 x1 σ) = (at_ σ 5 7 a1)
    · replace h := (if_pos c3).symm.trans h
      refine Ev.icmp_ne_f (pc := 30) dX1_canKeep_30 ⟨57, rfl⟩ c3 ?_
      refine Ev.aload_n (pc := 33) dX1_canKeep_33 rfl rfl ?_
      refine Ev.iload_n (pc := 34) dX1_canKeep_34 rfl rfl ?_
      refine Ev.cVi (pc := 35) (k := 23) (av := [vI x1]) (rest := []) dX1_canKeep_35 ce_X1_onTheWay ml_X1_94 rfl sh_23 cl_X1 sh_sc (Nat.le_of_ble_eq_true rfl) (Nat.le_of_ble_eq_true rfl) (r_X1_onTheWay _ _) ?_
      by_cases c4 : (p_X1_onTheWay x1 σ) = 0
      · replace h := (if_pos c4).symm.trans h
        refine Ev.if_ne_f (pc := 38) dX1_canKeep_38 ⟨57, rfl⟩ c4 ?_
        refine Ev.aload_n (pc := 41) dX1_canKeep_41 rfl rfl ?_
        refine Ev.iload_n (pc := 42) dX1_canKeep_42 rfl rfl ?_
        refine Ev.aload_n (pc := 43) dX1_canKeep_43 rfl rfl ?_
        refine Ev.cVi (pc := 44) (k := 23) (av := []) (rest := [vI a1, vR 23]) dX1_canKeep_44 ce_X1_today ml_X1_46 rfl sh_23 cl_X1 sh_sc (Nat.le_of_ble_eq_true rfl) (Nat.le_of_ble_eq_true rfl) (r_X1_today_23  _) ?_
        obtain ⟨x5, σ6, g7, h⟩ := bd_elim h
        refine Ev.cVi (pc := 47) (k := 23) (av := [vI a1, vI (p_X1_today_23 σ)]) (rest := []) dX1_canKeep_47 ce_X1_mayBeKeptOn ml_X1_97 rfl sh_23 cl_X1 sh_sc (Nat.le_of_ble_eq_true rfl) (Nat.le_of_ble_eq_true rfl) (r_X1_mayBeKeptOn_23 g7) ?_
        by_cases c8 : x5 = 0
        · replace h := (if_pos c8).symm.trans h
          refine Ev.if_eq_t (pc := 50) (tgt := 57) dX1_canKeep_50 rfl c8 ?_
          exact Ev.weak2 (lj_X1_canKeep_57 N _ _ _ h) (lsubN (lsubN (lsubN lsubE)))
        · replace h := (if_neg c8).symm.trans h
          refine Ev.if_eq_f (pc := 50) dX1_canKeep_50 ⟨57, rfl⟩ c8 ?_
          refine Ev.iconst (pc := 53) (v := 1) dX1_canKeep_53 ki_1 ?_
          refine Ev.goto (pc := 54) (tgt := 58) dX1_canKeep_54 rfl ?_
          obtain ⟨h1, h2⟩ := oeq h
          subst h1
          subst h2
          exact Ev.ret_i (pc := 58) dX1_canKeep_58 rfl nb_1
      · replace h := (if_neg c4).symm.trans h
        refine Ev.if_ne_t (pc := 38) (tgt := 57) dX1_canKeep_38 rfl c4 ?_
        exact Ev.weak2 (lj_X1_canKeep_57 N _ _ _ h) (lsubN (lsubN (lsubN lsubE)))
    · replace h := (if_neg c3).symm.trans h
      refine Ev.icmp_ne_t (pc := 30) (tgt := 57) dX1_canKeep_30 rfl c3 ?_
      exact Ev.weak2 (lj_X1_canKeep_57 N _ _ _ h) (lsubN (lsubN (lsubN lsubE)))
theorem r_X1_canKeep {N : Nat} {a1 : Int32} {σ : St} {v : Int32} {w : St} (h : o_X1_canKeep N a1 σ = some (v, w)) : Rn md_X1_canKeep 4 [vR 23, vI a1] SH σ (some (vI v), SH, w) := Rn.of ce_X1_canKeep.1 (Nat.le_of_ble_eq_true rfl) (e_X1_canKeep N _ _ _ _ h)
def o_X9_keep (N : Nat) (a1 : Int32) (σ : St) : Option (Int32 × St) := if (p_X5_hasPromise a1 σ) = 0 then (some ((-1000000001), σ)) else (bd (o_X1_canKeep N a1 σ) fun x2 σ3 => if x2 = 0 then (some ((-1000000003), σ3)) else (bt (t_X1_end_23 a1 1 (p_X1_today_23 σ3) σ3) fun σ6 => some ((at_ σ6 8 7 a1), σ6)))
theorem e_X9_keep (N : Nat) (a1 : Int32) (σ : St) (v : Int32) (w : St) (h : o_X9_keep N a1 σ = some (v, w)) : Ev md_X9_keep 5 0 (lvE [vR 0, vI a1] 2) [] SH σ (some (vI v), SH, w) := by
  show Ev md_X9_keep 5 0 [some (vR 0), some (vI a1)] [] SH σ (some (vI v), SH, w)
  unfold o_X9_keep at h
  refine Ev.aload_n (pc := 0) dX9_keep_0 rfl rfl ?_
  refine Ev.getR (pc := 1) dX9_keep_1 fl_X9_10 sh_0 rfl ?_
  refine Ev.iload_n (pc := 4) dX9_keep_4 rfl rfl ?_
  refine Ev.cVi (pc := 5) (k := 1) (av := [vI a1]) (rest := []) dX9_keep_5 ce_X5_hasPromise ml_X9_170 rfl sh_1 cl_X5 sh_sc (Nat.le_of_ble_eq_true rfl) (Nat.le_of_ble_eq_true rfl) (r_X5_hasPromise _ _) ?_
  by_cases c1 : (p_X5_hasPromise a1 σ) = 0
  · replace h := (if_pos c1).symm.trans h
    refine Ev.if_ne_f (pc := 8) dX9_keep_8 ⟨14, rfl⟩ c1 ?_
    refine Ev.ldc (pc := 11) dX9_keep_11 kc_X9_145 ?_
    obtain ⟨h1, h2⟩ := oeq h
    subst h1
    subst h2
    exact Ev.ret_i (pc := 13) dX9_keep_13 rfl rfl
  · replace h := (if_neg c1).symm.trans h
    refine Ev.if_ne_t (pc := 8) (tgt := 14) dX9_keep_8 rfl c1 ?_
    refine Ev.aload_n (pc := 14) dX9_keep_14 rfl rfl ?_
    refine Ev.getR (pc := 15) dX9_keep_15 fl_X9_31 sh_0 rfl ?_
    refine Ev.iload_n (pc := 18) dX9_keep_18 rfl rfl ?_
    obtain ⟨x2, σ3, g4, h⟩ := bd_elim h
    refine Ev.cVi (pc := 19) (k := 23) (av := [vI a1]) (rest := []) dX9_keep_19 ce_X1_canKeep ml_X9_214 rfl sh_23 cl_X1 sh_sc (Nat.le_of_ble_eq_true rfl) (Nat.le_of_ble_eq_true rfl) (r_X1_canKeep g4) ?_
    by_cases c5 : x2 = 0
    · replace h := (if_pos c5).symm.trans h
      refine Ev.if_ne_f (pc := 22) dX9_keep_22 ⟨28, rfl⟩ c5 ?_
      refine Ev.ldc (pc := 25) dX9_keep_25 kc_X9_207 ?_
      obtain ⟨h1, h2⟩ := oeq h
      subst h1
      subst h2
      exact Ev.ret_i (pc := 27) dX9_keep_27 rfl rfl
    · replace h := (if_neg c5).symm.trans h
      refine Ev.if_ne_t (pc := 22) (tgt := 28) dX9_keep_22 rfl c5 ?_
      refine Ev.aload_n (pc := 28) dX9_keep_28 rfl rfl ?_
      refine Ev.getR (pc := 29) dX9_keep_29 fl_X9_31 sh_0 rfl ?_
      refine Ev.iload_n (pc := 32) dX9_keep_32 rfl rfl ?_
      refine Ev.iconst (pc := 33) (v := 1) dX9_keep_33 ki_1 ?_
      refine Ev.aload_n (pc := 34) dX9_keep_34 rfl rfl ?_
      refine Ev.getR (pc := 35) dX9_keep_35 fl_X9_31 sh_0 rfl ?_
      refine Ev.cVi (pc := 38) (k := 23) (av := []) (rest := [vI 1, vI a1, vR 23]) dX9_keep_38 ce_X1_today ml_X9_125 rfl sh_23 cl_X1 sh_sc (Nat.le_of_ble_eq_true rfl) (Nat.le_of_ble_eq_true rfl) (r_X1_today_23  _) ?_
      refine Ev.cVv (pc := 41) (k := 23) (av := [vI a1, vI 1, vI (p_X1_today_23 σ3)]) (rest := []) dX9_keep_41 ce_X1_end ml_X9_217 rfl sh_23 cl_X1 sh_sc (Nat.le_of_ble_eq_true rfl) (Nat.le_of_ble_eq_true rfl) (r_X1_end_23 _ _ _ _) ?_
      refine Ev.nmS (fun σ6 e9 => ?_)
      replace h := bt_app h σ6 e9
      refine Ev.aload_n (pc := 44) dX9_keep_44 rfl rfl ?_
      refine Ev.getR (pc := 45) dX9_keep_45 fl_X9_10 sh_0 rfl ?_
      refine Ev.getR (pc := 48) dX9_keep_48 fl_X9_185 sh_1 rfl ?_
      refine Ev.iload_n (pc := 51) dX9_keep_51 rfl rfl ?_
      refine Ev.cTi (pc := 52) (av := [vR 8, vI a1]) (rest := []) dX9_keep_52 ce_X9_at ml_X9_160 rfl sh_sc (Nat.le_of_ble_eq_true rfl) (Nat.le_of_ble_eq_true rfl) (r_at sh_8 (by decide) _ _) ?_
      obtain ⟨h1, h2⟩ := oeq h
      subst h1
      subst h2
      exact Ev.ret_i (pc := 55) dX9_keep_55 rfl rfl
theorem r_X9_keep {N : Nat} {a1 : Int32} {σ : St} {v : Int32} {w : St} (h : o_X9_keep N a1 σ = some (v, w)) : Rn md_X9_keep 5 [vR 0, vI a1] SH σ (some (vI v), SH, w) := Rn.of ce_X9_keep.1 (Nat.le_of_ble_eq_true rfl) (e_X9_keep N _ _ _ _ h)
def j_X10_canKeep_77 (N : Nat)  (σ : St) : Option (Int32 × St) := some (0, σ)
def o_X10_canKeep (N : Nat) (a1 : Int32) (σ : St) : Option (Int32 × St) := ckA (14 + a1) 1360 (bt (σ 80 (14 + a1).toNatClampNeg) fun x2 => ckA a1 1360 (if (σ 80 a1.toNatClampNeg) = 0 then (bd (o_X10_isOnWay N x2 σ) fun x5 σ6 => if x5 = 0 then (ckA (28 + x2) 1360 (ckA a1 14 (if (σ6 80 (28 + x2).toNatClampNeg) = (σ6 87 a1.toNatClampNeg) then (ckA (21 + a1) 1360 (if (σ6 80 (21 + a1).toNatClampNeg) < 0 then (j_X10_canKeep_77 N σ6) else (bd (o_X10_ripe N 0 a1 σ6) fun x14 σ15 => if (σ15 80 (37 : Int32).toNatClampNeg) < x14 then (j_X10_canKeep_77 N σ15) else (some (1, σ15))))) else (j_X10_canKeep_77 N σ6)))) else (j_X10_canKeep_77 N σ6)) else (j_X10_canKeep_77 N σ)))
theorem lj_X10_canKeep_77 (N : Nat)  (σ : St) (v : Int32) (w : St) (h : j_X10_canKeep_77 N  σ = some (v, w)) : Ev md_X10_canKeep 3 77 [none, none, none] [] SH σ (some (vI v), SH, w) := by
  unfold j_X10_canKeep_77 at h
  refine Ev.iconst (pc := 77) (v := 0) dX10_canKeep_77 ki_0 ?_
  obtain ⟨h1, h2⟩ := oeq h
  subst h1
  subst h2
  exact Ev.ret_i (pc := 78) dX10_canKeep_78 rfl nb_0
theorem e_X10_canKeep (N : Nat) (a1 : Int32) (σ : St) (v : Int32) (w : St) (h : o_X10_canKeep N a1 σ = some (v, w)) : Ev md_X10_canKeep 3 0 (lvE [vR 79, vI a1] 3) [] SH σ (some (vI v), SH, w) := by
  show Ev md_X10_canKeep 3 0 [some (vR 79), some (vI a1), none] [] SH σ (some (vI v), SH, w)
  unfold o_X10_canKeep at h
  refine Ev.aload_n (pc := 0) dX10_canKeep_0 rfl rfl ?_
  refine Ev.getR (pc := 1) dX10_canKeep_1 fl_X10_7 sh_79 rfl ?_
  refine Ev.bipush (pc := 4) (v := 14) dX10_canKeep_4 kb_14 ?_
  refine Ev.iload_n (pc := 6) dX10_canKeep_6 rfl rfl ?_
  refine Ev.iadd (pc := 7) dX10_canKeep_7 ?_
  obtain ⟨c1, h⟩ := ckA_elim h
  refine Ev.iald (pc := 8) dX10_canKeep_8 sh_80 c1 ?_
  refine Ev.nmI (fun x2 e9 => ?_)
  replace h := bt_app h x2 e9
  refine Ev.istore_n (pc := 9) (lv' := [some (vR 79), some (vI a1), some (vI x2)]) dX10_canKeep_9 rfl (lt9 rfl) rfl rfl ?_
  refine Ev.aload_n (pc := 10) dX10_canKeep_10 rfl rfl ?_
  refine Ev.getR (pc := 11) dX10_canKeep_11 fl_X10_7 sh_79 rfl ?_
  refine Ev.iload_n (pc := 14) dX10_canKeep_14 rfl rfl ?_
  obtain ⟨c3, h⟩ := ckA_elim h
  refine Ev.iald (pc := 15) dX10_canKeep_15 sh_80 c3 ?_
  by_cases c4 : (σ 80 a1.toNatClampNeg) = 0
  · replace h := (if_pos c4).symm.trans h
    refine Ev.if_ne_f (pc := 16) dX10_canKeep_16 ⟨77, rfl⟩ c4 ?_
    refine Ev.aload_n (pc := 19) dX10_canKeep_19 rfl rfl ?_
    refine Ev.iload_n (pc := 20) dX10_canKeep_20 rfl rfl ?_
    obtain ⟨x5, σ6, g7, h⟩ := bd_elim h
    refine Ev.cVi (pc := 21) (k := 79) (av := [vI x2]) (rest := []) dX10_canKeep_21 ce_X10_isOnWay ml_X10_220 rfl sh_79 cl_X10 sh_sc (Nat.le_of_ble_eq_true rfl) (Nat.le_of_ble_eq_true rfl) (r_X10_isOnWay g7) ?_
    by_cases c8 : x5 = 0
    · replace h := (if_pos c8).symm.trans h
      refine Ev.if_ne_f (pc := 24) dX10_canKeep_24 ⟨77, rfl⟩ c8 ?_
      refine Ev.aload_n (pc := 27) dX10_canKeep_27 rfl rfl ?_
      refine Ev.getR (pc := 28) dX10_canKeep_28 fl_X10_7 sh_79 rfl ?_
      refine Ev.bipush (pc := 31) (v := 28) dX10_canKeep_31 kb_28 ?_
      refine Ev.iload_n (pc := 33) dX10_canKeep_33 rfl rfl ?_
      refine Ev.iadd (pc := 34) dX10_canKeep_34 ?_
      obtain ⟨c9, h⟩ := ckA_elim h
      refine Ev.iald (pc := 35) dX10_canKeep_35 sh_80 c9 ?_
      refine Ev.aload_n (pc := 36) dX10_canKeep_36 rfl rfl ?_
      refine Ev.getR (pc := 37) dX10_canKeep_37 fl_X10_32 sh_79 rfl ?_
      refine Ev.iload_n (pc := 40) dX10_canKeep_40 rfl rfl ?_
      obtain ⟨c10, h⟩ := ckA_elim h
      refine Ev.iald (pc := 41) dX10_canKeep_41 sh_87 c10 ?_
      by_cases c11 : (σ6 80 (28 + x2).toNatClampNeg) = (σ6 87 a1.toNatClampNeg)
      · replace h := (if_pos c11).symm.trans h
        refine Ev.icmp_ne_f (pc := 42) dX10_canKeep_42 ⟨77, rfl⟩ c11 ?_
        refine Ev.aload_n (pc := 45) dX10_canKeep_45 rfl rfl ?_
        refine Ev.getR (pc := 46) dX10_canKeep_46 fl_X10_7 sh_79 rfl ?_
        refine Ev.bipush (pc := 49) (v := 21) dX10_canKeep_49 kb_21 ?_
        refine Ev.iload_n (pc := 51) dX10_canKeep_51 rfl rfl ?_
        refine Ev.iadd (pc := 52) dX10_canKeep_52 ?_
        obtain ⟨c12, h⟩ := ckA_elim h
        refine Ev.iald (pc := 53) dX10_canKeep_53 sh_80 c12 ?_
        by_cases c13 : (σ6 80 (21 + a1).toNatClampNeg) < 0
        · replace h := (if_pos c13).symm.trans h
          refine Ev.if_lt_t (pc := 54) (tgt := 77) dX10_canKeep_54 rfl c13 ?_
          exact Ev.weak2 (lj_X10_canKeep_77 N _ _ _ h) (lsubN (lsubN (lsubN lsubE)))
        · replace h := (if_neg c13).symm.trans h
          refine Ev.if_lt_f (pc := 54) dX10_canKeep_54 ⟨77, rfl⟩ c13 ?_
          refine Ev.aload_n (pc := 57) dX10_canKeep_57 rfl rfl ?_
          refine Ev.iconst (pc := 58) (v := 0) dX10_canKeep_58 ki_0 ?_
          refine Ev.iload_n (pc := 59) dX10_canKeep_59 rfl rfl ?_
          obtain ⟨x14, σ15, g16, h⟩ := bd_elim h
          refine Ev.cVi (pc := 60) (k := 79) (av := [vI 0, vI a1]) (rest := []) dX10_canKeep_60 ce_X10_ripe ml_X10_215 rfl sh_79 cl_X10 sh_sc (Nat.le_of_ble_eq_true rfl) (Nat.le_of_ble_eq_true rfl) (r_X10_ripe g16) ?_
          refine Ev.aload_n (pc := 63) dX10_canKeep_63 rfl rfl ?_
          refine Ev.getR (pc := 64) dX10_canKeep_64 fl_X10_7 sh_79 rfl ?_
          refine Ev.bipush (pc := 67) (v := 37) dX10_canKeep_67 kb_37 ?_
          refine Ev.iald (pc := 69) dX10_canKeep_69 sh_80 in_37_1360 ?_
          by_cases c17 : (σ15 80 (37 : Int32).toNatClampNeg) < x14
          · replace h := (if_pos c17).symm.trans h
            refine Ev.icmp_gt_t (pc := 70) (tgt := 77) dX10_canKeep_70 rfl c17 ?_
            exact Ev.weak2 (lj_X10_canKeep_77 N _ _ _ h) (lsubN (lsubN (lsubN lsubE)))
          · replace h := (if_neg c17).symm.trans h
            refine Ev.icmp_gt_f (pc := 70) dX10_canKeep_70 ⟨77, rfl⟩ c17 ?_
            refine Ev.iconst (pc := 73) (v := 1) dX10_canKeep_73 ki_1 ?_
            refine Ev.goto (pc := 74) (tgt := 78) dX10_canKeep_74 rfl ?_
            obtain ⟨h1, h2⟩ := oeq h
            subst h1
            subst h2
            exact Ev.ret_i (pc := 78) dX10_canKeep_78 rfl nb_1
      · replace h := (if_neg c11).symm.trans h
        refine Ev.icmp_ne_t (pc := 42) (tgt := 77) dX10_canKeep_42 rfl c11 ?_
        exact Ev.weak2 (lj_X10_canKeep_77 N _ _ _ h) (lsubN (lsubN (lsubN lsubE)))
    · replace h := (if_neg c8).symm.trans h
      refine Ev.if_ne_t (pc := 24) (tgt := 77) dX10_canKeep_24 rfl c8 ?_
      exact Ev.weak2 (lj_X10_canKeep_77 N _ _ _ h) (lsubN (lsubN (lsubN lsubE)))
  · replace h := (if_neg c4).symm.trans h
    refine Ev.if_ne_t (pc := 16) (tgt := 77) dX10_canKeep_16 rfl c4 ?_
    exact Ev.weak2 (lj_X10_canKeep_77 N _ _ _ h) (lsubN (lsubN (lsubN lsubE)))
theorem r_X10_canKeep {N : Nat} {a1 : Int32} {σ : St} {v : Int32} {w : St} (h : o_X10_canKeep N a1 σ = some (v, w)) : Rn md_X10_canKeep 3 [vR 79, vI a1] SH σ (some (vI v), SH, w) := Rn.of ce_X10_canKeep.1 (Nat.le_of_ble_eq_true rfl) (e_X10_canKeep N _ _ _ _ h)
def j_X10_keepNow_70 (N : Nat) (K_25 : Int32 → Int32 → St → Option (Unit × St)) (v1 : Int32) (v2 : Int32) (s1 : Int32) (s2 : Int32) (σ : St) : Option (Unit × St) := ckA s1 1360 (bt (st σ 80 s1.toNatClampNeg s2) fun σ2 => bt (v2 + 1) fun x3 => K_25 v1 x3 σ2)
def l_X10_keepNow_25 (N : Nat) : Nat → Int32 → Int32 → St → Option (Unit × St)
  | 0, _, _, _ => none
  | n + 1, v1, v2, σ => if (σ 79 5) ≤ v2 then (some ((), σ)) else (ckA v2 14 (if (σ 91 v2.toNatClampNeg) = v1 then (j_X10_keepNow_70 N (l_X10_keepNow_25 N n) v1 v2 (21 + v2) (σ 80 (37 : Int32).toNatClampNeg) σ) else (ckA (21 + v2) 1360 (j_X10_keepNow_70 N (l_X10_keepNow_25 N n) v1 v2 (21 + v2) (σ 80 (21 + v2).toNatClampNeg) σ))))
def o_X10_keepNow (N : Nat) (a1 : Int32) (σ : St) : Option (Unit × St) := ckA a1 1360 (bt (st σ 80 a1.toNatClampNeg 1) fun σ2 => ckA (7 + a1) 1360 (bt (st σ2 80 (7 + a1).toNatClampNeg (σ2 80 (37 : Int32).toNatClampNeg)) fun σ4 => l_X10_keepNow_25 N N a1 0 σ4))
theorem lj_X10_keepNow_70 (N : Nat) (K_25 : Int32 → Int32 → St → Option (Unit × St)) (hK_25 : ∀ (v1 : Int32) (v2 : Int32) (σ : St) (v : Unit) (w : St), K_25 v1 v2 σ = some (v, w) → Ev md_X10_keepNow 0 25 [some (vR 79), some (vI v1), some (vI v2)] [] SH σ (none, SH, w)) (v1 : Int32) (v2 : Int32) (s1 : Int32) (s2 : Int32) (σ : St) (v : Unit) (w : St) (h : j_X10_keepNow_70 N K_25 v1 v2 s1 s2 σ = some (v, w)) : Ev md_X10_keepNow 0 70 [some (vR 79), some (vI v1), some (vI v2)] [vI s2, vI s1, vR 80] SH σ (none, SH, w) := by
  unfold j_X10_keepNow_70 at h
  obtain ⟨c1, h⟩ := ckA_elim h
  refine Ev.iast (pc := 70) dX10_keepNow_70 sh_80 c1 ?_
  refine Ev.nmS (fun σ2 e9 => ?_)
  replace h := bt_app h σ2 e9
  obtain ⟨x3, e_x3, h⟩ := bt_elim h
  refine Ev.iinc (pc := 71) (v := x3) (lv' := [some (vR 79), some (vI v1), some (vI x3)]) dX10_keepNow_71 rfl (by rw [ki_1, e_x3]) (lt9 rfl) rfl rfl ?_
  refine Ev.goto (pc := 74) (tgt := 25) dX10_keepNow_74 rfl ?_
  exact Ev.weak2 (hK_25 _ _ _ _ _ h) (lsubS (lsubS (lsubS lsubE)))
theorem ll_X10_keepNow_25 (N : Nat) : ∀ (n : Nat) (v1 : Int32) (v2 : Int32) (σ : St) (v : Unit) (w : St), l_X10_keepNow_25 N n v1 v2 σ = some (v, w) → Ev md_X10_keepNow 0 25 [some (vR 79), some (vI v1), some (vI v2)] [] SH σ (none, SH, w) := by
  intro n
  induction n with
  | zero =>
    intro v1 v2 σ v w h
    rw [l_X10_keepNow_25] at h
    cases h
  | succ n ih =>
    intro v1 v2 σ v w h
    rw [l_X10_keepNow_25] at h
    refine Ev.iload_n (pc := 25) dX10_keepNow_25 rfl rfl ?_
    refine Ev.aload_n (pc := 26) dX10_keepNow_26 rfl rfl ?_
    refine Ev.getI (pc := 27) dX10_keepNow_27 fl_X10_175 sh_79 rfl ?_
    by_cases c1 : (σ 79 5) ≤ v2
    · replace h := (if_pos c1).symm.trans h
      refine Ev.icmp_ge_t (pc := 30) (tgt := 77) dX10_keepNow_30 rfl c1 ?_
      obtain ⟨h1, h2⟩ := oeq h
      subst h1
      subst h2
      exact Ev.ret_v (pc := 77) dX10_keepNow_77 rfl
    · replace h := (if_neg c1).symm.trans h
      refine Ev.icmp_ge_f (pc := 30) dX10_keepNow_30 ⟨77, rfl⟩ c1 ?_
      refine Ev.aload_n (pc := 33) dX10_keepNow_33 rfl rfl ?_
      refine Ev.getR (pc := 34) dX10_keepNow_34 fl_X10_7 sh_79 rfl ?_
      refine Ev.bipush (pc := 37) (v := 21) dX10_keepNow_37 kb_21 ?_
      refine Ev.iload_n (pc := 39) dX10_keepNow_39 rfl rfl ?_
      refine Ev.iadd (pc := 40) dX10_keepNow_40 ?_
      refine Ev.aload_n (pc := 41) dX10_keepNow_41 rfl rfl ?_
      refine Ev.getR (pc := 42) dX10_keepNow_42 fl_X10_44 sh_79 rfl ?_
      refine Ev.iload_n (pc := 45) dX10_keepNow_45 rfl rfl ?_
      obtain ⟨c2, h⟩ := ckA_elim h
      refine Ev.iald (pc := 46) dX10_keepNow_46 sh_91 c2 ?_
      refine Ev.iload_n (pc := 47) dX10_keepNow_47 rfl rfl ?_
      by_cases c3 : (σ 91 v2.toNatClampNeg) = v1
      · replace h := (if_pos c3).symm.trans h
        refine Ev.icmp_ne_f (pc := 48) dX10_keepNow_48 ⟨61, rfl⟩ c3 ?_
        refine Ev.aload_n (pc := 51) dX10_keepNow_51 rfl rfl ?_
        refine Ev.getR (pc := 52) dX10_keepNow_52 fl_X10_7 sh_79 rfl ?_
        refine Ev.bipush (pc := 55) (v := 37) dX10_keepNow_55 kb_37 ?_
        refine Ev.iald (pc := 57) dX10_keepNow_57 sh_80 in_37_1360 ?_
        refine Ev.goto (pc := 58) (tgt := 70) dX10_keepNow_58 rfl ?_
        exact Ev.weak2 (lj_X10_keepNow_70 N (l_X10_keepNow_25 N n) ih _ _ _ _ _ _ _ h) (lsubS (lsubS (lsubS lsubE)))
      · replace h := (if_neg c3).symm.trans h
        refine Ev.icmp_ne_t (pc := 48) (tgt := 61) dX10_keepNow_48 rfl c3 ?_
        refine Ev.aload_n (pc := 61) dX10_keepNow_61 rfl rfl ?_
        refine Ev.getR (pc := 62) dX10_keepNow_62 fl_X10_7 sh_79 rfl ?_
        refine Ev.bipush (pc := 65) (v := 21) dX10_keepNow_65 kb_21 ?_
        refine Ev.iload_n (pc := 67) dX10_keepNow_67 rfl rfl ?_
        refine Ev.iadd (pc := 68) dX10_keepNow_68 ?_
        obtain ⟨c4, h⟩ := ckA_elim h
        refine Ev.iald (pc := 69) dX10_keepNow_69 sh_80 c4 ?_
        exact Ev.weak2 (lj_X10_keepNow_70 N (l_X10_keepNow_25 N n) ih _ _ _ _ _ _ _ h) (lsubS (lsubS (lsubS lsubE)))
theorem e_X10_keepNow (N : Nat) (a1 : Int32) (σ : St) (v : Unit) (w : St) (h : o_X10_keepNow N a1 σ = some (v, w)) : Ev md_X10_keepNow 0 0 (lvE [vR 79, vI a1] 3) [] SH σ (none, SH, w) := by
  show Ev md_X10_keepNow 0 0 [some (vR 79), some (vI a1), none] [] SH σ (none, SH, w)
  unfold o_X10_keepNow at h
  refine Ev.aload_n (pc := 0) dX10_keepNow_0 rfl rfl ?_
  refine Ev.getR (pc := 1) dX10_keepNow_1 fl_X10_7 sh_79 rfl ?_
  refine Ev.iload_n (pc := 4) dX10_keepNow_4 rfl rfl ?_
  refine Ev.iconst (pc := 5) (v := 1) dX10_keepNow_5 ki_1 ?_
  obtain ⟨c1, h⟩ := ckA_elim h
  refine Ev.iast (pc := 6) dX10_keepNow_6 sh_80 c1 ?_
  refine Ev.nmS (fun σ2 e9 => ?_)
  replace h := bt_app h σ2 e9
  refine Ev.aload_n (pc := 7) dX10_keepNow_7 rfl rfl ?_
  refine Ev.getR (pc := 8) dX10_keepNow_8 fl_X10_7 sh_79 rfl ?_
  refine Ev.bipush (pc := 11) (v := 7) dX10_keepNow_11 kb_7 ?_
  refine Ev.iload_n (pc := 13) dX10_keepNow_13 rfl rfl ?_
  refine Ev.iadd (pc := 14) dX10_keepNow_14 ?_
  refine Ev.aload_n (pc := 15) dX10_keepNow_15 rfl rfl ?_
  refine Ev.getR (pc := 16) dX10_keepNow_16 fl_X10_7 sh_79 rfl ?_
  refine Ev.bipush (pc := 19) (v := 37) dX10_keepNow_19 kb_37 ?_
  refine Ev.iald (pc := 21) dX10_keepNow_21 sh_80 in_37_1360 ?_
  obtain ⟨c3, h⟩ := ckA_elim h
  refine Ev.iast (pc := 22) dX10_keepNow_22 sh_80 c3 ?_
  refine Ev.nmS (fun σ4 e9 => ?_)
  replace h := bt_app h σ4 e9
  refine Ev.iconst (pc := 23) (v := 0) dX10_keepNow_23 ki_0 ?_
  refine Ev.istore_n (pc := 24) (lv' := [some (vR 79), some (vI a1), some (vI 0)]) dX10_keepNow_24 rfl (lt9 rfl) rfl rfl ?_
  exact Ev.weak2 (ll_X10_keepNow_25 N N _ _ _ _ _ h) (lsubS (lsubS (lsubS lsubE)))
theorem r_X10_keepNow {N : Nat} {a1 : Int32} {σ : St} {v : Unit} {w : St} (h : o_X10_keepNow N a1 σ = some (v, w)) : Rn md_X10_keepNow 0 [vR 79, vI a1] SH σ (none, SH, w) := Rn.of ce_X10_keepNow.1 (Nat.le_of_ble_eq_true rfl) (e_X10_keepNow N _ _ _ _ h)
def o_X10_keep (N : Nat) (a1 : Int32) (σ : St) : Option (Int32 × St) := bd (o_X10_isPromise N a1 σ) fun x1 σ2 => if x1 = 0 then (some ((-1000000001), σ2)) else (bd (o_X10_canKeep N a1 σ2) fun x5 σ6 => if x5 = 0 then (some ((-1000000003), σ6)) else (bd (o_X10_keepNow N a1 σ6) fun u9 σ10 => ckA a1 14 (some ((σ10 90 a1.toNatClampNeg), σ10))))
theorem e_X10_keep (N : Nat) (a1 : Int32) (σ : St) (v : Int32) (w : St) (h : o_X10_keep N a1 σ = some (v, w)) : Ev md_X10_keep 4 0 (lvE [vR 79, vI a1] 2) [] SH σ (some (vI v), SH, w) := by
  show Ev md_X10_keep 4 0 [some (vR 79), some (vI a1)] [] SH σ (some (vI v), SH, w)
  unfold o_X10_keep at h
  refine Ev.aload_n (pc := 0) dX10_keep_0 rfl rfl ?_
  refine Ev.iload_n (pc := 1) dX10_keep_1 rfl rfl ?_
  obtain ⟨x1, σ2, g3, h⟩ := bd_elim h
  refine Ev.cVi (pc := 2) (k := 79) (av := [vI a1]) (rest := []) dX10_keep_2 ce_X10_isPromise ml_X10_212 rfl sh_79 cl_X10 sh_sc (Nat.le_of_ble_eq_true rfl) (Nat.le_of_ble_eq_true rfl) (r_X10_isPromise g3) ?_
  by_cases c4 : x1 = 0
  · replace h := (if_pos c4).symm.trans h
    refine Ev.if_ne_f (pc := 5) dX10_keep_5 ⟨11, rfl⟩ c4 ?_
    refine Ev.ldc (pc := 8) dX10_keep_8 kc_X10_205 ?_
    obtain ⟨h1, h2⟩ := oeq h
    subst h1
    subst h2
    exact Ev.ret_i (pc := 10) dX10_keep_10 rfl rfl
  · replace h := (if_neg c4).symm.trans h
    refine Ev.if_ne_t (pc := 5) (tgt := 11) dX10_keep_5 rfl c4 ?_
    refine Ev.aload_n (pc := 11) dX10_keep_11 rfl rfl ?_
    refine Ev.iload_n (pc := 12) dX10_keep_12 rfl rfl ?_
    obtain ⟨x5, σ6, g7, h⟩ := bd_elim h
    refine Ev.cVi (pc := 13) (k := 79) (av := [vI a1]) (rest := []) dX10_keep_13 ce_X10_canKeep ml_X10_255 rfl sh_79 cl_X10 sh_sc (Nat.le_of_ble_eq_true rfl) (Nat.le_of_ble_eq_true rfl) (r_X10_canKeep g7) ?_
    by_cases c8 : x5 = 0
    · replace h := (if_pos c8).symm.trans h
      refine Ev.if_ne_f (pc := 16) dX10_keep_16 ⟨22, rfl⟩ c8 ?_
      refine Ev.ldc (pc := 19) dX10_keep_19 kc_X10_227 ?_
      obtain ⟨h1, h2⟩ := oeq h
      subst h1
      subst h2
      exact Ev.ret_i (pc := 21) dX10_keep_21 rfl rfl
    · replace h := (if_neg c8).symm.trans h
      refine Ev.if_ne_t (pc := 16) (tgt := 22) dX10_keep_16 rfl c8 ?_
      refine Ev.aload_n (pc := 22) dX10_keep_22 rfl rfl ?_
      refine Ev.iload_n (pc := 23) dX10_keep_23 rfl rfl ?_
      obtain ⟨u9, σ10, g11, h⟩ := bd_elim h
      refine Ev.cVv (pc := 24) (k := 79) (av := [vI a1]) (rest := []) dX10_keep_24 ce_X10_keepNow ml_X10_258 rfl sh_79 cl_X10 sh_sc (Nat.le_of_ble_eq_true rfl) (Nat.le_of_ble_eq_true rfl) (r_X10_keepNow g11) ?_
      refine Ev.aload_n (pc := 27) dX10_keep_27 rfl rfl ?_
      refine Ev.getR (pc := 28) dX10_keep_28 fl_X10_41 sh_79 rfl ?_
      refine Ev.iload_n (pc := 31) dX10_keep_31 rfl rfl ?_
      obtain ⟨c12, h⟩ := ckA_elim h
      refine Ev.iald (pc := 32) dX10_keep_32 sh_90 c12 ?_
      obtain ⟨h1, h2⟩ := oeq h
      subst h1
      subst h2
      exact Ev.ret_i (pc := 33) dX10_keep_33 rfl rfl
theorem r_X10_keep {N : Nat} {a1 : Int32} {σ : St} {v : Int32} {w : St} (h : o_X10_keep N a1 σ = some (v, w)) : Rn md_X10_keep 4 [vR 79, vI a1] SH σ (some (vI v), SH, w) := Rn.of ce_X10_keep.1 (Nat.le_of_ble_eq_true rfl) (e_X10_keep N _ _ _ _ h)
def j_X1_isRipe_23 (N : Nat)  (σ : St) : Option (Int32 × St) := some (0, σ)
def o_X1_isRipe (N : Nat) (a1 : Int32) (σ : St) : Option (Int32 × St) := bd (o_X1_ripeOn_23 N a1 σ) fun x1 σ2 => if x1 = (-1) then (j_X1_isRipe_23 N σ2) else (if (p_X1_today_23 σ2) < x1 then (j_X1_isRipe_23 N σ2) else (some (1, σ2)))
theorem lj_X1_isRipe_23 (N : Nat)  (σ : St) (v : Int32) (w : St) (h : j_X1_isRipe_23 N  σ = some (v, w)) : Ev md_X1_isRipe 3 23 [none, none, none] [] SH σ (some (vI v), SH, w) := by
  unfold j_X1_isRipe_23 at h
  refine Ev.iconst (pc := 23) (v := 0) dX1_isRipe_23 ki_0 ?_
  obtain ⟨h1, h2⟩ := oeq h
  subst h1
  subst h2
  exact Ev.ret_i (pc := 24) dX1_isRipe_24 rfl nb_0
theorem e_X1_isRipe (N : Nat) (a1 : Int32) (σ : St) (v : Int32) (w : St) (h : o_X1_isRipe N a1 σ = some (v, w)) : Ev md_X1_isRipe 3 0 (lvE [vR 23, vI a1] 3) [] SH σ (some (vI v), SH, w) := by
  show Ev md_X1_isRipe 3 0 [some (vR 23), some (vI a1), none] [] SH σ (some (vI v), SH, w)
  unfold o_X1_isRipe at h
  refine Ev.aload_n (pc := 0) dX1_isRipe_0 rfl rfl ?_
  refine Ev.iload_n (pc := 1) dX1_isRipe_1 rfl rfl ?_
  obtain ⟨x1, σ2, g3, h⟩ := bd_elim h
  refine Ev.cVi (pc := 2) (k := 23) (av := [vI a1]) (rest := []) dX1_isRipe_2 ce_X1_ripeOn ml_X1_79 rfl sh_23 cl_X1 sh_sc (Nat.le_of_ble_eq_true rfl) (Nat.le_of_ble_eq_true rfl) (r_X1_ripeOn_23 g3) ?_
  refine Ev.istore_n (pc := 5) (lv' := [some (vR 23), some (vI a1), some (vI x1)]) dX1_isRipe_5 rfl (lt9 rfl) rfl rfl ?_
  refine Ev.iload_n (pc := 6) dX1_isRipe_6 rfl rfl ?_
  refine Ev.iconst (pc := 7) (v := (-1)) dX1_isRipe_7 ki_m1 ?_
  by_cases c4 : x1 = (-1)
  · replace h := (if_pos c4).symm.trans h
    refine Ev.icmp_eq_t (pc := 8) (tgt := 23) dX1_isRipe_8 rfl c4 ?_
    exact Ev.weak2 (lj_X1_isRipe_23 N _ _ _ h) (lsubN (lsubN (lsubN lsubE)))
  · replace h := (if_neg c4).symm.trans h
    refine Ev.icmp_eq_f (pc := 8) dX1_isRipe_8 ⟨23, rfl⟩ c4 ?_
    refine Ev.aload_n (pc := 11) dX1_isRipe_11 rfl rfl ?_
    refine Ev.cVi (pc := 12) (k := 23) (av := []) (rest := []) dX1_isRipe_12 ce_X1_today ml_X1_46 rfl sh_23 cl_X1 sh_sc (Nat.le_of_ble_eq_true rfl) (Nat.le_of_ble_eq_true rfl) (r_X1_today_23  _) ?_
    refine Ev.iload_n (pc := 15) dX1_isRipe_15 rfl rfl ?_
    by_cases c5 : (p_X1_today_23 σ2) < x1
    · replace h := (if_pos c5).symm.trans h
      refine Ev.icmp_lt_t (pc := 16) (tgt := 23) dX1_isRipe_16 rfl c5 ?_
      exact Ev.weak2 (lj_X1_isRipe_23 N _ _ _ h) (lsubN (lsubN (lsubN lsubE)))
    · replace h := (if_neg c5).symm.trans h
      refine Ev.icmp_lt_f (pc := 16) dX1_isRipe_16 ⟨23, rfl⟩ c5 ?_
      refine Ev.iconst (pc := 19) (v := 1) dX1_isRipe_19 ki_1 ?_
      refine Ev.goto (pc := 20) (tgt := 24) dX1_isRipe_20 rfl ?_
      obtain ⟨h1, h2⟩ := oeq h
      subst h1
      subst h2
      exact Ev.ret_i (pc := 24) dX1_isRipe_24 rfl nb_1
theorem r_X1_isRipe {N : Nat} {a1 : Int32} {σ : St} {v : Int32} {w : St} (h : o_X1_isRipe N a1 σ = some (v, w)) : Rn md_X1_isRipe 3 [vR 23, vI a1] SH σ (some (vI v), SH, w) := Rn.of ce_X1_isRipe.1 (Nat.le_of_ble_eq_true rfl) (e_X1_isRipe N _ _ _ _ h)
def o_X9_takeDown (N : Nat) (a1 : Int32) (σ : St) : Option (Int32 × St) := if (p_X5_hasPromise a1 σ) = 0 then (some ((-1000000001), σ)) else (if (p_X1_isOpen_23 a1 σ) = 0 then (some ((-1000000003), σ)) else (bd (o_X1_isRipe N a1 σ) fun x3 σ4 => if x3 = 0 then (bt ((at_ σ4 8 7 a1) / 2) fun x7 => bd (o_X1_lose N a1 3 x7 σ4) fun u8 σ9 => some (x7, σ9)) else (some ((-1000000003), σ4))))
theorem e_X9_takeDown (N : Nat) (a1 : Int32) (σ : St) (v : Int32) (w : St) (h : o_X9_takeDown N a1 σ = some (v, w)) : Ev md_X9_takeDown 4 0 (lvE [vR 0, vI a1] 3) [] SH σ (some (vI v), SH, w) := by
  show Ev md_X9_takeDown 4 0 [some (vR 0), some (vI a1), none] [] SH σ (some (vI v), SH, w)
  unfold o_X9_takeDown at h
  refine Ev.aload_n (pc := 0) dX9_takeDown_0 rfl rfl ?_
  refine Ev.getR (pc := 1) dX9_takeDown_1 fl_X9_10 sh_0 rfl ?_
  refine Ev.iload_n (pc := 4) dX9_takeDown_4 rfl rfl ?_
  refine Ev.cVi (pc := 5) (k := 1) (av := [vI a1]) (rest := []) dX9_takeDown_5 ce_X5_hasPromise ml_X9_170 rfl sh_1 cl_X5 sh_sc (Nat.le_of_ble_eq_true rfl) (Nat.le_of_ble_eq_true rfl) (r_X5_hasPromise _ _) ?_
  by_cases c1 : (p_X5_hasPromise a1 σ) = 0
  · replace h := (if_pos c1).symm.trans h
    refine Ev.if_ne_f (pc := 8) dX9_takeDown_8 ⟨14, rfl⟩ c1 ?_
    refine Ev.ldc (pc := 11) dX9_takeDown_11 kc_X9_145 ?_
    obtain ⟨h1, h2⟩ := oeq h
    subst h1
    subst h2
    exact Ev.ret_i (pc := 13) dX9_takeDown_13 rfl rfl
  · replace h := (if_neg c1).symm.trans h
    refine Ev.if_ne_t (pc := 8) (tgt := 14) dX9_takeDown_8 rfl c1 ?_
    refine Ev.aload_n (pc := 14) dX9_takeDown_14 rfl rfl ?_
    refine Ev.getR (pc := 15) dX9_takeDown_15 fl_X9_31 sh_0 rfl ?_
    refine Ev.iload_n (pc := 18) dX9_takeDown_18 rfl rfl ?_
    refine Ev.cVi (pc := 19) (k := 23) (av := [vI a1]) (rest := []) dX9_takeDown_19 ce_X1_isOpen ml_X9_221 rfl sh_23 cl_X1 sh_sc (Nat.le_of_ble_eq_true rfl) (Nat.le_of_ble_eq_true rfl) (r_X1_isOpen_23 _ _) ?_
    by_cases c2 : (p_X1_isOpen_23 a1 σ) = 0
    · replace h := (if_pos c2).symm.trans h
      refine Ev.if_eq_t (pc := 22) (tgt := 36) dX9_takeDown_22 rfl c2 ?_
      refine Ev.ldc (pc := 36) dX9_takeDown_36 kc_X9_207 ?_
      obtain ⟨h1, h2⟩ := oeq h
      subst h1
      subst h2
      exact Ev.ret_i (pc := 38) dX9_takeDown_38 rfl rfl
    · replace h := (if_neg c2).symm.trans h
      refine Ev.if_eq_f (pc := 22) dX9_takeDown_22 ⟨36, rfl⟩ c2 ?_
      refine Ev.aload_n (pc := 25) dX9_takeDown_25 rfl rfl ?_
      refine Ev.getR (pc := 26) dX9_takeDown_26 fl_X9_31 sh_0 rfl ?_
      refine Ev.iload_n (pc := 29) dX9_takeDown_29 rfl rfl ?_
      obtain ⟨x3, σ4, g5, h⟩ := bd_elim h
      refine Ev.cVi (pc := 30) (k := 23) (av := [vI a1]) (rest := []) dX9_takeDown_30 ce_X1_isRipe ml_X9_224 rfl sh_23 cl_X1 sh_sc (Nat.le_of_ble_eq_true rfl) (Nat.le_of_ble_eq_true rfl) (r_X1_isRipe g5) ?_
      by_cases c6 : x3 = 0
      · replace h := (if_pos c6).symm.trans h
        refine Ev.if_eq_t (pc := 33) (tgt := 39) dX9_takeDown_33 rfl c6 ?_
        refine Ev.aload_n (pc := 39) dX9_takeDown_39 rfl rfl ?_
        refine Ev.getR (pc := 40) dX9_takeDown_40 fl_X9_10 sh_0 rfl ?_
        refine Ev.getR (pc := 43) dX9_takeDown_43 fl_X9_185 sh_1 rfl ?_
        refine Ev.iload_n (pc := 46) dX9_takeDown_46 rfl rfl ?_
        refine Ev.cTi (pc := 47) (av := [vR 8, vI a1]) (rest := []) dX9_takeDown_47 ce_X9_at ml_X9_160 rfl sh_sc (Nat.le_of_ble_eq_true rfl) (Nat.le_of_ble_eq_true rfl) (r_at sh_8 (by decide) _ _) ?_
        refine Ev.iconst (pc := 50) (v := 2) dX9_takeDown_50 ki_2 ?_
        refine Ev.idiv (pc := 51) dX9_takeDown_51 (by decide) ?_
        refine Ev.nmI (fun x7 e9 => ?_)
        replace h := bt_app h x7 e9
        refine Ev.istore_n (pc := 52) (lv' := [some (vR 0), some (vI a1), some (vI x7)]) dX9_takeDown_52 rfl (lt9 rfl) rfl rfl ?_
        refine Ev.aload_n (pc := 53) dX9_takeDown_53 rfl rfl ?_
        refine Ev.getR (pc := 54) dX9_takeDown_54 fl_X9_31 sh_0 rfl ?_
        refine Ev.iload_n (pc := 57) dX9_takeDown_57 rfl rfl ?_
        refine Ev.iconst (pc := 58) (v := 3) dX9_takeDown_58 ki_3 ?_
        refine Ev.iload_n (pc := 59) dX9_takeDown_59 rfl rfl ?_
        obtain ⟨u8, σ9, g10, h⟩ := bd_elim h
        refine Ev.cVv (pc := 60) (k := 23) (av := [vI a1, vI 3, vI x7]) (rest := []) dX9_takeDown_60 ce_X1_lose ml_X9_227 rfl sh_23 cl_X1 sh_sc (Nat.le_of_ble_eq_true rfl) (Nat.le_of_ble_eq_true rfl) (r_X1_lose g10) ?_
        refine Ev.iload_n (pc := 63) dX9_takeDown_63 rfl rfl ?_
        obtain ⟨h1, h2⟩ := oeq h
        subst h1
        subst h2
        exact Ev.ret_i (pc := 64) dX9_takeDown_64 rfl rfl
      · replace h := (if_neg c6).symm.trans h
        refine Ev.if_eq_f (pc := 33) dX9_takeDown_33 ⟨39, rfl⟩ c6 ?_
        refine Ev.ldc (pc := 36) dX9_takeDown_36 kc_X9_207 ?_
        obtain ⟨h1, h2⟩ := oeq h
        subst h1
        subst h2
        exact Ev.ret_i (pc := 38) dX9_takeDown_38 rfl rfl
theorem r_X9_takeDown {N : Nat} {a1 : Int32} {σ : St} {v : Int32} {w : St} (h : o_X9_takeDown N a1 σ = some (v, w)) : Rn md_X9_takeDown 4 [vR 0, vI a1] SH σ (some (vI v), SH, w) := Rn.of ce_X9_takeDown.1 (Nat.le_of_ble_eq_true rfl) (e_X9_takeDown N _ _ _ _ h)
def j_X10_takeDown_51 (N : Nat) (v1 : Int32) (σ : St) : Option (Int32 × St) := ckA v1 1360 (bt (st σ 80 v1.toNatClampNeg 3) fun σ2 => ckA (7 + v1) 1360 (bt (st σ2 80 (7 + v1).toNatClampNeg (σ2 80 (37 : Int32).toNatClampNeg)) fun σ4 => ckA v1 14 (bd (o_X10_fallOn N v1 ((σ4 90 v1.toNatClampNeg) / 2) σ4) fun u6 σ7 => bd (o_X10_takeWith N v1 σ7) fun u9 σ10 => ckA v1 14 (some (((σ10 90 v1.toNatClampNeg) / 2), σ10)))))
def o_X10_takeDown (N : Nat) (a1 : Int32) (σ : St) : Option (Int32 × St) := bd (o_X10_isPromise N a1 σ) fun x1 σ2 => if x1 = 0 then (some ((-1000000001), σ2)) else (ckA a1 1360 (if (σ2 80 a1.toNatClampNeg) = 0 then (ckA (21 + a1) 1360 (if (σ2 80 (21 + a1).toNatClampNeg) < 0 then (j_X10_takeDown_51 N a1 σ2) else (bd (o_X10_ripe N 0 a1 σ2) fun x9 σ10 => if (σ10 80 (37 : Int32).toNatClampNeg) < x9 then (j_X10_takeDown_51 N a1 σ10) else (some ((-1000000003), σ10))))) else (some ((-1000000003), σ2))))
theorem lj_X10_takeDown_51 (N : Nat) (v1 : Int32) (σ : St) (v : Int32) (w : St) (h : j_X10_takeDown_51 N v1 σ = some (v, w)) : Ev md_X10_takeDown 3 51 [some (vR 79), some (vI v1)] [] SH σ (some (vI v), SH, w) := by
  unfold j_X10_takeDown_51 at h
  refine Ev.aload_n (pc := 51) dX10_takeDown_51 rfl rfl ?_
  refine Ev.getR (pc := 52) dX10_takeDown_52 fl_X10_7 sh_79 rfl ?_
  refine Ev.iload_n (pc := 55) dX10_takeDown_55 rfl rfl ?_
  refine Ev.iconst (pc := 56) (v := 3) dX10_takeDown_56 ki_3 ?_
  obtain ⟨c1, h⟩ := ckA_elim h
  refine Ev.iast (pc := 57) dX10_takeDown_57 sh_80 c1 ?_
  refine Ev.nmS (fun σ2 e9 => ?_)
  replace h := bt_app h σ2 e9
  refine Ev.aload_n (pc := 58) dX10_takeDown_58 rfl rfl ?_
  refine Ev.getR (pc := 59) dX10_takeDown_59 fl_X10_7 sh_79 rfl ?_
  refine Ev.bipush (pc := 62) (v := 7) dX10_takeDown_62 kb_7 ?_
  refine Ev.iload_n (pc := 64) dX10_takeDown_64 rfl rfl ?_
  refine Ev.iadd (pc := 65) dX10_takeDown_65 ?_
  refine Ev.aload_n (pc := 66) dX10_takeDown_66 rfl rfl ?_
  refine Ev.getR (pc := 67) dX10_takeDown_67 fl_X10_7 sh_79 rfl ?_
  refine Ev.bipush (pc := 70) (v := 37) dX10_takeDown_70 kb_37 ?_
  refine Ev.iald (pc := 72) dX10_takeDown_72 sh_80 in_37_1360 ?_
  obtain ⟨c3, h⟩ := ckA_elim h
  refine Ev.iast (pc := 73) dX10_takeDown_73 sh_80 c3 ?_
  refine Ev.nmS (fun σ4 e9 => ?_)
  replace h := bt_app h σ4 e9
  refine Ev.aload_n (pc := 74) dX10_takeDown_74 rfl rfl ?_
  refine Ev.iload_n (pc := 75) dX10_takeDown_75 rfl rfl ?_
  refine Ev.aload_n (pc := 76) dX10_takeDown_76 rfl rfl ?_
  refine Ev.getR (pc := 77) dX10_takeDown_77 fl_X10_41 sh_79 rfl ?_
  refine Ev.iload_n (pc := 80) dX10_takeDown_80 rfl rfl ?_
  obtain ⟨c5, h⟩ := ckA_elim h
  refine Ev.iald (pc := 81) dX10_takeDown_81 sh_90 c5 ?_
  refine Ev.iconst (pc := 82) (v := 2) dX10_takeDown_82 ki_2 ?_
  refine Ev.idiv (pc := 83) dX10_takeDown_83 (by decide) ?_
  obtain ⟨u6, σ7, g8, h⟩ := bd_elim h
  refine Ev.cVv (pc := 84) (k := 79) (av := [vI v1, vI ((σ4 90 v1.toNatClampNeg) / 2)]) (rest := []) dX10_takeDown_84 ce_X10_fallOn ml_X10_241 rfl sh_79 cl_X10 sh_sc (Nat.le_of_ble_eq_true rfl) (Nat.le_of_ble_eq_true rfl) (r_X10_fallOn g8) ?_
  refine Ev.aload_n (pc := 87) dX10_takeDown_87 rfl rfl ?_
  refine Ev.iload_n (pc := 88) dX10_takeDown_88 rfl rfl ?_
  obtain ⟨u9, σ10, g11, h⟩ := bd_elim h
  refine Ev.cVv (pc := 89) (k := 79) (av := [vI v1]) (rest := []) dX10_takeDown_89 ce_X10_takeWith ml_X10_244 rfl sh_79 cl_X10 sh_sc (Nat.le_of_ble_eq_true rfl) (Nat.le_of_ble_eq_true rfl) (r_X10_takeWith g11) ?_
  refine Ev.aload_n (pc := 92) dX10_takeDown_92 rfl rfl ?_
  refine Ev.getR (pc := 93) dX10_takeDown_93 fl_X10_41 sh_79 rfl ?_
  refine Ev.iload_n (pc := 96) dX10_takeDown_96 rfl rfl ?_
  obtain ⟨c12, h⟩ := ckA_elim h
  refine Ev.iald (pc := 97) dX10_takeDown_97 sh_90 c12 ?_
  refine Ev.iconst (pc := 98) (v := 2) dX10_takeDown_98 ki_2 ?_
  refine Ev.idiv (pc := 99) dX10_takeDown_99 (by decide) ?_
  obtain ⟨h1, h2⟩ := oeq h
  subst h1
  subst h2
  exact Ev.ret_i (pc := 100) dX10_takeDown_100 rfl rfl
theorem e_X10_takeDown (N : Nat) (a1 : Int32) (σ : St) (v : Int32) (w : St) (h : o_X10_takeDown N a1 σ = some (v, w)) : Ev md_X10_takeDown 3 0 (lvE [vR 79, vI a1] 2) [] SH σ (some (vI v), SH, w) := by
  show Ev md_X10_takeDown 3 0 [some (vR 79), some (vI a1)] [] SH σ (some (vI v), SH, w)
  unfold o_X10_takeDown at h
  refine Ev.aload_n (pc := 0) dX10_takeDown_0 rfl rfl ?_
  refine Ev.iload_n (pc := 1) dX10_takeDown_1 rfl rfl ?_
  obtain ⟨x1, σ2, g3, h⟩ := bd_elim h
  refine Ev.cVi (pc := 2) (k := 79) (av := [vI a1]) (rest := []) dX10_takeDown_2 ce_X10_isPromise ml_X10_212 rfl sh_79 cl_X10 sh_sc (Nat.le_of_ble_eq_true rfl) (Nat.le_of_ble_eq_true rfl) (r_X10_isPromise g3) ?_
  by_cases c4 : x1 = 0
  · replace h := (if_pos c4).symm.trans h
    refine Ev.if_ne_f (pc := 5) dX10_takeDown_5 ⟨11, rfl⟩ c4 ?_
    refine Ev.ldc (pc := 8) dX10_takeDown_8 kc_X10_205 ?_
    obtain ⟨h1, h2⟩ := oeq h
    subst h1
    subst h2
    exact Ev.ret_i (pc := 10) dX10_takeDown_10 rfl rfl
  · replace h := (if_neg c4).symm.trans h
    refine Ev.if_ne_t (pc := 5) (tgt := 11) dX10_takeDown_5 rfl c4 ?_
    refine Ev.aload_n (pc := 11) dX10_takeDown_11 rfl rfl ?_
    refine Ev.getR (pc := 12) dX10_takeDown_12 fl_X10_7 sh_79 rfl ?_
    refine Ev.iload_n (pc := 15) dX10_takeDown_15 rfl rfl ?_
    obtain ⟨c5, h⟩ := ckA_elim h
    refine Ev.iald (pc := 16) dX10_takeDown_16 sh_80 c5 ?_
    by_cases c6 : (σ2 80 a1.toNatClampNeg) = 0
    · replace h := (if_pos c6).symm.trans h
      refine Ev.if_ne_f (pc := 17) dX10_takeDown_17 ⟨48, rfl⟩ c6 ?_
      refine Ev.aload_n (pc := 20) dX10_takeDown_20 rfl rfl ?_
      refine Ev.getR (pc := 21) dX10_takeDown_21 fl_X10_7 sh_79 rfl ?_
      refine Ev.bipush (pc := 24) (v := 21) dX10_takeDown_24 kb_21 ?_
      refine Ev.iload_n (pc := 26) dX10_takeDown_26 rfl rfl ?_
      refine Ev.iadd (pc := 27) dX10_takeDown_27 ?_
      obtain ⟨c7, h⟩ := ckA_elim h
      refine Ev.iald (pc := 28) dX10_takeDown_28 sh_80 c7 ?_
      by_cases c8 : (σ2 80 (21 + a1).toNatClampNeg) < 0
      · replace h := (if_pos c8).symm.trans h
        refine Ev.if_lt_t (pc := 29) (tgt := 51) dX10_takeDown_29 rfl c8 ?_
        exact Ev.weak2 (lj_X10_takeDown_51 N _ _ _ _ h) (lsubS (lsubS lsubE))
      · replace h := (if_neg c8).symm.trans h
        refine Ev.if_lt_f (pc := 29) dX10_takeDown_29 ⟨51, rfl⟩ c8 ?_
        refine Ev.aload_n (pc := 32) dX10_takeDown_32 rfl rfl ?_
        refine Ev.iconst (pc := 33) (v := 0) dX10_takeDown_33 ki_0 ?_
        refine Ev.iload_n (pc := 34) dX10_takeDown_34 rfl rfl ?_
        obtain ⟨x9, σ10, g11, h⟩ := bd_elim h
        refine Ev.cVi (pc := 35) (k := 79) (av := [vI 0, vI a1]) (rest := []) dX10_takeDown_35 ce_X10_ripe ml_X10_215 rfl sh_79 cl_X10 sh_sc (Nat.le_of_ble_eq_true rfl) (Nat.le_of_ble_eq_true rfl) (r_X10_ripe g11) ?_
        refine Ev.aload_n (pc := 38) dX10_takeDown_38 rfl rfl ?_
        refine Ev.getR (pc := 39) dX10_takeDown_39 fl_X10_7 sh_79 rfl ?_
        refine Ev.bipush (pc := 42) (v := 37) dX10_takeDown_42 kb_37 ?_
        refine Ev.iald (pc := 44) dX10_takeDown_44 sh_80 in_37_1360 ?_
        by_cases c12 : (σ10 80 (37 : Int32).toNatClampNeg) < x9
        · replace h := (if_pos c12).symm.trans h
          refine Ev.icmp_gt_t (pc := 45) (tgt := 51) dX10_takeDown_45 rfl c12 ?_
          exact Ev.weak2 (lj_X10_takeDown_51 N _ _ _ _ h) (lsubS (lsubS lsubE))
        · replace h := (if_neg c12).symm.trans h
          refine Ev.icmp_gt_f (pc := 45) dX10_takeDown_45 ⟨51, rfl⟩ c12 ?_
          refine Ev.ldc (pc := 48) dX10_takeDown_48 kc_X10_227 ?_
          obtain ⟨h1, h2⟩ := oeq h
          subst h1
          subst h2
          exact Ev.ret_i (pc := 50) dX10_takeDown_50 rfl rfl
    · replace h := (if_neg c6).symm.trans h
      refine Ev.if_ne_t (pc := 17) (tgt := 48) dX10_takeDown_17 rfl c6 ?_
      refine Ev.ldc (pc := 48) dX10_takeDown_48 kc_X10_227 ?_
      obtain ⟨h1, h2⟩ := oeq h
      subst h1
      subst h2
      exact Ev.ret_i (pc := 50) dX10_takeDown_50 rfl rfl
theorem r_X10_takeDown {N : Nat} {a1 : Int32} {σ : St} {v : Int32} {w : St} (h : o_X10_takeDown N a1 σ = some (v, w)) : Rn md_X10_takeDown 3 [vR 79, vI a1] SH σ (some (vI v), SH, w) := Rn.of ce_X10_takeDown.1 (Nat.le_of_ble_eq_true rfl) (e_X10_takeDown N _ _ _ _ h)
def t_X1_exchange (a1 : Int32) (a2 : Int32) (σ : St) : St := bt (p_X1_holderOf_23 a1 σ) fun x1 => bt (put_ σ 24 31 (15 + a1) (p_X1_holderOf_23 a2 σ)) fun σ2 => bt (put_ σ2 24 31 (15 + a2) x1) fun σ3 => σ3
theorem e_X1_exchange (a1 : Int32) (a2 : Int32) (σ : St) (q : St) (h : t_X1_exchange a1 a2 σ = q) : Ev md_X1_exchange 2 0 (lvE [vR 23, vI a1, vI a2] 4) [] SH σ (none, SH, q) := by
  show Ev md_X1_exchange 2 0 [some (vR 23), some (vI a1), some (vI a2), none] [] SH σ (none, SH, q)
  unfold t_X1_exchange at h
  refine Ev.aload_n (pc := 0) dX1_exchange_0 rfl rfl ?_
  refine Ev.iload_n (pc := 1) dX1_exchange_1 rfl rfl ?_
  refine Ev.cVi (pc := 2) (k := 23) (av := [vI a1]) (rest := []) dX1_exchange_2 ce_X1_holderOf ml_X1_54 rfl sh_23 cl_X1 sh_sc (Nat.le_of_ble_eq_true rfl) (Nat.le_of_ble_eq_true rfl) (r_X1_holderOf_23 _ _) ?_
  refine Ev.nmI (fun x1 e9 => ?_)
  replace h := bt_app h x1 e9
  refine Ev.istore_n (pc := 5) (lv' := [some (vR 23), some (vI a1), some (vI a2), some (vI x1)]) dX1_exchange_5 rfl (lt9 rfl) rfl rfl ?_
  refine Ev.aload_n (pc := 6) dX1_exchange_6 rfl rfl ?_
  refine Ev.getR (pc := 7) dX1_exchange_7 fl_X1_11 sh_23 rfl ?_
  refine Ev.bipush (pc := 10) (v := 15) dX1_exchange_10 kb_15 ?_
  refine Ev.iload_n (pc := 12) dX1_exchange_12 rfl rfl ?_
  refine Ev.iadd (pc := 13) dX1_exchange_13 ?_
  refine Ev.aload_n (pc := 14) dX1_exchange_14 rfl rfl ?_
  refine Ev.iload_n (pc := 15) dX1_exchange_15 rfl rfl ?_
  refine Ev.cVi (pc := 16) (k := 23) (av := [vI a2]) (rest := [vI (15 + a1), vR 24]) dX1_exchange_16 ce_X1_holderOf ml_X1_54 rfl sh_23 cl_X1 sh_sc (Nat.le_of_ble_eq_true rfl) (Nat.le_of_ble_eq_true rfl) (r_X1_holderOf_23 _ _) ?_
  refine Ev.cTv (pc := 19) (av := [vR 24, vI (15 + a1), vI (p_X1_holderOf_23 a2 σ)]) (rest := []) dX1_exchange_19 ce_X9_put ml_X1_19 rfl sh_sc (Nat.le_of_ble_eq_true rfl) (Nat.le_of_ble_eq_true rfl) (r_put sh_24 (by decide) _ _ _) ?_
  refine Ev.nmS (fun σ2 e9 => ?_)
  replace h := bt_app h σ2 e9
  refine Ev.aload_n (pc := 22) dX1_exchange_22 rfl rfl ?_
  refine Ev.getR (pc := 23) dX1_exchange_23 fl_X1_11 sh_23 rfl ?_
  refine Ev.bipush (pc := 26) (v := 15) dX1_exchange_26 kb_15 ?_
  refine Ev.iload_n (pc := 28) dX1_exchange_28 rfl rfl ?_
  refine Ev.iadd (pc := 29) dX1_exchange_29 ?_
  refine Ev.iload_n (pc := 30) dX1_exchange_30 rfl rfl ?_
  refine Ev.cTv (pc := 31) (av := [vR 24, vI (15 + a2), vI x1]) (rest := []) dX1_exchange_31 ce_X9_put ml_X1_19 rfl sh_sc (Nat.le_of_ble_eq_true rfl) (Nat.le_of_ble_eq_true rfl) (r_put sh_24 (by decide) _ _ _) ?_
  refine Ev.nmS (fun σ3 e9 => ?_)
  replace h := bt_app h σ3 e9
  subst h
  exact Ev.ret_v (pc := 34) dX1_exchange_34 rfl
theorem r_X1_exchange (a1 : Int32) (a2 : Int32) (σ : St) : Rn md_X1_exchange 2 [vR 23, vI a1, vI a2] SH σ (none, SH, t_X1_exchange a1 a2 σ) := Rn.of ce_X1_exchange.1 (Nat.le_of_ble_eq_true rfl) (e_X1_exchange _ _ _ _ rfl)
def t_X9_swap (a1 : Int32) (a2 : Int32) (σ : St) : Int32 × St := if (p_X5_hasPromise a1 σ) = 0 then (((-1000000001), σ)) else (if (p_X5_hasPromise a2 σ) = 0 then (((-1000000001), σ)) else (if a1 = a2 then (((-1000000001), σ)) else (if (p_X1_isOpen_23 a1 σ) = 0 then (((-1000000003), σ)) else (if (p_X1_isOpen_23 a2 σ) = 0 then (((-1000000003), σ)) else (if (at_ σ 8 7 a1) = (at_ σ 8 7 a2) then (bt (t_X1_exchange a1 a2 σ) fun σ7 => (1, σ7)) else (((-1000000003), σ)))))))
theorem e_X9_swap (a1 : Int32) (a2 : Int32) (σ : St) (q : Int32 × St) (h : t_X9_swap a1 a2 σ = q) : Ev md_X9_swap 3 0 (lvE [vR 0, vI a1, vI a2] 3) [] SH σ (some (vI q.1), SH, q.2) := by
  show Ev md_X9_swap 3 0 [some (vR 0), some (vI a1), some (vI a2)] [] SH σ (some (vI q.1), SH, q.2)
  unfold t_X9_swap at h
  refine Ev.aload_n (pc := 0) dX9_swap_0 rfl rfl ?_
  refine Ev.getR (pc := 1) dX9_swap_1 fl_X9_10 sh_0 rfl ?_
  refine Ev.iload_n (pc := 4) dX9_swap_4 rfl rfl ?_
  refine Ev.cVi (pc := 5) (k := 1) (av := [vI a1]) (rest := []) dX9_swap_5 ce_X5_hasPromise ml_X9_170 rfl sh_1 cl_X5 sh_sc (Nat.le_of_ble_eq_true rfl) (Nat.le_of_ble_eq_true rfl) (r_X5_hasPromise _ _) ?_
  by_cases c1 : (p_X5_hasPromise a1 σ) = 0
  · replace h := (if_pos c1).symm.trans h
    refine Ev.if_eq_t (pc := 8) (tgt := 27) dX9_swap_8 rfl c1 ?_
    refine Ev.ldc (pc := 27) dX9_swap_27 kc_X9_145 ?_
    subst h
    exact Ev.ret_i (pc := 29) dX9_swap_29 rfl rfl
  · replace h := (if_neg c1).symm.trans h
    refine Ev.if_eq_f (pc := 8) dX9_swap_8 ⟨27, rfl⟩ c1 ?_
    refine Ev.aload_n (pc := 11) dX9_swap_11 rfl rfl ?_
    refine Ev.getR (pc := 12) dX9_swap_12 fl_X9_10 sh_0 rfl ?_
    refine Ev.iload_n (pc := 15) dX9_swap_15 rfl rfl ?_
    refine Ev.cVi (pc := 16) (k := 1) (av := [vI a2]) (rest := []) dX9_swap_16 ce_X5_hasPromise ml_X9_170 rfl sh_1 cl_X5 sh_sc (Nat.le_of_ble_eq_true rfl) (Nat.le_of_ble_eq_true rfl) (r_X5_hasPromise _ _) ?_
    by_cases c2 : (p_X5_hasPromise a2 σ) = 0
    · replace h := (if_pos c2).symm.trans h
      refine Ev.if_eq_t (pc := 19) (tgt := 27) dX9_swap_19 rfl c2 ?_
      refine Ev.ldc (pc := 27) dX9_swap_27 kc_X9_145 ?_
      subst h
      exact Ev.ret_i (pc := 29) dX9_swap_29 rfl rfl
    · replace h := (if_neg c2).symm.trans h
      refine Ev.if_eq_f (pc := 19) dX9_swap_19 ⟨27, rfl⟩ c2 ?_
      refine Ev.iload_n (pc := 22) dX9_swap_22 rfl rfl ?_
      refine Ev.iload_n (pc := 23) dX9_swap_23 rfl rfl ?_
      by_cases c3 : a1 = a2
      · replace h := (if_pos c3).symm.trans h
        refine Ev.icmp_ne_f (pc := 24) dX9_swap_24 ⟨30, rfl⟩ c3 ?_
        refine Ev.ldc (pc := 27) dX9_swap_27 kc_X9_145 ?_
        subst h
        exact Ev.ret_i (pc := 29) dX9_swap_29 rfl rfl
      · replace h := (if_neg c3).symm.trans h
        refine Ev.icmp_ne_t (pc := 24) (tgt := 30) dX9_swap_24 rfl c3 ?_
        refine Ev.aload_n (pc := 30) dX9_swap_30 rfl rfl ?_
        refine Ev.getR (pc := 31) dX9_swap_31 fl_X9_31 sh_0 rfl ?_
        refine Ev.iload_n (pc := 34) dX9_swap_34 rfl rfl ?_
        refine Ev.cVi (pc := 35) (k := 23) (av := [vI a1]) (rest := []) dX9_swap_35 ce_X1_isOpen ml_X9_221 rfl sh_23 cl_X1 sh_sc (Nat.le_of_ble_eq_true rfl) (Nat.le_of_ble_eq_true rfl) (r_X1_isOpen_23 _ _) ?_
        by_cases c4 : (p_X1_isOpen_23 a1 σ) = 0
        · replace h := (if_pos c4).symm.trans h
          refine Ev.if_eq_t (pc := 38) (tgt := 77) dX9_swap_38 rfl c4 ?_
          refine Ev.ldc (pc := 77) dX9_swap_77 kc_X9_207 ?_
          subst h
          exact Ev.ret_i (pc := 79) dX9_swap_79 rfl rfl
        · replace h := (if_neg c4).symm.trans h
          refine Ev.if_eq_f (pc := 38) dX9_swap_38 ⟨77, rfl⟩ c4 ?_
          refine Ev.aload_n (pc := 41) dX9_swap_41 rfl rfl ?_
          refine Ev.getR (pc := 42) dX9_swap_42 fl_X9_31 sh_0 rfl ?_
          refine Ev.iload_n (pc := 45) dX9_swap_45 rfl rfl ?_
          refine Ev.cVi (pc := 46) (k := 23) (av := [vI a2]) (rest := []) dX9_swap_46 ce_X1_isOpen ml_X9_221 rfl sh_23 cl_X1 sh_sc (Nat.le_of_ble_eq_true rfl) (Nat.le_of_ble_eq_true rfl) (r_X1_isOpen_23 _ _) ?_
          by_cases c5 : (p_X1_isOpen_23 a2 σ) = 0
          · replace h := (if_pos c5).symm.trans h
            refine Ev.if_eq_t (pc := 49) (tgt := 77) dX9_swap_49 rfl c5 ?_
            refine Ev.ldc (pc := 77) dX9_swap_77 kc_X9_207 ?_
            subst h
            exact Ev.ret_i (pc := 79) dX9_swap_79 rfl rfl
          · replace h := (if_neg c5).symm.trans h
            refine Ev.if_eq_f (pc := 49) dX9_swap_49 ⟨77, rfl⟩ c5 ?_
            refine Ev.aload_n (pc := 52) dX9_swap_52 rfl rfl ?_
            refine Ev.getR (pc := 53) dX9_swap_53 fl_X9_10 sh_0 rfl ?_
            refine Ev.getR (pc := 56) dX9_swap_56 fl_X9_185 sh_1 rfl ?_
            refine Ev.iload_n (pc := 59) dX9_swap_59 rfl rfl ?_
            refine Ev.cTi (pc := 60) (av := [vR 8, vI a1]) (rest := []) dX9_swap_60 ce_X9_at ml_X9_160 rfl sh_sc (Nat.le_of_ble_eq_true rfl) (Nat.le_of_ble_eq_true rfl) (r_at sh_8 (by decide) _ _) ?_
            refine Ev.aload_n (pc := 63) dX9_swap_63 rfl rfl ?_
            refine Ev.getR (pc := 64) dX9_swap_64 fl_X9_10 sh_0 rfl ?_
            refine Ev.getR (pc := 67) dX9_swap_67 fl_X9_185 sh_1 rfl ?_
            refine Ev.iload_n (pc := 70) dX9_swap_70 rfl rfl ?_
            refine Ev.cTi (pc := 71) (av := [vR 8, vI a2]) (rest := [vI (at_ σ 8 7 a1)]) dX9_swap_71 ce_X9_at ml_X9_160 rfl sh_sc (Nat.le_of_ble_eq_true rfl) (Nat.le_of_ble_eq_true rfl) (r_at sh_8 (by decide) _ _) ?_
            by_cases c6 : (at_ σ 8 7 a1) = (at_ σ 8 7 a2)
            · replace h := (if_pos c6).symm.trans h
              refine Ev.icmp_eq_t (pc := 74) (tgt := 80) dX9_swap_74 rfl c6 ?_
              refine Ev.aload_n (pc := 80) dX9_swap_80 rfl rfl ?_
              refine Ev.getR (pc := 81) dX9_swap_81 fl_X9_31 sh_0 rfl ?_
              refine Ev.iload_n (pc := 84) dX9_swap_84 rfl rfl ?_
              refine Ev.iload_n (pc := 85) dX9_swap_85 rfl rfl ?_
              refine Ev.cVv (pc := 86) (k := 23) (av := [vI a1, vI a2]) (rest := []) dX9_swap_86 ce_X1_exchange ml_X9_230 rfl sh_23 cl_X1 sh_sc (Nat.le_of_ble_eq_true rfl) (Nat.le_of_ble_eq_true rfl) (r_X1_exchange _ _ _) ?_
              refine Ev.nmS (fun σ7 e9 => ?_)
              replace h := bt_app h σ7 e9
              refine Ev.iconst (pc := 89) (v := 1) dX9_swap_89 ki_1 ?_
              subst h
              exact Ev.ret_i (pc := 90) dX9_swap_90 rfl rfl
            · replace h := (if_neg c6).symm.trans h
              refine Ev.icmp_eq_f (pc := 74) dX9_swap_74 ⟨80, rfl⟩ c6 ?_
              refine Ev.ldc (pc := 77) dX9_swap_77 kc_X9_207 ?_
              subst h
              exact Ev.ret_i (pc := 79) dX9_swap_79 rfl rfl
theorem r_X9_swap (a1 : Int32) (a2 : Int32) (σ : St) : Rn md_X9_swap 3 [vR 0, vI a1, vI a2] SH σ (some (vI (t_X9_swap a1 a2 σ).1), SH, (t_X9_swap a1 a2 σ).2) := Rn.of ce_X9_swap.1 (Nat.le_of_ble_eq_true rfl) (e_X9_swap _ _ _ _ rfl)
def o_X10_swap (N : Nat) (a1 : Int32) (a2 : Int32) (σ : St) : Option (Int32 × St) := bd (o_X10_isPromise N a1 σ) fun x1 σ2 => if x1 = 0 then (some ((-1000000001), σ2)) else (bd (o_X10_isPromise N a2 σ2) fun x5 σ6 => if x5 = 0 then (some ((-1000000001), σ6)) else (if a1 = a2 then (some ((-1000000001), σ6)) else (ckA a1 1360 (if (σ6 80 a1.toNatClampNeg) = 0 then (ckA a2 1360 (if (σ6 80 a2.toNatClampNeg) = 0 then (ckA a1 14 (ckA a2 14 (if (σ6 90 a1.toNatClampNeg) = (σ6 90 a2.toNatClampNeg) then (ckA (14 + a1) 1360 (bt (σ6 80 (14 + a1).toNatClampNeg) fun x18 => ckA (14 + a2) 1360 (ckA (14 + a1) 1360 (bt (st σ6 80 (14 + a1).toNatClampNeg (σ6 80 (14 + a2).toNatClampNeg)) fun σ21 => ckA (14 + a2) 1360 (bt (st σ21 80 (14 + a2).toNatClampNeg x18) fun σ23 => some (1, σ23)))))) else (some ((-1000000003), σ6))))) else (some ((-1000000003), σ6)))) else (some ((-1000000003), σ6))))))
theorem e_X10_swap (N : Nat) (a1 : Int32) (a2 : Int32) (σ : St) (v : Int32) (w : St) (h : o_X10_swap N a1 a2 σ = some (v, w)) : Ev md_X10_swap 2 0 (lvE [vR 79, vI a1, vI a2] 4) [] SH σ (some (vI v), SH, w) := by
  show Ev md_X10_swap 2 0 [some (vR 79), some (vI a1), some (vI a2), none] [] SH σ (some (vI v), SH, w)
  unfold o_X10_swap at h
  refine Ev.aload_n (pc := 0) dX10_swap_0 rfl rfl ?_
  refine Ev.iload_n (pc := 1) dX10_swap_1 rfl rfl ?_
  obtain ⟨x1, σ2, g3, h⟩ := bd_elim h
  refine Ev.cVi (pc := 2) (k := 79) (av := [vI a1]) (rest := []) dX10_swap_2 ce_X10_isPromise ml_X10_212 rfl sh_79 cl_X10 sh_sc (Nat.le_of_ble_eq_true rfl) (Nat.le_of_ble_eq_true rfl) (r_X10_isPromise g3) ?_
  by_cases c4 : x1 = 0
  · replace h := (if_pos c4).symm.trans h
    refine Ev.if_eq_t (pc := 5) (tgt := 21) dX10_swap_5 rfl c4 ?_
    refine Ev.ldc (pc := 21) dX10_swap_21 kc_X10_205 ?_
    obtain ⟨h1, h2⟩ := oeq h
    subst h1
    subst h2
    exact Ev.ret_i (pc := 23) dX10_swap_23 rfl rfl
  · replace h := (if_neg c4).symm.trans h
    refine Ev.if_eq_f (pc := 5) dX10_swap_5 ⟨21, rfl⟩ c4 ?_
    refine Ev.aload_n (pc := 8) dX10_swap_8 rfl rfl ?_
    refine Ev.iload_n (pc := 9) dX10_swap_9 rfl rfl ?_
    obtain ⟨x5, σ6, g7, h⟩ := bd_elim h
    refine Ev.cVi (pc := 10) (k := 79) (av := [vI a2]) (rest := []) dX10_swap_10 ce_X10_isPromise ml_X10_212 rfl sh_79 cl_X10 sh_sc (Nat.le_of_ble_eq_true rfl) (Nat.le_of_ble_eq_true rfl) (r_X10_isPromise g7) ?_
    by_cases c8 : x5 = 0
    · replace h := (if_pos c8).symm.trans h
      refine Ev.if_eq_t (pc := 13) (tgt := 21) dX10_swap_13 rfl c8 ?_
      refine Ev.ldc (pc := 21) dX10_swap_21 kc_X10_205 ?_
      obtain ⟨h1, h2⟩ := oeq h
      subst h1
      subst h2
      exact Ev.ret_i (pc := 23) dX10_swap_23 rfl rfl
    · replace h := (if_neg c8).symm.trans h
      refine Ev.if_eq_f (pc := 13) dX10_swap_13 ⟨21, rfl⟩ c8 ?_
      refine Ev.iload_n (pc := 16) dX10_swap_16 rfl rfl ?_
      refine Ev.iload_n (pc := 17) dX10_swap_17 rfl rfl ?_
      by_cases c9 : a1 = a2
      · replace h := (if_pos c9).symm.trans h
        refine Ev.icmp_ne_f (pc := 18) dX10_swap_18 ⟨24, rfl⟩ c9 ?_
        refine Ev.ldc (pc := 21) dX10_swap_21 kc_X10_205 ?_
        obtain ⟨h1, h2⟩ := oeq h
        subst h1
        subst h2
        exact Ev.ret_i (pc := 23) dX10_swap_23 rfl rfl
      · replace h := (if_neg c9).symm.trans h
        refine Ev.icmp_ne_t (pc := 18) (tgt := 24) dX10_swap_18 rfl c9 ?_
        refine Ev.aload_n (pc := 24) dX10_swap_24 rfl rfl ?_
        refine Ev.getR (pc := 25) dX10_swap_25 fl_X10_7 sh_79 rfl ?_
        refine Ev.iload_n (pc := 28) dX10_swap_28 rfl rfl ?_
        obtain ⟨c10, h⟩ := ckA_elim h
        refine Ev.iald (pc := 29) dX10_swap_29 sh_80 c10 ?_
        by_cases c11 : (σ6 80 a1.toNatClampNeg) = 0
        · replace h := (if_pos c11).symm.trans h
          refine Ev.if_ne_f (pc := 30) dX10_swap_30 ⟨57, rfl⟩ c11 ?_
          refine Ev.aload_n (pc := 33) dX10_swap_33 rfl rfl ?_
          refine Ev.getR (pc := 34) dX10_swap_34 fl_X10_7 sh_79 rfl ?_
          refine Ev.iload_n (pc := 37) dX10_swap_37 rfl rfl ?_
          obtain ⟨c12, h⟩ := ckA_elim h
          refine Ev.iald (pc := 38) dX10_swap_38 sh_80 c12 ?_
          by_cases c13 : (σ6 80 a2.toNatClampNeg) = 0
          · replace h := (if_pos c13).symm.trans h
            refine Ev.if_ne_f (pc := 39) dX10_swap_39 ⟨57, rfl⟩ c13 ?_
            refine Ev.aload_n (pc := 42) dX10_swap_42 rfl rfl ?_
            refine Ev.getR (pc := 43) dX10_swap_43 fl_X10_41 sh_79 rfl ?_
            refine Ev.iload_n (pc := 46) dX10_swap_46 rfl rfl ?_
            obtain ⟨c14, h⟩ := ckA_elim h
            refine Ev.iald (pc := 47) dX10_swap_47 sh_90 c14 ?_
            refine Ev.aload_n (pc := 48) dX10_swap_48 rfl rfl ?_
            refine Ev.getR (pc := 49) dX10_swap_49 fl_X10_41 sh_79 rfl ?_
            refine Ev.iload_n (pc := 52) dX10_swap_52 rfl rfl ?_
            obtain ⟨c15, h⟩ := ckA_elim h
            refine Ev.iald (pc := 53) dX10_swap_53 sh_90 c15 ?_
            by_cases c16 : (σ6 90 a1.toNatClampNeg) = (σ6 90 a2.toNatClampNeg)
            · replace h := (if_pos c16).symm.trans h
              refine Ev.icmp_eq_t (pc := 54) (tgt := 60) dX10_swap_54 rfl c16 ?_
              refine Ev.aload_n (pc := 60) dX10_swap_60 rfl rfl ?_
              refine Ev.getR (pc := 61) dX10_swap_61 fl_X10_7 sh_79 rfl ?_
              refine Ev.bipush (pc := 64) (v := 14) dX10_swap_64 kb_14 ?_
              refine Ev.iload_n (pc := 66) dX10_swap_66 rfl rfl ?_
              refine Ev.iadd (pc := 67) dX10_swap_67 ?_
              obtain ⟨c17, h⟩ := ckA_elim h
              refine Ev.iald (pc := 68) dX10_swap_68 sh_80 c17 ?_
              refine Ev.nmI (fun x18 e9 => ?_)
              replace h := bt_app h x18 e9
              refine Ev.istore_n (pc := 69) (lv' := [some (vR 79), some (vI a1), some (vI a2), some (vI x18)]) dX10_swap_69 rfl (lt9 rfl) rfl rfl ?_
              refine Ev.aload_n (pc := 70) dX10_swap_70 rfl rfl ?_
              refine Ev.getR (pc := 71) dX10_swap_71 fl_X10_7 sh_79 rfl ?_
              refine Ev.bipush (pc := 74) (v := 14) dX10_swap_74 kb_14 ?_
              refine Ev.iload_n (pc := 76) dX10_swap_76 rfl rfl ?_
              refine Ev.iadd (pc := 77) dX10_swap_77 ?_
              refine Ev.aload_n (pc := 78) dX10_swap_78 rfl rfl ?_
              refine Ev.getR (pc := 79) dX10_swap_79 fl_X10_7 sh_79 rfl ?_
              refine Ev.bipush (pc := 82) (v := 14) dX10_swap_82 kb_14 ?_
              refine Ev.iload_n (pc := 84) dX10_swap_84 rfl rfl ?_
              refine Ev.iadd (pc := 85) dX10_swap_85 ?_
              obtain ⟨c19, h⟩ := ckA_elim h
              refine Ev.iald (pc := 86) dX10_swap_86 sh_80 c19 ?_
              obtain ⟨c20, h⟩ := ckA_elim h
              refine Ev.iast (pc := 87) dX10_swap_87 sh_80 c20 ?_
              refine Ev.nmS (fun σ21 e9 => ?_)
              replace h := bt_app h σ21 e9
              refine Ev.aload_n (pc := 88) dX10_swap_88 rfl rfl ?_
              refine Ev.getR (pc := 89) dX10_swap_89 fl_X10_7 sh_79 rfl ?_
              refine Ev.bipush (pc := 92) (v := 14) dX10_swap_92 kb_14 ?_
              refine Ev.iload_n (pc := 94) dX10_swap_94 rfl rfl ?_
              refine Ev.iadd (pc := 95) dX10_swap_95 ?_
              refine Ev.iload_n (pc := 96) dX10_swap_96 rfl rfl ?_
              obtain ⟨c22, h⟩ := ckA_elim h
              refine Ev.iast (pc := 97) dX10_swap_97 sh_80 c22 ?_
              refine Ev.nmS (fun σ23 e9 => ?_)
              replace h := bt_app h σ23 e9
              refine Ev.iconst (pc := 98) (v := 1) dX10_swap_98 ki_1 ?_
              obtain ⟨h1, h2⟩ := oeq h
              subst h1
              subst h2
              exact Ev.ret_i (pc := 99) dX10_swap_99 rfl rfl
            · replace h := (if_neg c16).symm.trans h
              refine Ev.icmp_eq_f (pc := 54) dX10_swap_54 ⟨60, rfl⟩ c16 ?_
              refine Ev.ldc (pc := 57) dX10_swap_57 kc_X10_227 ?_
              obtain ⟨h1, h2⟩ := oeq h
              subst h1
              subst h2
              exact Ev.ret_i (pc := 59) dX10_swap_59 rfl rfl
          · replace h := (if_neg c13).symm.trans h
            refine Ev.if_ne_t (pc := 39) (tgt := 57) dX10_swap_39 rfl c13 ?_
            refine Ev.ldc (pc := 57) dX10_swap_57 kc_X10_227 ?_
            obtain ⟨h1, h2⟩ := oeq h
            subst h1
            subst h2
            exact Ev.ret_i (pc := 59) dX10_swap_59 rfl rfl
        · replace h := (if_neg c11).symm.trans h
          refine Ev.if_ne_t (pc := 30) (tgt := 57) dX10_swap_30 rfl c11 ?_
          refine Ev.ldc (pc := 57) dX10_swap_57 kc_X10_227 ?_
          obtain ⟨h1, h2⟩ := oeq h
          subst h1
          subst h2
          exact Ev.ret_i (pc := 59) dX10_swap_59 rfl rfl
theorem r_X10_swap {N : Nat} {a1 : Int32} {a2 : Int32} {σ : St} {v : Int32} {w : St} (h : o_X10_swap N a1 a2 σ = some (v, w)) : Rn md_X10_swap 2 [vR 79, vI a1, vI a2] SH σ (some (vI v), SH, w) := Rn.of ce_X10_swap.1 (Nat.le_of_ble_eq_true rfl) (e_X10_swap N _ _ _ _ _ h)
def o_X2_draw (N : Nat) (a1 : Int32) (σ : St) : Option (Int32 × St) := bt (st σ 62 0 (((((σ 62 0).toInt64 * 1103515245) + 12345) &&& 2147483647).toInt32)) fun σ1 => if (0 : Int32) < a1 then (ckDI a1 (some ((((σ1 62 0) / 65536) - ((σ1 62 0) / 65536) / a1 * a1), σ1))) else (some (0, σ1))
theorem e_X2_draw (N : Nat) (a1 : Int32) (σ : St) (v : Int32) (w : St) (h : o_X2_draw N a1 σ = some (v, w)) : Ev md_X2_draw 0 0 (lvE [vR 62, vI a1] 2) [] SH σ (some (vI v), SH, w) := by
  show Ev md_X2_draw 0 0 [some (vR 62), some (vI a1)] [] SH σ (some (vI v), SH, w)
  unfold o_X2_draw at h
  refine Ev.aload_n (pc := 0) dX2_draw_0 rfl rfl ?_
  refine Ev.aload_n (pc := 1) dX2_draw_1 rfl rfl ?_
  refine Ev.getI (pc := 2) dX2_draw_2 fl_X2_7 sh_62 rfl ?_
  refine Ev.i2l (pc := 5) dX2_draw_5 ?_
  refine Ev.ldc2 (pc := 6) dX2_draw_6 kl_X2_13 ?_
  refine Ev.lmul (pc := 9) dX2_draw_9 ?_
  refine Ev.ldc2 (pc := 10) dX2_draw_10 kl_X2_15 ?_
  refine Ev.ladd (pc := 13) dX2_draw_13 ?_
  refine Ev.ldc2 (pc := 14) dX2_draw_14 kl_X2_17 ?_
  refine Ev.land (pc := 17) dX2_draw_17 ?_
  refine Ev.l2i (pc := 18) dX2_draw_18 ?_
  refine Ev.putI (pc := 19) dX2_draw_19 pl_X2_7 sh_62 rfl rfl rfl ?_
  refine Ev.nmS (fun σ1 e9 => ?_)
  replace h := bt_app h σ1 e9
  refine Ev.iload_n (pc := 22) dX2_draw_22 rfl rfl ?_
  by_cases c2 : (0 : Int32) < a1
  · replace h := (if_pos c2).symm.trans h
    refine Ev.if_gt_t (pc := 23) (tgt := 30) dX2_draw_23 rfl c2 ?_
    refine Ev.aload_n (pc := 30) dX2_draw_30 rfl rfl ?_
    refine Ev.getI (pc := 31) dX2_draw_31 fl_X2_7 sh_62 rfl ?_
    refine Ev.ldc (pc := 34) dX2_draw_34 kc_X2_19 ?_
    refine Ev.idiv (pc := 36) dX2_draw_36 (by decide) ?_
    refine Ev.iload_n (pc := 37) dX2_draw_37 rfl rfl ?_
    obtain ⟨c3, h⟩ := ckDI_elim h
    refine Ev.irem (pc := 38) dX2_draw_38 c3 ?_
    obtain ⟨h1, h2⟩ := oeq h
    subst h1
    subst h2
    exact Ev.ret_i (pc := 39) dX2_draw_39 rfl rfl
  · replace h := (if_neg c2).symm.trans h
    refine Ev.if_gt_f (pc := 23) dX2_draw_23 ⟨30, rfl⟩ c2 ?_
    refine Ev.iconst (pc := 26) (v := 0) dX2_draw_26 ki_0 ?_
    refine Ev.goto (pc := 27) (tgt := 39) dX2_draw_27 rfl ?_
    obtain ⟨h1, h2⟩ := oeq h
    subst h1
    subst h2
    exact Ev.ret_i (pc := 39) dX2_draw_39 rfl rfl
theorem r_X2_draw {N : Nat} {a1 : Int32} {σ : St} {v : Int32} {w : St} (h : o_X2_draw N a1 σ = some (v, w)) : Rn md_X2_draw 0 [vR 62, vI a1] SH σ (some (vI v), SH, w) := Rn.of ce_X2_draw.1 (Nat.le_of_ble_eq_true rfl) (e_X2_draw N _ _ _ _ h)
def j_X9_drawFor_64 (N : Nat) (K_14 : Int32 → Int32 → St → Option (Unit × St)) (v1 : Int32) (v2 : Int32) (σ : St) : Option (Unit × St) := bt (v2 + 1) fun x1 => K_14 v1 x1 σ
def l_X9_drawFor_14 (N : Nat) : Nat → Int32 → Int32 → St → Option (Unit × St)
  | 0, _, _, _ => none
  | n + 1, v1, v2, σ => if (σ 1 3) ≤ v2 then (bd (o_X2_draw N (2 * (σ 1 0)) σ) fun x2 σ3 => if (p_X5_hasTown x2 σ3) = 0 then (some ((), σ3)) else (bt (t_X1_depart v1 x2 σ3) fun q6 => some ((), q6.2))) else (if (p_X1_holderOf_23 v2 σ) = v1 then (bd (o_X1_canKeep N v2 σ) fun x8 σ9 => if x8 = 0 then (j_X9_drawFor_64 N (l_X9_drawFor_14 N n) v1 v2 σ9) else (bt (t_X1_end_23 v2 1 (p_X1_today_23 σ9) σ9) fun σ12 => j_X9_drawFor_64 N (l_X9_drawFor_14 N n) v1 v2 σ12)) else (j_X9_drawFor_64 N (l_X9_drawFor_14 N n) v1 v2 σ))
def o_X9_drawFor (N : Nat) (a1 : Int32) (σ : St) : Option (Unit × St) := if (p_X1_onTheWay a1 σ) = 0 then (l_X9_drawFor_14 N N a1 0 σ) else (some ((), σ))
theorem lj_X9_drawFor_64 (N : Nat) (K_14 : Int32 → Int32 → St → Option (Unit × St)) (hK_14 : ∀ (v1 : Int32) (v2 : Int32) (σ : St) (v : Unit) (w : St), K_14 v1 v2 σ = some (v, w) → Ev md_X9_drawFor 5 14 [some (vR 0), some (vI v1), some (vI v2)] [] SH σ (none, SH, w)) (v1 : Int32) (v2 : Int32) (σ : St) (v : Unit) (w : St) (h : j_X9_drawFor_64 N K_14 v1 v2 σ = some (v, w)) : Ev md_X9_drawFor 5 64 [some (vR 0), some (vI v1), some (vI v2)] [] SH σ (none, SH, w) := by
  unfold j_X9_drawFor_64 at h
  obtain ⟨x1, e_x1, h⟩ := bt_elim h
  refine Ev.iinc (pc := 64) (v := x1) (lv' := [some (vR 0), some (vI v1), some (vI x1)]) dX9_drawFor_64 rfl (by rw [ki_1, e_x1]) (lt9 rfl) rfl rfl ?_
  refine Ev.goto (pc := 67) (tgt := 14) dX9_drawFor_67 rfl ?_
  exact Ev.weak2 (hK_14 _ _ _ _ _ h) (lsubS (lsubS (lsubS lsubE)))
theorem ll_X9_drawFor_14 (N : Nat) : ∀ (n : Nat) (v1 : Int32) (v2 : Int32) (σ : St) (v : Unit) (w : St), l_X9_drawFor_14 N n v1 v2 σ = some (v, w) → Ev md_X9_drawFor 5 14 [some (vR 0), some (vI v1), some (vI v2)] [] SH σ (none, SH, w) := by
  intro n
  induction n with
  | zero =>
    intro v1 v2 σ v w h
    rw [l_X9_drawFor_14] at h
    cases h
  | succ n ih =>
    intro v1 v2 σ v w h
    rw [l_X9_drawFor_14] at h
    refine Ev.iload_n (pc := 14) dX9_drawFor_14 rfl rfl ?_
    refine Ev.aload_n (pc := 15) dX9_drawFor_15 rfl rfl ?_
    refine Ev.getR (pc := 16) dX9_drawFor_16 fl_X9_10 sh_0 rfl ?_
    refine Ev.getI (pc := 19) dX9_drawFor_19 fl_X9_119 sh_1 rfl ?_
    by_cases c1 : (σ 1 3) ≤ v2
    · replace h := (if_pos c1).symm.trans h
      refine Ev.icmp_ge_t (pc := 22) (tgt := 70) dX9_drawFor_22 rfl c1 ?_
      refine Ev.aload_n (pc := 70) dX9_drawFor_70 rfl rfl ?_
      refine Ev.getR (pc := 71) dX9_drawFor_71 fl_X9_52 sh_0 rfl ?_
      refine Ev.iconst (pc := 74) (v := 2) dX9_drawFor_74 ki_2 ?_
      refine Ev.aload_n (pc := 75) dX9_drawFor_75 rfl rfl ?_
      refine Ev.getR (pc := 76) dX9_drawFor_76 fl_X9_10 sh_0 rfl ?_
      refine Ev.getI (pc := 79) dX9_drawFor_79 fl_X9_106 sh_1 rfl ?_
      refine Ev.imul (pc := 82) dX9_drawFor_82 ?_
      obtain ⟨x2, σ3, g4, h⟩ := bd_elim h
      refine Ev.cVi (pc := 83) (k := 62) (av := [vI (2 * (σ 1 0))]) (rest := []) dX9_drawFor_83 ce_X2_draw ml_X9_321 rfl sh_62 cl_X2 sh_sc (Nat.le_of_ble_eq_true rfl) (Nat.le_of_ble_eq_true rfl) (r_X2_draw g4) ?_
      refine Ev.istore_n (pc := 86) (lv' := [some (vR 0), some (vI v1), some (vI x2)]) dX9_drawFor_86 rfl (lt9 rfl) rfl rfl ?_
      refine Ev.aload_n (pc := 87) dX9_drawFor_87 rfl rfl ?_
      refine Ev.getR (pc := 88) dX9_drawFor_88 fl_X9_10 sh_0 rfl ?_
      refine Ev.iload_n (pc := 91) dX9_drawFor_91 rfl rfl ?_
      refine Ev.cVi (pc := 92) (k := 1) (av := [vI x2]) (rest := []) dX9_drawFor_92 ce_X5_hasTown ml_X9_142 rfl sh_1 cl_X5 sh_sc (Nat.le_of_ble_eq_true rfl) (Nat.le_of_ble_eq_true rfl) (r_X5_hasTown _ _) ?_
      by_cases c5 : (p_X5_hasTown x2 σ3) = 0
      · replace h := (if_pos c5).symm.trans h
        refine Ev.if_eq_t (pc := 95) (tgt := 108) dX9_drawFor_95 rfl c5 ?_
        obtain ⟨h1, h2⟩ := oeq h
        subst h1
        subst h2
        exact Ev.ret_v (pc := 108) dX9_drawFor_108 rfl
      · replace h := (if_neg c5).symm.trans h
        refine Ev.if_eq_f (pc := 95) dX9_drawFor_95 ⟨108, rfl⟩ c5 ?_
        refine Ev.aload_n (pc := 98) dX9_drawFor_98 rfl rfl ?_
        refine Ev.getR (pc := 99) dX9_drawFor_99 fl_X9_31 sh_0 rfl ?_
        refine Ev.iload_n (pc := 102) dX9_drawFor_102 rfl rfl ?_
        refine Ev.iload_n (pc := 103) dX9_drawFor_103 rfl rfl ?_
        refine Ev.cVi (pc := 104) (k := 23) (av := [vI v1, vI x2]) (rest := []) dX9_drawFor_104 ce_X1_depart ml_X9_203 rfl sh_23 cl_X1 sh_sc (Nat.le_of_ble_eq_true rfl) (Nat.le_of_ble_eq_true rfl) (r_X1_depart _ _ _) ?_
        refine Ev.nmQ (fun q6 e9 => ?_)
        replace h := bt_app h q6 e9
        refine Ev.pop (pc := 107) dX9_drawFor_107 rfl ?_
        obtain ⟨h1, h2⟩ := oeq h
        subst h1
        subst h2
        exact Ev.ret_v (pc := 108) dX9_drawFor_108 rfl
    · replace h := (if_neg c1).symm.trans h
      refine Ev.icmp_ge_f (pc := 22) dX9_drawFor_22 ⟨70, rfl⟩ c1 ?_
      refine Ev.aload_n (pc := 25) dX9_drawFor_25 rfl rfl ?_
      refine Ev.getR (pc := 26) dX9_drawFor_26 fl_X9_31 sh_0 rfl ?_
      refine Ev.iload_n (pc := 29) dX9_drawFor_29 rfl rfl ?_
      refine Ev.cVi (pc := 30) (k := 23) (av := [vI v2]) (rest := []) dX9_drawFor_30 ce_X1_holderOf ml_X9_173 rfl sh_23 cl_X1 sh_sc (Nat.le_of_ble_eq_true rfl) (Nat.le_of_ble_eq_true rfl) (r_X1_holderOf_23 _ _) ?_
      refine Ev.iload_n (pc := 33) dX9_drawFor_33 rfl rfl ?_
      by_cases c7 : (p_X1_holderOf_23 v2 σ) = v1
      · replace h := (if_pos c7).symm.trans h
        refine Ev.icmp_ne_f (pc := 34) dX9_drawFor_34 ⟨64, rfl⟩ c7 ?_
        refine Ev.aload_n (pc := 37) dX9_drawFor_37 rfl rfl ?_
        refine Ev.getR (pc := 38) dX9_drawFor_38 fl_X9_31 sh_0 rfl ?_
        refine Ev.iload_n (pc := 41) dX9_drawFor_41 rfl rfl ?_
        obtain ⟨x8, σ9, g10, h⟩ := bd_elim h
        refine Ev.cVi (pc := 42) (k := 23) (av := [vI v2]) (rest := []) dX9_drawFor_42 ce_X1_canKeep ml_X9_214 rfl sh_23 cl_X1 sh_sc (Nat.le_of_ble_eq_true rfl) (Nat.le_of_ble_eq_true rfl) (r_X1_canKeep g10) ?_
        by_cases c11 : x8 = 0
        · replace h := (if_pos c11).symm.trans h
          refine Ev.if_eq_t (pc := 45) (tgt := 64) dX9_drawFor_45 rfl c11 ?_
          exact Ev.weak2 (lj_X9_drawFor_64 N (l_X9_drawFor_14 N n) ih _ _ _ _ _ h) (lsubS (lsubS (lsubS lsubE)))
        · replace h := (if_neg c11).symm.trans h
          refine Ev.if_eq_f (pc := 45) dX9_drawFor_45 ⟨64, rfl⟩ c11 ?_
          refine Ev.aload_n (pc := 48) dX9_drawFor_48 rfl rfl ?_
          refine Ev.getR (pc := 49) dX9_drawFor_49 fl_X9_31 sh_0 rfl ?_
          refine Ev.iload_n (pc := 52) dX9_drawFor_52 rfl rfl ?_
          refine Ev.iconst (pc := 53) (v := 1) dX9_drawFor_53 ki_1 ?_
          refine Ev.aload_n (pc := 54) dX9_drawFor_54 rfl rfl ?_
          refine Ev.getR (pc := 55) dX9_drawFor_55 fl_X9_31 sh_0 rfl ?_
          refine Ev.cVi (pc := 58) (k := 23) (av := []) (rest := [vI 1, vI v2, vR 23]) dX9_drawFor_58 ce_X1_today ml_X9_125 rfl sh_23 cl_X1 sh_sc (Nat.le_of_ble_eq_true rfl) (Nat.le_of_ble_eq_true rfl) (r_X1_today_23  _) ?_
          refine Ev.cVv (pc := 61) (k := 23) (av := [vI v2, vI 1, vI (p_X1_today_23 σ9)]) (rest := []) dX9_drawFor_61 ce_X1_end ml_X9_217 rfl sh_23 cl_X1 sh_sc (Nat.le_of_ble_eq_true rfl) (Nat.le_of_ble_eq_true rfl) (r_X1_end_23 _ _ _ _) ?_
          refine Ev.nmS (fun σ12 e9 => ?_)
          replace h := bt_app h σ12 e9
          exact Ev.weak2 (lj_X9_drawFor_64 N (l_X9_drawFor_14 N n) ih _ _ _ _ _ h) (lsubS (lsubS (lsubS lsubE)))
      · replace h := (if_neg c7).symm.trans h
        refine Ev.icmp_ne_t (pc := 34) (tgt := 64) dX9_drawFor_34 rfl c7 ?_
        exact Ev.weak2 (lj_X9_drawFor_64 N (l_X9_drawFor_14 N n) ih _ _ _ _ _ h) (lsubS (lsubS (lsubS lsubE)))
theorem e_X9_drawFor (N : Nat) (a1 : Int32) (σ : St) (v : Unit) (w : St) (h : o_X9_drawFor N a1 σ = some (v, w)) : Ev md_X9_drawFor 5 0 (lvE [vR 0, vI a1] 3) [] SH σ (none, SH, w) := by
  show Ev md_X9_drawFor 5 0 [some (vR 0), some (vI a1), none] [] SH σ (none, SH, w)
  unfold o_X9_drawFor at h
  refine Ev.aload_n (pc := 0) dX9_drawFor_0 rfl rfl ?_
  refine Ev.getR (pc := 1) dX9_drawFor_1 fl_X9_31 sh_0 rfl ?_
  refine Ev.iload_n (pc := 4) dX9_drawFor_4 rfl rfl ?_
  refine Ev.cVi (pc := 5) (k := 23) (av := [vI a1]) (rest := []) dX9_drawFor_5 ce_X1_onTheWay ml_X9_258 rfl sh_23 cl_X1 sh_sc (Nat.le_of_ble_eq_true rfl) (Nat.le_of_ble_eq_true rfl) (r_X1_onTheWay _ _) ?_
  by_cases c1 : (p_X1_onTheWay a1 σ) = 0
  · replace h := (if_pos c1).symm.trans h
    refine Ev.if_eq_t (pc := 8) (tgt := 12) dX9_drawFor_8 rfl c1 ?_
    refine Ev.iconst (pc := 12) (v := 0) dX9_drawFor_12 ki_0 ?_
    refine Ev.istore_n (pc := 13) (lv' := [some (vR 0), some (vI a1), some (vI 0)]) dX9_drawFor_13 rfl (lt9 rfl) rfl rfl ?_
    exact Ev.weak2 (ll_X9_drawFor_14 N N _ _ _ _ _ h) (lsubS (lsubS (lsubS lsubE)))
  · replace h := (if_neg c1).symm.trans h
    refine Ev.if_eq_f (pc := 8) dX9_drawFor_8 ⟨12, rfl⟩ c1 ?_
    obtain ⟨h1, h2⟩ := oeq h
    subst h1
    subst h2
    exact Ev.ret_v (pc := 11) dX9_drawFor_11 rfl
theorem r_X9_drawFor {N : Nat} {a1 : Int32} {σ : St} {v : Unit} {w : St} (h : o_X9_drawFor N a1 σ = some (v, w)) : Rn md_X9_drawFor 5 [vR 0, vI a1] SH σ (none, SH, w) := Rn.of ce_X9_drawFor.1 (Nat.le_of_ble_eq_true rfl) (e_X9_drawFor N _ _ _ _ h)
def l_X9_drift_22 (N : Nat) (K_14 : Int32 → Int32 → St → Option (Int32 × St)) : Nat → Int32 → Int32 → Int32 → St → Option (Int32 × St)
  | 0, _, _, _, _ => none
  | n + 1, v1, v3, v4, σ => if (σ 1 2) ≤ v4 then (bd (o_X9_endDay N  σ) fun u2 σ3 => bt (v3 + 1) fun x5 => K_14 v1 x5 σ3) else (bd (o_X9_drawFor N v4 σ) fun u6 σ7 => bt (v4 + 1) fun x9 => l_X9_drift_22 N K_14 n v1 v3 x9 σ7)
def l_X9_drift_14 (N : Nat) : Nat → Int32 → Int32 → St → Option (Int32 × St)
  | 0, _, _, _ => none
  | n + 1, v1, v3, σ => if v1 ≤ v3 then (some ((p_X1_today_23 σ), σ)) else (l_X9_drift_22 N (l_X9_drift_14 N n) N v1 v3 0 σ)
def o_X9_drift (N : Nat) (a1 : Int32) (σ : St) : Option (Int32 × St) := bt (p_X9_refusalOfDays a1 σ) fun x1 => if x1 = 0 then (l_X9_drift_14 N N a1 0 σ) else (some (x1, σ))
theorem ll_X9_drift_22 (N : Nat) (K_14 : Int32 → Int32 → St → Option (Int32 × St)) (hK_14 : ∀ (v1 : Int32) (v3 : Int32) (σ : St) (v : Int32) (w : St), K_14 v1 v3 σ = some (v, w) → Ev md_X9_drift 6 14 [some (vR 0), some (vI v1), none, some (vI v3), none] [] SH σ (some (vI v), SH, w)) : ∀ (n : Nat) (v1 : Int32) (v3 : Int32) (v4 : Int32) (σ : St) (v : Int32) (w : St), l_X9_drift_22 N K_14 n v1 v3 v4 σ = some (v, w) → Ev md_X9_drift 6 22 [some (vR 0), some (vI v1), none, some (vI v3), some (vI v4)] [] SH σ (some (vI v), SH, w) := by
  intro n
  induction n with
  | zero =>
    intro v1 v3 v4 σ v w h
    rw [l_X9_drift_22] at h
    cases h
  | succ n ih =>
    intro v1 v3 v4 σ v w h
    rw [l_X9_drift_22] at h
    refine Ev.iload (pc := 22) dX9_drift_22 rfl ?_
    refine Ev.aload_n (pc := 24) dX9_drift_24 rfl rfl ?_
    refine Ev.getR (pc := 25) dX9_drift_25 fl_X9_10 sh_0 rfl ?_
    refine Ev.getI (pc := 28) dX9_drift_28 fl_X9_116 sh_1 rfl ?_
    by_cases c1 : (σ 1 2) ≤ v4
    · replace h := (if_pos c1).symm.trans h
      refine Ev.icmp_ge_t (pc := 31) (tgt := 46) dX9_drift_31 rfl c1 ?_
      refine Ev.aload_n (pc := 46) dX9_drift_46 rfl rfl ?_
      obtain ⟨u2, σ3, g4, h⟩ := bd_elim h
      refine Ev.cVv (pc := 47) (k := 0) (av := []) (rest := []) dX9_drift_47 ce_X9_endDay ml_X9_211 rfl sh_0 cl_X9 sh_sc (Nat.le_of_ble_eq_true rfl) (Nat.le_of_ble_eq_true rfl) (r_X9_endDay g4) ?_
      obtain ⟨x5, e_x5, h⟩ := bt_elim h
      refine Ev.iinc (pc := 50) (v := x5) (lv' := [some (vR 0), some (vI v1), none, some (vI x5), some (vI v4)]) dX9_drift_50 rfl (by rw [ki_1, e_x5]) (lt9 rfl) rfl rfl ?_
      refine Ev.goto (pc := 53) (tgt := 14) dX9_drift_53 rfl ?_
      exact Ev.weak2 (hK_14 _ _ _ _ _ h) (lsubS (lsubS (lsubN (lsubS (lsubN lsubE)))))
    · replace h := (if_neg c1).symm.trans h
      refine Ev.icmp_ge_f (pc := 31) dX9_drift_31 ⟨46, rfl⟩ c1 ?_
      refine Ev.aload_n (pc := 34) dX9_drift_34 rfl rfl ?_
      refine Ev.iload (pc := 35) dX9_drift_35 rfl ?_
      obtain ⟨u6, σ7, g8, h⟩ := bd_elim h
      refine Ev.cVv (pc := 37) (k := 0) (av := [vI v4]) (rest := []) dX9_drift_37 ce_X9_drawFor ml_X9_234 rfl sh_0 cl_X9 sh_sc (Nat.le_of_ble_eq_true rfl) (Nat.le_of_ble_eq_true rfl) (r_X9_drawFor g8) ?_
      obtain ⟨x9, e_x9, h⟩ := bt_elim h
      refine Ev.iinc (pc := 40) (v := x9) (lv' := [some (vR 0), some (vI v1), none, some (vI v3), some (vI x9)]) dX9_drift_40 rfl (by rw [ki_1, e_x9]) (lt9 rfl) rfl rfl ?_
      refine Ev.goto (pc := 43) (tgt := 22) dX9_drift_43 rfl ?_
      exact Ev.weak2 (ih _ _ _ _ _ _ h) (lsubS (lsubS (lsubN (lsubS (lsubS lsubE)))))
theorem ll_X9_drift_14 (N : Nat) : ∀ (n : Nat) (v1 : Int32) (v3 : Int32) (σ : St) (v : Int32) (w : St), l_X9_drift_14 N n v1 v3 σ = some (v, w) → Ev md_X9_drift 6 14 [some (vR 0), some (vI v1), none, some (vI v3), none] [] SH σ (some (vI v), SH, w) := by
  intro n
  induction n with
  | zero =>
    intro v1 v3 σ v w h
    rw [l_X9_drift_14] at h
    cases h
  | succ n ih =>
    intro v1 v3 σ v w h
    rw [l_X9_drift_14] at h
    refine Ev.iload_n (pc := 14) dX9_drift_14 rfl rfl ?_
    refine Ev.iload_n (pc := 15) dX9_drift_15 rfl rfl ?_
    by_cases c1 : v1 ≤ v3
    · replace h := (if_pos c1).symm.trans h
      refine Ev.icmp_ge_t (pc := 16) (tgt := 56) dX9_drift_16 rfl c1 ?_
      refine Ev.aload_n (pc := 56) dX9_drift_56 rfl rfl ?_
      refine Ev.getR (pc := 57) dX9_drift_57 fl_X9_31 sh_0 rfl ?_
      refine Ev.cVi (pc := 60) (k := 23) (av := []) (rest := []) dX9_drift_60 ce_X1_today ml_X9_125 rfl sh_23 cl_X1 sh_sc (Nat.le_of_ble_eq_true rfl) (Nat.le_of_ble_eq_true rfl) (r_X1_today_23  _) ?_
      obtain ⟨h1, h2⟩ := oeq h
      subst h1
      subst h2
      exact Ev.ret_i (pc := 63) dX9_drift_63 rfl rfl
    · replace h := (if_neg c1).symm.trans h
      refine Ev.icmp_ge_f (pc := 16) dX9_drift_16 ⟨56, rfl⟩ c1 ?_
      refine Ev.iconst (pc := 19) (v := 0) dX9_drift_19 ki_0 ?_
      refine Ev.istore (pc := 20) (lv' := [some (vR 0), some (vI v1), none, some (vI v3), some (vI 0)]) dX9_drift_20 (lt9 rfl) rfl rfl ?_
      exact Ev.weak2 (ll_X9_drift_22 N (l_X9_drift_14 N n) ih N _ _ _ _ _ _ h) (lsubS (lsubS (lsubN (lsubS (lsubS lsubE)))))
theorem e_X9_drift (N : Nat) (a1 : Int32) (σ : St) (v : Int32) (w : St) (h : o_X9_drift N a1 σ = some (v, w)) : Ev md_X9_drift 6 0 (lvE [vR 0, vI a1] 5) [] SH σ (some (vI v), SH, w) := by
  show Ev md_X9_drift 6 0 [some (vR 0), some (vI a1), none, none, none] [] SH σ (some (vI v), SH, w)
  unfold o_X9_drift at h
  refine Ev.aload_n (pc := 0) dX9_drift_0 rfl rfl ?_
  refine Ev.iload_n (pc := 1) dX9_drift_1 rfl rfl ?_
  refine Ev.cVi (pc := 2) (k := 0) (av := [vI a1]) (rest := []) dX9_drift_2 ce_X9_refusalOfDays ml_X9_208 rfl sh_0 cl_X9 sh_sc (Nat.le_of_ble_eq_true rfl) (Nat.le_of_ble_eq_true rfl) (r_X9_refusalOfDays _ _) ?_
  refine Ev.nmI (fun x1 e9 => ?_)
  replace h := bt_app h x1 e9
  refine Ev.istore_n (pc := 5) (lv' := [some (vR 0), some (vI a1), some (vI x1), none, none]) dX9_drift_5 rfl (lt9 rfl) rfl rfl ?_
  refine Ev.iload_n (pc := 6) dX9_drift_6 rfl rfl ?_
  by_cases c2 : x1 = 0
  · replace h := (if_pos c2).symm.trans h
    refine Ev.if_eq_t (pc := 7) (tgt := 12) dX9_drift_7 rfl c2 ?_
    refine Ev.iconst (pc := 12) (v := 0) dX9_drift_12 ki_0 ?_
    refine Ev.istore_n (pc := 13) (lv' := [some (vR 0), some (vI a1), some (vI x1), some (vI 0), none]) dX9_drift_13 rfl (lt9 rfl) rfl rfl ?_
    exact Ev.weak2 (ll_X9_drift_14 N N _ _ _ _ _ h) (lsubS (lsubS (lsubN (lsubS (lsubN lsubE)))))
  · replace h := (if_neg c2).symm.trans h
    refine Ev.if_eq_f (pc := 7) dX9_drift_7 ⟨12, rfl⟩ c2 ?_
    refine Ev.iload_n (pc := 10) dX9_drift_10 rfl rfl ?_
    obtain ⟨h1, h2⟩ := oeq h
    subst h1
    subst h2
    exact Ev.ret_i (pc := 11) dX9_drift_11 rfl rfl
theorem r_X9_drift {N : Nat} {a1 : Int32} {σ : St} {v : Int32} {w : St} (h : o_X9_drift N a1 σ = some (v, w)) : Rn md_X9_drift 6 [vR 0, vI a1] SH σ (some (vI v), SH, w) := Rn.of ce_X9_drift.1 (Nat.le_of_ble_eq_true rfl) (e_X9_drift N _ _ _ _ h)
def o_X10_draw (N : Nat) (a1 : Int32) (σ : St) : Option (Int32 × St) := bt (st σ 80 (38 : Int32).toNatClampNeg (((((σ 80 (38 : Int32).toNatClampNeg).toInt64 * 1103515245) + 12345) - (((σ 80 (38 : Int32).toNatClampNeg).toInt64 * 1103515245) + 12345) / 2147483648 * 2147483648).toInt32)) fun σ1 => ckDI a1 (some ((((σ1 80 (38 : Int32).toNatClampNeg) / 65536) - ((σ1 80 (38 : Int32).toNatClampNeg) / 65536) / a1 * a1), σ1))
theorem e_X10_draw (N : Nat) (a1 : Int32) (σ : St) (v : Int32) (w : St) (h : o_X10_draw N a1 σ = some (v, w)) : Ev md_X10_draw 0 0 (lvE [vR 79, vI a1] 2) [] SH σ (some (vI v), SH, w) := by
  show Ev md_X10_draw 0 0 [some (vR 79), some (vI a1)] [] SH σ (some (vI v), SH, w)
  unfold o_X10_draw at h
  refine Ev.aload_n (pc := 0) dX10_draw_0 rfl rfl ?_
  refine Ev.getR (pc := 1) dX10_draw_1 fl_X10_7 sh_79 rfl ?_
  refine Ev.bipush (pc := 4) (v := 38) dX10_draw_4 kb_38 ?_
  refine Ev.aload_n (pc := 6) dX10_draw_6 rfl rfl ?_
  refine Ev.getR (pc := 7) dX10_draw_7 fl_X10_7 sh_79 rfl ?_
  refine Ev.bipush (pc := 10) (v := 38) dX10_draw_10 kb_38 ?_
  refine Ev.iald (pc := 12) dX10_draw_12 sh_80 in_38_1360 ?_
  refine Ev.i2l (pc := 13) dX10_draw_13 ?_
  refine Ev.ldc2 (pc := 14) dX10_draw_14 kl_X10_261 ?_
  refine Ev.lmul (pc := 17) dX10_draw_17 ?_
  refine Ev.ldc2 (pc := 18) dX10_draw_18 kl_X10_263 ?_
  refine Ev.ladd (pc := 21) dX10_draw_21 ?_
  refine Ev.ldc2 (pc := 22) dX10_draw_22 kl_X10_265 ?_
  refine Ev.lrem (pc := 25) dX10_draw_25 (by decide) ?_
  refine Ev.l2i (pc := 26) dX10_draw_26 ?_
  refine Ev.iast (pc := 27) dX10_draw_27 sh_80 in_38_1360 ?_
  refine Ev.nmS (fun σ1 e9 => ?_)
  replace h := bt_app h σ1 e9
  refine Ev.aload_n (pc := 28) dX10_draw_28 rfl rfl ?_
  refine Ev.getR (pc := 29) dX10_draw_29 fl_X10_7 sh_79 rfl ?_
  refine Ev.bipush (pc := 32) (v := 38) dX10_draw_32 kb_38 ?_
  refine Ev.iald (pc := 34) dX10_draw_34 sh_80 in_38_1360 ?_
  refine Ev.ldcw (pc := 35) dX10_draw_35 kc_X10_267 ?_
  refine Ev.idiv (pc := 38) dX10_draw_38 (by decide) ?_
  refine Ev.iload_n (pc := 39) dX10_draw_39 rfl rfl ?_
  obtain ⟨c2, h⟩ := ckDI_elim h
  refine Ev.irem (pc := 40) dX10_draw_40 c2 ?_
  obtain ⟨h1, h2⟩ := oeq h
  subst h1
  subst h2
  exact Ev.ret_i (pc := 41) dX10_draw_41 rfl rfl
theorem r_X10_draw {N : Nat} {a1 : Int32} {σ : St} {v : Int32} {w : St} (h : o_X10_draw N a1 σ = some (v, w)) : Rn md_X10_draw 0 [vR 79, vI a1] SH σ (some (vI v), SH, w) := Rn.of ce_X10_draw.1 (Nat.le_of_ble_eq_true rfl) (e_X10_draw N _ _ _ _ h)
def j_X10_keeperByDraws_36 (N : Nat) (K_2 : Int32 → Int32 → St → Option (Unit × St)) (v1 : Int32) (v2 : Int32) (σ : St) : Option (Unit × St) := bt (v2 + 1) fun x1 => K_2 v1 x1 σ
def l_X10_keeperByDraws_2 (N : Nat) : Nat → Int32 → Int32 → St → Option (Unit × St)
  | 0, _, _, _ => none
  | n + 1, v1, v2, σ => if (σ 79 5) ≤ v2 then (bd (o_X10_draw N (2 * (σ 79 2)) σ) fun x2 σ3 => if (σ3 79 2) ≤ x2 then (some ((), σ3)) else (bd (o_X10_canGo N v1 x2 σ3) fun x6 σ7 => if x6 = 0 then (some ((), σ7)) else (bd (o_X10_goTo N v1 x2 σ7) fun u10 σ11 => some ((), σ11)))) else (ckA (14 + v2) 1360 (if (σ 80 (14 + v2).toNatClampNeg) = v1 then (bd (o_X10_canKeep N v2 σ) fun x15 σ16 => if x15 = 0 then (j_X10_keeperByDraws_36 N (l_X10_keeperByDraws_2 N n) v1 v2 σ16) else (bd (o_X10_keepNow N v2 σ16) fun u19 σ20 => j_X10_keeperByDraws_36 N (l_X10_keeperByDraws_2 N n) v1 v2 σ20)) else (j_X10_keeperByDraws_36 N (l_X10_keeperByDraws_2 N n) v1 v2 σ)))
def o_X10_keeperByDraws (N : Nat) (a1 : Int32) (σ : St) : Option (Unit × St) := l_X10_keeperByDraws_2 N N a1 0 σ
theorem lj_X10_keeperByDraws_36 (N : Nat) (K_2 : Int32 → Int32 → St → Option (Unit × St)) (hK_2 : ∀ (v1 : Int32) (v2 : Int32) (σ : St) (v : Unit) (w : St), K_2 v1 v2 σ = some (v, w) → Ev md_X10_keeperByDraws 4 2 [some (vR 79), some (vI v1), some (vI v2)] [] SH σ (none, SH, w)) (v1 : Int32) (v2 : Int32) (σ : St) (v : Unit) (w : St) (h : j_X10_keeperByDraws_36 N K_2 v1 v2 σ = some (v, w)) : Ev md_X10_keeperByDraws 4 36 [some (vR 79), some (vI v1), some (vI v2)] [] SH σ (none, SH, w) := by
  unfold j_X10_keeperByDraws_36 at h
  obtain ⟨x1, e_x1, h⟩ := bt_elim h
  refine Ev.iinc (pc := 36) (v := x1) (lv' := [some (vR 79), some (vI v1), some (vI x1)]) dX10_keeperByDraws_36 rfl (by rw [ki_1, e_x1]) (lt9 rfl) rfl rfl ?_
  refine Ev.goto (pc := 39) (tgt := 2) dX10_keeperByDraws_39 rfl ?_
  exact Ev.weak2 (hK_2 _ _ _ _ _ h) (lsubS (lsubS (lsubS lsubE)))
theorem ll_X10_keeperByDraws_2 (N : Nat) : ∀ (n : Nat) (v1 : Int32) (v2 : Int32) (σ : St) (v : Unit) (w : St), l_X10_keeperByDraws_2 N n v1 v2 σ = some (v, w) → Ev md_X10_keeperByDraws 4 2 [some (vR 79), some (vI v1), some (vI v2)] [] SH σ (none, SH, w) := by
  intro n
  induction n with
  | zero =>
    intro v1 v2 σ v w h
    rw [l_X10_keeperByDraws_2] at h
    cases h
  | succ n ih =>
    intro v1 v2 σ v w h
    rw [l_X10_keeperByDraws_2] at h
    refine Ev.iload_n (pc := 2) dX10_keeperByDraws_2 rfl rfl ?_
    refine Ev.aload_n (pc := 3) dX10_keeperByDraws_3 rfl rfl ?_
    refine Ev.getI (pc := 4) dX10_keeperByDraws_4 fl_X10_175 sh_79 rfl ?_
    by_cases c1 : (σ 79 5) ≤ v2
    · replace h := (if_pos c1).symm.trans h
      refine Ev.icmp_ge_t (pc := 7) (tgt := 42) dX10_keeperByDraws_7 rfl c1 ?_
      refine Ev.aload_n (pc := 42) dX10_keeperByDraws_42 rfl rfl ?_
      refine Ev.iconst (pc := 43) (v := 2) dX10_keeperByDraws_43 ki_2 ?_
      refine Ev.aload_n (pc := 44) dX10_keeperByDraws_44 rfl rfl ?_
      refine Ev.getI (pc := 45) dX10_keeperByDraws_45 fl_X10_166 sh_79 rfl ?_
      refine Ev.imul (pc := 48) dX10_keeperByDraws_48 ?_
      obtain ⟨x2, σ3, g4, h⟩ := bd_elim h
      refine Ev.cVi (pc := 49) (k := 79) (av := [vI (2 * (σ 79 2))]) (rest := []) dX10_keeperByDraws_49 ce_X10_draw ml_X10_268 rfl sh_79 cl_X10 sh_sc (Nat.le_of_ble_eq_true rfl) (Nat.le_of_ble_eq_true rfl) (r_X10_draw g4) ?_
      refine Ev.istore_n (pc := 52) (lv' := [some (vR 79), some (vI v1), some (vI x2)]) dX10_keeperByDraws_52 rfl (lt9 rfl) rfl rfl ?_
      refine Ev.iload_n (pc := 53) dX10_keeperByDraws_53 rfl rfl ?_
      refine Ev.aload_n (pc := 54) dX10_keeperByDraws_54 rfl rfl ?_
      refine Ev.getI (pc := 55) dX10_keeperByDraws_55 fl_X10_166 sh_79 rfl ?_
      by_cases c5 : (σ3 79 2) ≤ x2
      · replace h := (if_pos c5).symm.trans h
        refine Ev.icmp_ge_t (pc := 58) (tgt := 76) dX10_keeperByDraws_58 rfl c5 ?_
        obtain ⟨h1, h2⟩ := oeq h
        subst h1
        subst h2
        exact Ev.ret_v (pc := 76) dX10_keeperByDraws_76 rfl
      · replace h := (if_neg c5).symm.trans h
        refine Ev.icmp_ge_f (pc := 58) dX10_keeperByDraws_58 ⟨76, rfl⟩ c5 ?_
        refine Ev.aload_n (pc := 61) dX10_keeperByDraws_61 rfl rfl ?_
        refine Ev.iload_n (pc := 62) dX10_keeperByDraws_62 rfl rfl ?_
        refine Ev.iload_n (pc := 63) dX10_keeperByDraws_63 rfl rfl ?_
        obtain ⟨x6, σ7, g8, h⟩ := bd_elim h
        refine Ev.cVi (pc := 64) (k := 79) (av := [vI v1, vI x2]) (rest := []) dX10_keeperByDraws_64 ce_X10_canGo ml_X10_223 rfl sh_79 cl_X10 sh_sc (Nat.le_of_ble_eq_true rfl) (Nat.le_of_ble_eq_true rfl) (r_X10_canGo g8) ?_
        by_cases c9 : x6 = 0
        · replace h := (if_pos c9).symm.trans h
          refine Ev.if_eq_t (pc := 67) (tgt := 76) dX10_keeperByDraws_67 rfl c9 ?_
          obtain ⟨h1, h2⟩ := oeq h
          subst h1
          subst h2
          exact Ev.ret_v (pc := 76) dX10_keeperByDraws_76 rfl
        · replace h := (if_neg c9).symm.trans h
          refine Ev.if_eq_f (pc := 67) dX10_keeperByDraws_67 ⟨76, rfl⟩ c9 ?_
          refine Ev.aload_n (pc := 70) dX10_keeperByDraws_70 rfl rfl ?_
          refine Ev.iload_n (pc := 71) dX10_keeperByDraws_71 rfl rfl ?_
          refine Ev.iload_n (pc := 72) dX10_keeperByDraws_72 rfl rfl ?_
          obtain ⟨u10, σ11, g12, h⟩ := bd_elim h
          refine Ev.cVv (pc := 73) (k := 79) (av := [vI v1, vI x2]) (rest := []) dX10_keeperByDraws_73 ce_X10_goTo ml_X10_228 rfl sh_79 cl_X10 sh_sc (Nat.le_of_ble_eq_true rfl) (Nat.le_of_ble_eq_true rfl) (r_X10_goTo g12) ?_
          obtain ⟨h1, h2⟩ := oeq h
          subst h1
          subst h2
          exact Ev.ret_v (pc := 76) dX10_keeperByDraws_76 rfl
    · replace h := (if_neg c1).symm.trans h
      refine Ev.icmp_ge_f (pc := 7) dX10_keeperByDraws_7 ⟨42, rfl⟩ c1 ?_
      refine Ev.aload_n (pc := 10) dX10_keeperByDraws_10 rfl rfl ?_
      refine Ev.getR (pc := 11) dX10_keeperByDraws_11 fl_X10_7 sh_79 rfl ?_
      refine Ev.bipush (pc := 14) (v := 14) dX10_keeperByDraws_14 kb_14 ?_
      refine Ev.iload_n (pc := 16) dX10_keeperByDraws_16 rfl rfl ?_
      refine Ev.iadd (pc := 17) dX10_keeperByDraws_17 ?_
      obtain ⟨c13, h⟩ := ckA_elim h
      refine Ev.iald (pc := 18) dX10_keeperByDraws_18 sh_80 c13 ?_
      refine Ev.iload_n (pc := 19) dX10_keeperByDraws_19 rfl rfl ?_
      by_cases c14 : (σ 80 (14 + v2).toNatClampNeg) = v1
      · replace h := (if_pos c14).symm.trans h
        refine Ev.icmp_ne_f (pc := 20) dX10_keeperByDraws_20 ⟨36, rfl⟩ c14 ?_
        refine Ev.aload_n (pc := 23) dX10_keeperByDraws_23 rfl rfl ?_
        refine Ev.iload_n (pc := 24) dX10_keeperByDraws_24 rfl rfl ?_
        obtain ⟨x15, σ16, g17, h⟩ := bd_elim h
        refine Ev.cVi (pc := 25) (k := 79) (av := [vI v2]) (rest := []) dX10_keeperByDraws_25 ce_X10_canKeep ml_X10_255 rfl sh_79 cl_X10 sh_sc (Nat.le_of_ble_eq_true rfl) (Nat.le_of_ble_eq_true rfl) (r_X10_canKeep g17) ?_
        by_cases c18 : x15 = 0
        · replace h := (if_pos c18).symm.trans h
          refine Ev.if_eq_t (pc := 28) (tgt := 36) dX10_keeperByDraws_28 rfl c18 ?_
          exact Ev.weak2 (lj_X10_keeperByDraws_36 N (l_X10_keeperByDraws_2 N n) ih _ _ _ _ _ h) (lsubS (lsubS (lsubS lsubE)))
        · replace h := (if_neg c18).symm.trans h
          refine Ev.if_eq_f (pc := 28) dX10_keeperByDraws_28 ⟨36, rfl⟩ c18 ?_
          refine Ev.aload_n (pc := 31) dX10_keeperByDraws_31 rfl rfl ?_
          refine Ev.iload_n (pc := 32) dX10_keeperByDraws_32 rfl rfl ?_
          obtain ⟨u19, σ20, g21, h⟩ := bd_elim h
          refine Ev.cVv (pc := 33) (k := 79) (av := [vI v2]) (rest := []) dX10_keeperByDraws_33 ce_X10_keepNow ml_X10_258 rfl sh_79 cl_X10 sh_sc (Nat.le_of_ble_eq_true rfl) (Nat.le_of_ble_eq_true rfl) (r_X10_keepNow g21) ?_
          exact Ev.weak2 (lj_X10_keeperByDraws_36 N (l_X10_keeperByDraws_2 N n) ih _ _ _ _ _ h) (lsubS (lsubS (lsubS lsubE)))
      · replace h := (if_neg c14).symm.trans h
        refine Ev.icmp_ne_t (pc := 20) (tgt := 36) dX10_keeperByDraws_20 rfl c14 ?_
        exact Ev.weak2 (lj_X10_keeperByDraws_36 N (l_X10_keeperByDraws_2 N n) ih _ _ _ _ _ h) (lsubS (lsubS (lsubS lsubE)))
theorem e_X10_keeperByDraws (N : Nat) (a1 : Int32) (σ : St) (v : Unit) (w : St) (h : o_X10_keeperByDraws N a1 σ = some (v, w)) : Ev md_X10_keeperByDraws 4 0 (lvE [vR 79, vI a1] 3) [] SH σ (none, SH, w) := by
  show Ev md_X10_keeperByDraws 4 0 [some (vR 79), some (vI a1), none] [] SH σ (none, SH, w)
  unfold o_X10_keeperByDraws at h
  refine Ev.iconst (pc := 0) (v := 0) dX10_keeperByDraws_0 ki_0 ?_
  refine Ev.istore_n (pc := 1) (lv' := [some (vR 79), some (vI a1), some (vI 0)]) dX10_keeperByDraws_1 rfl (lt9 rfl) rfl rfl ?_
  exact Ev.weak2 (ll_X10_keeperByDraws_2 N N _ _ _ _ _ h) (lsubS (lsubS (lsubS lsubE)))
theorem r_X10_keeperByDraws {N : Nat} {a1 : Int32} {σ : St} {v : Unit} {w : St} (h : o_X10_keeperByDraws N a1 σ = some (v, w)) : Rn md_X10_keeperByDraws 4 [vR 79, vI a1] SH σ (none, SH, w) := Rn.of ce_X10_keeperByDraws.1 (Nat.le_of_ble_eq_true rfl) (e_X10_keeperByDraws N _ _ _ _ h)
def j_X10_drift_44 (N : Nat) (K_16 : Int32 → Int32 → St → Option (Int32 × St)) (K_23 : Int32 → Int32 → Int32 → St → Option (Int32 × St)) (v1 : Int32) (v2 : Int32) (v3 : Int32) (σ : St) : Option (Int32 × St) := bt (v3 + 1) fun x1 => K_23 v1 v2 x1 σ
def l_X10_drift_23 (N : Nat) (K_16 : Int32 → Int32 → St → Option (Int32 × St)) : Nat → Int32 → Int32 → Int32 → St → Option (Int32 × St)
  | 0, _, _, _, _ => none
  | n + 1, v1, v2, v3, σ => if (σ 79 4) ≤ v3 then (bd (o_X10_passDay N  σ) fun u2 σ3 => bt (v2 + 1) fun x5 => K_16 v1 x5 σ3) else (bd (o_X10_isOnWay N v3 σ) fun x6 σ7 => if x6 = 0 then (bd (o_X10_keeperByDraws N v3 σ7) fun u10 σ11 => j_X10_drift_44 N K_16 (l_X10_drift_23 N K_16 n) v1 v2 v3 σ11) else (j_X10_drift_44 N K_16 (l_X10_drift_23 N K_16 n) v1 v2 v3 σ7))
def l_X10_drift_16 (N : Nat) : Nat → Int32 → Int32 → St → Option (Int32 × St)
  | 0, _, _, _ => none
  | n + 1, v1, v2, σ => if v1 ≤ v2 then (some ((σ 80 (37 : Int32).toNatClampNeg), σ)) else (l_X10_drift_23 N (l_X10_drift_16 N n) N v1 v2 0 σ)
def o_X10_drift (N : Nat) (a1 : Int32) (σ : St) : Option (Int32 × St) := if (0 : Int32) ≤ (p_X10_refusedDays a1 σ) then (l_X10_drift_16 N N a1 0 σ) else (some ((p_X10_refusedDays a1 σ), σ))
theorem lj_X10_drift_44 (N : Nat) (K_16 : Int32 → Int32 → St → Option (Int32 × St)) (K_23 : Int32 → Int32 → Int32 → St → Option (Int32 × St)) (hK_16 : ∀ (v1 : Int32) (v2 : Int32) (σ : St) (v : Int32) (w : St), K_16 v1 v2 σ = some (v, w) → Ev md_X10_drift 5 16 [some (vR 79), some (vI v1), some (vI v2), none] [] SH σ (some (vI v), SH, w)) (hK_23 : ∀ (v1 : Int32) (v2 : Int32) (v3 : Int32) (σ : St) (v : Int32) (w : St), K_23 v1 v2 v3 σ = some (v, w) → Ev md_X10_drift 5 23 [some (vR 79), some (vI v1), some (vI v2), some (vI v3)] [] SH σ (some (vI v), SH, w)) (v1 : Int32) (v2 : Int32) (v3 : Int32) (σ : St) (v : Int32) (w : St) (h : j_X10_drift_44 N K_16 K_23 v1 v2 v3 σ = some (v, w)) : Ev md_X10_drift 5 44 [some (vR 79), some (vI v1), some (vI v2), some (vI v3)] [] SH σ (some (vI v), SH, w) := by
  unfold j_X10_drift_44 at h
  obtain ⟨x1, e_x1, h⟩ := bt_elim h
  refine Ev.iinc (pc := 44) (v := x1) (lv' := [some (vR 79), some (vI v1), some (vI v2), some (vI x1)]) dX10_drift_44 rfl (by rw [ki_1, e_x1]) (lt9 rfl) rfl rfl ?_
  refine Ev.goto (pc := 47) (tgt := 23) dX10_drift_47 rfl ?_
  exact Ev.weak2 (hK_23 _ _ _ _ _ _ h) (lsubS (lsubS (lsubS (lsubS lsubE))))
theorem ll_X10_drift_23 (N : Nat) (K_16 : Int32 → Int32 → St → Option (Int32 × St)) (hK_16 : ∀ (v1 : Int32) (v2 : Int32) (σ : St) (v : Int32) (w : St), K_16 v1 v2 σ = some (v, w) → Ev md_X10_drift 5 16 [some (vR 79), some (vI v1), some (vI v2), none] [] SH σ (some (vI v), SH, w)) : ∀ (n : Nat) (v1 : Int32) (v2 : Int32) (v3 : Int32) (σ : St) (v : Int32) (w : St), l_X10_drift_23 N K_16 n v1 v2 v3 σ = some (v, w) → Ev md_X10_drift 5 23 [some (vR 79), some (vI v1), some (vI v2), some (vI v3)] [] SH σ (some (vI v), SH, w) := by
  intro n
  induction n with
  | zero =>
    intro v1 v2 v3 σ v w h
    rw [l_X10_drift_23] at h
    cases h
  | succ n ih =>
    intro v1 v2 v3 σ v w h
    rw [l_X10_drift_23] at h
    refine Ev.iload_n (pc := 23) dX10_drift_23 rfl rfl ?_
    refine Ev.aload_n (pc := 24) dX10_drift_24 rfl rfl ?_
    refine Ev.getI (pc := 25) dX10_drift_25 fl_X10_172 sh_79 rfl ?_
    by_cases c1 : (σ 79 4) ≤ v3
    · replace h := (if_pos c1).symm.trans h
      refine Ev.icmp_ge_t (pc := 28) (tgt := 50) dX10_drift_28 rfl c1 ?_
      refine Ev.aload_n (pc := 50) dX10_drift_50 rfl rfl ?_
      obtain ⟨u2, σ3, g4, h⟩ := bd_elim h
      refine Ev.cVv (pc := 51) (k := 79) (av := []) (rest := []) dX10_drift_51 ce_X10_passDay ml_X10_252 rfl sh_79 cl_X10 sh_sc (Nat.le_of_ble_eq_true rfl) (Nat.le_of_ble_eq_true rfl) (r_X10_passDay g4) ?_
      obtain ⟨x5, e_x5, h⟩ := bt_elim h
      refine Ev.iinc (pc := 54) (v := x5) (lv' := [some (vR 79), some (vI v1), some (vI x5), some (vI v3)]) dX10_drift_54 rfl (by rw [ki_1, e_x5]) (lt9 rfl) rfl rfl ?_
      refine Ev.goto (pc := 57) (tgt := 16) dX10_drift_57 rfl ?_
      exact Ev.weak2 (hK_16 _ _ _ _ _ h) (lsubS (lsubS (lsubS (lsubN lsubE))))
    · replace h := (if_neg c1).symm.trans h
      refine Ev.icmp_ge_f (pc := 28) dX10_drift_28 ⟨50, rfl⟩ c1 ?_
      refine Ev.aload_n (pc := 31) dX10_drift_31 rfl rfl ?_
      refine Ev.iload_n (pc := 32) dX10_drift_32 rfl rfl ?_
      obtain ⟨x6, σ7, g8, h⟩ := bd_elim h
      refine Ev.cVi (pc := 33) (k := 79) (av := [vI v3]) (rest := []) dX10_drift_33 ce_X10_isOnWay ml_X10_220 rfl sh_79 cl_X10 sh_sc (Nat.le_of_ble_eq_true rfl) (Nat.le_of_ble_eq_true rfl) (r_X10_isOnWay g8) ?_
      by_cases c9 : x6 = 0
      · replace h := (if_pos c9).symm.trans h
        refine Ev.if_ne_f (pc := 36) dX10_drift_36 ⟨44, rfl⟩ c9 ?_
        refine Ev.aload_n (pc := 39) dX10_drift_39 rfl rfl ?_
        refine Ev.iload_n (pc := 40) dX10_drift_40 rfl rfl ?_
        obtain ⟨u10, σ11, g12, h⟩ := bd_elim h
        refine Ev.cVv (pc := 41) (k := 79) (av := [vI v3]) (rest := []) dX10_drift_41 ce_X10_keeperByDraws ml_X10_271 rfl sh_79 cl_X10 sh_sc (Nat.le_of_ble_eq_true rfl) (Nat.le_of_ble_eq_true rfl) (r_X10_keeperByDraws g12) ?_
        exact Ev.weak2 (lj_X10_drift_44 N K_16 (l_X10_drift_23 N K_16 n) hK_16 ih _ _ _ _ _ _ h) (lsubS (lsubS (lsubS (lsubS lsubE))))
      · replace h := (if_neg c9).symm.trans h
        refine Ev.if_ne_t (pc := 36) (tgt := 44) dX10_drift_36 rfl c9 ?_
        exact Ev.weak2 (lj_X10_drift_44 N K_16 (l_X10_drift_23 N K_16 n) hK_16 ih _ _ _ _ _ _ h) (lsubS (lsubS (lsubS (lsubS lsubE))))
theorem ll_X10_drift_16 (N : Nat) : ∀ (n : Nat) (v1 : Int32) (v2 : Int32) (σ : St) (v : Int32) (w : St), l_X10_drift_16 N n v1 v2 σ = some (v, w) → Ev md_X10_drift 5 16 [some (vR 79), some (vI v1), some (vI v2), none] [] SH σ (some (vI v), SH, w) := by
  intro n
  induction n with
  | zero =>
    intro v1 v2 σ v w h
    rw [l_X10_drift_16] at h
    cases h
  | succ n ih =>
    intro v1 v2 σ v w h
    rw [l_X10_drift_16] at h
    refine Ev.iload_n (pc := 16) dX10_drift_16 rfl rfl ?_
    refine Ev.iload_n (pc := 17) dX10_drift_17 rfl rfl ?_
    by_cases c1 : v1 ≤ v2
    · replace h := (if_pos c1).symm.trans h
      refine Ev.icmp_ge_t (pc := 18) (tgt := 60) dX10_drift_18 rfl c1 ?_
      refine Ev.aload_n (pc := 60) dX10_drift_60 rfl rfl ?_
      refine Ev.getR (pc := 61) dX10_drift_61 fl_X10_7 sh_79 rfl ?_
      refine Ev.bipush (pc := 64) (v := 37) dX10_drift_64 kb_37 ?_
      refine Ev.iald (pc := 66) dX10_drift_66 sh_80 in_37_1360 ?_
      obtain ⟨h1, h2⟩ := oeq h
      subst h1
      subst h2
      exact Ev.ret_i (pc := 67) dX10_drift_67 rfl rfl
    · replace h := (if_neg c1).symm.trans h
      refine Ev.icmp_ge_f (pc := 18) dX10_drift_18 ⟨60, rfl⟩ c1 ?_
      refine Ev.iconst (pc := 21) (v := 0) dX10_drift_21 ki_0 ?_
      refine Ev.istore_n (pc := 22) (lv' := [some (vR 79), some (vI v1), some (vI v2), some (vI 0)]) dX10_drift_22 rfl (lt9 rfl) rfl rfl ?_
      exact Ev.weak2 (ll_X10_drift_23 N (l_X10_drift_16 N n) ih N _ _ _ _ _ _ h) (lsubS (lsubS (lsubS (lsubS lsubE))))
theorem e_X10_drift (N : Nat) (a1 : Int32) (σ : St) (v : Int32) (w : St) (h : o_X10_drift N a1 σ = some (v, w)) : Ev md_X10_drift 5 0 (lvE [vR 79, vI a1] 4) [] SH σ (some (vI v), SH, w) := by
  show Ev md_X10_drift 5 0 [some (vR 79), some (vI a1), none, none] [] SH σ (some (vI v), SH, w)
  unfold o_X10_drift at h
  refine Ev.aload_n (pc := 0) dX10_drift_0 rfl rfl ?_
  refine Ev.iload_n (pc := 1) dX10_drift_1 rfl rfl ?_
  refine Ev.cVi (pc := 2) (k := 79) (av := [vI a1]) (rest := []) dX10_drift_2 ce_X10_refusedDays ml_X10_249 rfl sh_79 cl_X10 sh_sc (Nat.le_of_ble_eq_true rfl) (Nat.le_of_ble_eq_true rfl) (r_X10_refusedDays _ _) ?_
  by_cases c1 : (0 : Int32) ≤ (p_X10_refusedDays a1 σ)
  · replace h := (if_pos c1).symm.trans h
    refine Ev.if_ge_t (pc := 5) (tgt := 14) dX10_drift_5 rfl c1 ?_
    refine Ev.iconst (pc := 14) (v := 0) dX10_drift_14 ki_0 ?_
    refine Ev.istore_n (pc := 15) (lv' := [some (vR 79), some (vI a1), some (vI 0), none]) dX10_drift_15 rfl (lt9 rfl) rfl rfl ?_
    exact Ev.weak2 (ll_X10_drift_16 N N _ _ _ _ _ h) (lsubS (lsubS (lsubS (lsubN lsubE))))
  · replace h := (if_neg c1).symm.trans h
    refine Ev.if_ge_f (pc := 5) dX10_drift_5 ⟨14, rfl⟩ c1 ?_
    refine Ev.aload_n (pc := 8) dX10_drift_8 rfl rfl ?_
    refine Ev.iload_n (pc := 9) dX10_drift_9 rfl rfl ?_
    refine Ev.cVi (pc := 10) (k := 79) (av := [vI a1]) (rest := []) dX10_drift_10 ce_X10_refusedDays ml_X10_249 rfl sh_79 cl_X10 sh_sc (Nat.le_of_ble_eq_true rfl) (Nat.le_of_ble_eq_true rfl) (r_X10_refusedDays _ _) ?_
    obtain ⟨h1, h2⟩ := oeq h
    subst h1
    subst h2
    exact Ev.ret_i (pc := 13) dX10_drift_13 rfl rfl
theorem r_X10_drift {N : Nat} {a1 : Int32} {σ : St} {v : Int32} {w : St} (h : o_X10_drift N a1 σ = some (v, w)) : Rn md_X10_drift 5 [vR 79, vI a1] SH σ (some (vI v), SH, w) := Rn.of ce_X10_drift.1 (Nat.le_of_ble_eq_true rfl) (e_X10_drift N _ _ _ _ h)
def o_X6_takeBack (N : Nat) (a1 : Int32) (σ : St) : Option (Int32 × St) := if a1 < 1 then (some (0, σ)) else (if a1 ≤ (σ 25 2) then (bd (o_J9_floorMod_7cf53 N ((σ 25 1) - a1) 30 σ) fun x3 σ4 => bt (st σ4 25 1 x3) fun σ6 => bt (st σ6 25 2 ((σ6 25 2) - a1)) fun σ7 => bt (cpO_ σ7 (rwA_ 27 30 (σ7 25 1)) (some 24) 31 31) fun σ8 => some (1, σ8)) else (some (0, σ)))
theorem e_X6_takeBack (N : Nat) (a1 : Int32) (σ : St) (v : Int32) (w : St) (h : o_X6_takeBack N a1 σ = some (v, w)) : Ev md_X6_takeBack 1 0 (lvE [vR 25, vI a1, vR 23] 3) [] SH σ (some (vI v), SH, w) := by
  show Ev md_X6_takeBack 1 0 [some (vR 25), some (vI a1), some (vR 23)] [] SH σ (some (vI v), SH, w)
  unfold o_X6_takeBack at h
  refine Ev.iload_n (pc := 0) dX6_takeBack_0 rfl rfl ?_
  refine Ev.iconst (pc := 1) (v := 1) dX6_takeBack_1 ki_1 ?_
  by_cases c1 : a1 < 1
  · replace h := (if_pos c1).symm.trans h
    refine Ev.icmp_lt_t (pc := 2) (tgt := 13) dX6_takeBack_2 rfl c1 ?_
    refine Ev.iconst (pc := 13) (v := 0) dX6_takeBack_13 ki_0 ?_
    obtain ⟨h1, h2⟩ := oeq h
    subst h1
    subst h2
    exact Ev.ret_i (pc := 14) dX6_takeBack_14 rfl nb_0
  · replace h := (if_neg c1).symm.trans h
    refine Ev.icmp_lt_f (pc := 2) dX6_takeBack_2 ⟨13, rfl⟩ c1 ?_
    refine Ev.iload_n (pc := 5) dX6_takeBack_5 rfl rfl ?_
    refine Ev.aload_n (pc := 6) dX6_takeBack_6 rfl rfl ?_
    refine Ev.getI (pc := 7) dX6_takeBack_7 fl_X6_18 sh_25 rfl ?_
    by_cases c2 : a1 ≤ (σ 25 2)
    · replace h := (if_pos c2).symm.trans h
      refine Ev.icmp_le_t (pc := 10) (tgt := 15) dX6_takeBack_10 rfl c2 ?_
      refine Ev.aload_n (pc := 15) dX6_takeBack_15 rfl rfl ?_
      refine Ev.aload_n (pc := 16) dX6_takeBack_16 rfl rfl ?_
      refine Ev.getI (pc := 17) dX6_takeBack_17 fl_X6_26 sh_25 rfl ?_
      refine Ev.iload_n (pc := 20) dX6_takeBack_20 rfl rfl ?_
      refine Ev.isub (pc := 21) dX6_takeBack_21 ?_
      refine Ev.bipush (pc := 22) (v := 30) dX6_takeBack_22 kb_30 ?_
      obtain ⟨x3, σ4, g5, h⟩ := bd_elim h
      refine Ev.cTi (pc := 24) (av := [vI ((σ 25 1) - a1), vI 30]) (rest := [vR 25]) dX6_takeBack_24 ce_J9_floorMod_7cf53 ml_X6_43 rfl sh_sc (Nat.le_of_ble_eq_true rfl) (Nat.le_of_ble_eq_true rfl) (r_J9_floorMod_7cf53 g5) ?_
      refine Ev.putI (pc := 27) dX6_takeBack_27 pl_X6_26 sh_25 rfl rfl rfl ?_
      refine Ev.nmS (fun σ6 e9 => ?_)
      replace h := bt_app h σ6 e9
      refine Ev.aload_n (pc := 30) dX6_takeBack_30 rfl rfl ?_
      refine Ev.dup (pc := 31) dX6_takeBack_31 rfl ?_
      refine Ev.getI (pc := 32) dX6_takeBack_32 fl_X6_18 sh_25 rfl ?_
      refine Ev.iload_n (pc := 35) dX6_takeBack_35 rfl rfl ?_
      refine Ev.isub (pc := 36) dX6_takeBack_36 ?_
      refine Ev.putI (pc := 37) dX6_takeBack_37 pl_X6_18 sh_25 rfl rfl rfl ?_
      refine Ev.nmS (fun σ7 e9 => ?_)
      replace h := bt_app h σ7 e9
      refine Ev.aload_n (pc := 40) dX6_takeBack_40 rfl rfl ?_
      refine Ev.getR (pc := 41) dX6_takeBack_41 fl_X6_13 sh_25 rfl ?_
      refine Ev.aload_n (pc := 44) dX6_takeBack_44 rfl rfl ?_
      refine Ev.getI (pc := 45) dX6_takeBack_45 fl_X6_26 sh_25 rfl ?_
      refine Ev.cTq (pc := 48) (av := [vR 26, vI (σ7 25 1)]) (rest := []) dX6_takeBack_48 ce_X9_rowAt ml_X6_29 rfl sh_sc (Nat.le_of_ble_eq_true rfl) (Nat.le_of_ble_eq_true rfl) (r_rowAt sh_26 hr_26 (by decide) _ _) ?_
      refine Ev.aload_n (pc := 51) dX6_takeBack_51 rfl rfl ?_
      refine Ev.getR (pc := 52) dX6_takeBack_52 fl_X6_22 sh_23 rfl ?_
      refine Ev.cTv (pc := 55) (av := [.inr (.inr (rwA_ 27 30 (σ7 25 1))), vR 24]) (rest := []) dX6_takeBack_55 ce_X9_copy ml_X6_33 rfl sh_sc (Nat.le_of_ble_eq_true rfl) (Nat.le_of_ble_eq_true rfl) (r_copy (hq_26 _) (hs_some sh_24) (by decide) (by decide) _) ?_
      refine Ev.nmS (fun σ8 e9 => ?_)
      replace h := bt_app h σ8 e9
      refine Ev.iconst (pc := 58) (v := 1) dX6_takeBack_58 ki_1 ?_
      obtain ⟨h1, h2⟩ := oeq h
      subst h1
      subst h2
      exact Ev.ret_i (pc := 59) dX6_takeBack_59 rfl nb_1
    · replace h := (if_neg c2).symm.trans h
      refine Ev.icmp_le_f (pc := 10) dX6_takeBack_10 ⟨15, rfl⟩ c2 ?_
      refine Ev.iconst (pc := 13) (v := 0) dX6_takeBack_13 ki_0 ?_
      obtain ⟨h1, h2⟩ := oeq h
      subst h1
      subst h2
      exact Ev.ret_i (pc := 14) dX6_takeBack_14 rfl nb_0
theorem r_X6_takeBack {N : Nat} {a1 : Int32} {σ : St} {v : Int32} {w : St} (h : o_X6_takeBack N a1 σ = some (v, w)) : Rn md_X6_takeBack 1 [vR 25, vI a1, vR 23] SH σ (some (vI v), SH, w) := Rn.of ce_X6_takeBack.1 (Nat.le_of_ble_eq_true rfl) (e_X6_takeBack N _ _ _ _ h)
def o_X9_undo (N : Nat) (a1 : Int32) (σ : St) : Option (Int32 × St) := if a1 < 1 then (some ((-1000000002), σ)) else (if a1 ≤ 30 then (bd (o_X6_takeBack N a1 σ) fun x3 σ4 => if x3 = 0 then (some ((-1000000003), σ4)) else (some ((p_X1_today_23 σ4), σ4))) else (some ((-1000000002), σ)))
theorem e_X9_undo (N : Nat) (a1 : Int32) (σ : St) (v : Int32) (w : St) (h : o_X9_undo N a1 σ = some (v, w)) : Ev md_X9_undo 2 0 (lvE [vR 0, vI a1] 2) [] SH σ (some (vI v), SH, w) := by
  show Ev md_X9_undo 2 0 [some (vR 0), some (vI a1)] [] SH σ (some (vI v), SH, w)
  unfold o_X9_undo at h
  refine Ev.iload_n (pc := 0) dX9_undo_0 rfl rfl ?_
  refine Ev.iconst (pc := 1) (v := 1) dX9_undo_1 ki_1 ?_
  by_cases c1 : a1 < 1
  · replace h := (if_pos c1).symm.trans h
    refine Ev.icmp_lt_t (pc := 2) (tgt := 11) dX9_undo_2 rfl c1 ?_
    refine Ev.ldc (pc := 11) dX9_undo_11 kc_X9_81 ?_
    obtain ⟨h1, h2⟩ := oeq h
    subst h1
    subst h2
    exact Ev.ret_i (pc := 13) dX9_undo_13 rfl rfl
  · replace h := (if_neg c1).symm.trans h
    refine Ev.icmp_lt_f (pc := 2) dX9_undo_2 ⟨11, rfl⟩ c1 ?_
    refine Ev.iload_n (pc := 5) dX9_undo_5 rfl rfl ?_
    refine Ev.bipush (pc := 6) (v := 30) dX9_undo_6 kb_30 ?_
    by_cases c2 : a1 ≤ 30
    · replace h := (if_pos c2).symm.trans h
      refine Ev.icmp_le_t (pc := 8) (tgt := 14) dX9_undo_8 rfl c2 ?_
      refine Ev.aload_n (pc := 14) dX9_undo_14 rfl rfl ?_
      refine Ev.getR (pc := 15) dX9_undo_15 fl_X9_38 sh_0 rfl ?_
      refine Ev.iload_n (pc := 18) dX9_undo_18 rfl rfl ?_
      refine Ev.aload_n (pc := 19) dX9_undo_19 rfl rfl ?_
      refine Ev.getR (pc := 20) dX9_undo_20 fl_X9_31 sh_0 rfl ?_
      obtain ⟨x3, σ4, g5, h⟩ := bd_elim h
      refine Ev.cVi (pc := 23) (k := 25) (av := [vI a1, vR 23]) (rest := []) dX9_undo_23 ce_X6_takeBack ml_X9_238 rfl sh_25 cl_X6 sh_sc (Nat.le_of_ble_eq_true rfl) (Nat.le_of_ble_eq_true rfl) (r_X6_takeBack g5) ?_
      by_cases c6 : x3 = 0
      · replace h := (if_pos c6).symm.trans h
        refine Ev.if_eq_t (pc := 26) (tgt := 39) dX9_undo_26 rfl c6 ?_
        refine Ev.ldc (pc := 39) dX9_undo_39 kc_X9_207 ?_
        obtain ⟨h1, h2⟩ := oeq h
        subst h1
        subst h2
        exact Ev.ret_i (pc := 41) dX9_undo_41 rfl rfl
      · replace h := (if_neg c6).symm.trans h
        refine Ev.if_eq_f (pc := 26) dX9_undo_26 ⟨39, rfl⟩ c6 ?_
        refine Ev.aload_n (pc := 29) dX9_undo_29 rfl rfl ?_
        refine Ev.getR (pc := 30) dX9_undo_30 fl_X9_31 sh_0 rfl ?_
        refine Ev.cVi (pc := 33) (k := 23) (av := []) (rest := []) dX9_undo_33 ce_X1_today ml_X9_125 rfl sh_23 cl_X1 sh_sc (Nat.le_of_ble_eq_true rfl) (Nat.le_of_ble_eq_true rfl) (r_X1_today_23  _) ?_
        refine Ev.goto (pc := 36) (tgt := 41) dX9_undo_36 rfl ?_
        obtain ⟨h1, h2⟩ := oeq h
        subst h1
        subst h2
        exact Ev.ret_i (pc := 41) dX9_undo_41 rfl rfl
    · replace h := (if_neg c2).symm.trans h
      refine Ev.icmp_le_f (pc := 8) dX9_undo_8 ⟨14, rfl⟩ c2 ?_
      refine Ev.ldc (pc := 11) dX9_undo_11 kc_X9_81 ?_
      obtain ⟨h1, h2⟩ := oeq h
      subst h1
      subst h2
      exact Ev.ret_i (pc := 13) dX9_undo_13 rfl rfl
theorem r_X9_undo {N : Nat} {a1 : Int32} {σ : St} {v : Int32} {w : St} (h : o_X9_undo N a1 σ = some (v, w)) : Rn md_X9_undo 2 [vR 0, vI a1] SH σ (some (vI v), SH, w) := Rn.of ce_X9_undo.1 (Nat.le_of_ble_eq_true rfl) (e_X9_undo N _ _ _ _ h)
def o_X10_undo (N : Nat) (a1 : Int32) (σ : St) : Option (Int32 × St) := if (p_X10_in a1.toInt64 1 30 σ) = 0 then (some ((-1000000002), σ)) else (if a1 ≤ (σ 79 28) then (bt (st σ 79 28 ((σ 79 28) - a1)) fun σ3 => bt (σ3 80 (38 : Int32).toNatClampNeg) fun x4 => bd (o_X10_copy N (160 + (40 * (σ3 79 28))) 0 σ3) fun u5 σ6 => bt (st σ6 80 (38 : Int32).toNatClampNeg x4) fun σ8 => some ((σ8 80 (37 : Int32).toNatClampNeg), σ8)) else (some ((-1000000003), σ)))
theorem e_X10_undo (N : Nat) (a1 : Int32) (σ : St) (v : Int32) (w : St) (h : o_X10_undo N a1 σ = some (v, w)) : Ev md_X10_undo 1 0 (lvE [vR 79, vI a1] 3) [] SH σ (some (vI v), SH, w) := by
  show Ev md_X10_undo 1 0 [some (vR 79), some (vI a1), none] [] SH σ (some (vI v), SH, w)
  unfold o_X10_undo at h
  refine Ev.iload_n (pc := 0) dX10_undo_0 rfl rfl ?_
  refine Ev.i2l (pc := 1) dX10_undo_1 ?_
  refine Ev.lconst (pc := 2) (v := 1) dX10_undo_2 kL_1 ?_
  refine Ev.ldc2 (pc := 3) dX10_undo_3 kl_X10_274 ?_
  refine Ev.cTi (pc := 6) (av := [vL a1.toInt64, vL 1, vL 30]) (rest := []) dX10_undo_6 ce_X10_in ml_X10_89 rfl sh_sc (Nat.le_of_ble_eq_true rfl) (Nat.le_of_ble_eq_true rfl) (r_X10_in _ _ _ _) ?_
  by_cases c1 : (p_X10_in a1.toInt64 1 30 σ) = 0
  · replace h := (if_pos c1).symm.trans h
    refine Ev.if_ne_f (pc := 9) dX10_undo_9 ⟨15, rfl⟩ c1 ?_
    refine Ev.ldc (pc := 12) dX10_undo_12 kc_X10_93 ?_
    obtain ⟨h1, h2⟩ := oeq h
    subst h1
    subst h2
    exact Ev.ret_i (pc := 14) dX10_undo_14 rfl rfl
  · replace h := (if_neg c1).symm.trans h
    refine Ev.if_ne_t (pc := 9) (tgt := 15) dX10_undo_9 rfl c1 ?_
    refine Ev.iload_n (pc := 15) dX10_undo_15 rfl rfl ?_
    refine Ev.aload_n (pc := 16) dX10_undo_16 rfl rfl ?_
    refine Ev.getI (pc := 17) dX10_undo_17 fl_X10_184 sh_79 rfl ?_
    by_cases c2 : a1 ≤ (σ 79 28)
    · replace h := (if_pos c2).symm.trans h
      refine Ev.icmp_le_t (pc := 20) (tgt := 26) dX10_undo_20 rfl c2 ?_
      refine Ev.aload_n (pc := 26) dX10_undo_26 rfl rfl ?_
      refine Ev.dup (pc := 27) dX10_undo_27 rfl ?_
      refine Ev.getI (pc := 28) dX10_undo_28 fl_X10_184 sh_79 rfl ?_
      refine Ev.iload_n (pc := 31) dX10_undo_31 rfl rfl ?_
      refine Ev.isub (pc := 32) dX10_undo_32 ?_
      refine Ev.putI (pc := 33) dX10_undo_33 pl_X10_184 sh_79 rfl rfl rfl ?_
      refine Ev.nmS (fun σ3 e9 => ?_)
      replace h := bt_app h σ3 e9
      refine Ev.aload_n (pc := 36) dX10_undo_36 rfl rfl ?_
      refine Ev.getR (pc := 37) dX10_undo_37 fl_X10_7 sh_79 rfl ?_
      refine Ev.bipush (pc := 40) (v := 38) dX10_undo_40 kb_38 ?_
      refine Ev.iald (pc := 42) dX10_undo_42 sh_80 in_38_1360 ?_
      refine Ev.nmI (fun x4 e9 => ?_)
      replace h := bt_app h x4 e9
      refine Ev.istore_n (pc := 43) (lv' := [some (vR 79), some (vI a1), some (vI x4)]) dX10_undo_43 rfl (lt9 rfl) rfl rfl ?_
      refine Ev.aload_n (pc := 44) dX10_undo_44 rfl rfl ?_
      refine Ev.sipush (pc := 45) (v := 160) dX10_undo_45 ks_160 ?_
      refine Ev.bipush (pc := 48) (v := 40) dX10_undo_48 kb_40 ?_
      refine Ev.aload_n (pc := 50) dX10_undo_50 rfl rfl ?_
      refine Ev.getI (pc := 51) dX10_undo_51 fl_X10_184 sh_79 rfl ?_
      refine Ev.imul (pc := 54) dX10_undo_54 ?_
      refine Ev.iadd (pc := 55) dX10_undo_55 ?_
      refine Ev.iconst (pc := 56) (v := 0) dX10_undo_56 ki_0 ?_
      obtain ⟨u5, σ6, g7, h⟩ := bd_elim h
      refine Ev.cVv (pc := 57) (k := 79) (av := [vI (160 + (40 * (σ3 79 28))), vI 0]) (rest := []) dX10_undo_57 ce_X10_copy ml_X10_235 rfl sh_79 cl_X10 sh_sc (Nat.le_of_ble_eq_true rfl) (Nat.le_of_ble_eq_true rfl) (r_X10_copy g7) ?_
      refine Ev.aload_n (pc := 60) dX10_undo_60 rfl rfl ?_
      refine Ev.getR (pc := 61) dX10_undo_61 fl_X10_7 sh_79 rfl ?_
      refine Ev.bipush (pc := 64) (v := 38) dX10_undo_64 kb_38 ?_
      refine Ev.iload_n (pc := 66) dX10_undo_66 rfl rfl ?_
      refine Ev.iast (pc := 67) dX10_undo_67 sh_80 in_38_1360 ?_
      refine Ev.nmS (fun σ8 e9 => ?_)
      replace h := bt_app h σ8 e9
      refine Ev.aload_n (pc := 68) dX10_undo_68 rfl rfl ?_
      refine Ev.getR (pc := 69) dX10_undo_69 fl_X10_7 sh_79 rfl ?_
      refine Ev.bipush (pc := 72) (v := 37) dX10_undo_72 kb_37 ?_
      refine Ev.iald (pc := 74) dX10_undo_74 sh_80 in_37_1360 ?_
      obtain ⟨h1, h2⟩ := oeq h
      subst h1
      subst h2
      exact Ev.ret_i (pc := 75) dX10_undo_75 rfl rfl
    · replace h := (if_neg c2).symm.trans h
      refine Ev.icmp_le_f (pc := 20) dX10_undo_20 ⟨26, rfl⟩ c2 ?_
      refine Ev.ldc (pc := 23) dX10_undo_23 kc_X10_227 ?_
      obtain ⟨h1, h2⟩ := oeq h
      subst h1
      subst h2
      exact Ev.ret_i (pc := 25) dX10_undo_25 rfl rfl
theorem r_X10_undo {N : Nat} {a1 : Int32} {σ : St} {v : Int32} {w : St} (h : o_X10_undo N a1 σ = some (v, w)) : Rn md_X10_undo 1 [vR 79, vI a1] SH σ (some (vI v), SH, w) := Rn.of ce_X10_undo.1 (Nat.le_of_ble_eq_true rfl) (e_X10_undo N _ _ _ _ h)
def p_X9_refusalOfTrying (a1 : Int32) (σ : St) : Int32 := if (p_X5_hasKeeper a1 σ) = 0 then (-1000000001) else (if (p_X1_onTheWay a1 σ) = 0 then 0 else (-1000000003))
theorem e_X9_refusalOfTrying (a1 : Int32) (σ : St) (v : Int32) (h : p_X9_refusalOfTrying a1 σ = v) : Ev md_X9_refusalOfTrying 3 0 (lvE [vR 0, vI a1] 2) [] SH σ (some (vI v), SH, σ) := by
  show Ev md_X9_refusalOfTrying 3 0 [some (vR 0), some (vI a1)] [] SH σ (some (vI v), SH, σ)
  unfold p_X9_refusalOfTrying at h
  refine Ev.aload_n (pc := 0) dX9_refusalOfTrying_0 rfl rfl ?_
  refine Ev.getR (pc := 1) dX9_refusalOfTrying_1 fl_X9_10 sh_0 rfl ?_
  refine Ev.iload_n (pc := 4) dX9_refusalOfTrying_4 rfl rfl ?_
  refine Ev.cVi (pc := 5) (k := 1) (av := [vI a1]) (rest := []) dX9_refusalOfTrying_5 ce_X5_hasKeeper ml_X9_150 rfl sh_1 cl_X5 sh_sc (Nat.le_of_ble_eq_true rfl) (Nat.le_of_ble_eq_true rfl) (r_X5_hasKeeper _ _) ?_
  by_cases c1 : (p_X5_hasKeeper a1 σ) = 0
  · replace h := (if_pos c1).symm.trans h
    refine Ev.if_ne_f (pc := 8) dX9_refusalOfTrying_8 ⟨14, rfl⟩ c1 ?_
    refine Ev.ldc (pc := 11) dX9_refusalOfTrying_11 kc_X9_145 ?_
    subst h
    exact Ev.ret_i (pc := 13) dX9_refusalOfTrying_13 rfl rfl
  · replace h := (if_neg c1).symm.trans h
    refine Ev.if_ne_t (pc := 8) (tgt := 14) dX9_refusalOfTrying_8 rfl c1 ?_
    refine Ev.aload_n (pc := 14) dX9_refusalOfTrying_14 rfl rfl ?_
    refine Ev.getR (pc := 15) dX9_refusalOfTrying_15 fl_X9_31 sh_0 rfl ?_
    refine Ev.iload_n (pc := 18) dX9_refusalOfTrying_18 rfl rfl ?_
    refine Ev.cVi (pc := 19) (k := 23) (av := [vI a1]) (rest := []) dX9_refusalOfTrying_19 ce_X1_onTheWay ml_X9_258 rfl sh_23 cl_X1 sh_sc (Nat.le_of_ble_eq_true rfl) (Nat.le_of_ble_eq_true rfl) (r_X1_onTheWay _ _) ?_
    by_cases c2 : (p_X1_onTheWay a1 σ) = 0
    · replace h := (if_pos c2).symm.trans h
      refine Ev.if_eq_t (pc := 22) (tgt := 30) dX9_refusalOfTrying_22 rfl c2 ?_
      refine Ev.iconst (pc := 30) (v := 0) dX9_refusalOfTrying_30 ki_0 ?_
      subst h
      exact Ev.ret_i (pc := 31) dX9_refusalOfTrying_31 rfl rfl
    · replace h := (if_neg c2).symm.trans h
      refine Ev.if_eq_f (pc := 22) dX9_refusalOfTrying_22 ⟨30, rfl⟩ c2 ?_
      refine Ev.ldc (pc := 25) dX9_refusalOfTrying_25 kc_X9_207 ?_
      refine Ev.goto (pc := 27) (tgt := 31) dX9_refusalOfTrying_27 rfl ?_
      subst h
      exact Ev.ret_i (pc := 31) dX9_refusalOfTrying_31 rfl rfl
theorem r_X9_refusalOfTrying (a1 : Int32) (σ : St) : Rn md_X9_refusalOfTrying 3 [vR 0, vI a1] SH σ (some (vI (p_X9_refusalOfTrying a1 σ)), SH, σ) := Rn.of ce_X9_refusalOfTrying.1 (Nat.le_of_ble_eq_true rfl) (e_X9_refusalOfTrying _ _ _ rfl)
def o_X1_openOf (N : Nat) (a1 : Int32) (σ : St) : Option (Int32 × St) := bd (o_X1_heldBy N a1 σ) fun x1 σ2 => bd (o_X1_setOf N 0 σ2) fun x4 σ5 => some ((x1 &&& x4), σ5)
theorem e_X1_openOf (N : Nat) (a1 : Int32) (σ : St) (v : Int32) (w : St) (h : o_X1_openOf N a1 σ = some (v, w)) : Ev md_X1_openOf 3 0 (lvE [vR 23, vI a1] 2) [] SH σ (some (vI v), SH, w) := by
  show Ev md_X1_openOf 3 0 [some (vR 23), some (vI a1)] [] SH σ (some (vI v), SH, w)
  unfold o_X1_openOf at h
  refine Ev.aload_n (pc := 0) dX1_openOf_0 rfl rfl ?_
  refine Ev.iload_n (pc := 1) dX1_openOf_1 rfl rfl ?_
  obtain ⟨x1, σ2, g3, h⟩ := bd_elim h
  refine Ev.cVi (pc := 2) (k := 23) (av := [vI a1]) (rest := []) dX1_openOf_2 ce_X1_heldBy ml_X1_57 rfl sh_23 cl_X1 sh_sc (Nat.le_of_ble_eq_true rfl) (Nat.le_of_ble_eq_true rfl) (r_X1_heldBy g3) ?_
  refine Ev.aload_n (pc := 5) dX1_openOf_5 rfl rfl ?_
  refine Ev.iconst (pc := 6) (v := 0) dX1_openOf_6 ki_0 ?_
  obtain ⟨x4, σ5, g6, h⟩ := bd_elim h
  refine Ev.cVi (pc := 7) (k := 23) (av := [vI 0]) (rest := [vI x1]) dX1_openOf_7 ce_X1_setOf ml_X1_60 rfl sh_23 cl_X1 sh_sc (Nat.le_of_ble_eq_true rfl) (Nat.le_of_ble_eq_true rfl) (r_X1_setOf g6) ?_
  refine Ev.iand (pc := 10) dX1_openOf_10 ?_
  obtain ⟨h1, h2⟩ := oeq h
  subst h1
  subst h2
  exact Ev.ret_i (pc := 11) dX1_openOf_11 rfl rfl
theorem r_X1_openOf {N : Nat} {a1 : Int32} {σ : St} {v : Int32} {w : St} (h : o_X1_openOf N a1 σ = some (v, w)) : Rn md_X1_openOf 3 [vR 23, vI a1] SH σ (some (vI v), SH, w) := Rn.of ce_X1_openOf.1 (Nat.le_of_ble_eq_true rfl) (e_X1_openOf N _ _ _ _ h)
def j_X9_has_22  (σ : St) : Int32 := 0
def p_X9_has (a0 : Int32) (a1 : Int32) (σ : St) : Int32 := if a1 < 0 then (j_X9_has_22 σ) else (if (31 : Int32) ≤ a1 then (j_X9_has_22 σ) else (if ((a0 >>> (a1 &&& 31)) &&& 1) = 0 then (j_X9_has_22 σ) else 1))
theorem lj_X9_has_22  (σ : St) (v : Int32) (h : j_X9_has_22  σ = v) : Ev md_X9_has 0 22 [none, none] [] SH σ (some (vI v), SH, σ) := by
  unfold j_X9_has_22 at h
  refine Ev.iconst (pc := 22) (v := 0) dX9_has_22 ki_0 ?_
  subst h
  exact Ev.ret_i (pc := 23) dX9_has_23 rfl nb_0
theorem e_X9_has (a0 : Int32) (a1 : Int32) (σ : St) (v : Int32) (h : p_X9_has a0 a1 σ = v) : Ev md_X9_has 0 0 (lvE [vI a0, vI a1] 2) [] SH σ (some (vI v), SH, σ) := by
  show Ev md_X9_has 0 0 [some (vI a0), some (vI a1)] [] SH σ (some (vI v), SH, σ)
  unfold p_X9_has at h
  refine Ev.iload_n (pc := 0) dX9_has_0 rfl rfl ?_
  by_cases c1 : a1 < 0
  · replace h := (if_pos c1).symm.trans h
    refine Ev.if_lt_t (pc := 1) (tgt := 22) dX9_has_1 rfl c1 ?_
    exact Ev.weak2 (lj_X9_has_22 _ _ h) (lsubN (lsubN lsubE))
  · replace h := (if_neg c1).symm.trans h
    refine Ev.if_lt_f (pc := 1) dX9_has_1 ⟨22, rfl⟩ c1 ?_
    refine Ev.iload_n (pc := 4) dX9_has_4 rfl rfl ?_
    refine Ev.bipush (pc := 5) (v := 31) dX9_has_5 kb_31 ?_
    by_cases c2 : (31 : Int32) ≤ a1
    · replace h := (if_pos c2).symm.trans h
      refine Ev.icmp_ge_t (pc := 7) (tgt := 22) dX9_has_7 rfl c2 ?_
      exact Ev.weak2 (lj_X9_has_22 _ _ h) (lsubN (lsubN lsubE))
    · replace h := (if_neg c2).symm.trans h
      refine Ev.icmp_ge_f (pc := 7) dX9_has_7 ⟨22, rfl⟩ c2 ?_
      refine Ev.iload_n (pc := 10) dX9_has_10 rfl rfl ?_
      refine Ev.iload_n (pc := 11) dX9_has_11 rfl rfl ?_
      refine Ev.ishr (pc := 12) dX9_has_12 ?_
      refine Ev.iconst (pc := 13) (v := 1) dX9_has_13 ki_1 ?_
      refine Ev.iand (pc := 14) dX9_has_14 ?_
      by_cases c3 : ((a0 >>> (a1 &&& 31)) &&& 1) = 0
      · replace h := (if_pos c3).symm.trans h
        refine Ev.if_eq_t (pc := 15) (tgt := 22) dX9_has_15 rfl c3 ?_
        exact Ev.weak2 (lj_X9_has_22 _ _ h) (lsubN (lsubN lsubE))
      · replace h := (if_neg c3).symm.trans h
        refine Ev.if_eq_f (pc := 15) dX9_has_15 ⟨22, rfl⟩ c3 ?_
        refine Ev.iconst (pc := 18) (v := 1) dX9_has_18 ki_1 ?_
        refine Ev.goto (pc := 19) (tgt := 23) dX9_has_19 rfl ?_
        subst h
        exact Ev.ret_i (pc := 23) dX9_has_23 rfl nb_1
theorem r_X9_has (a0 : Int32) (a1 : Int32) (σ : St) : Rn md_X9_has 0 [vI a0, vI a1] SH σ (some (vI (p_X9_has a0 a1 σ)), SH, σ) := Rn.of ce_X9_has.1 (Nat.le_of_ble_eq_true rfl) (e_X9_has _ _ _ _ rfl)
def j_X8_prepare_107 (N : Nat) (K_2 : Int32 → Int32 → St → Option (Int32 × St)) (v1 : Int32) (v2 : Int32) (σ : St) : Option (Int32 × St) := bt (v2 + 1) fun x1 => K_2 v1 x1 σ
def l_X8_prepare_2 (N : Nat) : Nat → Int32 → Int32 → St → Option (Int32 × St)
  | 0, _, _, _ => none
  | n + 1, v1, v2, σ => if (σ 1 3) ≤ v2 then (some (1, σ)) else (if (p_X9_has v1 v2 σ) = 0 then (j_X8_prepare_107 N (l_X8_prepare_2 N n) v1 v2 σ) else (bt (put_ σ 64 8 v2 (at_ σ 5 7 v2)) fun σ3 => bt (put_ σ3 65 8 v2 (at_ σ3 7 7 v2)) fun σ4 => bd (o_X1_ripeOn_23 N v2 σ4) fun x5 σ6 => bt (put_ σ6 66 8 v2 x5) fun σ8 => if (at_ σ8 66 8 v2) = (-1) then (if (p_X9_has v1 (at_ σ8 9 7 v2) σ8) = 0 then (some (0, σ8)) else (j_X8_prepare_107 N (l_X8_prepare_2 N n) v1 v2 σ8)) else (j_X8_prepare_107 N (l_X8_prepare_2 N n) v1 v2 σ8)))
def o_X8_prepare (N : Nat) (a1 : Int32) (σ : St) : Option (Int32 × St) := l_X8_prepare_2 N N a1 0 σ
theorem lj_X8_prepare_107 (N : Nat) (K_2 : Int32 → Int32 → St → Option (Int32 × St)) (hK_2 : ∀ (v1 : Int32) (v2 : Int32) (σ : St) (v : Int32) (w : St), K_2 v1 v2 σ = some (v, w) → Ev md_X8_prepare 3 2 [some (vR 63), some (vI v1), some (vI v2)] [] SH σ (some (vI v), SH, w)) (v1 : Int32) (v2 : Int32) (σ : St) (v : Int32) (w : St) (h : j_X8_prepare_107 N K_2 v1 v2 σ = some (v, w)) : Ev md_X8_prepare 3 107 [some (vR 63), some (vI v1), some (vI v2)] [] SH σ (some (vI v), SH, w) := by
  unfold j_X8_prepare_107 at h
  obtain ⟨x1, e_x1, h⟩ := bt_elim h
  refine Ev.iinc (pc := 107) (v := x1) (lv' := [some (vR 63), some (vI v1), some (vI x1)]) dX8_prepare_107 rfl (by rw [ki_1, e_x1]) (lt9 rfl) rfl rfl ?_
  refine Ev.goto (pc := 110) (tgt := 2) dX8_prepare_110 rfl ?_
  exact Ev.weak2 (hK_2 _ _ _ _ _ h) (lsubS (lsubS (lsubS lsubE)))
theorem ll_X8_prepare_2 (N : Nat) : ∀ (n : Nat) (v1 : Int32) (v2 : Int32) (σ : St) (v : Int32) (w : St), l_X8_prepare_2 N n v1 v2 σ = some (v, w) → Ev md_X8_prepare 3 2 [some (vR 63), some (vI v1), some (vI v2)] [] SH σ (some (vI v), SH, w) := by
  intro n
  induction n with
  | zero =>
    intro v1 v2 σ v w h
    rw [l_X8_prepare_2] at h
    cases h
  | succ n ih =>
    intro v1 v2 σ v w h
    rw [l_X8_prepare_2] at h
    refine Ev.iload_n (pc := 2) dX8_prepare_2 rfl rfl ?_
    refine Ev.aload_n (pc := 3) dX8_prepare_3 rfl rfl ?_
    refine Ev.getR (pc := 4) dX8_prepare_4 fl_X8_27 sh_63 rfl ?_
    refine Ev.getI (pc := 7) dX8_prepare_7 fl_X8_72 sh_1 rfl ?_
    by_cases c1 : (σ 1 3) ≤ v2
    · replace h := (if_pos c1).symm.trans h
      refine Ev.icmp_ge_t (pc := 10) (tgt := 113) dX8_prepare_10 rfl c1 ?_
      refine Ev.iconst (pc := 113) (v := 1) dX8_prepare_113 ki_1 ?_
      obtain ⟨h1, h2⟩ := oeq h
      subst h1
      subst h2
      exact Ev.ret_i (pc := 114) dX8_prepare_114 rfl nb_1
    · replace h := (if_neg c1).symm.trans h
      refine Ev.icmp_ge_f (pc := 10) dX8_prepare_10 ⟨113, rfl⟩ c1 ?_
      refine Ev.iload_n (pc := 13) dX8_prepare_13 rfl rfl ?_
      refine Ev.iload_n (pc := 14) dX8_prepare_14 rfl rfl ?_
      refine Ev.cTi (pc := 15) (av := [vI v1, vI v2]) (rest := []) dX8_prepare_15 ce_X9_has ml_X8_77 rfl sh_sc (Nat.le_of_ble_eq_true rfl) (Nat.le_of_ble_eq_true rfl) (r_X9_has _ _ _) ?_
      by_cases c2 : (p_X9_has v1 v2 σ) = 0
      · replace h := (if_pos c2).symm.trans h
        refine Ev.if_eq_t (pc := 18) (tgt := 107) dX8_prepare_18 rfl c2 ?_
        exact Ev.weak2 (lj_X8_prepare_107 N (l_X8_prepare_2 N n) ih _ _ _ _ _ h) (lsubS (lsubS (lsubS lsubE)))
      · replace h := (if_neg c2).symm.trans h
        refine Ev.if_eq_f (pc := 18) dX8_prepare_18 ⟨107, rfl⟩ c2 ?_
        refine Ev.aload_n (pc := 21) dX8_prepare_21 rfl rfl ?_
        refine Ev.getR (pc := 22) dX8_prepare_22 fl_X8_11 sh_63 rfl ?_
        refine Ev.iload_n (pc := 25) dX8_prepare_25 rfl rfl ?_
        refine Ev.aload_n (pc := 26) dX8_prepare_26 rfl rfl ?_
        refine Ev.getR (pc := 27) dX8_prepare_27 fl_X8_27 sh_63 rfl ?_
        refine Ev.getR (pc := 30) dX8_prepare_30 fl_X8_81 sh_1 rfl ?_
        refine Ev.iload_n (pc := 33) dX8_prepare_33 rfl rfl ?_
        refine Ev.cTi (pc := 34) (av := [vR 5, vI v2]) (rest := [vI v2, vR 64]) dX8_prepare_34 ce_X9_at ml_X8_43 rfl sh_sc (Nat.le_of_ble_eq_true rfl) (Nat.le_of_ble_eq_true rfl) (r_at sh_5 (by decide) _ _) ?_
        refine Ev.cTv (pc := 37) (av := [vR 64, vI v2, vI (at_ σ 5 7 v2)]) (rest := []) dX8_prepare_37 ce_X9_put ml_X8_35 rfl sh_sc (Nat.le_of_ble_eq_true rfl) (Nat.le_of_ble_eq_true rfl) (r_put sh_64 (by decide) _ _ _) ?_
        refine Ev.nmS (fun σ3 e9 => ?_)
        replace h := bt_app h σ3 e9
        refine Ev.aload_n (pc := 40) dX8_prepare_40 rfl rfl ?_
        refine Ev.getR (pc := 41) dX8_prepare_41 fl_X8_15 sh_63 rfl ?_
        refine Ev.iload_n (pc := 44) dX8_prepare_44 rfl rfl ?_
        refine Ev.aload_n (pc := 45) dX8_prepare_45 rfl rfl ?_
        refine Ev.getR (pc := 46) dX8_prepare_46 fl_X8_27 sh_63 rfl ?_
        refine Ev.getR (pc := 49) dX8_prepare_49 fl_X8_82 sh_1 rfl ?_
        refine Ev.iload_n (pc := 52) dX8_prepare_52 rfl rfl ?_
        refine Ev.cTi (pc := 53) (av := [vR 7, vI v2]) (rest := [vI v2, vR 65]) dX8_prepare_53 ce_X9_at ml_X8_43 rfl sh_sc (Nat.le_of_ble_eq_true rfl) (Nat.le_of_ble_eq_true rfl) (r_at sh_7 (by decide) _ _) ?_
        refine Ev.cTv (pc := 56) (av := [vR 65, vI v2, vI (at_ σ3 7 7 v2)]) (rest := []) dX8_prepare_56 ce_X9_put ml_X8_35 rfl sh_sc (Nat.le_of_ble_eq_true rfl) (Nat.le_of_ble_eq_true rfl) (r_put sh_65 (by decide) _ _ _) ?_
        refine Ev.nmS (fun σ4 e9 => ?_)
        replace h := bt_app h σ4 e9
        refine Ev.aload_n (pc := 59) dX8_prepare_59 rfl rfl ?_
        refine Ev.getR (pc := 60) dX8_prepare_60 fl_X8_18 sh_63 rfl ?_
        refine Ev.iload_n (pc := 63) dX8_prepare_63 rfl rfl ?_
        refine Ev.aload_n (pc := 64) dX8_prepare_64 rfl rfl ?_
        refine Ev.getR (pc := 65) dX8_prepare_65 fl_X8_31 sh_63 rfl ?_
        refine Ev.iload_n (pc := 68) dX8_prepare_68 rfl rfl ?_
        obtain ⟨x5, σ6, g7, h⟩ := bd_elim h
        refine Ev.cVi (pc := 69) (k := 23) (av := [vI v2]) (rest := [vI v2, vR 66]) dX8_prepare_69 ce_X1_ripeOn ml_X8_83 rfl sh_23 cl_X1 sh_sc (Nat.le_of_ble_eq_true rfl) (Nat.le_of_ble_eq_true rfl) (r_X1_ripeOn_23 g7) ?_
        refine Ev.cTv (pc := 72) (av := [vR 66, vI v2, vI x5]) (rest := []) dX8_prepare_72 ce_X9_put ml_X8_35 rfl sh_sc (Nat.le_of_ble_eq_true rfl) (Nat.le_of_ble_eq_true rfl) (r_put sh_66 (by decide) _ _ _) ?_
        refine Ev.nmS (fun σ8 e9 => ?_)
        replace h := bt_app h σ8 e9
        refine Ev.aload_n (pc := 75) dX8_prepare_75 rfl rfl ?_
        refine Ev.getR (pc := 76) dX8_prepare_76 fl_X8_18 sh_63 rfl ?_
        refine Ev.iload_n (pc := 79) dX8_prepare_79 rfl rfl ?_
        refine Ev.cTi (pc := 80) (av := [vR 66, vI v2]) (rest := []) dX8_prepare_80 ce_X9_at ml_X8_43 rfl sh_sc (Nat.le_of_ble_eq_true rfl) (Nat.le_of_ble_eq_true rfl) (r_at sh_66 (by decide) _ _) ?_
        refine Ev.iconst (pc := 83) (v := (-1)) dX8_prepare_83 ki_m1 ?_
        by_cases c9 : (at_ σ8 66 8 v2) = (-1)
        · replace h := (if_pos c9).symm.trans h
          refine Ev.icmp_ne_f (pc := 84) dX8_prepare_84 ⟨107, rfl⟩ c9 ?_
          refine Ev.iload_n (pc := 87) dX8_prepare_87 rfl rfl ?_
          refine Ev.aload_n (pc := 88) dX8_prepare_88 rfl rfl ?_
          refine Ev.getR (pc := 89) dX8_prepare_89 fl_X8_27 sh_63 rfl ?_
          refine Ev.getR (pc := 92) dX8_prepare_92 fl_X8_86 sh_1 rfl ?_
          refine Ev.iload_n (pc := 95) dX8_prepare_95 rfl rfl ?_
          refine Ev.cTi (pc := 96) (av := [vR 9, vI v2]) (rest := [vI v1]) dX8_prepare_96 ce_X9_at ml_X8_43 rfl sh_sc (Nat.le_of_ble_eq_true rfl) (Nat.le_of_ble_eq_true rfl) (r_at sh_9 (by decide) _ _) ?_
          refine Ev.cTi (pc := 99) (av := [vI v1, vI (at_ σ8 9 7 v2)]) (rest := []) dX8_prepare_99 ce_X9_has ml_X8_77 rfl sh_sc (Nat.le_of_ble_eq_true rfl) (Nat.le_of_ble_eq_true rfl) (r_X9_has _ _ _) ?_
          by_cases c10 : (p_X9_has v1 (at_ σ8 9 7 v2) σ8) = 0
          · replace h := (if_pos c10).symm.trans h
            refine Ev.if_ne_f (pc := 102) dX8_prepare_102 ⟨107, rfl⟩ c10 ?_
            refine Ev.iconst (pc := 105) (v := 0) dX8_prepare_105 ki_0 ?_
            obtain ⟨h1, h2⟩ := oeq h
            subst h1
            subst h2
            exact Ev.ret_i (pc := 106) dX8_prepare_106 rfl nb_0
          · replace h := (if_neg c10).symm.trans h
            refine Ev.if_ne_t (pc := 102) (tgt := 107) dX8_prepare_102 rfl c10 ?_
            exact Ev.weak2 (lj_X8_prepare_107 N (l_X8_prepare_2 N n) ih _ _ _ _ _ h) (lsubS (lsubS (lsubS lsubE)))
        · replace h := (if_neg c9).symm.trans h
          refine Ev.icmp_ne_t (pc := 84) (tgt := 107) dX8_prepare_84 rfl c9 ?_
          exact Ev.weak2 (lj_X8_prepare_107 N (l_X8_prepare_2 N n) ih _ _ _ _ _ h) (lsubS (lsubS (lsubS lsubE)))
theorem e_X8_prepare (N : Nat) (a1 : Int32) (σ : St) (v : Int32) (w : St) (h : o_X8_prepare N a1 σ = some (v, w)) : Ev md_X8_prepare 3 0 (lvE [vR 63, vI a1] 3) [] SH σ (some (vI v), SH, w) := by
  show Ev md_X8_prepare 3 0 [some (vR 63), some (vI a1), none] [] SH σ (some (vI v), SH, w)
  unfold o_X8_prepare at h
  refine Ev.iconst (pc := 0) (v := 0) dX8_prepare_0 ki_0 ?_
  refine Ev.istore_n (pc := 1) (lv' := [some (vR 63), some (vI a1), some (vI 0)]) dX8_prepare_1 rfl (lt9 rfl) rfl rfl ?_
  exact Ev.weak2 (ll_X8_prepare_2 N N _ _ _ _ _ h) (lsubS (lsubS (lsubS lsubE)))
theorem r_X8_prepare {N : Nat} {a1 : Int32} {σ : St} {v : Int32} {w : St} (h : o_X8_prepare N a1 σ = some (v, w)) : Rn md_X8_prepare 3 [vR 63, vI a1] SH σ (some (vI v), SH, w) := Rn.of ce_X8_prepare.1 (Nat.le_of_ble_eq_true rfl) (e_X8_prepare N _ _ _ _ h)
def j_X8_cannotBeBetter_23  (σ : St) : Int32 := 1
def j_X8_cannotBeBetter_27  (σ : St) : Int32 := 0
def p_X8_cannotBeBetter (a1 : Int32) (σ : St) : Int32 := if (σ 63 8) = (-1) then (j_X8_cannotBeBetter_27 σ) else (if (σ 63 9) = 0 then (if a1 < (σ 63 8) then (j_X8_cannotBeBetter_27 σ) else (j_X8_cannotBeBetter_23 σ)) else (j_X8_cannotBeBetter_23 σ))
theorem lj_X8_cannotBeBetter_23  (σ : St) (v : Int32) (h : j_X8_cannotBeBetter_23  σ = v) : Ev md_X8_cannotBeBetter 0 23 [none, none] [] SH σ (some (vI v), SH, σ) := by
  unfold j_X8_cannotBeBetter_23 at h
  refine Ev.iconst (pc := 23) (v := 1) dX8_cannotBeBetter_23 ki_1 ?_
  refine Ev.goto (pc := 24) (tgt := 28) dX8_cannotBeBetter_24 rfl ?_
  subst h
  exact Ev.ret_i (pc := 28) dX8_cannotBeBetter_28 rfl nb_1
theorem lj_X8_cannotBeBetter_27  (σ : St) (v : Int32) (h : j_X8_cannotBeBetter_27  σ = v) : Ev md_X8_cannotBeBetter 0 27 [none, none] [] SH σ (some (vI v), SH, σ) := by
  unfold j_X8_cannotBeBetter_27 at h
  refine Ev.iconst (pc := 27) (v := 0) dX8_cannotBeBetter_27 ki_0 ?_
  subst h
  exact Ev.ret_i (pc := 28) dX8_cannotBeBetter_28 rfl nb_0
theorem e_X8_cannotBeBetter (a1 : Int32) (σ : St) (v : Int32) (h : p_X8_cannotBeBetter a1 σ = v) : Ev md_X8_cannotBeBetter 0 0 (lvE [vR 63, vI a1] 2) [] SH σ (some (vI v), SH, σ) := by
  show Ev md_X8_cannotBeBetter 0 0 [some (vR 63), some (vI a1)] [] SH σ (some (vI v), SH, σ)
  unfold p_X8_cannotBeBetter at h
  refine Ev.aload_n (pc := 0) dX8_cannotBeBetter_0 rfl rfl ?_
  refine Ev.getI (pc := 1) dX8_cannotBeBetter_1 fl_X8_47 sh_63 rfl ?_
  refine Ev.iconst (pc := 4) (v := (-1)) dX8_cannotBeBetter_4 ki_m1 ?_
  by_cases c1 : (σ 63 8) = (-1)
  · replace h := (if_pos c1).symm.trans h
    refine Ev.icmp_eq_t (pc := 5) (tgt := 27) dX8_cannotBeBetter_5 rfl c1 ?_
    exact Ev.weak2 (lj_X8_cannotBeBetter_27 _ _ h) (lsubN (lsubN lsubE))
  · replace h := (if_neg c1).symm.trans h
    refine Ev.icmp_eq_f (pc := 5) dX8_cannotBeBetter_5 ⟨27, rfl⟩ c1 ?_
    refine Ev.aload_n (pc := 8) dX8_cannotBeBetter_8 rfl rfl ?_
    refine Ev.getI (pc := 9) dX8_cannotBeBetter_9 fl_X8_50 sh_63 rfl ?_
    by_cases c2 : (σ 63 9) = 0
    · replace h := (if_pos c2).symm.trans h
      refine Ev.if_ne_f (pc := 12) dX8_cannotBeBetter_12 ⟨23, rfl⟩ c2 ?_
      refine Ev.iload_n (pc := 15) dX8_cannotBeBetter_15 rfl rfl ?_
      refine Ev.aload_n (pc := 16) dX8_cannotBeBetter_16 rfl rfl ?_
      refine Ev.getI (pc := 17) dX8_cannotBeBetter_17 fl_X8_47 sh_63 rfl ?_
      by_cases c3 : a1 < (σ 63 8)
      · replace h := (if_pos c3).symm.trans h
        refine Ev.icmp_lt_t (pc := 20) (tgt := 27) dX8_cannotBeBetter_20 rfl c3 ?_
        exact Ev.weak2 (lj_X8_cannotBeBetter_27 _ _ h) (lsubN (lsubN lsubE))
      · replace h := (if_neg c3).symm.trans h
        refine Ev.icmp_lt_f (pc := 20) dX8_cannotBeBetter_20 ⟨27, rfl⟩ c3 ?_
        exact Ev.weak2 (lj_X8_cannotBeBetter_23 _ _ h) (lsubN (lsubN lsubE))
    · replace h := (if_neg c2).symm.trans h
      refine Ev.if_ne_t (pc := 12) (tgt := 23) dX8_cannotBeBetter_12 rfl c2 ?_
      exact Ev.weak2 (lj_X8_cannotBeBetter_23 _ _ h) (lsubN (lsubN lsubE))
theorem r_X8_cannotBeBetter (a1 : Int32) (σ : St) : Rn md_X8_cannotBeBetter 0 [vR 63, vI a1] SH σ (some (vI (p_X8_cannotBeBetter a1 σ)), SH, σ) := Rn.of ce_X8_cannotBeBetter.1 (Nat.le_of_ble_eq_true rfl) (e_X8_cannotBeBetter _ _ _ rfl)
def j_X8_misses_89 (N : Nat) (K_3 : Int32 → Int32 → Int32 → Int32 → St → Option (Int32 × St)) (v1 : Int32) (v2 : Int32) (v3 : Int32) (v4 : Int32) (σ : St) : Option (Int32 × St) := bt (v4 + 1) fun x1 => K_3 v1 v2 v3 x1 σ
def l_X8_misses_3 (N : Nat) : Nat → Int32 → Int32 → Int32 → Int32 → St → Option (Int32 × St)
  | 0, _, _, _, _, _ => none
  | n + 1, v1, v2, v3, v4, σ => if (8 : Int32) ≤ v4 then (some (0, σ)) else (if (p_X9_has v3 v4 σ) = 0 then (j_X8_misses_89 N (l_X8_misses_3 N n) v1 v2 v3 v4 σ) else (bt (p_X5_distance v1 (at_ σ 64 8 v4) σ) fun x3 => bt ((at_ σ 66 8 v4) + (at_ σ 65 8 v4)) fun x4 => if x3 = (-1) then (some (1, σ)) else (if (at_ σ 66 8 v4) = (-1) then (j_X8_misses_89 N (l_X8_misses_3 N n) v1 v2 v3 v4 σ) else (if (v2 + x3) ≤ x4 then (j_X8_misses_89 N (l_X8_misses_3 N n) v1 v2 v3 v4 σ) else (some (1, σ))))))
def o_X8_misses (N : Nat) (a1 : Int32) (a2 : Int32) (a3 : Int32) (σ : St) : Option (Int32 × St) := l_X8_misses_3 N N a1 a2 a3 0 σ
theorem lj_X8_misses_89 (N : Nat) (K_3 : Int32 → Int32 → Int32 → Int32 → St → Option (Int32 × St)) (hK_3 : ∀ (v1 : Int32) (v2 : Int32) (v3 : Int32) (v4 : Int32) (σ : St) (v : Int32) (w : St), K_3 v1 v2 v3 v4 σ = some (v, w) → Ev md_X8_misses 2 3 [some (vR 63), some (vI v1), some (vI v2), some (vI v3), some (vI v4), none, none] [] SH σ (some (vI v), SH, w)) (v1 : Int32) (v2 : Int32) (v3 : Int32) (v4 : Int32) (σ : St) (v : Int32) (w : St) (h : j_X8_misses_89 N K_3 v1 v2 v3 v4 σ = some (v, w)) : Ev md_X8_misses 2 89 [some (vR 63), some (vI v1), some (vI v2), some (vI v3), some (vI v4), none, none] [] SH σ (some (vI v), SH, w) := by
  unfold j_X8_misses_89 at h
  obtain ⟨x1, e_x1, h⟩ := bt_elim h
  refine Ev.iinc (pc := 89) (v := x1) (lv' := [some (vR 63), some (vI v1), some (vI v2), some (vI v3), some (vI x1), none, none]) dX8_misses_89 rfl (by rw [ki_1, e_x1]) (lt9 rfl) rfl rfl ?_
  refine Ev.goto (pc := 92) (tgt := 3) dX8_misses_92 rfl ?_
  exact Ev.weak2 (hK_3 _ _ _ _ _ _ _ h) (lsubS (lsubS (lsubS (lsubS (lsubS (lsubN (lsubN lsubE)))))))
theorem ll_X8_misses_3 (N : Nat) : ∀ (n : Nat) (v1 : Int32) (v2 : Int32) (v3 : Int32) (v4 : Int32) (σ : St) (v : Int32) (w : St), l_X8_misses_3 N n v1 v2 v3 v4 σ = some (v, w) → Ev md_X8_misses 2 3 [some (vR 63), some (vI v1), some (vI v2), some (vI v3), some (vI v4), none, none] [] SH σ (some (vI v), SH, w) := by
  intro n
  induction n with
  | zero =>
    intro v1 v2 v3 v4 σ v w h
    rw [l_X8_misses_3] at h
    cases h
  | succ n ih =>
    intro v1 v2 v3 v4 σ v w h
    rw [l_X8_misses_3] at h
    refine Ev.iload (pc := 3) dX8_misses_3 rfl ?_
    refine Ev.bipush (pc := 5) (v := 8) dX8_misses_5 kb_8 ?_
    by_cases c1 : (8 : Int32) ≤ v4
    · replace h := (if_pos c1).symm.trans h
      refine Ev.icmp_ge_t (pc := 7) (tgt := 95) dX8_misses_7 rfl c1 ?_
      refine Ev.iconst (pc := 95) (v := 0) dX8_misses_95 ki_0 ?_
      obtain ⟨h1, h2⟩ := oeq h
      subst h1
      subst h2
      exact Ev.ret_i (pc := 96) dX8_misses_96 rfl nb_0
    · replace h := (if_neg c1).symm.trans h
      refine Ev.icmp_ge_f (pc := 7) dX8_misses_7 ⟨95, rfl⟩ c1 ?_
      refine Ev.iload_n (pc := 10) dX8_misses_10 rfl rfl ?_
      refine Ev.iload (pc := 11) dX8_misses_11 rfl ?_
      refine Ev.cTi (pc := 13) (av := [vI v3, vI v4]) (rest := []) dX8_misses_13 ce_X9_has ml_X8_77 rfl sh_sc (Nat.le_of_ble_eq_true rfl) (Nat.le_of_ble_eq_true rfl) (r_X9_has _ _ _) ?_
      by_cases c2 : (p_X9_has v3 v4 σ) = 0
      · replace h := (if_pos c2).symm.trans h
        refine Ev.if_eq_t (pc := 16) (tgt := 89) dX8_misses_16 rfl c2 ?_
        exact Ev.weak2 (lj_X8_misses_89 N (l_X8_misses_3 N n) ih _ _ _ _ _ _ _ h) (lsubS (lsubS (lsubS (lsubS (lsubS (lsubN (lsubN lsubE)))))))
      · replace h := (if_neg c2).symm.trans h
        refine Ev.if_eq_f (pc := 16) dX8_misses_16 ⟨89, rfl⟩ c2 ?_
        refine Ev.aload_n (pc := 19) dX8_misses_19 rfl rfl ?_
        refine Ev.getR (pc := 20) dX8_misses_20 fl_X8_27 sh_63 rfl ?_
        refine Ev.iload_n (pc := 23) dX8_misses_23 rfl rfl ?_
        refine Ev.aload_n (pc := 24) dX8_misses_24 rfl rfl ?_
        refine Ev.getR (pc := 25) dX8_misses_25 fl_X8_11 sh_63 rfl ?_
        refine Ev.iload (pc := 28) dX8_misses_28 rfl ?_
        refine Ev.cTi (pc := 30) (av := [vR 64, vI v4]) (rest := [vI v1, vR 1]) dX8_misses_30 ce_X9_at ml_X8_43 rfl sh_sc (Nat.le_of_ble_eq_true rfl) (Nat.le_of_ble_eq_true rfl) (r_at sh_64 (by decide) _ _) ?_
        refine Ev.cVi (pc := 33) (k := 1) (av := [vI v1, vI (at_ σ 64 8 v4)]) (rest := []) dX8_misses_33 ce_X5_distance ml_X8_100 rfl sh_1 cl_X5 sh_sc (Nat.le_of_ble_eq_true rfl) (Nat.le_of_ble_eq_true rfl) (r_X5_distance _ _ _) ?_
        refine Ev.nmI (fun x3 e9 => ?_)
        replace h := bt_app h x3 e9
        refine Ev.istore (pc := 36) (lv' := [some (vR 63), some (vI v1), some (vI v2), some (vI v3), some (vI v4), some (vI x3), none]) dX8_misses_36 (lt9 rfl) rfl rfl ?_
        refine Ev.aload_n (pc := 38) dX8_misses_38 rfl rfl ?_
        refine Ev.getR (pc := 39) dX8_misses_39 fl_X8_18 sh_63 rfl ?_
        refine Ev.iload (pc := 42) dX8_misses_42 rfl ?_
        refine Ev.cTi (pc := 44) (av := [vR 66, vI v4]) (rest := []) dX8_misses_44 ce_X9_at ml_X8_43 rfl sh_sc (Nat.le_of_ble_eq_true rfl) (Nat.le_of_ble_eq_true rfl) (r_at sh_66 (by decide) _ _) ?_
        refine Ev.aload_n (pc := 47) dX8_misses_47 rfl rfl ?_
        refine Ev.getR (pc := 48) dX8_misses_48 fl_X8_15 sh_63 rfl ?_
        refine Ev.iload (pc := 51) dX8_misses_51 rfl ?_
        refine Ev.cTi (pc := 53) (av := [vR 65, vI v4]) (rest := [vI (at_ σ 66 8 v4)]) dX8_misses_53 ce_X9_at ml_X8_43 rfl sh_sc (Nat.le_of_ble_eq_true rfl) (Nat.le_of_ble_eq_true rfl) (r_at sh_65 (by decide) _ _) ?_
        refine Ev.iadd (pc := 56) dX8_misses_56 ?_
        refine Ev.nmI (fun x4 e9 => ?_)
        replace h := bt_app h x4 e9
        refine Ev.istore (pc := 57) (lv' := [some (vR 63), some (vI v1), some (vI v2), some (vI v3), some (vI v4), some (vI x3), some (vI x4)]) dX8_misses_57 (lt9 rfl) rfl rfl ?_
        refine Ev.iload (pc := 59) dX8_misses_59 rfl ?_
        refine Ev.iconst (pc := 61) (v := (-1)) dX8_misses_61 ki_m1 ?_
        by_cases c5 : x3 = (-1)
        · replace h := (if_pos c5).symm.trans h
          refine Ev.icmp_eq_t (pc := 62) (tgt := 87) dX8_misses_62 rfl c5 ?_
          refine Ev.iconst (pc := 87) (v := 1) dX8_misses_87 ki_1 ?_
          obtain ⟨h1, h2⟩ := oeq h
          subst h1
          subst h2
          exact Ev.ret_i (pc := 88) dX8_misses_88 rfl nb_1
        · replace h := (if_neg c5).symm.trans h
          refine Ev.icmp_eq_f (pc := 62) dX8_misses_62 ⟨87, rfl⟩ c5 ?_
          refine Ev.aload_n (pc := 65) dX8_misses_65 rfl rfl ?_
          refine Ev.getR (pc := 66) dX8_misses_66 fl_X8_18 sh_63 rfl ?_
          refine Ev.iload (pc := 69) dX8_misses_69 rfl ?_
          refine Ev.cTi (pc := 71) (av := [vR 66, vI v4]) (rest := []) dX8_misses_71 ce_X9_at ml_X8_43 rfl sh_sc (Nat.le_of_ble_eq_true rfl) (Nat.le_of_ble_eq_true rfl) (r_at sh_66 (by decide) _ _) ?_
          refine Ev.iconst (pc := 74) (v := (-1)) dX8_misses_74 ki_m1 ?_
          by_cases c6 : (at_ σ 66 8 v4) = (-1)
          · replace h := (if_pos c6).symm.trans h
            refine Ev.icmp_eq_t (pc := 75) (tgt := 89) dX8_misses_75 rfl c6 ?_
            exact Ev.weak2 (lj_X8_misses_89 N (l_X8_misses_3 N n) ih _ _ _ _ _ _ _ h) (lsubS (lsubS (lsubS (lsubS (lsubS (lsubN (lsubN lsubE)))))))
          · replace h := (if_neg c6).symm.trans h
            refine Ev.icmp_eq_f (pc := 75) dX8_misses_75 ⟨89, rfl⟩ c6 ?_
            refine Ev.iload_n (pc := 78) dX8_misses_78 rfl rfl ?_
            refine Ev.iload (pc := 79) dX8_misses_79 rfl ?_
            refine Ev.iadd (pc := 81) dX8_misses_81 ?_
            refine Ev.iload (pc := 82) dX8_misses_82 rfl ?_
            by_cases c7 : (v2 + x3) ≤ x4
            · replace h := (if_pos c7).symm.trans h
              refine Ev.icmp_le_t (pc := 84) (tgt := 89) dX8_misses_84 rfl c7 ?_
              exact Ev.weak2 (lj_X8_misses_89 N (l_X8_misses_3 N n) ih _ _ _ _ _ _ _ h) (lsubS (lsubS (lsubS (lsubS (lsubS (lsubN (lsubN lsubE)))))))
            · replace h := (if_neg c7).symm.trans h
              refine Ev.icmp_le_f (pc := 84) dX8_misses_84 ⟨89, rfl⟩ c7 ?_
              refine Ev.iconst (pc := 87) (v := 1) dX8_misses_87 ki_1 ?_
              obtain ⟨h1, h2⟩ := oeq h
              subst h1
              subst h2
              exact Ev.ret_i (pc := 88) dX8_misses_88 rfl nb_1
theorem e_X8_misses (N : Nat) (a1 : Int32) (a2 : Int32) (a3 : Int32) (σ : St) (v : Int32) (w : St) (h : o_X8_misses N a1 a2 a3 σ = some (v, w)) : Ev md_X8_misses 2 0 (lvE [vR 63, vI a1, vI a2, vI a3] 7) [] SH σ (some (vI v), SH, w) := by
  show Ev md_X8_misses 2 0 [some (vR 63), some (vI a1), some (vI a2), some (vI a3), none, none, none] [] SH σ (some (vI v), SH, w)
  unfold o_X8_misses at h
  refine Ev.iconst (pc := 0) (v := 0) dX8_misses_0 ki_0 ?_
  refine Ev.istore (pc := 1) (lv' := [some (vR 63), some (vI a1), some (vI a2), some (vI a3), some (vI 0), none, none]) dX8_misses_1 (lt9 rfl) rfl rfl ?_
  exact Ev.weak2 (ll_X8_misses_3 N N _ _ _ _ _ _ _ h) (lsubS (lsubS (lsubS (lsubS (lsubS (lsubN (lsubN lsubE)))))))
theorem r_X8_misses {N : Nat} {a1 : Int32} {a2 : Int32} {a3 : Int32} {σ : St} {v : Int32} {w : St} (h : o_X8_misses N a1 a2 a3 σ = some (v, w)) : Rn md_X8_misses 2 [vR 63, vI a1, vI a2, vI a3] SH σ (some (vI v), SH, w) := Rn.of ce_X8_misses.1 (Nat.le_of_ble_eq_true rfl) (e_X8_misses N _ _ _ _ _ _ h)
def t_X8_takeAsBest (a1 : Int32) (a2 : Int32) (σ : St) : St := bt (st σ 63 8 a2) fun σ1 => bt (st σ1 63 7 a1) fun σ2 => bt (cpO_ σ2 (some 67) (some 68) 8 8) fun σ3 => σ3
theorem e_X8_takeAsBest (a1 : Int32) (a2 : Int32) (σ : St) (q : St) (h : t_X8_takeAsBest a1 a2 σ = q) : Ev md_X8_takeAsBest 1 0 (lvE [vR 63, vI a1, vI a2] 3) [] SH σ (none, SH, q) := by
  show Ev md_X8_takeAsBest 1 0 [some (vR 63), some (vI a1), some (vI a2)] [] SH σ (none, SH, q)
  unfold t_X8_takeAsBest at h
  refine Ev.aload_n (pc := 0) dX8_takeAsBest_0 rfl rfl ?_
  refine Ev.iload_n (pc := 1) dX8_takeAsBest_1 rfl rfl ?_
  refine Ev.putI (pc := 2) dX8_takeAsBest_2 pl_X8_47 sh_63 rfl rfl rfl ?_
  refine Ev.nmS (fun σ1 e9 => ?_)
  replace h := bt_app h σ1 e9
  refine Ev.aload_n (pc := 5) dX8_takeAsBest_5 rfl rfl ?_
  refine Ev.iload_n (pc := 6) dX8_takeAsBest_6 rfl rfl ?_
  refine Ev.putI (pc := 7) dX8_takeAsBest_7 pl_X8_39 sh_63 rfl rfl rfl ?_
  refine Ev.nmS (fun σ2 e9 => ?_)
  replace h := bt_app h σ2 e9
  refine Ev.aload_n (pc := 10) dX8_takeAsBest_10 rfl rfl ?_
  refine Ev.getR (pc := 11) dX8_takeAsBest_11 fl_X8_21 sh_63 rfl ?_
  refine Ev.aload_n (pc := 14) dX8_takeAsBest_14 rfl rfl ?_
  refine Ev.getR (pc := 15) dX8_takeAsBest_15 fl_X8_24 sh_63 rfl ?_
  refine Ev.cTv (pc := 18) (av := [vR 67, vR 68]) (rest := []) dX8_takeAsBest_18 ce_X9_copy ml_X8_113 rfl sh_sc (Nat.le_of_ble_eq_true rfl) (Nat.le_of_ble_eq_true rfl) (r_copy (hs_some sh_67) (hs_some sh_68) (by decide) (by decide) _) ?_
  refine Ev.nmS (fun σ3 e9 => ?_)
  replace h := bt_app h σ3 e9
  subst h
  exact Ev.ret_v (pc := 21) dX8_takeAsBest_21 rfl
theorem r_X8_takeAsBest (a1 : Int32) (a2 : Int32) (σ : St) : Rn md_X8_takeAsBest 1 [vR 63, vI a1, vI a2] SH σ (none, SH, t_X8_takeAsBest a1 a2 σ) := Rn.of ce_X8_takeAsBest.1 (Nat.le_of_ble_eq_true rfl) (e_X8_takeAsBest _ _ _ _ rfl)
def j_X8_ripen_80 (N : Nat) (K_5 : Int32 → Int32 → Int32 → Int32 → St → Option (Unit × St)) (v1 : Int32) (v2 : Int32) (v3 : Int32) (v4 : Int32) (σ : St) : Option (Unit × St) := bt (v4 + 1) fun x1 => K_5 v1 v2 v3 x1 σ
def j_X8_ripen_77 (N : Nat) (K_5 : Int32 → Int32 → Int32 → Int32 → St → Option (Unit × St)) (v1 : Int32) (v2 : Int32) (v3 : Int32) (v4 : Int32) (s1 : Int32) (s2 : Int32) (σ : St) : Option (Unit × St) := bt (put_ σ 66 8 s1 s2) fun σ1 => j_X8_ripen_80 N K_5 v1 v2 v3 v4 σ1
def l_X8_ripen_5 (N : Nat) : Nat → Int32 → Int32 → Int32 → Int32 → St → Option (Unit × St)
  | 0, _, _, _, _, _ => none
  | n + 1, v1, v2, v3, v4, σ => if (σ 1 3) ≤ v4 then (some ((), σ)) else (if (p_X9_has v2 v4 σ) = 0 then (j_X8_ripen_80 N (l_X8_ripen_5 N n) v1 v2 v3 v4 σ) else (if (at_ σ 9 7 v4) = v1 then (if v3 = (-1) then (j_X8_ripen_77 N (l_X8_ripen_5 N n) v1 v2 v3 v4 v4 (-1) σ) else (bd (o_X5_ripeDay N v3 (at_ σ 6 7 v4) σ) fun x5 σ6 => j_X8_ripen_77 N (l_X8_ripen_5 N n) v1 v2 v3 v4 v4 x5 σ6)) else (j_X8_ripen_80 N (l_X8_ripen_5 N n) v1 v2 v3 v4 σ)))
def o_X8_ripen (N : Nat) (a1 : Int32) (a2 : Int32) (a3 : Int32) (σ : St) : Option (Unit × St) := bt (a1 + 1) fun x1 => l_X8_ripen_5 N N a1 a2 a3 x1 σ
theorem lj_X8_ripen_80 (N : Nat) (K_5 : Int32 → Int32 → Int32 → Int32 → St → Option (Unit × St)) (hK_5 : ∀ (v1 : Int32) (v2 : Int32) (v3 : Int32) (v4 : Int32) (σ : St) (v : Unit) (w : St), K_5 v1 v2 v3 v4 σ = some (v, w) → Ev md_X8_ripen 2 5 [some (vR 63), some (vI v1), some (vI v2), some (vI v3), some (vI v4)] [] SH σ (none, SH, w)) (v1 : Int32) (v2 : Int32) (v3 : Int32) (v4 : Int32) (σ : St) (v : Unit) (w : St) (h : j_X8_ripen_80 N K_5 v1 v2 v3 v4 σ = some (v, w)) : Ev md_X8_ripen 2 80 [some (vR 63), some (vI v1), some (vI v2), some (vI v3), some (vI v4)] [] SH σ (none, SH, w) := by
  unfold j_X8_ripen_80 at h
  obtain ⟨x1, e_x1, h⟩ := bt_elim h
  refine Ev.iinc (pc := 80) (v := x1) (lv' := [some (vR 63), some (vI v1), some (vI v2), some (vI v3), some (vI x1)]) dX8_ripen_80 rfl (by rw [ki_1, e_x1]) (lt9 rfl) rfl rfl ?_
  refine Ev.goto (pc := 83) (tgt := 5) dX8_ripen_83 rfl ?_
  exact Ev.weak2 (hK_5 _ _ _ _ _ _ _ h) (lsubS (lsubS (lsubS (lsubS (lsubS lsubE)))))
theorem lj_X8_ripen_77 (N : Nat) (K_5 : Int32 → Int32 → Int32 → Int32 → St → Option (Unit × St)) (hK_5 : ∀ (v1 : Int32) (v2 : Int32) (v3 : Int32) (v4 : Int32) (σ : St) (v : Unit) (w : St), K_5 v1 v2 v3 v4 σ = some (v, w) → Ev md_X8_ripen 2 5 [some (vR 63), some (vI v1), some (vI v2), some (vI v3), some (vI v4)] [] SH σ (none, SH, w)) (v1 : Int32) (v2 : Int32) (v3 : Int32) (v4 : Int32) (s1 : Int32) (s2 : Int32) (σ : St) (v : Unit) (w : St) (h : j_X8_ripen_77 N K_5 v1 v2 v3 v4 s1 s2 σ = some (v, w)) : Ev md_X8_ripen 2 77 [some (vR 63), some (vI v1), some (vI v2), some (vI v3), some (vI v4)] [vI s2, vI s1, vR 66] SH σ (none, SH, w) := by
  unfold j_X8_ripen_77 at h
  refine Ev.cTv (pc := 77) (av := [vR 66, vI s1, vI s2]) (rest := []) dX8_ripen_77 ce_X9_put ml_X8_35 rfl sh_sc (Nat.le_of_ble_eq_true rfl) (Nat.le_of_ble_eq_true rfl) (r_put sh_66 (by decide) _ _ _) ?_
  refine Ev.nmS (fun σ1 e9 => ?_)
  replace h := bt_app h σ1 e9
  exact Ev.weak2 (lj_X8_ripen_80 N K_5 hK_5 _ _ _ _ _ _ _ h) (lsubS (lsubS (lsubS (lsubS (lsubS lsubE)))))
theorem ll_X8_ripen_5 (N : Nat) : ∀ (n : Nat) (v1 : Int32) (v2 : Int32) (v3 : Int32) (v4 : Int32) (σ : St) (v : Unit) (w : St), l_X8_ripen_5 N n v1 v2 v3 v4 σ = some (v, w) → Ev md_X8_ripen 2 5 [some (vR 63), some (vI v1), some (vI v2), some (vI v3), some (vI v4)] [] SH σ (none, SH, w) := by
  intro n
  induction n with
  | zero =>
    intro v1 v2 v3 v4 σ v w h
    rw [l_X8_ripen_5] at h
    cases h
  | succ n ih =>
    intro v1 v2 v3 v4 σ v w h
    rw [l_X8_ripen_5] at h
    refine Ev.iload (pc := 5) dX8_ripen_5 rfl ?_
    refine Ev.aload_n (pc := 7) dX8_ripen_7 rfl rfl ?_
    refine Ev.getR (pc := 8) dX8_ripen_8 fl_X8_27 sh_63 rfl ?_
    refine Ev.getI (pc := 11) dX8_ripen_11 fl_X8_72 sh_1 rfl ?_
    by_cases c1 : (σ 1 3) ≤ v4
    · replace h := (if_pos c1).symm.trans h
      refine Ev.icmp_ge_t (pc := 14) (tgt := 86) dX8_ripen_14 rfl c1 ?_
      obtain ⟨h1, h2⟩ := oeq h
      subst h1
      subst h2
      exact Ev.ret_v (pc := 86) dX8_ripen_86 rfl
    · replace h := (if_neg c1).symm.trans h
      refine Ev.icmp_ge_f (pc := 14) dX8_ripen_14 ⟨86, rfl⟩ c1 ?_
      refine Ev.iload_n (pc := 17) dX8_ripen_17 rfl rfl ?_
      refine Ev.iload (pc := 18) dX8_ripen_18 rfl ?_
      refine Ev.cTi (pc := 20) (av := [vI v2, vI v4]) (rest := []) dX8_ripen_20 ce_X9_has ml_X8_77 rfl sh_sc (Nat.le_of_ble_eq_true rfl) (Nat.le_of_ble_eq_true rfl) (r_X9_has _ _ _) ?_
      by_cases c2 : (p_X9_has v2 v4 σ) = 0
      · replace h := (if_pos c2).symm.trans h
        refine Ev.if_eq_t (pc := 23) (tgt := 80) dX8_ripen_23 rfl c2 ?_
        exact Ev.weak2 (lj_X8_ripen_80 N (l_X8_ripen_5 N n) ih _ _ _ _ _ _ _ h) (lsubS (lsubS (lsubS (lsubS (lsubS lsubE)))))
      · replace h := (if_neg c2).symm.trans h
        refine Ev.if_eq_f (pc := 23) dX8_ripen_23 ⟨80, rfl⟩ c2 ?_
        refine Ev.aload_n (pc := 26) dX8_ripen_26 rfl rfl ?_
        refine Ev.getR (pc := 27) dX8_ripen_27 fl_X8_27 sh_63 rfl ?_
        refine Ev.getR (pc := 30) dX8_ripen_30 fl_X8_86 sh_1 rfl ?_
        refine Ev.iload (pc := 33) dX8_ripen_33 rfl ?_
        refine Ev.cTi (pc := 35) (av := [vR 9, vI v4]) (rest := []) dX8_ripen_35 ce_X9_at ml_X8_43 rfl sh_sc (Nat.le_of_ble_eq_true rfl) (Nat.le_of_ble_eq_true rfl) (r_at sh_9 (by decide) _ _) ?_
        refine Ev.iload_n (pc := 38) dX8_ripen_38 rfl rfl ?_
        by_cases c3 : (at_ σ 9 7 v4) = v1
        · replace h := (if_pos c3).symm.trans h
          refine Ev.icmp_ne_f (pc := 39) dX8_ripen_39 ⟨80, rfl⟩ c3 ?_
          refine Ev.aload_n (pc := 42) dX8_ripen_42 rfl rfl ?_
          refine Ev.getR (pc := 43) dX8_ripen_43 fl_X8_18 sh_63 rfl ?_
          refine Ev.iload (pc := 46) dX8_ripen_46 rfl ?_
          refine Ev.iload_n (pc := 48) dX8_ripen_48 rfl rfl ?_
          refine Ev.iconst (pc := 49) (v := (-1)) dX8_ripen_49 ki_m1 ?_
          by_cases c4 : v3 = (-1)
          · replace h := (if_pos c4).symm.trans h
            refine Ev.icmp_ne_f (pc := 50) dX8_ripen_50 ⟨57, rfl⟩ c4 ?_
            refine Ev.iconst (pc := 53) (v := (-1)) dX8_ripen_53 ki_m1 ?_
            refine Ev.goto (pc := 54) (tgt := 77) dX8_ripen_54 rfl ?_
            exact Ev.weak2 (lj_X8_ripen_77 N (l_X8_ripen_5 N n) ih _ _ _ _ _ _ _ _ _ h) (lsubS (lsubS (lsubS (lsubS (lsubS lsubE)))))
          · replace h := (if_neg c4).symm.trans h
            refine Ev.icmp_ne_t (pc := 50) (tgt := 57) dX8_ripen_50 rfl c4 ?_
            refine Ev.aload_n (pc := 57) dX8_ripen_57 rfl rfl ?_
            refine Ev.getR (pc := 58) dX8_ripen_58 fl_X8_27 sh_63 rfl ?_
            refine Ev.iload_n (pc := 61) dX8_ripen_61 rfl rfl ?_
            refine Ev.aload_n (pc := 62) dX8_ripen_62 rfl rfl ?_
            refine Ev.getR (pc := 63) dX8_ripen_63 fl_X8_27 sh_63 rfl ?_
            refine Ev.getR (pc := 66) dX8_ripen_66 fl_X8_117 sh_1 rfl ?_
            refine Ev.iload (pc := 69) dX8_ripen_69 rfl ?_
            refine Ev.cTi (pc := 71) (av := [vR 6, vI v4]) (rest := [vI v3, vR 1, vI v4, vR 66]) dX8_ripen_71 ce_X9_at ml_X8_43 rfl sh_sc (Nat.le_of_ble_eq_true rfl) (Nat.le_of_ble_eq_true rfl) (r_at sh_6 (by decide) _ _) ?_
            obtain ⟨x5, σ6, g7, h⟩ := bd_elim h
            refine Ev.cVi (pc := 74) (k := 1) (av := [vI v3, vI (at_ σ 6 7 v4)]) (rest := [vI v4, vR 66]) dX8_ripen_74 ce_X5_ripeDay ml_X8_120 rfl sh_1 cl_X5 sh_sc (Nat.le_of_ble_eq_true rfl) (Nat.le_of_ble_eq_true rfl) (r_X5_ripeDay g7) ?_
            exact Ev.weak2 (lj_X8_ripen_77 N (l_X8_ripen_5 N n) ih _ _ _ _ _ _ _ _ _ h) (lsubS (lsubS (lsubS (lsubS (lsubS lsubE)))))
        · replace h := (if_neg c3).symm.trans h
          refine Ev.icmp_ne_t (pc := 39) (tgt := 80) dX8_ripen_39 rfl c3 ?_
          exact Ev.weak2 (lj_X8_ripen_80 N (l_X8_ripen_5 N n) ih _ _ _ _ _ _ _ h) (lsubS (lsubS (lsubS (lsubS (lsubS lsubE)))))
theorem e_X8_ripen (N : Nat) (a1 : Int32) (a2 : Int32) (a3 : Int32) (σ : St) (v : Unit) (w : St) (h : o_X8_ripen N a1 a2 a3 σ = some (v, w)) : Ev md_X8_ripen 2 0 (lvE [vR 63, vI a1, vI a2, vI a3] 5) [] SH σ (none, SH, w) := by
  show Ev md_X8_ripen 2 0 [some (vR 63), some (vI a1), some (vI a2), some (vI a3), none] [] SH σ (none, SH, w)
  unfold o_X8_ripen at h
  refine Ev.iload_n (pc := 0) dX8_ripen_0 rfl rfl ?_
  refine Ev.iconst (pc := 1) (v := 1) dX8_ripen_1 ki_1 ?_
  refine Ev.iadd (pc := 2) dX8_ripen_2 ?_
  refine Ev.nmI (fun x1 e9 => ?_)
  replace h := bt_app h x1 e9
  refine Ev.istore (pc := 3) (lv' := [some (vR 63), some (vI a1), some (vI a2), some (vI a3), some (vI x1)]) dX8_ripen_3 (lt9 rfl) rfl rfl ?_
  exact Ev.weak2 (ll_X8_ripen_5 N N _ _ _ _ _ _ _ h) (lsubS (lsubS (lsubS (lsubS (lsubS lsubE)))))
theorem r_X8_ripen {N : Nat} {a1 : Int32} {a2 : Int32} {a3 : Int32} {σ : St} {v : Unit} {w : St} (h : o_X8_ripen N a1 a2 a3 σ = some (v, w)) : Rn md_X8_ripen 2 [vR 63, vI a1, vI a2, vI a3] SH σ (none, SH, w) := Rn.of ce_X8_ripen.1 (Nat.le_of_ble_eq_true rfl) (e_X8_ripen N _ _ _ _ _ _ h)
def j_X8_extend_173 (N : Nat) (REC : Int32 → Int32 → Int32 → Int32 → Int32 → St → Option (Unit × St)) (K_44 : Int32 → Int32 → Int32 → Int32 → Int32 → Int32 → St → Option (Unit × St)) (v1 : Int32) (v2 : Int32) (v3 : Int32) (v4 : Int32) (v5 : Int32) (v6 : Int32) (σ : St) : Option (Unit × St) := bt (v6 + 1) fun x1 => K_44 v1 v2 v3 v4 v5 x1 σ
def l_X8_extend_44 (N : Nat) (REC : Int32 → Int32 → Int32 → Int32 → Int32 → St → Option (Unit × St)) : Nat → Int32 → Int32 → Int32 → Int32 → Int32 → Int32 → St → Option (Unit × St)
  | 0, _, _, _, _, _, _, _ => none
  | n + 1, v1, v2, v3, v4, v5, v6, σ => if (8 : Int32) ≤ v6 then (some ((), σ)) else (if (p_X9_has v5 v6 σ) = 0 then (j_X8_extend_173 N REC (l_X8_extend_44 N REC n) v1 v2 v3 v4 v5 v6 σ) else (if (at_ σ 66 8 v6) = (-1) then (j_X8_extend_173 N REC (l_X8_extend_44 N REC n) v1 v2 v3 v4 v5 v6 σ) else (bt (at_ σ 64 8 v6) fun x4 => bt (p_X5_distance v2 x4 σ) fun x5 => bt (p_J9_max_7cf53 (v3 + x5) (at_ σ 66 8 v6) σ) fun x6 => bt (v5 &&& ((1 <<< (v6 &&& 31)) ^^^ (-1))) fun x7 => bt (put_ σ 67 8 v1 v6) fun σ8 => bd (o_X8_ripen N v6 x7 x6 σ8) fun u9 σ10 => bd (REC (v1 + 1) x4 x6 (v4 + x5) x7 σ10) fun u12 σ13 => bd (o_X8_ripen N v6 x7 (-1) σ13) fun u15 σ16 => j_X8_extend_173 N REC (l_X8_extend_44 N REC n) v1 v2 v3 v4 v5 v6 σ16)))
def ob_X8_extend (N : Nat) (REC : Int32 → Int32 → Int32 → Int32 → Int32 → St → Option (Unit × St)) (a1 : Int32) (a2 : Int32) (a3 : Int32) (a4 : Int32) (a5 : Int32) (σ : St) : Option (Unit × St) := if (8 : Int32) < a1 then (some ((), σ)) else (if (p_X8_cannotBeBetter a4 σ) = 0 then (if a5 = 0 then (bt (t_X8_takeAsBest a1 a4 σ) fun σ8 => some ((), σ8)) else (bd (o_X8_misses N a2 a3 a5 σ) fun x4 σ5 => if x4 = 0 then (l_X8_extend_44 N REC N a1 a2 a3 a4 a5 0 σ5) else (some ((), σ5)))) else (some ((), σ)))
theorem lj_X8_extend_173 (N : Nat) (REC : Int32 → Int32 → Int32 → Int32 → Int32 → St → Option (Unit × St)) {dR : Nat} (hREC : ∀ (a1 : Int32) (a2 : Int32) (a3 : Int32) (a4 : Int32) (a5 : Int32) (σ : St) (v : Unit) (w : St), REC a1 a2 a3 a4 a5 σ = some (v, w) → Rn md_X8_extend dR [vR 63, vI a1, vI a2, vI a3, vI a4, vI a5] SH σ (none, SH, w)) (K_44 : Int32 → Int32 → Int32 → Int32 → Int32 → Int32 → St → Option (Unit × St)) (hK_44 : ∀ (v1 : Int32) (v2 : Int32) (v3 : Int32) (v4 : Int32) (v5 : Int32) (v6 : Int32) (σ : St) (v : Unit) (w : St), K_44 v1 v2 v3 v4 v5 v6 σ = some (v, w) → Ev md_X8_extend (dR + 8) 44 [some (vR 63), some (vI v1), some (vI v2), some (vI v3), some (vI v4), some (vI v5), some (vI v6), none, none, none, none] [] SH σ (none, SH, w)) (v1 : Int32) (v2 : Int32) (v3 : Int32) (v4 : Int32) (v5 : Int32) (v6 : Int32) (σ : St) (v : Unit) (w : St) (h : j_X8_extend_173 N REC K_44 v1 v2 v3 v4 v5 v6 σ = some (v, w)) : Ev md_X8_extend (dR + 8) 173 [some (vR 63), some (vI v1), some (vI v2), some (vI v3), some (vI v4), some (vI v5), some (vI v6), none, none, none, none] [] SH σ (none, SH, w) := by
  unfold j_X8_extend_173 at h
  obtain ⟨x1, e_x1, h⟩ := bt_elim h
  refine Ev.iinc (pc := 173) (v := x1) (lv' := [some (vR 63), some (vI v1), some (vI v2), some (vI v3), some (vI v4), some (vI v5), some (vI x1), none, none, none, none]) dX8_extend_173 rfl (by rw [ki_1, e_x1]) (lt9 rfl) rfl rfl ?_
  refine Ev.goto (pc := 176) (tgt := 44) dX8_extend_176 rfl ?_
  exact Ev.weak2 (hK_44 _ _ _ _ _ _ _ _ _ h) (lsubS (lsubS (lsubS (lsubS (lsubS (lsubS (lsubS (lsubN (lsubN (lsubN (lsubN lsubE)))))))))))
theorem ll_X8_extend_44 (N : Nat) (REC : Int32 → Int32 → Int32 → Int32 → Int32 → St → Option (Unit × St)) {dR : Nat} (hREC : ∀ (a1 : Int32) (a2 : Int32) (a3 : Int32) (a4 : Int32) (a5 : Int32) (σ : St) (v : Unit) (w : St), REC a1 a2 a3 a4 a5 σ = some (v, w) → Rn md_X8_extend dR [vR 63, vI a1, vI a2, vI a3, vI a4, vI a5] SH σ (none, SH, w)) : ∀ (n : Nat) (v1 : Int32) (v2 : Int32) (v3 : Int32) (v4 : Int32) (v5 : Int32) (v6 : Int32) (σ : St) (v : Unit) (w : St), l_X8_extend_44 N REC n v1 v2 v3 v4 v5 v6 σ = some (v, w) → Ev md_X8_extend (dR + 8) 44 [some (vR 63), some (vI v1), some (vI v2), some (vI v3), some (vI v4), some (vI v5), some (vI v6), none, none, none, none] [] SH σ (none, SH, w) := by
  intro n
  induction n with
  | zero =>
    intro v1 v2 v3 v4 v5 v6 σ v w h
    rw [l_X8_extend_44] at h
    cases h
  | succ n ih =>
    intro v1 v2 v3 v4 v5 v6 σ v w h
    rw [l_X8_extend_44] at h
    refine Ev.iload (pc := 44) dX8_extend_44 rfl ?_
    refine Ev.bipush (pc := 46) (v := 8) dX8_extend_46 kb_8 ?_
    by_cases c1 : (8 : Int32) ≤ v6
    · replace h := (if_pos c1).symm.trans h
      refine Ev.icmp_ge_t (pc := 48) (tgt := 179) dX8_extend_48 rfl c1 ?_
      obtain ⟨h1, h2⟩ := oeq h
      subst h1
      subst h2
      exact Ev.ret_v (pc := 179) dX8_extend_179 rfl
    · replace h := (if_neg c1).symm.trans h
      refine Ev.icmp_ge_f (pc := 48) dX8_extend_48 ⟨179, rfl⟩ c1 ?_
      refine Ev.iload (pc := 51) dX8_extend_51 rfl ?_
      refine Ev.iload (pc := 53) dX8_extend_53 rfl ?_
      refine Ev.cTi (pc := 55) (av := [vI v5, vI v6]) (rest := []) dX8_extend_55 ce_X9_has ml_X8_77 rfl sh_sc (Nat.le_of_ble_eq_true rfl) (by omega) (r_X9_has _ _ _) ?_
      by_cases c2 : (p_X9_has v5 v6 σ) = 0
      · replace h := (if_pos c2).symm.trans h
        refine Ev.if_eq_t (pc := 58) (tgt := 173) dX8_extend_58 rfl c2 ?_
        exact Ev.weak2 (lj_X8_extend_173 N REC hREC (l_X8_extend_44 N REC n) ih _ _ _ _ _ _ _ _ _ h) (lsubS (lsubS (lsubS (lsubS (lsubS (lsubS (lsubS (lsubN (lsubN (lsubN (lsubN lsubE)))))))))))
      · replace h := (if_neg c2).symm.trans h
        refine Ev.if_eq_f (pc := 58) dX8_extend_58 ⟨173, rfl⟩ c2 ?_
        refine Ev.aload_n (pc := 61) dX8_extend_61 rfl rfl ?_
        refine Ev.getR (pc := 62) dX8_extend_62 fl_X8_18 sh_63 rfl ?_
        refine Ev.iload (pc := 65) dX8_extend_65 rfl ?_
        refine Ev.cTi (pc := 67) (av := [vR 66, vI v6]) (rest := []) dX8_extend_67 ce_X9_at ml_X8_43 rfl sh_sc (Nat.le_of_ble_eq_true rfl) (by omega) (r_at sh_66 (by decide) _ _) ?_
        refine Ev.iconst (pc := 70) (v := (-1)) dX8_extend_70 ki_m1 ?_
        by_cases c3 : (at_ σ 66 8 v6) = (-1)
        · replace h := (if_pos c3).symm.trans h
          refine Ev.icmp_eq_t (pc := 71) (tgt := 173) dX8_extend_71 rfl c3 ?_
          exact Ev.weak2 (lj_X8_extend_173 N REC hREC (l_X8_extend_44 N REC n) ih _ _ _ _ _ _ _ _ _ h) (lsubS (lsubS (lsubS (lsubS (lsubS (lsubS (lsubS (lsubN (lsubN (lsubN (lsubN lsubE)))))))))))
        · replace h := (if_neg c3).symm.trans h
          refine Ev.icmp_eq_f (pc := 71) dX8_extend_71 ⟨173, rfl⟩ c3 ?_
          refine Ev.aload_n (pc := 74) dX8_extend_74 rfl rfl ?_
          refine Ev.getR (pc := 75) dX8_extend_75 fl_X8_11 sh_63 rfl ?_
          refine Ev.iload (pc := 78) dX8_extend_78 rfl ?_
          refine Ev.cTi (pc := 80) (av := [vR 64, vI v6]) (rest := []) dX8_extend_80 ce_X9_at ml_X8_43 rfl sh_sc (Nat.le_of_ble_eq_true rfl) (by omega) (r_at sh_64 (by decide) _ _) ?_
          refine Ev.nmI (fun x4 e9 => ?_)
          replace h := bt_app h x4 e9
          refine Ev.istore (pc := 83) (lv' := [some (vR 63), some (vI v1), some (vI v2), some (vI v3), some (vI v4), some (vI v5), some (vI v6), some (vI x4), none, none, none]) dX8_extend_83 (lt9 rfl) rfl rfl ?_
          refine Ev.aload_n (pc := 85) dX8_extend_85 rfl rfl ?_
          refine Ev.getR (pc := 86) dX8_extend_86 fl_X8_27 sh_63 rfl ?_
          refine Ev.iload_n (pc := 89) dX8_extend_89 rfl rfl ?_
          refine Ev.iload (pc := 90) dX8_extend_90 rfl ?_
          refine Ev.cVi (pc := 92) (k := 1) (av := [vI v2, vI x4]) (rest := []) dX8_extend_92 ce_X5_distance ml_X8_100 rfl sh_1 cl_X5 sh_sc (Nat.le_of_ble_eq_true rfl) (by omega) (r_X5_distance _ _ _) ?_
          refine Ev.nmI (fun x5 e9 => ?_)
          replace h := bt_app h x5 e9
          refine Ev.istore (pc := 95) (lv' := [some (vR 63), some (vI v1), some (vI v2), some (vI v3), some (vI v4), some (vI v5), some (vI v6), some (vI x4), some (vI x5), none, none]) dX8_extend_95 (lt9 rfl) rfl rfl ?_
          refine Ev.iload_n (pc := 97) dX8_extend_97 rfl rfl ?_
          refine Ev.iload (pc := 98) dX8_extend_98 rfl ?_
          refine Ev.iadd (pc := 100) dX8_extend_100 ?_
          refine Ev.aload_n (pc := 101) dX8_extend_101 rfl rfl ?_
          refine Ev.getR (pc := 102) dX8_extend_102 fl_X8_18 sh_63 rfl ?_
          refine Ev.iload (pc := 105) dX8_extend_105 rfl ?_
          refine Ev.cTi (pc := 107) (av := [vR 66, vI v6]) (rest := [vI (v3 + x5)]) dX8_extend_107 ce_X9_at ml_X8_43 rfl sh_sc (Nat.le_of_ble_eq_true rfl) (by omega) (r_at sh_66 (by decide) _ _) ?_
          refine Ev.cTi (pc := 110) (av := [vI (v3 + x5), vI (at_ σ 66 8 v6)]) (rest := []) dX8_extend_110 ce_J9_max_7cf53 ml_X8_104 rfl sh_sc (Nat.le_of_ble_eq_true rfl) (by omega) (r_J9_max_7cf53 _ _ _) ?_
          refine Ev.nmI (fun x6 e9 => ?_)
          replace h := bt_app h x6 e9
          refine Ev.istore (pc := 113) (lv' := [some (vR 63), some (vI v1), some (vI v2), some (vI v3), some (vI v4), some (vI v5), some (vI v6), some (vI x4), some (vI x5), some (vI x6), none]) dX8_extend_113 (lt9 rfl) rfl rfl ?_
          refine Ev.iload (pc := 115) dX8_extend_115 rfl ?_
          refine Ev.iconst (pc := 117) (v := 1) dX8_extend_117 ki_1 ?_
          refine Ev.iload (pc := 118) dX8_extend_118 rfl ?_
          refine Ev.ishl (pc := 120) dX8_extend_120 ?_
          refine Ev.iconst (pc := 121) (v := (-1)) dX8_extend_121 ki_m1 ?_
          refine Ev.ixor (pc := 122) dX8_extend_122 ?_
          refine Ev.iand (pc := 123) dX8_extend_123 ?_
          refine Ev.nmI (fun x7 e9 => ?_)
          replace h := bt_app h x7 e9
          refine Ev.istore (pc := 124) (lv' := [some (vR 63), some (vI v1), some (vI v2), some (vI v3), some (vI v4), some (vI v5), some (vI v6), some (vI x4), some (vI x5), some (vI x6), some (vI x7)]) dX8_extend_124 (lt9 rfl) rfl rfl ?_
          refine Ev.aload_n (pc := 126) dX8_extend_126 rfl rfl ?_
          refine Ev.getR (pc := 127) dX8_extend_127 fl_X8_21 sh_63 rfl ?_
          refine Ev.iload_n (pc := 130) dX8_extend_130 rfl rfl ?_
          refine Ev.iload (pc := 131) dX8_extend_131 rfl ?_
          refine Ev.cTv (pc := 133) (av := [vR 67, vI v1, vI v6]) (rest := []) dX8_extend_133 ce_X9_put ml_X8_35 rfl sh_sc (Nat.le_of_ble_eq_true rfl) (by omega) (r_put sh_67 (by decide) _ _ _) ?_
          refine Ev.nmS (fun σ8 e9 => ?_)
          replace h := bt_app h σ8 e9
          refine Ev.aload_n (pc := 136) dX8_extend_136 rfl rfl ?_
          refine Ev.iload (pc := 137) dX8_extend_137 rfl ?_
          refine Ev.iload (pc := 139) dX8_extend_139 rfl ?_
          refine Ev.iload (pc := 141) dX8_extend_141 rfl ?_
          obtain ⟨u9, σ10, g11, h⟩ := bd_elim h
          refine Ev.cVv (pc := 143) (k := 63) (av := [vI v6, vI x7, vI x6]) (rest := []) dX8_extend_143 ce_X8_ripen ml_X8_109 rfl sh_63 cl_X8 sh_sc (Nat.le_of_ble_eq_true rfl) (by omega) (r_X8_ripen g11) ?_
          refine Ev.aload_n (pc := 146) dX8_extend_146 rfl rfl ?_
          refine Ev.iload_n (pc := 147) dX8_extend_147 rfl rfl ?_
          refine Ev.iconst (pc := 148) (v := 1) dX8_extend_148 ki_1 ?_
          refine Ev.iadd (pc := 149) dX8_extend_149 ?_
          refine Ev.iload (pc := 150) dX8_extend_150 rfl ?_
          refine Ev.iload (pc := 152) dX8_extend_152 rfl ?_
          refine Ev.iload (pc := 154) dX8_extend_154 rfl ?_
          refine Ev.iload (pc := 156) dX8_extend_156 rfl ?_
          refine Ev.iadd (pc := 158) dX8_extend_158 ?_
          refine Ev.iload (pc := 159) dX8_extend_159 rfl ?_
          obtain ⟨u12, σ13, g14, h⟩ := bd_elim h
          refine Ev.cTv (pc := 161) (av := [vR 63, vI (v1 + 1), vI x4, vI x6, vI (v4 + x5), vI x7]) (rest := []) dX8_extend_161 ce_X8_extend ml_X8_68 rfl sh_sc (Nat.le_of_ble_eq_true rfl) (by omega) (hREC _ _ _ _ _ _ _ _ g14) ?_
          refine Ev.aload_n (pc := 164) dX8_extend_164 rfl rfl ?_
          refine Ev.iload (pc := 165) dX8_extend_165 rfl ?_
          refine Ev.iload (pc := 167) dX8_extend_167 rfl ?_
          refine Ev.iconst (pc := 169) (v := (-1)) dX8_extend_169 ki_m1 ?_
          obtain ⟨u15, σ16, g17, h⟩ := bd_elim h
          refine Ev.cVv (pc := 170) (k := 63) (av := [vI v6, vI x7, vI (-1)]) (rest := []) dX8_extend_170 ce_X8_ripen ml_X8_109 rfl sh_63 cl_X8 sh_sc (Nat.le_of_ble_eq_true rfl) (by omega) (r_X8_ripen g17) ?_
          exact Ev.weak2 (lj_X8_extend_173 N REC hREC (l_X8_extend_44 N REC n) ih _ _ _ _ _ _ _ _ _ h) (lsubS (lsubS (lsubS (lsubS (lsubS (lsubS (lsubS (lsubN (lsubN (lsubN (lsubN lsubE)))))))))))
theorem e_X8_extend (N : Nat) (REC : Int32 → Int32 → Int32 → Int32 → Int32 → St → Option (Unit × St)) {dR : Nat} (hREC : ∀ (a1 : Int32) (a2 : Int32) (a3 : Int32) (a4 : Int32) (a5 : Int32) (σ : St) (v : Unit) (w : St), REC a1 a2 a3 a4 a5 σ = some (v, w) → Rn md_X8_extend dR [vR 63, vI a1, vI a2, vI a3, vI a4, vI a5] SH σ (none, SH, w)) (a1 : Int32) (a2 : Int32) (a3 : Int32) (a4 : Int32) (a5 : Int32) (σ : St) (v : Unit) (w : St) (h : ob_X8_extend N REC a1 a2 a3 a4 a5 σ = some (v, w)) : Ev md_X8_extend (dR + 8) 0 (lvE [vR 63, vI a1, vI a2, vI a3, vI a4, vI a5] 11) [] SH σ (none, SH, w) := by
  show Ev md_X8_extend (dR + 8) 0 [some (vR 63), some (vI a1), some (vI a2), some (vI a3), some (vI a4), some (vI a5), none, none, none, none, none] [] SH σ (none, SH, w)
  unfold ob_X8_extend at h
  refine Ev.iload_n (pc := 0) dX8_extend_0 rfl rfl ?_
  refine Ev.bipush (pc := 1) (v := 8) dX8_extend_1 kb_8 ?_
  by_cases c1 : (8 : Int32) < a1
  · replace h := (if_pos c1).symm.trans h
    refine Ev.icmp_gt_t (pc := 3) (tgt := 15) dX8_extend_3 rfl c1 ?_
    obtain ⟨h1, h2⟩ := oeq h
    subst h1
    subst h2
    exact Ev.ret_v (pc := 15) dX8_extend_15 rfl
  · replace h := (if_neg c1).symm.trans h
    refine Ev.icmp_gt_f (pc := 3) dX8_extend_3 ⟨15, rfl⟩ c1 ?_
    refine Ev.aload_n (pc := 6) dX8_extend_6 rfl rfl ?_
    refine Ev.iload (pc := 7) dX8_extend_7 rfl ?_
    refine Ev.cVi (pc := 9) (k := 63) (av := [vI a4]) (rest := []) dX8_extend_9 ce_X8_cannotBeBetter ml_X8_89 rfl sh_63 cl_X8 sh_sc (Nat.le_of_ble_eq_true rfl) (by omega) (r_X8_cannotBeBetter _ _) ?_
    by_cases c2 : (p_X8_cannotBeBetter a4 σ) = 0
    · replace h := (if_pos c2).symm.trans h
      refine Ev.if_eq_t (pc := 12) (tgt := 16) dX8_extend_12 rfl c2 ?_
      refine Ev.iload (pc := 16) dX8_extend_16 rfl ?_
      by_cases c3 : a5 = 0
      · replace h := (if_pos c3).symm.trans h
        refine Ev.if_ne_f (pc := 18) dX8_extend_18 ⟨29, rfl⟩ c3 ?_
        refine Ev.aload_n (pc := 21) dX8_extend_21 rfl rfl ?_
        refine Ev.iload_n (pc := 22) dX8_extend_22 rfl rfl ?_
        refine Ev.iload (pc := 23) dX8_extend_23 rfl ?_
        refine Ev.cVv (pc := 25) (k := 63) (av := [vI a1, vI a4]) (rest := []) dX8_extend_25 ce_X8_takeAsBest ml_X8_92 rfl sh_63 cl_X8 sh_sc (Nat.le_of_ble_eq_true rfl) (by omega) (r_X8_takeAsBest _ _ _) ?_
        refine Ev.nmS (fun σ8 e9 => ?_)
        replace h := bt_app h σ8 e9
        obtain ⟨h1, h2⟩ := oeq h
        subst h1
        subst h2
        exact Ev.ret_v (pc := 28) dX8_extend_28 rfl
      · replace h := (if_neg c3).symm.trans h
        refine Ev.if_ne_t (pc := 18) (tgt := 29) dX8_extend_18 rfl c3 ?_
        refine Ev.aload_n (pc := 29) dX8_extend_29 rfl rfl ?_
        refine Ev.iload_n (pc := 30) dX8_extend_30 rfl rfl ?_
        refine Ev.iload_n (pc := 31) dX8_extend_31 rfl rfl ?_
        refine Ev.iload (pc := 32) dX8_extend_32 rfl ?_
        obtain ⟨x4, σ5, g6, h⟩ := bd_elim h
        refine Ev.cVi (pc := 34) (k := 63) (av := [vI a2, vI a3, vI a5]) (rest := []) dX8_extend_34 ce_X8_misses ml_X8_96 rfl sh_63 cl_X8 sh_sc (Nat.le_of_ble_eq_true rfl) (by omega) (r_X8_misses g6) ?_
        by_cases c7 : x4 = 0
        · replace h := (if_pos c7).symm.trans h
          refine Ev.if_eq_t (pc := 37) (tgt := 41) dX8_extend_37 rfl c7 ?_
          refine Ev.iconst (pc := 41) (v := 0) dX8_extend_41 ki_0 ?_
          refine Ev.istore (pc := 42) (lv' := [some (vR 63), some (vI a1), some (vI a2), some (vI a3), some (vI a4), some (vI a5), some (vI 0), none, none, none, none]) dX8_extend_42 (lt9 rfl) rfl rfl ?_
          exact Ev.weak2 (ll_X8_extend_44 N REC hREC N _ _ _ _ _ _ _ _ _ h) (lsubS (lsubS (lsubS (lsubS (lsubS (lsubS (lsubS (lsubN (lsubN (lsubN (lsubN lsubE)))))))))))
        · replace h := (if_neg c7).symm.trans h
          refine Ev.if_eq_f (pc := 37) dX8_extend_37 ⟨41, rfl⟩ c7 ?_
          obtain ⟨h1, h2⟩ := oeq h
          subst h1
          subst h2
          exact Ev.ret_v (pc := 40) dX8_extend_40 rfl
    · replace h := (if_neg c2).symm.trans h
      refine Ev.if_eq_f (pc := 12) dX8_extend_12 ⟨16, rfl⟩ c2 ?_
      obtain ⟨h1, h2⟩ := oeq h
      subst h1
      subst h2
      exact Ev.ret_v (pc := 15) dX8_extend_15 rfl
theorem rb_X8_extend {N : Nat} {REC : Int32 → Int32 → Int32 → Int32 → Int32 → St → Option (Unit × St)} {dR : Nat} (hREC : ∀ (a1 : Int32) (a2 : Int32) (a3 : Int32) (a4 : Int32) (a5 : Int32) (σ : St) (v : Unit) (w : St), REC a1 a2 a3 a4 a5 σ = some (v, w) → Rn md_X8_extend dR [vR 63, vI a1, vI a2, vI a3, vI a4, vI a5] SH σ (none, SH, w)) {a1 : Int32} {a2 : Int32} {a3 : Int32} {a4 : Int32} {a5 : Int32} {σ : St} {v : Unit} {w : St} (h : ob_X8_extend N REC a1 a2 a3 a4 a5 σ = some (v, w)) : Rn md_X8_extend (dR + 8) [vR 63, vI a1, vI a2, vI a3, vI a4, vI a5] SH σ (none, SH, w) := Rn.of ce_X8_extend.1 (Nat.le_of_ble_eq_true rfl) (e_X8_extend N REC hREC _ _ _ _ _ _ _ _ h)
def oe_X8_extend (N : Nat) : Nat → Int32 → Int32 → Int32 → Int32 → Int32 → St → Option (Unit × St)
  | 0, _, _, _, _, _, _ => none
  | n + 1, a1, a2, a3, a4, a5, σ => ob_X8_extend N (oe_X8_extend N n) a1 a2 a3 a4 a5 σ
theorem re_X8_extend (N : Nat) : ∀ (n : Nat) (a1 : Int32) (a2 : Int32) (a3 : Int32) (a4 : Int32) (a5 : Int32) (σ : St) (v : Unit) (w : St), oe_X8_extend N n a1 a2 a3 a4 a5 σ = some (v, w) → Rn md_X8_extend (8 * n) [vR 63, vI a1, vI a2, vI a3, vI a4, vI a5] SH σ (none, SH, w) := by
  intro n
  induction n with
  | zero =>
    intro a1 a2 a3 a4 a5 σ v w h
    rw [oe_X8_extend] at h
    cases h
  | succ n ih =>
    intro a1 a2 a3 a4 a5 σ v w h
    rw [oe_X8_extend] at h
    exact rb_X8_extend ih h
def o_X8_extend (N : Nat) (a1 : Int32) (a2 : Int32) (a3 : Int32) (a4 : Int32) (a5 : Int32) (σ : St) : Option (Unit × St) := oe_X8_extend N 10 a1 a2 a3 a4 a5 σ
theorem r_X8_extend {N : Nat} {a1 : Int32} {a2 : Int32} {a3 : Int32} {a4 : Int32} {a5 : Int32} {σ : St} {v : Unit} {w : St} (h : o_X8_extend N a1 a2 a3 a4 a5 σ = some (v, w)) : Rn md_X8_extend 80 [vR 63, vI a1, vI a2, vI a3, vI a4, vI a5] SH σ (none, SH, w) := re_X8_extend N 10 a1 a2 a3 a4 a5 σ v w h
def j_X8_canKeepAll_45 (N : Nat)  (σ : St) : Option (Int32 × St) := if (σ 63 8) = (-1) then (some (0, σ)) else (some (1, σ))
def o_X8_canKeepAll (N : Nat) (a1 : Int32) (a2 : Int32) (a3 : Int32) (σ : St) : Option (Int32 × St) := bt (st σ 63 8 (-1)) fun σ1 => bt (st σ1 63 7 0) fun σ2 => ckB a3 (bt (st σ2 63 9 a3) fun σ4 => bd (o_X8_prepare N a2 σ4) fun x5 σ6 => if x5 = 0 then (j_X8_canKeepAll_45 N σ6) else (bd (o_X8_extend N 0 (p_X1_townOf_23 a1 σ6) (p_X1_today_23 σ6) 0 a2 σ6) fun u9 σ10 => j_X8_canKeepAll_45 N σ10))
theorem lj_X8_canKeepAll_45 (N : Nat)  (σ : St) (v : Int32) (w : St) (h : j_X8_canKeepAll_45 N  σ = some (v, w)) : Ev md_X8_canKeepAll 81 45 [some (vR 63), none, none, none] [] SH σ (some (vI v), SH, w) := by
  unfold j_X8_canKeepAll_45 at h
  refine Ev.aload_n (pc := 45) dX8_canKeepAll_45 rfl rfl ?_
  refine Ev.getI (pc := 46) dX8_canKeepAll_46 fl_X8_47 sh_63 rfl ?_
  refine Ev.iconst (pc := 49) (v := (-1)) dX8_canKeepAll_49 ki_m1 ?_
  by_cases c1 : (σ 63 8) = (-1)
  · replace h := (if_pos c1).symm.trans h
    refine Ev.icmp_eq_t (pc := 50) (tgt := 57) dX8_canKeepAll_50 rfl c1 ?_
    refine Ev.iconst (pc := 57) (v := 0) dX8_canKeepAll_57 ki_0 ?_
    obtain ⟨h1, h2⟩ := oeq h
    subst h1
    subst h2
    exact Ev.ret_i (pc := 58) dX8_canKeepAll_58 rfl nb_0
  · replace h := (if_neg c1).symm.trans h
    refine Ev.icmp_eq_f (pc := 50) dX8_canKeepAll_50 ⟨57, rfl⟩ c1 ?_
    refine Ev.iconst (pc := 53) (v := 1) dX8_canKeepAll_53 ki_1 ?_
    refine Ev.goto (pc := 54) (tgt := 58) dX8_canKeepAll_54 rfl ?_
    obtain ⟨h1, h2⟩ := oeq h
    subst h1
    subst h2
    exact Ev.ret_i (pc := 58) dX8_canKeepAll_58 rfl nb_1
theorem e_X8_canKeepAll (N : Nat) (a1 : Int32) (a2 : Int32) (a3 : Int32) (σ : St) (v : Int32) (w : St) (h : o_X8_canKeepAll N a1 a2 a3 σ = some (v, w)) : Ev md_X8_canKeepAll 81 0 (lvE [vR 63, vI a1, vI a2, vI a3] 4) [] SH σ (some (vI v), SH, w) := by
  show Ev md_X8_canKeepAll 81 0 [some (vR 63), some (vI a1), some (vI a2), some (vI a3)] [] SH σ (some (vI v), SH, w)
  unfold o_X8_canKeepAll at h
  refine Ev.aload_n (pc := 0) dX8_canKeepAll_0 rfl rfl ?_
  refine Ev.iconst (pc := 1) (v := (-1)) dX8_canKeepAll_1 ki_m1 ?_
  refine Ev.putI (pc := 2) dX8_canKeepAll_2 pl_X8_47 sh_63 rfl rfl rfl ?_
  refine Ev.nmS (fun σ1 e9 => ?_)
  replace h := bt_app h σ1 e9
  refine Ev.aload_n (pc := 5) dX8_canKeepAll_5 rfl rfl ?_
  refine Ev.iconst (pc := 6) (v := 0) dX8_canKeepAll_6 ki_0 ?_
  refine Ev.putI (pc := 7) dX8_canKeepAll_7 pl_X8_39 sh_63 rfl rfl rfl ?_
  refine Ev.nmS (fun σ2 e9 => ?_)
  replace h := bt_app h σ2 e9
  refine Ev.aload_n (pc := 10) dX8_canKeepAll_10 rfl rfl ?_
  refine Ev.iload_n (pc := 11) dX8_canKeepAll_11 rfl rfl ?_
  obtain ⟨c3, h⟩ := ckB_elim h
  refine Ev.putI (pc := 12) dX8_canKeepAll_12 pl_X8_50 sh_63 rfl c3.1 c3.2 ?_
  refine Ev.nmS (fun σ4 e9 => ?_)
  replace h := bt_app h σ4 e9
  refine Ev.aload_n (pc := 15) dX8_canKeepAll_15 rfl rfl ?_
  refine Ev.iload_n (pc := 16) dX8_canKeepAll_16 rfl rfl ?_
  obtain ⟨x5, σ6, g7, h⟩ := bd_elim h
  refine Ev.cVi (pc := 17) (k := 63) (av := [vI a2]) (rest := []) dX8_canKeepAll_17 ce_X8_prepare ml_X8_54 rfl sh_63 cl_X8 sh_sc (Nat.le_of_ble_eq_true rfl) (Nat.le_of_ble_eq_true rfl) (r_X8_prepare g7) ?_
  by_cases c8 : x5 = 0
  · replace h := (if_pos c8).symm.trans h
    refine Ev.if_eq_t (pc := 20) (tgt := 45) dX8_canKeepAll_20 rfl c8 ?_
    exact Ev.weak2 (lj_X8_canKeepAll_45 N _ _ _ h) (lsubS (lsubN (lsubN (lsubN lsubE))))
  · replace h := (if_neg c8).symm.trans h
    refine Ev.if_eq_f (pc := 20) dX8_canKeepAll_20 ⟨45, rfl⟩ c8 ?_
    refine Ev.aload_n (pc := 23) dX8_canKeepAll_23 rfl rfl ?_
    refine Ev.iconst (pc := 24) (v := 0) dX8_canKeepAll_24 ki_0 ?_
    refine Ev.aload_n (pc := 25) dX8_canKeepAll_25 rfl rfl ?_
    refine Ev.getR (pc := 26) dX8_canKeepAll_26 fl_X8_31 sh_63 rfl ?_
    refine Ev.iload_n (pc := 29) dX8_canKeepAll_29 rfl rfl ?_
    refine Ev.cVi (pc := 30) (k := 23) (av := [vI a1]) (rest := [vI 0, vR 63]) dX8_canKeepAll_30 ce_X1_townOf ml_X8_58 rfl sh_23 cl_X1 sh_sc (Nat.le_of_ble_eq_true rfl) (Nat.le_of_ble_eq_true rfl) (r_X1_townOf_23 _ _) ?_
    refine Ev.aload_n (pc := 33) dX8_canKeepAll_33 rfl rfl ?_
    refine Ev.getR (pc := 34) dX8_canKeepAll_34 fl_X8_31 sh_63 rfl ?_
    refine Ev.cVi (pc := 37) (k := 23) (av := []) (rest := [vI (p_X1_townOf_23 a1 σ6), vI 0, vR 63]) dX8_canKeepAll_37 ce_X1_today ml_X8_64 rfl sh_23 cl_X1 sh_sc (Nat.le_of_ble_eq_true rfl) (Nat.le_of_ble_eq_true rfl) (r_X1_today_23  _) ?_
    refine Ev.iconst (pc := 40) (v := 0) dX8_canKeepAll_40 ki_0 ?_
    refine Ev.iload_n (pc := 41) dX8_canKeepAll_41 rfl rfl ?_
    obtain ⟨u9, σ10, g11, h⟩ := bd_elim h
    refine Ev.cTv (pc := 42) (av := [vR 63, vI 0, vI (p_X1_townOf_23 a1 σ6), vI (p_X1_today_23 σ6), vI 0, vI a2]) (rest := []) dX8_canKeepAll_42 ce_X8_extend ml_X8_68 rfl sh_sc (Nat.le_of_ble_eq_true rfl) (Nat.le_of_ble_eq_true rfl) (r_X8_extend g11) ?_
    exact Ev.weak2 (lj_X8_canKeepAll_45 N _ _ _ h) (lsubS (lsubN (lsubN (lsubN lsubE))))
theorem r_X8_canKeepAll {N : Nat} {a1 : Int32} {a2 : Int32} {a3 : Int32} {σ : St} {v : Int32} {w : St} (h : o_X8_canKeepAll N a1 a2 a3 σ = some (v, w)) : Rn md_X8_canKeepAll 81 [vR 63, vI a1, vI a2, vI a3] SH σ (some (vI v), SH, w) := Rn.of ce_X8_canKeepAll.1 (Nat.le_of_ble_eq_true rfl) (e_X8_canKeepAll N _ _ _ _ _ _ h)
def j_X8_bestAt_12  (σ : St) : Int32 := (-1)
def p_X8_bestAt (a1 : Int32) (σ : St) : Int32 := if a1 < 0 then (j_X8_bestAt_12 σ) else (if a1 < (σ 63 7) then ((at_ σ 68 8 a1)) else (j_X8_bestAt_12 σ))
theorem lj_X8_bestAt_12  (σ : St) (v : Int32) (h : j_X8_bestAt_12  σ = v) : Ev md_X8_bestAt 1 12 [none, none] [] SH σ (some (vI v), SH, σ) := by
  unfold j_X8_bestAt_12 at h
  refine Ev.iconst (pc := 12) (v := (-1)) dX8_bestAt_12 ki_m1 ?_
  refine Ev.goto (pc := 13) (tgt := 24) dX8_bestAt_13 rfl ?_
  subst h
  exact Ev.ret_i (pc := 24) dX8_bestAt_24 rfl rfl
theorem e_X8_bestAt (a1 : Int32) (σ : St) (v : Int32) (h : p_X8_bestAt a1 σ = v) : Ev md_X8_bestAt 1 0 (lvE [vR 63, vI a1] 2) [] SH σ (some (vI v), SH, σ) := by
  show Ev md_X8_bestAt 1 0 [some (vR 63), some (vI a1)] [] SH σ (some (vI v), SH, σ)
  unfold p_X8_bestAt at h
  refine Ev.iload_n (pc := 0) dX8_bestAt_0 rfl rfl ?_
  by_cases c1 : a1 < 0
  · replace h := (if_pos c1).symm.trans h
    refine Ev.if_lt_t (pc := 1) (tgt := 12) dX8_bestAt_1 rfl c1 ?_
    exact Ev.weak2 (lj_X8_bestAt_12 _ _ h) (lsubN (lsubN lsubE))
  · replace h := (if_neg c1).symm.trans h
    refine Ev.if_lt_f (pc := 1) dX8_bestAt_1 ⟨12, rfl⟩ c1 ?_
    refine Ev.iload_n (pc := 4) dX8_bestAt_4 rfl rfl ?_
    refine Ev.aload_n (pc := 5) dX8_bestAt_5 rfl rfl ?_
    refine Ev.getI (pc := 6) dX8_bestAt_6 fl_X8_39 sh_63 rfl ?_
    by_cases c2 : a1 < (σ 63 7)
    · replace h := (if_pos c2).symm.trans h
      refine Ev.icmp_lt_t (pc := 9) (tgt := 16) dX8_bestAt_9 rfl c2 ?_
      refine Ev.aload_n (pc := 16) dX8_bestAt_16 rfl rfl ?_
      refine Ev.getR (pc := 17) dX8_bestAt_17 fl_X8_24 sh_63 rfl ?_
      refine Ev.iload_n (pc := 20) dX8_bestAt_20 rfl rfl ?_
      refine Ev.cTi (pc := 21) (av := [vR 68, vI a1]) (rest := []) dX8_bestAt_21 ce_X9_at ml_X8_43 rfl sh_sc (Nat.le_of_ble_eq_true rfl) (Nat.le_of_ble_eq_true rfl) (r_at sh_68 (by decide) _ _) ?_
      subst h
      exact Ev.ret_i (pc := 24) dX8_bestAt_24 rfl rfl
    · replace h := (if_neg c2).symm.trans h
      refine Ev.icmp_lt_f (pc := 9) dX8_bestAt_9 ⟨16, rfl⟩ c2 ?_
      exact Ev.weak2 (lj_X8_bestAt_12 _ _ h) (lsubN (lsubN lsubE))
theorem r_X8_bestAt (a1 : Int32) (σ : St) : Rn md_X8_bestAt 1 [vR 63, vI a1] SH σ (some (vI (p_X8_bestAt a1 σ)), SH, σ) := Rn.of ce_X8_bestAt.1 (Nat.le_of_ble_eq_true rfl) (e_X8_bestAt _ _ _ rfl)
def o_X9_plan (N : Nat) (a1 : Int32) (a2 : Int32) (σ : St) : Option (Int32 × St) := bt (p_X9_refusalOfTrying a1 σ) fun x1 => if x1 = 0 then (bd (o_X1_openOf N a1 σ) fun x3 σ4 => bd (o_X8_canKeepAll N a1 x3 0 σ4) fun x6 σ7 => if x6 = 0 then (some ((-1), σ7)) else (if a2 = (-1) then (some ((σ7 63 8), σ7)) else (some ((p_X8_bestAt a2 σ7), σ7)))) else (some (x1, σ))
theorem e_X9_plan (N : Nat) (a1 : Int32) (a2 : Int32) (σ : St) (v : Int32) (w : St) (h : o_X9_plan N a1 a2 σ = some (v, w)) : Ev md_X9_plan 82 0 (lvE [vR 0, vI a1, vI a2] 4) [] SH σ (some (vI v), SH, w) := by
  show Ev md_X9_plan 82 0 [some (vR 0), some (vI a1), some (vI a2), none] [] SH σ (some (vI v), SH, w)
  unfold o_X9_plan at h
  refine Ev.aload_n (pc := 0) dX9_plan_0 rfl rfl ?_
  refine Ev.iload_n (pc := 1) dX9_plan_1 rfl rfl ?_
  refine Ev.cVi (pc := 2) (k := 0) (av := [vI a1]) (rest := []) dX9_plan_2 ce_X9_refusalOfTrying ml_X9_242 rfl sh_0 cl_X9 sh_sc (Nat.le_of_ble_eq_true rfl) (Nat.le_of_ble_eq_true rfl) (r_X9_refusalOfTrying _ _) ?_
  refine Ev.nmI (fun x1 e9 => ?_)
  replace h := bt_app h x1 e9
  refine Ev.istore_n (pc := 5) (lv' := [some (vR 0), some (vI a1), some (vI a2), some (vI x1)]) dX9_plan_5 rfl (lt9 rfl) rfl rfl ?_
  refine Ev.iload_n (pc := 6) dX9_plan_6 rfl rfl ?_
  by_cases c2 : x1 = 0
  · replace h := (if_pos c2).symm.trans h
    refine Ev.if_eq_t (pc := 7) (tgt := 12) dX9_plan_7 rfl c2 ?_
    refine Ev.aload_n (pc := 12) dX9_plan_12 rfl rfl ?_
    refine Ev.getR (pc := 13) dX9_plan_13 fl_X9_61 sh_0 rfl ?_
    refine Ev.iload_n (pc := 16) dX9_plan_16 rfl rfl ?_
    refine Ev.aload_n (pc := 17) dX9_plan_17 rfl rfl ?_
    refine Ev.getR (pc := 18) dX9_plan_18 fl_X9_31 sh_0 rfl ?_
    refine Ev.iload_n (pc := 21) dX9_plan_21 rfl rfl ?_
    obtain ⟨x3, σ4, g5, h⟩ := bd_elim h
    refine Ev.cVi (pc := 22) (k := 23) (av := [vI a1]) (rest := [vI a1, vR 63]) dX9_plan_22 ce_X1_openOf ml_X9_245 rfl sh_23 cl_X1 sh_sc (Nat.le_of_ble_eq_true rfl) (Nat.le_of_ble_eq_true rfl) (r_X1_openOf g5) ?_
    refine Ev.iconst (pc := 25) (v := 0) dX9_plan_25 ki_0 ?_
    obtain ⟨x6, σ7, g8, h⟩ := bd_elim h
    refine Ev.cVi (pc := 26) (k := 63) (av := [vI a1, vI x3, vI 0]) (rest := []) dX9_plan_26 ce_X8_canKeepAll ml_X9_248 rfl sh_63 cl_X8 sh_sc (Nat.le_of_ble_eq_true rfl) (Nat.le_of_ble_eq_true rfl) (r_X8_canKeepAll g8) ?_
    by_cases c9 : x6 = 0
    · replace h := (if_pos c9).symm.trans h
      refine Ev.if_ne_f (pc := 29) dX9_plan_29 ⟨34, rfl⟩ c9 ?_
      refine Ev.iconst (pc := 32) (v := (-1)) dX9_plan_32 ki_m1 ?_
      obtain ⟨h1, h2⟩ := oeq h
      subst h1
      subst h2
      exact Ev.ret_i (pc := 33) dX9_plan_33 rfl rfl
    · replace h := (if_neg c9).symm.trans h
      refine Ev.if_ne_t (pc := 29) (tgt := 34) dX9_plan_29 rfl c9 ?_
      refine Ev.iload_n (pc := 34) dX9_plan_34 rfl rfl ?_
      refine Ev.iconst (pc := 35) (v := (-1)) dX9_plan_35 ki_m1 ?_
      by_cases c10 : a2 = (-1)
      · replace h := (if_pos c10).symm.trans h
        refine Ev.icmp_ne_f (pc := 36) dX9_plan_36 ⟨49, rfl⟩ c10 ?_
        refine Ev.aload_n (pc := 39) dX9_plan_39 rfl rfl ?_
        refine Ev.getR (pc := 40) dX9_plan_40 fl_X9_61 sh_0 rfl ?_
        refine Ev.getI (pc := 43) dX9_plan_43 fl_X9_252 sh_63 rfl ?_
        refine Ev.goto (pc := 46) (tgt := 57) dX9_plan_46 rfl ?_
        obtain ⟨h1, h2⟩ := oeq h
        subst h1
        subst h2
        exact Ev.ret_i (pc := 57) dX9_plan_57 rfl rfl
      · replace h := (if_neg c10).symm.trans h
        refine Ev.icmp_ne_t (pc := 36) (tgt := 49) dX9_plan_36 rfl c10 ?_
        refine Ev.aload_n (pc := 49) dX9_plan_49 rfl rfl ?_
        refine Ev.getR (pc := 50) dX9_plan_50 fl_X9_61 sh_0 rfl ?_
        refine Ev.iload_n (pc := 53) dX9_plan_53 rfl rfl ?_
        refine Ev.cVi (pc := 54) (k := 63) (av := [vI a2]) (rest := []) dX9_plan_54 ce_X8_bestAt ml_X9_255 rfl sh_63 cl_X8 sh_sc (Nat.le_of_ble_eq_true rfl) (Nat.le_of_ble_eq_true rfl) (r_X8_bestAt _ _) ?_
        obtain ⟨h1, h2⟩ := oeq h
        subst h1
        subst h2
        exact Ev.ret_i (pc := 57) dX9_plan_57 rfl rfl
  · replace h := (if_neg c2).symm.trans h
    refine Ev.if_eq_f (pc := 7) dX9_plan_7 ⟨12, rfl⟩ c2 ?_
    refine Ev.iload_n (pc := 10) dX9_plan_10 rfl rfl ?_
    obtain ⟨h1, h2⟩ := oeq h
    subst h1
    subst h2
    exact Ev.ret_i (pc := 11) dX9_plan_11 rfl rfl
theorem r_X9_plan {N : Nat} {a1 : Int32} {a2 : Int32} {σ : St} {v : Int32} {w : St} (h : o_X9_plan N a1 a2 σ = some (v, w)) : Rn md_X9_plan 82 [vR 0, vI a1, vI a2] SH σ (some (vI v), SH, w) := Rn.of ce_X9_plan.1 (Nat.le_of_ble_eq_true rfl) (e_X9_plan N _ _ _ _ _ h)
def o_X10_openOf (N : Nat) (a1 : Int32) (σ : St) : Option (Int32 × St) := bd (o_X10_ofKeeper N a1 σ) fun x1 σ2 => bd (o_X10_inWay N 0 σ2) fun x4 σ5 => some ((x1 &&& x4), σ5)
theorem e_X10_openOf (N : Nat) (a1 : Int32) (σ : St) (v : Int32) (w : St) (h : o_X10_openOf N a1 σ = some (v, w)) : Ev md_X10_openOf 2 0 (lvE [vR 79, vI a1] 2) [] SH σ (some (vI v), SH, w) := by
  show Ev md_X10_openOf 2 0 [some (vR 79), some (vI a1)] [] SH σ (some (vI v), SH, w)
  unfold o_X10_openOf at h
  refine Ev.aload_n (pc := 0) dX10_openOf_0 rfl rfl ?_
  refine Ev.iload_n (pc := 1) dX10_openOf_1 rfl rfl ?_
  obtain ⟨x1, σ2, g3, h⟩ := bd_elim h
  refine Ev.cVi (pc := 2) (k := 79) (av := [vI a1]) (rest := []) dX10_openOf_2 ce_X10_ofKeeper ml_X10_209 rfl sh_79 cl_X10 sh_sc (Nat.le_of_ble_eq_true rfl) (Nat.le_of_ble_eq_true rfl) (r_X10_ofKeeper g3) ?_
  refine Ev.aload_n (pc := 5) dX10_openOf_5 rfl rfl ?_
  refine Ev.iconst (pc := 6) (v := 0) dX10_openOf_6 ki_0 ?_
  obtain ⟨x4, σ5, g6, h⟩ := bd_elim h
  refine Ev.cVi (pc := 7) (k := 79) (av := [vI 0]) (rest := [vI x1]) dX10_openOf_7 ce_X10_inWay ml_X10_198 rfl sh_79 cl_X10 sh_sc (Nat.le_of_ble_eq_true rfl) (Nat.le_of_ble_eq_true rfl) (r_X10_inWay g6) ?_
  refine Ev.iand (pc := 10) dX10_openOf_10 ?_
  obtain ⟨h1, h2⟩ := oeq h
  subst h1
  subst h2
  exact Ev.ret_i (pc := 11) dX10_openOf_11 rfl rfl
theorem r_X10_openOf {N : Nat} {a1 : Int32} {σ : St} {v : Int32} {w : St} (h : o_X10_openOf N a1 σ = some (v, w)) : Rn md_X10_openOf 2 [vR 79, vI a1] SH σ (some (vI v), SH, w) := Rn.of ce_X10_openOf.1 (Nat.le_of_ble_eq_true rfl) (e_X10_openOf N _ _ _ _ h)
def o_X10_townBy (N : Nat) (a1 : Int32) (σ : St) : Option (Int32 × St) := if a1 = 7 then (some ((σ 79 29), σ)) else (ckA a1 14 (some ((σ 87 a1.toNatClampNeg), σ)))
theorem e_X10_townBy (N : Nat) (a1 : Int32) (σ : St) (v : Int32) (w : St) (h : o_X10_townBy N a1 σ = some (v, w)) : Ev md_X10_townBy 0 0 (lvE [vR 79, vI a1] 2) [] SH σ (some (vI v), SH, w) := by
  show Ev md_X10_townBy 0 0 [some (vR 79), some (vI a1)] [] SH σ (some (vI v), SH, w)
  unfold o_X10_townBy at h
  refine Ev.iload_n (pc := 0) dX10_townBy_0 rfl rfl ?_
  refine Ev.bipush (pc := 1) (v := 7) dX10_townBy_1 kb_7 ?_
  by_cases c1 : a1 = 7
  · replace h := (if_pos c1).symm.trans h
    refine Ev.icmp_ne_f (pc := 3) dX10_townBy_3 ⟨13, rfl⟩ c1 ?_
    refine Ev.aload_n (pc := 6) dX10_townBy_6 rfl rfl ?_
    refine Ev.getI (pc := 7) dX10_townBy_7 fl_X10_276 sh_79 rfl ?_
    refine Ev.goto (pc := 10) (tgt := 19) dX10_townBy_10 rfl ?_
    obtain ⟨h1, h2⟩ := oeq h
    subst h1
    subst h2
    exact Ev.ret_i (pc := 19) dX10_townBy_19 rfl rfl
  · replace h := (if_neg c1).symm.trans h
    refine Ev.icmp_ne_t (pc := 3) (tgt := 13) dX10_townBy_3 rfl c1 ?_
    refine Ev.aload_n (pc := 13) dX10_townBy_13 rfl rfl ?_
    refine Ev.getR (pc := 14) dX10_townBy_14 fl_X10_32 sh_79 rfl ?_
    refine Ev.iload_n (pc := 17) dX10_townBy_17 rfl rfl ?_
    obtain ⟨c2, h⟩ := ckA_elim h
    refine Ev.iald (pc := 18) dX10_townBy_18 sh_87 c2 ?_
    obtain ⟨h1, h2⟩ := oeq h
    subst h1
    subst h2
    exact Ev.ret_i (pc := 19) dX10_townBy_19 rfl rfl
theorem r_X10_townBy {N : Nat} {a1 : Int32} {σ : St} {v : Int32} {w : St} (h : o_X10_townBy N a1 σ = some (v, w)) : Rn md_X10_townBy 0 [vR 79, vI a1] SH σ (some (vI v), SH, w) := Rn.of ce_X10_townBy.1 (Nat.le_of_ble_eq_true rfl) (e_X10_townBy N _ _ _ _ h)
def j_X10_givenBy_18 (N : Nat) (v1 : Int32) (σ : St) : Option (Int32 × St) := if v1 = 7 then (some ((σ 80 (37 : Int32).toNatClampNeg), σ)) else (ckA (21 + v1) 1360 (some ((σ 80 (21 + v1).toNatClampNeg), σ)))
def j_X10_givenBy_82 (N : Nat) (K_49 : Int32 → Int32 → Int32 → Int32 → St → Option (Int32 × St)) (v1 : Int32) (v2 : Int32) (v4 : Int32) (s0 : Int32) (σ : St) : Option (Int32 × St) := bt (v4 + 1) fun x1 => K_49 v1 v2 s0 x1 σ
def l_X10_givenBy_49 (N : Nat) : Nat → Int32 → Int32 → Int32 → Int32 → St → Option (Int32 × St)
  | 0, _, _, _, _, _ => none
  | n + 1, v1, v2, v3, v4, σ => if v2 ≤ v4 then (some (v3, σ)) else (ckA v4 9 (ckA v1 14 (if (σ 95 v4.toNatClampNeg) = (σ 91 v1.toNatClampNeg) then (ckA v4 9 (j_X10_givenBy_82 N (l_X10_givenBy_49 N n) v1 v2 v4 (σ 96 v4.toNatClampNeg) σ)) else (j_X10_givenBy_82 N (l_X10_givenBy_49 N n) v1 v2 v4 v3 σ))))
def o_X10_givenBy (N : Nat) (a1 : Int32) (a2 : Int32) (σ : St) : Option (Int32 × St) := if a1 = 7 then (j_X10_givenBy_18 N a1 σ) else (ckA (21 + a1) 1360 (if (σ 80 (21 + a1).toNatClampNeg) < 0 then (l_X10_givenBy_49 N N a1 a2 (-1) 0 σ) else (j_X10_givenBy_18 N a1 σ)))
theorem lj_X10_givenBy_18 (N : Nat) (v1 : Int32) (σ : St) (v : Int32) (w : St) (h : j_X10_givenBy_18 N v1 σ = some (v, w)) : Ev md_X10_givenBy 0 18 [some (vR 79), some (vI v1), none, none, none] [] SH σ (some (vI v), SH, w) := by
  unfold j_X10_givenBy_18 at h
  refine Ev.iload_n (pc := 18) dX10_givenBy_18 rfl rfl ?_
  refine Ev.bipush (pc := 19) (v := 7) dX10_givenBy_19 kb_7 ?_
  by_cases c1 : v1 = 7
  · replace h := (if_pos c1).symm.trans h
    refine Ev.icmp_ne_f (pc := 21) dX10_givenBy_21 ⟨34, rfl⟩ c1 ?_
    refine Ev.aload_n (pc := 24) dX10_givenBy_24 rfl rfl ?_
    refine Ev.getR (pc := 25) dX10_givenBy_25 fl_X10_7 sh_79 rfl ?_
    refine Ev.bipush (pc := 28) (v := 37) dX10_givenBy_28 kb_37 ?_
    refine Ev.iald (pc := 30) dX10_givenBy_30 sh_80 in_37_1360 ?_
    refine Ev.goto (pc := 31) (tgt := 43) dX10_givenBy_31 rfl ?_
    obtain ⟨h1, h2⟩ := oeq h
    subst h1
    subst h2
    exact Ev.ret_i (pc := 43) dX10_givenBy_43 rfl rfl
  · replace h := (if_neg c1).symm.trans h
    refine Ev.icmp_ne_t (pc := 21) (tgt := 34) dX10_givenBy_21 rfl c1 ?_
    refine Ev.aload_n (pc := 34) dX10_givenBy_34 rfl rfl ?_
    refine Ev.getR (pc := 35) dX10_givenBy_35 fl_X10_7 sh_79 rfl ?_
    refine Ev.bipush (pc := 38) (v := 21) dX10_givenBy_38 kb_21 ?_
    refine Ev.iload_n (pc := 40) dX10_givenBy_40 rfl rfl ?_
    refine Ev.iadd (pc := 41) dX10_givenBy_41 ?_
    obtain ⟨c2, h⟩ := ckA_elim h
    refine Ev.iald (pc := 42) dX10_givenBy_42 sh_80 c2 ?_
    obtain ⟨h1, h2⟩ := oeq h
    subst h1
    subst h2
    exact Ev.ret_i (pc := 43) dX10_givenBy_43 rfl rfl
theorem lj_X10_givenBy_82 (N : Nat) (K_49 : Int32 → Int32 → Int32 → Int32 → St → Option (Int32 × St)) (hK_49 : ∀ (v1 : Int32) (v2 : Int32) (v3 : Int32) (v4 : Int32) (σ : St) (v : Int32) (w : St), K_49 v1 v2 v3 v4 σ = some (v, w) → Ev md_X10_givenBy 0 49 [some (vR 79), some (vI v1), some (vI v2), some (vI v3), some (vI v4)] [] SH σ (some (vI v), SH, w)) (v1 : Int32) (v2 : Int32) (v4 : Int32) (s0 : Int32) (σ : St) (v : Int32) (w : St) (h : j_X10_givenBy_82 N K_49 v1 v2 v4 s0 σ = some (v, w)) : Ev md_X10_givenBy 0 82 [some (vR 79), some (vI v1), some (vI v2), none, some (vI v4)] [vI s0] SH σ (some (vI v), SH, w) := by
  unfold j_X10_givenBy_82 at h
  refine Ev.istore_n (pc := 82) (lv' := [some (vR 79), some (vI v1), some (vI v2), some (vI s0), some (vI v4)]) dX10_givenBy_82 rfl (lt9 rfl) rfl rfl ?_
  obtain ⟨x1, e_x1, h⟩ := bt_elim h
  refine Ev.iinc (pc := 83) (v := x1) (lv' := [some (vR 79), some (vI v1), some (vI v2), some (vI s0), some (vI x1)]) dX10_givenBy_83 rfl (by rw [ki_1, e_x1]) (lt9 rfl) rfl rfl ?_
  refine Ev.goto (pc := 86) (tgt := 49) dX10_givenBy_86 rfl ?_
  exact Ev.weak2 (hK_49 _ _ _ _ _ _ _ h) (lsubS (lsubS (lsubS (lsubS (lsubS lsubE)))))
theorem ll_X10_givenBy_49 (N : Nat) : ∀ (n : Nat) (v1 : Int32) (v2 : Int32) (v3 : Int32) (v4 : Int32) (σ : St) (v : Int32) (w : St), l_X10_givenBy_49 N n v1 v2 v3 v4 σ = some (v, w) → Ev md_X10_givenBy 0 49 [some (vR 79), some (vI v1), some (vI v2), some (vI v3), some (vI v4)] [] SH σ (some (vI v), SH, w) := by
  intro n
  induction n with
  | zero =>
    intro v1 v2 v3 v4 σ v w h
    rw [l_X10_givenBy_49] at h
    cases h
  | succ n ih =>
    intro v1 v2 v3 v4 σ v w h
    rw [l_X10_givenBy_49] at h
    refine Ev.iload (pc := 49) dX10_givenBy_49 rfl ?_
    refine Ev.iload_n (pc := 51) dX10_givenBy_51 rfl rfl ?_
    by_cases c1 : v2 ≤ v4
    · replace h := (if_pos c1).symm.trans h
      refine Ev.icmp_ge_t (pc := 52) (tgt := 89) dX10_givenBy_52 rfl c1 ?_
      refine Ev.iload_n (pc := 89) dX10_givenBy_89 rfl rfl ?_
      obtain ⟨h1, h2⟩ := oeq h
      subst h1
      subst h2
      exact Ev.ret_i (pc := 90) dX10_givenBy_90 rfl rfl
    · replace h := (if_neg c1).symm.trans h
      refine Ev.icmp_ge_f (pc := 52) dX10_givenBy_52 ⟨89, rfl⟩ c1 ?_
      refine Ev.aload_n (pc := 55) dX10_givenBy_55 rfl rfl ?_
      refine Ev.getR (pc := 56) dX10_givenBy_56 fl_X10_60 sh_79 rfl ?_
      refine Ev.iload (pc := 59) dX10_givenBy_59 rfl ?_
      obtain ⟨c2, h⟩ := ckA_elim h
      refine Ev.iald (pc := 61) dX10_givenBy_61 sh_95 c2 ?_
      refine Ev.aload_n (pc := 62) dX10_givenBy_62 rfl rfl ?_
      refine Ev.getR (pc := 63) dX10_givenBy_63 fl_X10_44 sh_79 rfl ?_
      refine Ev.iload_n (pc := 66) dX10_givenBy_66 rfl rfl ?_
      obtain ⟨c3, h⟩ := ckA_elim h
      refine Ev.iald (pc := 67) dX10_givenBy_67 sh_91 c3 ?_
      by_cases c4 : (σ 95 v4.toNatClampNeg) = (σ 91 v1.toNatClampNeg)
      · replace h := (if_pos c4).symm.trans h
        refine Ev.icmp_ne_f (pc := 68) dX10_givenBy_68 ⟨81, rfl⟩ c4 ?_
        refine Ev.aload_n (pc := 71) dX10_givenBy_71 rfl rfl ?_
        refine Ev.getR (pc := 72) dX10_givenBy_72 fl_X10_63 sh_79 rfl ?_
        refine Ev.iload (pc := 75) dX10_givenBy_75 rfl ?_
        obtain ⟨c5, h⟩ := ckA_elim h
        refine Ev.iald (pc := 77) dX10_givenBy_77 sh_96 c5 ?_
        refine Ev.goto (pc := 78) (tgt := 82) dX10_givenBy_78 rfl ?_
        exact Ev.weak2 (lj_X10_givenBy_82 N (l_X10_givenBy_49 N n) ih _ _ _ _ _ _ _ h) (lsubS (lsubS (lsubS (lsubN (lsubS lsubE)))))
      · replace h := (if_neg c4).symm.trans h
        refine Ev.icmp_ne_t (pc := 68) (tgt := 81) dX10_givenBy_68 rfl c4 ?_
        refine Ev.iload_n (pc := 81) dX10_givenBy_81 rfl rfl ?_
        exact Ev.weak2 (lj_X10_givenBy_82 N (l_X10_givenBy_49 N n) ih _ _ _ _ _ _ _ h) (lsubS (lsubS (lsubS (lsubN (lsubS lsubE)))))
theorem e_X10_givenBy (N : Nat) (a1 : Int32) (a2 : Int32) (σ : St) (v : Int32) (w : St) (h : o_X10_givenBy N a1 a2 σ = some (v, w)) : Ev md_X10_givenBy 0 0 (lvE [vR 79, vI a1, vI a2] 5) [] SH σ (some (vI v), SH, w) := by
  show Ev md_X10_givenBy 0 0 [some (vR 79), some (vI a1), some (vI a2), none, none] [] SH σ (some (vI v), SH, w)
  unfold o_X10_givenBy at h
  refine Ev.iload_n (pc := 0) dX10_givenBy_0 rfl rfl ?_
  refine Ev.bipush (pc := 1) (v := 7) dX10_givenBy_1 kb_7 ?_
  by_cases c1 : a1 = 7
  · replace h := (if_pos c1).symm.trans h
    refine Ev.icmp_eq_t (pc := 3) (tgt := 18) dX10_givenBy_3 rfl c1 ?_
    exact Ev.weak2 (lj_X10_givenBy_18 N _ _ _ _ h) (lsubS (lsubS (lsubN (lsubN (lsubN lsubE)))))
  · replace h := (if_neg c1).symm.trans h
    refine Ev.icmp_eq_f (pc := 3) dX10_givenBy_3 ⟨18, rfl⟩ c1 ?_
    refine Ev.aload_n (pc := 6) dX10_givenBy_6 rfl rfl ?_
    refine Ev.getR (pc := 7) dX10_givenBy_7 fl_X10_7 sh_79 rfl ?_
    refine Ev.bipush (pc := 10) (v := 21) dX10_givenBy_10 kb_21 ?_
    refine Ev.iload_n (pc := 12) dX10_givenBy_12 rfl rfl ?_
    refine Ev.iadd (pc := 13) dX10_givenBy_13 ?_
    obtain ⟨c2, h⟩ := ckA_elim h
    refine Ev.iald (pc := 14) dX10_givenBy_14 sh_80 c2 ?_
    by_cases c3 : (σ 80 (21 + a1).toNatClampNeg) < 0
    · replace h := (if_pos c3).symm.trans h
      refine Ev.if_lt_t (pc := 15) (tgt := 44) dX10_givenBy_15 rfl c3 ?_
      refine Ev.iconst (pc := 44) (v := (-1)) dX10_givenBy_44 ki_m1 ?_
      refine Ev.istore_n (pc := 45) (lv' := [some (vR 79), some (vI a1), some (vI a2), some (vI (-1)), none]) dX10_givenBy_45 rfl (lt9 rfl) rfl rfl ?_
      refine Ev.iconst (pc := 46) (v := 0) dX10_givenBy_46 ki_0 ?_
      refine Ev.istore (pc := 47) (lv' := [some (vR 79), some (vI a1), some (vI a2), some (vI (-1)), some (vI 0)]) dX10_givenBy_47 (lt9 rfl) rfl rfl ?_
      exact Ev.weak2 (ll_X10_givenBy_49 N N _ _ _ _ _ _ _ h) (lsubS (lsubS (lsubS (lsubS (lsubS lsubE)))))
    · replace h := (if_neg c3).symm.trans h
      refine Ev.if_lt_f (pc := 15) dX10_givenBy_15 ⟨44, rfl⟩ c3 ?_
      exact Ev.weak2 (lj_X10_givenBy_18 N _ _ _ _ h) (lsubS (lsubS (lsubN (lsubN (lsubN lsubE)))))
theorem r_X10_givenBy {N : Nat} {a1 : Int32} {a2 : Int32} {σ : St} {v : Int32} {w : St} (h : o_X10_givenBy N a1 a2 σ = some (v, w)) : Rn md_X10_givenBy 0 [vR 79, vI a1, vI a2] SH σ (some (vI v), SH, w) := Rn.of ce_X10_givenBy.1 (Nat.le_of_ble_eq_true rfl) (e_X10_givenBy N _ _ _ _ _ h)
def o_X10_ageBy (N : Nat) (a1 : Int32) (σ : St) : Option (Int32 × St) := if a1 = 7 then (some ((σ 79 30), σ)) else (ckA a1 14 (some ((σ 88 a1.toNatClampNeg), σ)))
theorem e_X10_ageBy (N : Nat) (a1 : Int32) (σ : St) (v : Int32) (w : St) (h : o_X10_ageBy N a1 σ = some (v, w)) : Ev md_X10_ageBy 0 0 (lvE [vR 79, vI a1] 2) [] SH σ (some (vI v), SH, w) := by
  show Ev md_X10_ageBy 0 0 [some (vR 79), some (vI a1)] [] SH σ (some (vI v), SH, w)
  unfold o_X10_ageBy at h
  refine Ev.iload_n (pc := 0) dX10_ageBy_0 rfl rfl ?_
  refine Ev.bipush (pc := 1) (v := 7) dX10_ageBy_1 kb_7 ?_
  by_cases c1 : a1 = 7
  · replace h := (if_pos c1).symm.trans h
    refine Ev.icmp_ne_f (pc := 3) dX10_ageBy_3 ⟨13, rfl⟩ c1 ?_
    refine Ev.aload_n (pc := 6) dX10_ageBy_6 rfl rfl ?_
    refine Ev.getI (pc := 7) dX10_ageBy_7 fl_X10_279 sh_79 rfl ?_
    refine Ev.goto (pc := 10) (tgt := 19) dX10_ageBy_10 rfl ?_
    obtain ⟨h1, h2⟩ := oeq h
    subst h1
    subst h2
    exact Ev.ret_i (pc := 19) dX10_ageBy_19 rfl rfl
  · replace h := (if_neg c1).symm.trans h
    refine Ev.icmp_ne_t (pc := 3) (tgt := 13) dX10_ageBy_3 rfl c1 ?_
    refine Ev.aload_n (pc := 13) dX10_ageBy_13 rfl rfl ?_
    refine Ev.getR (pc := 14) dX10_ageBy_14 fl_X10_35 sh_79 rfl ?_
    refine Ev.iload_n (pc := 17) dX10_ageBy_17 rfl rfl ?_
    obtain ⟨c2, h⟩ := ckA_elim h
    refine Ev.iald (pc := 18) dX10_ageBy_18 sh_88 c2 ?_
    obtain ⟨h1, h2⟩ := oeq h
    subst h1
    subst h2
    exact Ev.ret_i (pc := 19) dX10_ageBy_19 rfl rfl
theorem r_X10_ageBy {N : Nat} {a1 : Int32} {σ : St} {v : Int32} {w : St} (h : o_X10_ageBy N a1 σ = some (v, w)) : Rn md_X10_ageBy 0 [vR 79, vI a1] SH σ (some (vI v), SH, w) := Rn.of ce_X10_ageBy.1 (Nat.le_of_ble_eq_true rfl) (e_X10_ageBy N _ _ _ _ h)
def o_X10_slackBy (N : Nat) (a1 : Int32) (σ : St) : Option (Int32 × St) := if a1 = 7 then (some ((σ 79 31), σ)) else (ckA a1 14 (some ((σ 89 a1.toNatClampNeg), σ)))
theorem e_X10_slackBy (N : Nat) (a1 : Int32) (σ : St) (v : Int32) (w : St) (h : o_X10_slackBy N a1 σ = some (v, w)) : Ev md_X10_slackBy 0 0 (lvE [vR 79, vI a1] 2) [] SH σ (some (vI v), SH, w) := by
  show Ev md_X10_slackBy 0 0 [some (vR 79), some (vI a1)] [] SH σ (some (vI v), SH, w)
  unfold o_X10_slackBy at h
  refine Ev.iload_n (pc := 0) dX10_slackBy_0 rfl rfl ?_
  refine Ev.bipush (pc := 1) (v := 7) dX10_slackBy_1 kb_7 ?_
  by_cases c1 : a1 = 7
  · replace h := (if_pos c1).symm.trans h
    refine Ev.icmp_ne_f (pc := 3) dX10_slackBy_3 ⟨13, rfl⟩ c1 ?_
    refine Ev.aload_n (pc := 6) dX10_slackBy_6 rfl rfl ?_
    refine Ev.getI (pc := 7) dX10_slackBy_7 fl_X10_282 sh_79 rfl ?_
    refine Ev.goto (pc := 10) (tgt := 19) dX10_slackBy_10 rfl ?_
    obtain ⟨h1, h2⟩ := oeq h
    subst h1
    subst h2
    exact Ev.ret_i (pc := 19) dX10_slackBy_19 rfl rfl
  · replace h := (if_neg c1).symm.trans h
    refine Ev.icmp_ne_t (pc := 3) (tgt := 13) dX10_slackBy_3 rfl c1 ?_
    refine Ev.aload_n (pc := 13) dX10_slackBy_13 rfl rfl ?_
    refine Ev.getR (pc := 14) dX10_slackBy_14 fl_X10_38 sh_79 rfl ?_
    refine Ev.iload_n (pc := 17) dX10_slackBy_17 rfl rfl ?_
    obtain ⟨c2, h⟩ := ckA_elim h
    refine Ev.iald (pc := 18) dX10_slackBy_18 sh_89 c2 ?_
    obtain ⟨h1, h2⟩ := oeq h
    subst h1
    subst h2
    exact Ev.ret_i (pc := 19) dX10_slackBy_19 rfl rfl
theorem r_X10_slackBy {N : Nat} {a1 : Int32} {σ : St} {v : Int32} {w : St} (h : o_X10_slackBy N a1 σ = some (v, w)) : Rn md_X10_slackBy 0 [vR 79, vI a1] SH σ (some (vI v), SH, w) := Rn.of ce_X10_slackBy.1 (Nat.le_of_ble_eq_true rfl) (e_X10_slackBy N _ _ _ _ h)
def j_X10_put_108 (N : Nat) (v1 : Int32) (v2 : Int32) (v7 : Int32) (s1 : Int32) (s2 : Int32) (s3 : Int32) (σ : St) : Option (Int32 × St) := ckA s1 9 (bt (st σ 97 s1.toNatClampNeg (s2 + s3)) fun σ2 => ckA v2 9 (bd (o_X10_slackBy N v1 σ2) fun x4 σ5 => if (v7 + x4) < (σ2 96 v2.toNatClampNeg) then (some (0, σ5)) else (some (1, σ5))))
def j_X10_put_84 (N : Nat) (v1 : Int32) (v2 : Int32) (v6 : Int32) (v7 : Int32) (s1 : Int32) (s2 : Int32) (σ : St) : Option (Int32 × St) := ckA s1 9 (bt (st σ 96 s1.toNatClampNeg s2) fun σ2 => if v2 = 0 then (j_X10_put_108 N v1 v2 v7 v2 v6 0 σ2) else (ckA (v2 - 1) 9 (j_X10_put_108 N v1 v2 v7 v2 v6 (σ2 97 (v2 - 1).toNatClampNeg) σ2)))
def o_X10_put (N : Nat) (a1 : Int32) (a2 : Int32) (a3 : Int32) (a4 : Int32) (σ : St) : Option (Int32 × St) := bd (o_X10_givenBy N a1 a2 σ) fun x1 σ2 => bd (o_X10_townBy N a1 σ2) fun x4 σ5 => ckA ((5 * a3) + x4) 25 (bt (σ5 83 ((5 * a3) + x4).toNatClampNeg) fun x8 => if x1 < 0 then (some (0, σ5)) else (if x8 < 99999999 then (bd (o_X10_ageBy N a1 σ5) fun x11 σ12 => bd (o_X10_ripeBy N x11 x1 σ12) fun x14 σ15 => bt (a4 + x8) fun x17 => ckA a2 9 (bt (st σ15 95 a2.toNatClampNeg a1) fun σ19 => if x17 ≤ x14 then (j_X10_put_84 N a1 a2 x8 x14 a2 x14 σ19) else (j_X10_put_84 N a1 a2 x8 x14 a2 x17 σ19))) else (some (0, σ5))))
theorem lj_X10_put_108 (N : Nat) (v1 : Int32) (v2 : Int32) (v7 : Int32) (s1 : Int32) (s2 : Int32) (s3 : Int32) (σ : St) (v : Int32) (w : St) (h : j_X10_put_108 N v1 v2 v7 s1 s2 s3 σ = some (v, w)) : Ev md_X10_put 2 108 [some (vR 79), some (vI v1), some (vI v2), none, none, none, none, some (vI v7), none] [vI s3, vI s2, vI s1, vR 97] SH σ (some (vI v), SH, w) := by
  unfold j_X10_put_108 at h
  refine Ev.iadd (pc := 108) dX10_put_108 ?_
  obtain ⟨c1, h⟩ := ckA_elim h
  refine Ev.iast (pc := 109) dX10_put_109 sh_97 c1 ?_
  refine Ev.nmS (fun σ2 e9 => ?_)
  replace h := bt_app h σ2 e9
  refine Ev.aload_n (pc := 110) dX10_put_110 rfl rfl ?_
  refine Ev.getR (pc := 111) dX10_put_111 fl_X10_63 sh_79 rfl ?_
  refine Ev.iload_n (pc := 114) dX10_put_114 rfl rfl ?_
  obtain ⟨c3, h⟩ := ckA_elim h
  refine Ev.iald (pc := 115) dX10_put_115 sh_96 c3 ?_
  refine Ev.iload (pc := 116) dX10_put_116 rfl ?_
  refine Ev.aload_n (pc := 118) dX10_put_118 rfl rfl ?_
  refine Ev.iload_n (pc := 119) dX10_put_119 rfl rfl ?_
  obtain ⟨x4, σ5, g6, h⟩ := bd_elim h
  refine Ev.cVi (pc := 120) (k := 79) (av := [vI v1]) (rest := [vI v7, vI (σ2 96 v2.toNatClampNeg)]) dX10_put_120 ce_X10_slackBy ml_X10_294 rfl sh_79 cl_X10 sh_sc (Nat.le_of_ble_eq_true rfl) (Nat.le_of_ble_eq_true rfl) (r_X10_slackBy g6) ?_
  refine Ev.iadd (pc := 123) dX10_put_123 ?_
  by_cases c7 : (v7 + x4) < (σ2 96 v2.toNatClampNeg)
  · replace h := (if_pos c7).symm.trans h
    refine Ev.icmp_gt_t (pc := 124) (tgt := 131) dX10_put_124 rfl c7 ?_
    refine Ev.iconst (pc := 131) (v := 0) dX10_put_131 ki_0 ?_
    obtain ⟨h1, h2⟩ := oeq h
    subst h1
    subst h2
    exact Ev.ret_i (pc := 132) dX10_put_132 rfl nb_0
  · replace h := (if_neg c7).symm.trans h
    refine Ev.icmp_gt_f (pc := 124) dX10_put_124 ⟨131, rfl⟩ c7 ?_
    refine Ev.iconst (pc := 127) (v := 1) dX10_put_127 ki_1 ?_
    refine Ev.goto (pc := 128) (tgt := 132) dX10_put_128 rfl ?_
    obtain ⟨h1, h2⟩ := oeq h
    subst h1
    subst h2
    exact Ev.ret_i (pc := 132) dX10_put_132 rfl nb_1
theorem lj_X10_put_84 (N : Nat) (v1 : Int32) (v2 : Int32) (v6 : Int32) (v7 : Int32) (s1 : Int32) (s2 : Int32) (σ : St) (v : Int32) (w : St) (h : j_X10_put_84 N v1 v2 v6 v7 s1 s2 σ = some (v, w)) : Ev md_X10_put 2 84 [some (vR 79), some (vI v1), some (vI v2), none, none, none, some (vI v6), some (vI v7), none] [vI s2, vI s1, vR 96] SH σ (some (vI v), SH, w) := by
  unfold j_X10_put_84 at h
  obtain ⟨c1, h⟩ := ckA_elim h
  refine Ev.iast (pc := 84) dX10_put_84 sh_96 c1 ?_
  refine Ev.nmS (fun σ2 e9 => ?_)
  replace h := bt_app h σ2 e9
  refine Ev.aload_n (pc := 85) dX10_put_85 rfl rfl ?_
  refine Ev.getR (pc := 86) dX10_put_86 fl_X10_66 sh_79 rfl ?_
  refine Ev.iload_n (pc := 89) dX10_put_89 rfl rfl ?_
  refine Ev.iload (pc := 90) dX10_put_90 rfl ?_
  refine Ev.iload_n (pc := 92) dX10_put_92 rfl rfl ?_
  by_cases c3 : v2 = 0
  · replace h := (if_pos c3).symm.trans h
    refine Ev.if_ne_f (pc := 93) dX10_put_93 ⟨100, rfl⟩ c3 ?_
    refine Ev.iconst (pc := 96) (v := 0) dX10_put_96 ki_0 ?_
    refine Ev.goto (pc := 97) (tgt := 108) dX10_put_97 rfl ?_
    exact Ev.weak2 (lj_X10_put_108 N _ _ _ _ _ _ _ _ _ h) (lsubS (lsubS (lsubS (lsubN (lsubN (lsubN (lsubN (lsubS (lsubN lsubE)))))))))
  · replace h := (if_neg c3).symm.trans h
    refine Ev.if_ne_t (pc := 93) (tgt := 100) dX10_put_93 rfl c3 ?_
    refine Ev.aload_n (pc := 100) dX10_put_100 rfl rfl ?_
    refine Ev.getR (pc := 101) dX10_put_101 fl_X10_66 sh_79 rfl ?_
    refine Ev.iload_n (pc := 104) dX10_put_104 rfl rfl ?_
    refine Ev.iconst (pc := 105) (v := 1) dX10_put_105 ki_1 ?_
    refine Ev.isub (pc := 106) dX10_put_106 ?_
    obtain ⟨c4, h⟩ := ckA_elim h
    refine Ev.iald (pc := 107) dX10_put_107 sh_97 c4 ?_
    exact Ev.weak2 (lj_X10_put_108 N _ _ _ _ _ _ _ _ _ h) (lsubS (lsubS (lsubS (lsubN (lsubN (lsubN (lsubN (lsubS (lsubN lsubE)))))))))
theorem e_X10_put (N : Nat) (a1 : Int32) (a2 : Int32) (a3 : Int32) (a4 : Int32) (σ : St) (v : Int32) (w : St) (h : o_X10_put N a1 a2 a3 a4 σ = some (v, w)) : Ev md_X10_put 2 0 (lvE [vR 79, vI a1, vI a2, vI a3, vI a4] 9) [] SH σ (some (vI v), SH, w) := by
  show Ev md_X10_put 2 0 [some (vR 79), some (vI a1), some (vI a2), some (vI a3), some (vI a4), none, none, none, none] [] SH σ (some (vI v), SH, w)
  unfold o_X10_put at h
  refine Ev.aload_n (pc := 0) dX10_put_0 rfl rfl ?_
  refine Ev.iload_n (pc := 1) dX10_put_1 rfl rfl ?_
  refine Ev.iload_n (pc := 2) dX10_put_2 rfl rfl ?_
  obtain ⟨x1, σ2, g3, h⟩ := bd_elim h
  refine Ev.cVi (pc := 3) (k := 79) (av := [vI a1, vI a2]) (rest := []) dX10_put_3 ce_X10_givenBy ml_X10_285 rfl sh_79 cl_X10 sh_sc (Nat.le_of_ble_eq_true rfl) (Nat.le_of_ble_eq_true rfl) (r_X10_givenBy g3) ?_
  refine Ev.istore (pc := 6) (lv' := [some (vR 79), some (vI a1), some (vI a2), some (vI a3), some (vI a4), some (vI x1), none, none, none]) dX10_put_6 (lt9 rfl) rfl rfl ?_
  refine Ev.aload_n (pc := 8) dX10_put_8 rfl rfl ?_
  refine Ev.getR (pc := 9) dX10_put_9 fl_X10_20 sh_79 rfl ?_
  refine Ev.iconst (pc := 12) (v := 5) dX10_put_12 ki_5 ?_
  refine Ev.iload_n (pc := 13) dX10_put_13 rfl rfl ?_
  refine Ev.imul (pc := 14) dX10_put_14 ?_
  refine Ev.aload_n (pc := 15) dX10_put_15 rfl rfl ?_
  refine Ev.iload_n (pc := 16) dX10_put_16 rfl rfl ?_
  obtain ⟨x4, σ5, g6, h⟩ := bd_elim h
  refine Ev.cVi (pc := 17) (k := 79) (av := [vI a1]) (rest := [vI (5 * a3), vR 83]) dX10_put_17 ce_X10_townBy ml_X10_288 rfl sh_79 cl_X10 sh_sc (Nat.le_of_ble_eq_true rfl) (Nat.le_of_ble_eq_true rfl) (r_X10_townBy g6) ?_
  refine Ev.iadd (pc := 20) dX10_put_20 ?_
  obtain ⟨c7, h⟩ := ckA_elim h
  refine Ev.iald (pc := 21) dX10_put_21 sh_83 c7 ?_
  refine Ev.nmI (fun x8 e9 => ?_)
  replace h := bt_app h x8 e9
  refine Ev.istore (pc := 22) (lv' := [some (vR 79), some (vI a1), some (vI a2), some (vI a3), some (vI a4), some (vI x1), some (vI x8), none, none]) dX10_put_22 (lt9 rfl) rfl rfl ?_
  refine Ev.iload (pc := 24) dX10_put_24 rfl ?_
  by_cases c9 : x1 < 0
  · replace h := (if_pos c9).symm.trans h
    refine Ev.if_lt_t (pc := 26) (tgt := 36) dX10_put_26 rfl c9 ?_
    refine Ev.iconst (pc := 36) (v := 0) dX10_put_36 ki_0 ?_
    obtain ⟨h1, h2⟩ := oeq h
    subst h1
    subst h2
    exact Ev.ret_i (pc := 37) dX10_put_37 rfl nb_0
  · replace h := (if_neg c9).symm.trans h
    refine Ev.if_lt_f (pc := 26) dX10_put_26 ⟨36, rfl⟩ c9 ?_
    refine Ev.iload (pc := 29) dX10_put_29 rfl ?_
    refine Ev.ldc (pc := 31) dX10_put_31 kc_X10_156 ?_
    by_cases c10 : x8 < 99999999
    · replace h := (if_pos c10).symm.trans h
      refine Ev.icmp_lt_t (pc := 33) (tgt := 38) dX10_put_33 rfl c10 ?_
      refine Ev.aload_n (pc := 38) dX10_put_38 rfl rfl ?_
      refine Ev.aload_n (pc := 39) dX10_put_39 rfl rfl ?_
      refine Ev.iload_n (pc := 40) dX10_put_40 rfl rfl ?_
      obtain ⟨x11, σ12, g13, h⟩ := bd_elim h
      refine Ev.cVi (pc := 41) (k := 79) (av := [vI a1]) (rest := [vR 79]) dX10_put_41 ce_X10_ageBy ml_X10_291 rfl sh_79 cl_X10 sh_sc (Nat.le_of_ble_eq_true rfl) (Nat.le_of_ble_eq_true rfl) (r_X10_ageBy g13) ?_
      refine Ev.iload (pc := 44) dX10_put_44 rfl ?_
      obtain ⟨x14, σ15, g16, h⟩ := bd_elim h
      refine Ev.cVi (pc := 46) (k := 79) (av := [vI x11, vI x1]) (rest := []) dX10_put_46 ce_X10_ripeBy ml_X10_195 rfl sh_79 cl_X10 sh_sc (Nat.le_of_ble_eq_true rfl) (Nat.le_of_ble_eq_true rfl) (r_X10_ripeBy g16) ?_
      refine Ev.istore (pc := 49) (lv' := [some (vR 79), some (vI a1), some (vI a2), some (vI a3), some (vI a4), some (vI x1), some (vI x8), some (vI x14), none]) dX10_put_49 (lt9 rfl) rfl rfl ?_
      refine Ev.iload (pc := 51) dX10_put_51 rfl ?_
      refine Ev.iload (pc := 53) dX10_put_53 rfl ?_
      refine Ev.iadd (pc := 55) dX10_put_55 ?_
      refine Ev.nmI (fun x17 e9 => ?_)
      replace h := bt_app h x17 e9
      refine Ev.istore (pc := 56) (lv' := [some (vR 79), some (vI a1), some (vI a2), some (vI a3), some (vI a4), some (vI x1), some (vI x8), some (vI x14), some (vI x17)]) dX10_put_56 (lt9 rfl) rfl rfl ?_
      refine Ev.aload_n (pc := 58) dX10_put_58 rfl rfl ?_
      refine Ev.getR (pc := 59) dX10_put_59 fl_X10_60 sh_79 rfl ?_
      refine Ev.iload_n (pc := 62) dX10_put_62 rfl rfl ?_
      refine Ev.iload_n (pc := 63) dX10_put_63 rfl rfl ?_
      obtain ⟨c18, h⟩ := ckA_elim h
      refine Ev.iast (pc := 64) dX10_put_64 sh_95 c18 ?_
      refine Ev.nmS (fun σ19 e9 => ?_)
      replace h := bt_app h σ19 e9
      refine Ev.aload_n (pc := 65) dX10_put_65 rfl rfl ?_
      refine Ev.getR (pc := 66) dX10_put_66 fl_X10_63 sh_79 rfl ?_
      refine Ev.iload_n (pc := 69) dX10_put_69 rfl rfl ?_
      refine Ev.iload (pc := 70) dX10_put_70 rfl ?_
      refine Ev.iload (pc := 72) dX10_put_72 rfl ?_
      by_cases c20 : x17 ≤ x14
      · replace h := (if_pos c20).symm.trans h
        refine Ev.icmp_le_t (pc := 74) (tgt := 82) dX10_put_74 rfl c20 ?_
        refine Ev.iload (pc := 82) dX10_put_82 rfl ?_
        exact Ev.weak2 (lj_X10_put_84 N _ _ _ _ _ _ _ _ _ h) (lsubS (lsubS (lsubS (lsubN (lsubN (lsubN (lsubS (lsubS (lsubN lsubE)))))))))
      · replace h := (if_neg c20).symm.trans h
        refine Ev.icmp_le_f (pc := 74) dX10_put_74 ⟨82, rfl⟩ c20 ?_
        refine Ev.iload (pc := 77) dX10_put_77 rfl ?_
        refine Ev.goto (pc := 79) (tgt := 84) dX10_put_79 rfl ?_
        exact Ev.weak2 (lj_X10_put_84 N _ _ _ _ _ _ _ _ _ h) (lsubS (lsubS (lsubS (lsubN (lsubN (lsubN (lsubS (lsubS (lsubN lsubE)))))))))
    · replace h := (if_neg c10).symm.trans h
      refine Ev.icmp_lt_f (pc := 33) dX10_put_33 ⟨38, rfl⟩ c10 ?_
      refine Ev.iconst (pc := 36) (v := 0) dX10_put_36 ki_0 ?_
      obtain ⟨h1, h2⟩ := oeq h
      subst h1
      subst h2
      exact Ev.ret_i (pc := 37) dX10_put_37 rfl nb_0
theorem r_X10_put {N : Nat} {a1 : Int32} {a2 : Int32} {a3 : Int32} {a4 : Int32} {σ : St} {v : Int32} {w : St} (h : o_X10_put N a1 a2 a3 a4 σ = some (v, w)) : Rn md_X10_put 2 [vR 79, vI a1, vI a2, vI a3, vI a4] SH σ (some (vI v), SH, w) := Rn.of ce_X10_put.1 (Nat.le_of_ble_eq_true rfl) (e_X10_put N _ _ _ _ _ _ _ h)
def l_X10_look_35 (N : Nat) : Nat → Int32 → St → Option (Unit × St)
  | 0, _, _ => none
  | n + 1, v1, σ => if (σ 79 38) ≤ v1 then (some ((), σ)) else (ckA v1 9 (ckA v1 9 (bt (st σ 98 v1.toNatClampNeg (σ 95 v1.toNatClampNeg)) fun σ4 => bt (v1 + 1) fun x5 => l_X10_look_35 N n x5 σ4)))
def o_X10_look (N : Nat)  (σ : St) : Option (Unit × St) := ckA ((σ 79 38) - 1) 9 (if (σ 79 37) ≤ (σ 97 ((σ 79 38) - 1).toNatClampNeg) then (some ((), σ)) else (ckA ((σ 79 38) - 1) 9 (bt (st σ 79 37 (σ 97 ((σ 79 38) - 1).toNatClampNeg)) fun σ4 => l_X10_look_35 N N 0 σ4)))
theorem ll_X10_look_35 (N : Nat) : ∀ (n : Nat) (v1 : Int32) (σ : St) (v : Unit) (w : St), l_X10_look_35 N n v1 σ = some (v, w) → Ev md_X10_look 0 35 [some (vR 79), some (vI v1)] [] SH σ (none, SH, w) := by
  intro n
  induction n with
  | zero =>
    intro v1 σ v w h
    rw [l_X10_look_35] at h
    cases h
  | succ n ih =>
    intro v1 σ v w h
    rw [l_X10_look_35] at h
    refine Ev.iload_n (pc := 35) dX10_look_35 rfl rfl ?_
    refine Ev.aload_n (pc := 36) dX10_look_36 rfl rfl ?_
    refine Ev.getI (pc := 37) dX10_look_37 fl_X10_300 sh_79 rfl ?_
    by_cases c1 : (σ 79 38) ≤ v1
    · replace h := (if_pos c1).symm.trans h
      refine Ev.icmp_ge_t (pc := 40) (tgt := 61) dX10_look_40 rfl c1 ?_
      obtain ⟨h1, h2⟩ := oeq h
      subst h1
      subst h2
      exact Ev.ret_v (pc := 61) dX10_look_61 rfl
    · replace h := (if_neg c1).symm.trans h
      refine Ev.icmp_ge_f (pc := 40) dX10_look_40 ⟨61, rfl⟩ c1 ?_
      refine Ev.aload_n (pc := 43) dX10_look_43 rfl rfl ?_
      refine Ev.getR (pc := 44) dX10_look_44 fl_X10_69 sh_79 rfl ?_
      refine Ev.iload_n (pc := 47) dX10_look_47 rfl rfl ?_
      refine Ev.aload_n (pc := 48) dX10_look_48 rfl rfl ?_
      refine Ev.getR (pc := 49) dX10_look_49 fl_X10_60 sh_79 rfl ?_
      refine Ev.iload_n (pc := 52) dX10_look_52 rfl rfl ?_
      obtain ⟨c2, h⟩ := ckA_elim h
      refine Ev.iald (pc := 53) dX10_look_53 sh_95 c2 ?_
      obtain ⟨c3, h⟩ := ckA_elim h
      refine Ev.iast (pc := 54) dX10_look_54 sh_98 c3 ?_
      refine Ev.nmS (fun σ4 e9 => ?_)
      replace h := bt_app h σ4 e9
      obtain ⟨x5, e_x5, h⟩ := bt_elim h
      refine Ev.iinc (pc := 55) (v := x5) (lv' := [some (vR 79), some (vI x5)]) dX10_look_55 rfl (by rw [ki_1, e_x5]) (lt9 rfl) rfl rfl ?_
      refine Ev.goto (pc := 58) (tgt := 35) dX10_look_58 rfl ?_
      exact Ev.weak2 (ih _ _ _ _ h) (lsubS (lsubS lsubE))
theorem e_X10_look (N : Nat)  (σ : St) (v : Unit) (w : St) (h : o_X10_look N  σ = some (v, w)) : Ev md_X10_look 0 0 (lvE [vR 79] 2) [] SH σ (none, SH, w) := by
  show Ev md_X10_look 0 0 [some (vR 79), none] [] SH σ (none, SH, w)
  unfold o_X10_look at h
  refine Ev.aload_n (pc := 0) dX10_look_0 rfl rfl ?_
  refine Ev.getR (pc := 1) dX10_look_1 fl_X10_66 sh_79 rfl ?_
  refine Ev.aload_n (pc := 4) dX10_look_4 rfl rfl ?_
  refine Ev.getI (pc := 5) dX10_look_5 fl_X10_300 sh_79 rfl ?_
  refine Ev.iconst (pc := 8) (v := 1) dX10_look_8 ki_1 ?_
  refine Ev.isub (pc := 9) dX10_look_9 ?_
  obtain ⟨c1, h⟩ := ckA_elim h
  refine Ev.iald (pc := 10) dX10_look_10 sh_97 c1 ?_
  refine Ev.aload_n (pc := 11) dX10_look_11 rfl rfl ?_
  refine Ev.getI (pc := 12) dX10_look_12 fl_X10_297 sh_79 rfl ?_
  by_cases c2 : (σ 79 37) ≤ (σ 97 ((σ 79 38) - 1).toNatClampNeg)
  · replace h := (if_pos c2).symm.trans h
    refine Ev.icmp_ge_t (pc := 15) (tgt := 61) dX10_look_15 rfl c2 ?_
    obtain ⟨h1, h2⟩ := oeq h
    subst h1
    subst h2
    exact Ev.ret_v (pc := 61) dX10_look_61 rfl
  · replace h := (if_neg c2).symm.trans h
    refine Ev.icmp_ge_f (pc := 15) dX10_look_15 ⟨61, rfl⟩ c2 ?_
    refine Ev.aload_n (pc := 18) dX10_look_18 rfl rfl ?_
    refine Ev.aload_n (pc := 19) dX10_look_19 rfl rfl ?_
    refine Ev.getR (pc := 20) dX10_look_20 fl_X10_66 sh_79 rfl ?_
    refine Ev.aload_n (pc := 23) dX10_look_23 rfl rfl ?_
    refine Ev.getI (pc := 24) dX10_look_24 fl_X10_300 sh_79 rfl ?_
    refine Ev.iconst (pc := 27) (v := 1) dX10_look_27 ki_1 ?_
    refine Ev.isub (pc := 28) dX10_look_28 ?_
    obtain ⟨c3, h⟩ := ckA_elim h
    refine Ev.iald (pc := 29) dX10_look_29 sh_97 c3 ?_
    refine Ev.putI (pc := 30) dX10_look_30 pl_X10_297 sh_79 rfl rfl rfl ?_
    refine Ev.nmS (fun σ4 e9 => ?_)
    replace h := bt_app h σ4 e9
    refine Ev.iconst (pc := 33) (v := 0) dX10_look_33 ki_0 ?_
    refine Ev.istore_n (pc := 34) (lv' := [some (vR 79), some (vI 0)]) dX10_look_34 rfl (lt9 rfl) rfl rfl ?_
    exact Ev.weak2 (ll_X10_look_35 N N _ _ _ _ h) (lsubS (lsubS lsubE))
theorem r_X10_look {N : Nat}  {σ : St} {v : Unit} {w : St} (h : o_X10_look N  σ = some (v, w)) : Rn md_X10_look 0 [vR 79] SH σ (none, SH, w) := Rn.of ce_X10_look.1 (Nat.le_of_ble_eq_true rfl) (e_X10_look N  _ _ _ h)
def j_X10_findOrder_292 (N : Nat)  (σ : St) : Option (Int32 × St) := some ((σ 79 37), σ)
def j_X10_findOrder_182 (N : Nat) (K_63 : Int32 → Int32 → Int32 → Int32 → Int32 → St → Option (Int32 × St)) (K_150 : Int32 → Int32 → Int32 → Int32 → Int32 → Int32 → Int32 → Int32 → St → Option (Int32 × St)) (v1 : Int32) (v3 : Int32) (v4 : Int32) (v5 : Int32) (v6 : Int32) (v7 : Int32) (v8 : Int32) (v9 : Int32) (σ : St) : Option (Int32 × St) := bt (v9 + 1) fun x1 => K_150 v1 v3 v4 v5 v6 v7 v8 x1 σ
def j_X10_findOrder_289 (N : Nat) (K_63 : Int32 → Int32 → Int32 → Int32 → Int32 → St → Option (Int32 × St)) (v1 : Int32) (v3 : Int32) (v4 : Int32) (v5 : Int32) (v6 : Int32) (σ : St) : Option (Int32 × St) := K_63 v1 v3 v4 v5 v6 σ
def j_X10_findOrder_188 (N : Nat) (K_63 : Int32 → Int32 → Int32 → Int32 → Int32 → St → Option (Int32 × St)) (v1 : Int32) (v3 : Int32) (v4 : Int32) (v5 : Int32) (v6 : Int32) (v9 : Int32) (σ : St) : Option (Int32 × St) := if v9 ≤ 7 then (bt (v6 &&& ((1 <<< (v9 &&& 31)) ^^^ (-1))) fun x2 => bt (v4 + 1) fun x3 => if x3 = (σ 79 38) then (bd (o_X10_look N  σ) fun u5 σ6 => bt (x3 + (-1)) fun x8 => ckA x8 9 (bt ((σ6 95 x8.toNatClampNeg) + 1) fun x10 => ckA x8 9 (bt (x2 ||| (1 <<< ((σ6 95 x8.toNatClampNeg) &&& 31))) fun x12 => j_X10_findOrder_289 N K_63 v1 v3 x8 x10 x12 σ6))) else (j_X10_findOrder_289 N K_63 v1 v3 x3 0 x2 σ)) else (bt (v4 + (-1)) fun x13 => if x13 < 0 then (j_X10_findOrder_289 N K_63 v1 v3 x13 v5 v6 σ) else (ckA x13 9 (bt ((σ 95 x13.toNatClampNeg) + 1) fun x16 => ckA x13 9 (bt (v6 ||| (1 <<< ((σ 95 x13.toNatClampNeg) &&& 31))) fun x18 => j_X10_findOrder_289 N K_63 v1 v3 x13 x16 x18 σ))))
def l_X10_findOrder_150 (N : Nat) (K_63 : Int32 → Int32 → Int32 → Int32 → Int32 → St → Option (Int32 × St)) : Nat → Int32 → Int32 → Int32 → Int32 → Int32 → Int32 → Int32 → Int32 → St → Option (Int32 × St)
  | 0, _, _, _, _, _, _, _, _, _ => none
  | n + 1, v1, v3, v4, v5, v6, v7, v8, v9, σ => if (7 : Int32) < v9 then (j_X10_findOrder_188 N K_63 v1 v3 v4 v5 v6 v9 σ) else (if (p_X10_has v6 v9 σ) = 0 then (j_X10_findOrder_182 N K_63 (l_X10_findOrder_150 N K_63 n) v1 v3 v4 v5 v6 v7 v8 v9 σ) else (bd (o_X10_put N v9 v4 v7 v8 σ) fun x3 σ4 => if x3 = 0 then (j_X10_findOrder_182 N K_63 (l_X10_findOrder_150 N K_63 n) v1 v3 v4 v5 v6 v7 v8 v9 σ4) else (j_X10_findOrder_188 N K_63 v1 v3 v4 v5 v6 v9 σ4)))
def j_X10_findOrder_144 (N : Nat) (K_63 : Int32 → Int32 → Int32 → Int32 → Int32 → St → Option (Int32 × St)) (v1 : Int32) (v3 : Int32) (v4 : Int32) (v5 : Int32) (v6 : Int32) (v7 : Int32) (s0 : Int32) (σ : St) : Option (Int32 × St) := l_X10_findOrder_150 N K_63 N v1 v3 v4 v5 v6 v7 s0 v5 σ
def j_X10_findOrder_118 (N : Nat) (K_63 : Int32 → Int32 → Int32 → Int32 → Int32 → St → Option (Int32 × St)) (v1 : Int32) (v3 : Int32) (v4 : Int32) (v5 : Int32) (v6 : Int32) (s0 : Int32) (σ : St) : Option (Int32 × St) := if v4 = 0 then (j_X10_findOrder_144 N K_63 v1 v3 v4 v5 v6 s0 (σ 80 (37 : Int32).toNatClampNeg) σ) else (ckA (v4 - 1) 9 (j_X10_findOrder_144 N K_63 v1 v3 v4 v5 v6 s0 (σ 96 (v4 - 1).toNatClampNeg) σ))
def j_X10_findOrder_88 (N : Nat) (K_63 : Int32 → Int32 → Int32 → Int32 → Int32 → St → Option (Int32 × St)) (v1 : Int32) (v3 : Int32) (v4 : Int32) (v5 : Int32) (v6 : Int32) (σ : St) : Option (Int32 × St) := if v4 = 0 then (ckA (28 + v1) 1360 (j_X10_findOrder_118 N K_63 v1 v3 v4 v5 v6 (σ 80 (28 + v1).toNatClampNeg) σ)) else (ckA (v4 - 1) 9 (bd (o_X10_townBy N (σ 95 (v4 - 1).toNatClampNeg) σ) fun x3 σ4 => j_X10_findOrder_118 N K_63 v1 v3 v4 v5 v6 x3 σ4))
def l_X10_findOrder_63 (N : Nat) : Nat → Int32 → Int32 → Int32 → Int32 → Int32 → St → Option (Int32 × St)
  | 0, _, _, _, _, _, _ => none
  | n + 1, v1, v3, v4, v5, v6, σ => if v4 < 0 then (j_X10_findOrder_292 N σ) else (if (σ 79 38) ≤ 0 then (j_X10_findOrder_292 N σ) else (if v3 = 0 then (j_X10_findOrder_88 N (l_X10_findOrder_63 N n) v1 v3 v4 v5 v6 σ) else (if (σ 79 37) < 99999999 then (j_X10_findOrder_292 N σ) else (j_X10_findOrder_88 N (l_X10_findOrder_63 N n) v1 v3 v4 v5 v6 σ))))
def j_X10_findOrder_54 (N : Nat) (v1 : Int32) (v2 : Int32) (v3 : Int32) (σ : St) : Option (Int32 × St) := l_X10_findOrder_63 N N v1 v3 0 0 v2 σ
def l_X10_findOrder_14 (N : Nat) : Nat → Int32 → Int32 → Int32 → Int32 → St → Option (Int32 × St)
  | 0, _, _, _, _, _ => none
  | n + 1, v1, v2, v3, v4, σ => if (7 : Int32) < v4 then (if (σ 79 38) = 0 then (bt (st σ 79 37 0) fun σ3 => j_X10_findOrder_54 N v1 v2 v3 σ3) else (j_X10_findOrder_54 N v1 v2 v3 σ)) else (bt (st σ 79 38 ((σ 79 38) + ((v2 >>> (v4 &&& 31)) &&& 1))) fun σ4 => bt (v4 + 1) fun x5 => l_X10_findOrder_14 N n v1 v2 v3 x5 σ4)
def o_X10_findOrder (N : Nat) (a1 : Int32) (a2 : Int32) (a3 : Int32) (σ : St) : Option (Int32 × St) := bt (st σ 79 37 99999999) fun σ1 => bt (st σ1 79 38 0) fun σ2 => l_X10_findOrder_14 N N a1 a2 a3 0 σ2
theorem lj_X10_findOrder_292 (N : Nat)  (σ : St) (v : Int32) (w : St) (h : j_X10_findOrder_292 N  σ = some (v, w)) : Ev md_X10_findOrder 3 292 [some (vR 79), none, none, none, none, none, none, none, none, none] [] SH σ (some (vI v), SH, w) := by
  unfold j_X10_findOrder_292 at h
  refine Ev.aload_n (pc := 292) dX10_findOrder_292 rfl rfl ?_
  refine Ev.getI (pc := 293) dX10_findOrder_293 fl_X10_297 sh_79 rfl ?_
  obtain ⟨h1, h2⟩ := oeq h
  subst h1
  subst h2
  exact Ev.ret_i (pc := 296) dX10_findOrder_296 rfl rfl
theorem lj_X10_findOrder_182 (N : Nat) (K_63 : Int32 → Int32 → Int32 → Int32 → Int32 → St → Option (Int32 × St)) (K_150 : Int32 → Int32 → Int32 → Int32 → Int32 → Int32 → Int32 → Int32 → St → Option (Int32 × St)) (hK_63 : ∀ (v1 : Int32) (v3 : Int32) (v4 : Int32) (v5 : Int32) (v6 : Int32) (σ : St) (v : Int32) (w : St), K_63 v1 v3 v4 v5 v6 σ = some (v, w) → Ev md_X10_findOrder 3 63 [some (vR 79), some (vI v1), none, some (vI v3), some (vI v4), some (vI v5), some (vI v6), none, none, none] [] SH σ (some (vI v), SH, w)) (hK_150 : ∀ (v1 : Int32) (v3 : Int32) (v4 : Int32) (v5 : Int32) (v6 : Int32) (v7 : Int32) (v8 : Int32) (v9 : Int32) (σ : St) (v : Int32) (w : St), K_150 v1 v3 v4 v5 v6 v7 v8 v9 σ = some (v, w) → Ev md_X10_findOrder 3 150 [some (vR 79), some (vI v1), none, some (vI v3), some (vI v4), some (vI v5), some (vI v6), some (vI v7), some (vI v8), some (vI v9)] [] SH σ (some (vI v), SH, w)) (v1 : Int32) (v3 : Int32) (v4 : Int32) (v5 : Int32) (v6 : Int32) (v7 : Int32) (v8 : Int32) (v9 : Int32) (σ : St) (v : Int32) (w : St) (h : j_X10_findOrder_182 N K_63 K_150 v1 v3 v4 v5 v6 v7 v8 v9 σ = some (v, w)) : Ev md_X10_findOrder 3 182 [some (vR 79), some (vI v1), none, some (vI v3), some (vI v4), some (vI v5), some (vI v6), some (vI v7), some (vI v8), some (vI v9)] [] SH σ (some (vI v), SH, w) := by
  unfold j_X10_findOrder_182 at h
  obtain ⟨x1, e_x1, h⟩ := bt_elim h
  refine Ev.iinc (pc := 182) (v := x1) (lv' := [some (vR 79), some (vI v1), none, some (vI v3), some (vI v4), some (vI v5), some (vI v6), some (vI v7), some (vI v8), some (vI x1)]) dX10_findOrder_182 rfl (by rw [ki_1, e_x1]) (lt9 rfl) rfl rfl ?_
  refine Ev.goto (pc := 185) (tgt := 150) dX10_findOrder_185 rfl ?_
  exact Ev.weak2 (hK_150 _ _ _ _ _ _ _ _ _ _ _ h) (lsubS (lsubS (lsubN (lsubS (lsubS (lsubS (lsubS (lsubS (lsubS (lsubS lsubE))))))))))
theorem lj_X10_findOrder_289 (N : Nat) (K_63 : Int32 → Int32 → Int32 → Int32 → Int32 → St → Option (Int32 × St)) (hK_63 : ∀ (v1 : Int32) (v3 : Int32) (v4 : Int32) (v5 : Int32) (v6 : Int32) (σ : St) (v : Int32) (w : St), K_63 v1 v3 v4 v5 v6 σ = some (v, w) → Ev md_X10_findOrder 3 63 [some (vR 79), some (vI v1), none, some (vI v3), some (vI v4), some (vI v5), some (vI v6), none, none, none] [] SH σ (some (vI v), SH, w)) (v1 : Int32) (v3 : Int32) (v4 : Int32) (v5 : Int32) (v6 : Int32) (σ : St) (v : Int32) (w : St) (h : j_X10_findOrder_289 N K_63 v1 v3 v4 v5 v6 σ = some (v, w)) : Ev md_X10_findOrder 3 289 [some (vR 79), some (vI v1), none, some (vI v3), some (vI v4), some (vI v5), some (vI v6), none, none, none] [] SH σ (some (vI v), SH, w) := by
  unfold j_X10_findOrder_289 at h
  refine Ev.goto (pc := 289) (tgt := 63) dX10_findOrder_289 rfl ?_
  exact Ev.weak2 (hK_63 _ _ _ _ _ _ _ _ h) (lsubS (lsubS (lsubN (lsubS (lsubS (lsubS (lsubS (lsubN (lsubN (lsubN lsubE))))))))))
theorem lj_X10_findOrder_188 (N : Nat) (K_63 : Int32 → Int32 → Int32 → Int32 → Int32 → St → Option (Int32 × St)) (hK_63 : ∀ (v1 : Int32) (v3 : Int32) (v4 : Int32) (v5 : Int32) (v6 : Int32) (σ : St) (v : Int32) (w : St), K_63 v1 v3 v4 v5 v6 σ = some (v, w) → Ev md_X10_findOrder 3 63 [some (vR 79), some (vI v1), none, some (vI v3), some (vI v4), some (vI v5), some (vI v6), none, none, none] [] SH σ (some (vI v), SH, w)) (v1 : Int32) (v3 : Int32) (v4 : Int32) (v5 : Int32) (v6 : Int32) (v9 : Int32) (σ : St) (v : Int32) (w : St) (h : j_X10_findOrder_188 N K_63 v1 v3 v4 v5 v6 v9 σ = some (v, w)) : Ev md_X10_findOrder 3 188 [some (vR 79), some (vI v1), none, some (vI v3), some (vI v4), some (vI v5), some (vI v6), none, none, some (vI v9)] [] SH σ (some (vI v), SH, w) := by
  unfold j_X10_findOrder_188 at h
  refine Ev.iload (pc := 188) dX10_findOrder_188 rfl ?_
  refine Ev.bipush (pc := 190) (v := 7) dX10_findOrder_190 kb_7 ?_
  by_cases c1 : v9 ≤ 7
  · replace h := (if_pos c1).symm.trans h
    refine Ev.icmp_le_t (pc := 192) (tgt := 231) dX10_findOrder_192 rfl c1 ?_
    refine Ev.iload (pc := 231) dX10_findOrder_231 rfl ?_
    refine Ev.iconst (pc := 233) (v := 1) dX10_findOrder_233 ki_1 ?_
    refine Ev.iload (pc := 234) dX10_findOrder_234 rfl ?_
    refine Ev.ishl (pc := 236) dX10_findOrder_236 ?_
    refine Ev.iconst (pc := 237) (v := (-1)) dX10_findOrder_237 ki_m1 ?_
    refine Ev.ixor (pc := 238) dX10_findOrder_238 ?_
    refine Ev.iand (pc := 239) dX10_findOrder_239 ?_
    refine Ev.nmI (fun x2 e9 => ?_)
    replace h := bt_app h x2 e9
    refine Ev.istore (pc := 240) (lv' := [some (vR 79), some (vI v1), none, some (vI v3), some (vI v4), some (vI v5), some (vI x2), none, none, some (vI v9)]) dX10_findOrder_240 (lt9 rfl) rfl rfl ?_
    obtain ⟨x3, e_x3, h⟩ := bt_elim h
    refine Ev.iinc (pc := 242) (v := x3) (lv' := [some (vR 79), some (vI v1), none, some (vI v3), some (vI x3), some (vI v5), some (vI x2), none, none, some (vI v9)]) dX10_findOrder_242 rfl (by rw [ki_1, e_x3]) (lt9 rfl) rfl rfl ?_
    refine Ev.iconst (pc := 245) (v := 0) dX10_findOrder_245 ki_0 ?_
    refine Ev.istore (pc := 246) (lv' := [some (vR 79), some (vI v1), none, some (vI v3), some (vI x3), some (vI 0), some (vI x2), none, none, some (vI v9)]) dX10_findOrder_246 (lt9 rfl) rfl rfl ?_
    refine Ev.iload (pc := 248) dX10_findOrder_248 rfl ?_
    refine Ev.aload_n (pc := 250) dX10_findOrder_250 rfl rfl ?_
    refine Ev.getI (pc := 251) dX10_findOrder_251 fl_X10_300 sh_79 rfl ?_
    by_cases c4 : x3 = (σ 79 38)
    · replace h := (if_pos c4).symm.trans h
      refine Ev.icmp_ne_f (pc := 254) dX10_findOrder_254 ⟨289, rfl⟩ c4 ?_
      refine Ev.aload_n (pc := 257) dX10_findOrder_257 rfl rfl ?_
      obtain ⟨u5, σ6, g7, h⟩ := bd_elim h
      refine Ev.cVv (pc := 258) (k := 79) (av := []) (rest := []) dX10_findOrder_258 ce_X10_look ml_X10_307 rfl sh_79 cl_X10 sh_sc (Nat.le_of_ble_eq_true rfl) (Nat.le_of_ble_eq_true rfl) (r_X10_look g7) ?_
      obtain ⟨x8, e_x8, h⟩ := bt_elim h
      refine Ev.iinc (pc := 261) (v := x8) (lv' := [some (vR 79), some (vI v1), none, some (vI v3), some (vI x8), some (vI 0), some (vI x2), none, none, some (vI v9)]) dX10_findOrder_261 rfl (by rw [ki_m1, e_x8]) (lt9 rfl) rfl rfl ?_
      refine Ev.aload_n (pc := 264) dX10_findOrder_264 rfl rfl ?_
      refine Ev.getR (pc := 265) dX10_findOrder_265 fl_X10_60 sh_79 rfl ?_
      refine Ev.iload (pc := 268) dX10_findOrder_268 rfl ?_
      obtain ⟨c9, h⟩ := ckA_elim h
      refine Ev.iald (pc := 270) dX10_findOrder_270 sh_95 c9 ?_
      refine Ev.iconst (pc := 271) (v := 1) dX10_findOrder_271 ki_1 ?_
      refine Ev.iadd (pc := 272) dX10_findOrder_272 ?_
      refine Ev.nmI (fun x10 e9 => ?_)
      replace h := bt_app h x10 e9
      refine Ev.istore (pc := 273) (lv' := [some (vR 79), some (vI v1), none, some (vI v3), some (vI x8), some (vI x10), some (vI x2), none, none, some (vI v9)]) dX10_findOrder_273 (lt9 rfl) rfl rfl ?_
      refine Ev.iload (pc := 275) dX10_findOrder_275 rfl ?_
      refine Ev.iconst (pc := 277) (v := 1) dX10_findOrder_277 ki_1 ?_
      refine Ev.aload_n (pc := 278) dX10_findOrder_278 rfl rfl ?_
      refine Ev.getR (pc := 279) dX10_findOrder_279 fl_X10_60 sh_79 rfl ?_
      refine Ev.iload (pc := 282) dX10_findOrder_282 rfl ?_
      obtain ⟨c11, h⟩ := ckA_elim h
      refine Ev.iald (pc := 284) dX10_findOrder_284 sh_95 c11 ?_
      refine Ev.ishl (pc := 285) dX10_findOrder_285 ?_
      refine Ev.ior (pc := 286) dX10_findOrder_286 ?_
      refine Ev.nmI (fun x12 e9 => ?_)
      replace h := bt_app h x12 e9
      refine Ev.istore (pc := 287) (lv' := [some (vR 79), some (vI v1), none, some (vI v3), some (vI x8), some (vI x10), some (vI x12), none, none, some (vI v9)]) dX10_findOrder_287 (lt9 rfl) rfl rfl ?_
      exact Ev.weak2 (lj_X10_findOrder_289 N K_63 hK_63 _ _ _ _ _ _ _ _ h) (lsubS (lsubS (lsubN (lsubS (lsubS (lsubS (lsubS (lsubN (lsubN (lsubN lsubE))))))))))
    · replace h := (if_neg c4).symm.trans h
      refine Ev.icmp_ne_t (pc := 254) (tgt := 289) dX10_findOrder_254 rfl c4 ?_
      exact Ev.weak2 (lj_X10_findOrder_289 N K_63 hK_63 _ _ _ _ _ _ _ _ h) (lsubS (lsubS (lsubN (lsubS (lsubS (lsubS (lsubS (lsubN (lsubN (lsubN lsubE))))))))))
  · replace h := (if_neg c1).symm.trans h
    refine Ev.icmp_le_f (pc := 192) dX10_findOrder_192 ⟨231, rfl⟩ c1 ?_
    obtain ⟨x13, e_x13, h⟩ := bt_elim h
    refine Ev.iinc (pc := 195) (v := x13) (lv' := [some (vR 79), some (vI v1), none, some (vI v3), some (vI x13), some (vI v5), some (vI v6), none, none, some (vI v9)]) dX10_findOrder_195 rfl (by rw [ki_m1, e_x13]) (lt9 rfl) rfl rfl ?_
    refine Ev.iload (pc := 198) dX10_findOrder_198 rfl ?_
    by_cases c14 : x13 < 0
    · replace h := (if_pos c14).symm.trans h
      refine Ev.if_lt_t (pc := 200) (tgt := 289) dX10_findOrder_200 rfl c14 ?_
      exact Ev.weak2 (lj_X10_findOrder_289 N K_63 hK_63 _ _ _ _ _ _ _ _ h) (lsubS (lsubS (lsubN (lsubS (lsubS (lsubS (lsubS (lsubN (lsubN (lsubN lsubE))))))))))
    · replace h := (if_neg c14).symm.trans h
      refine Ev.if_lt_f (pc := 200) dX10_findOrder_200 ⟨289, rfl⟩ c14 ?_
      refine Ev.aload_n (pc := 203) dX10_findOrder_203 rfl rfl ?_
      refine Ev.getR (pc := 204) dX10_findOrder_204 fl_X10_60 sh_79 rfl ?_
      refine Ev.iload (pc := 207) dX10_findOrder_207 rfl ?_
      obtain ⟨c15, h⟩ := ckA_elim h
      refine Ev.iald (pc := 209) dX10_findOrder_209 sh_95 c15 ?_
      refine Ev.iconst (pc := 210) (v := 1) dX10_findOrder_210 ki_1 ?_
      refine Ev.iadd (pc := 211) dX10_findOrder_211 ?_
      refine Ev.nmI (fun x16 e9 => ?_)
      replace h := bt_app h x16 e9
      refine Ev.istore (pc := 212) (lv' := [some (vR 79), some (vI v1), none, some (vI v3), some (vI x13), some (vI x16), some (vI v6), none, none, some (vI v9)]) dX10_findOrder_212 (lt9 rfl) rfl rfl ?_
      refine Ev.iload (pc := 214) dX10_findOrder_214 rfl ?_
      refine Ev.iconst (pc := 216) (v := 1) dX10_findOrder_216 ki_1 ?_
      refine Ev.aload_n (pc := 217) dX10_findOrder_217 rfl rfl ?_
      refine Ev.getR (pc := 218) dX10_findOrder_218 fl_X10_60 sh_79 rfl ?_
      refine Ev.iload (pc := 221) dX10_findOrder_221 rfl ?_
      obtain ⟨c17, h⟩ := ckA_elim h
      refine Ev.iald (pc := 223) dX10_findOrder_223 sh_95 c17 ?_
      refine Ev.ishl (pc := 224) dX10_findOrder_224 ?_
      refine Ev.ior (pc := 225) dX10_findOrder_225 ?_
      refine Ev.nmI (fun x18 e9 => ?_)
      replace h := bt_app h x18 e9
      refine Ev.istore (pc := 226) (lv' := [some (vR 79), some (vI v1), none, some (vI v3), some (vI x13), some (vI x16), some (vI x18), none, none, some (vI v9)]) dX10_findOrder_226 (lt9 rfl) rfl rfl ?_
      refine Ev.goto (pc := 228) (tgt := 289) dX10_findOrder_228 rfl ?_
      exact Ev.weak2 (lj_X10_findOrder_289 N K_63 hK_63 _ _ _ _ _ _ _ _ h) (lsubS (lsubS (lsubN (lsubS (lsubS (lsubS (lsubS (lsubN (lsubN (lsubN lsubE))))))))))
theorem ll_X10_findOrder_150 (N : Nat) (K_63 : Int32 → Int32 → Int32 → Int32 → Int32 → St → Option (Int32 × St)) (hK_63 : ∀ (v1 : Int32) (v3 : Int32) (v4 : Int32) (v5 : Int32) (v6 : Int32) (σ : St) (v : Int32) (w : St), K_63 v1 v3 v4 v5 v6 σ = some (v, w) → Ev md_X10_findOrder 3 63 [some (vR 79), some (vI v1), none, some (vI v3), some (vI v4), some (vI v5), some (vI v6), none, none, none] [] SH σ (some (vI v), SH, w)) : ∀ (n : Nat) (v1 : Int32) (v3 : Int32) (v4 : Int32) (v5 : Int32) (v6 : Int32) (v7 : Int32) (v8 : Int32) (v9 : Int32) (σ : St) (v : Int32) (w : St), l_X10_findOrder_150 N K_63 n v1 v3 v4 v5 v6 v7 v8 v9 σ = some (v, w) → Ev md_X10_findOrder 3 150 [some (vR 79), some (vI v1), none, some (vI v3), some (vI v4), some (vI v5), some (vI v6), some (vI v7), some (vI v8), some (vI v9)] [] SH σ (some (vI v), SH, w) := by
  intro n
  induction n with
  | zero =>
    intro v1 v3 v4 v5 v6 v7 v8 v9 σ v w h
    rw [l_X10_findOrder_150] at h
    cases h
  | succ n ih =>
    intro v1 v3 v4 v5 v6 v7 v8 v9 σ v w h
    rw [l_X10_findOrder_150] at h
    refine Ev.iload (pc := 150) dX10_findOrder_150 rfl ?_
    refine Ev.bipush (pc := 152) (v := 7) dX10_findOrder_152 kb_7 ?_
    by_cases c1 : (7 : Int32) < v9
    · replace h := (if_pos c1).symm.trans h
      refine Ev.icmp_gt_t (pc := 154) (tgt := 188) dX10_findOrder_154 rfl c1 ?_
      exact Ev.weak2 (lj_X10_findOrder_188 N K_63 hK_63 _ _ _ _ _ _ _ _ _ h) (lsubS (lsubS (lsubN (lsubS (lsubS (lsubS (lsubS (lsubN (lsubN (lsubS lsubE))))))))))
    · replace h := (if_neg c1).symm.trans h
      refine Ev.icmp_gt_f (pc := 154) dX10_findOrder_154 ⟨188, rfl⟩ c1 ?_
      refine Ev.iload (pc := 157) dX10_findOrder_157 rfl ?_
      refine Ev.iload (pc := 159) dX10_findOrder_159 rfl ?_
      refine Ev.cTi (pc := 161) (av := [vI v6, vI v9]) (rest := []) dX10_findOrder_161 ce_X10_has ml_X10_232 rfl sh_sc (Nat.le_of_ble_eq_true rfl) (Nat.le_of_ble_eq_true rfl) (r_X10_has _ _ _) ?_
      by_cases c2 : (p_X10_has v6 v9 σ) = 0
      · replace h := (if_pos c2).symm.trans h
        refine Ev.if_eq_t (pc := 164) (tgt := 182) dX10_findOrder_164 rfl c2 ?_
        exact Ev.weak2 (lj_X10_findOrder_182 N K_63 (l_X10_findOrder_150 N K_63 n) hK_63 ih _ _ _ _ _ _ _ _ _ _ _ h) (lsubS (lsubS (lsubN (lsubS (lsubS (lsubS (lsubS (lsubS (lsubS (lsubS lsubE))))))))))
      · replace h := (if_neg c2).symm.trans h
        refine Ev.if_eq_f (pc := 164) dX10_findOrder_164 ⟨182, rfl⟩ c2 ?_
        refine Ev.aload_n (pc := 167) dX10_findOrder_167 rfl rfl ?_
        refine Ev.iload (pc := 168) dX10_findOrder_168 rfl ?_
        refine Ev.iload (pc := 170) dX10_findOrder_170 rfl ?_
        refine Ev.iload (pc := 172) dX10_findOrder_172 rfl ?_
        refine Ev.iload (pc := 174) dX10_findOrder_174 rfl ?_
        obtain ⟨x3, σ4, g5, h⟩ := bd_elim h
        refine Ev.cVi (pc := 176) (k := 79) (av := [vI v9, vI v4, vI v7, vI v8]) (rest := []) dX10_findOrder_176 ce_X10_put ml_X10_303 rfl sh_79 cl_X10 sh_sc (Nat.le_of_ble_eq_true rfl) (Nat.le_of_ble_eq_true rfl) (r_X10_put g5) ?_
        by_cases c6 : x3 = 0
        · replace h := (if_pos c6).symm.trans h
          refine Ev.if_ne_f (pc := 179) dX10_findOrder_179 ⟨188, rfl⟩ c6 ?_
          exact Ev.weak2 (lj_X10_findOrder_182 N K_63 (l_X10_findOrder_150 N K_63 n) hK_63 ih _ _ _ _ _ _ _ _ _ _ _ h) (lsubS (lsubS (lsubN (lsubS (lsubS (lsubS (lsubS (lsubS (lsubS (lsubS lsubE))))))))))
        · replace h := (if_neg c6).symm.trans h
          refine Ev.if_ne_t (pc := 179) (tgt := 188) dX10_findOrder_179 rfl c6 ?_
          exact Ev.weak2 (lj_X10_findOrder_188 N K_63 hK_63 _ _ _ _ _ _ _ _ _ h) (lsubS (lsubS (lsubN (lsubS (lsubS (lsubS (lsubS (lsubN (lsubN (lsubS lsubE))))))))))
theorem lj_X10_findOrder_144 (N : Nat) (K_63 : Int32 → Int32 → Int32 → Int32 → Int32 → St → Option (Int32 × St)) (hK_63 : ∀ (v1 : Int32) (v3 : Int32) (v4 : Int32) (v5 : Int32) (v6 : Int32) (σ : St) (v : Int32) (w : St), K_63 v1 v3 v4 v5 v6 σ = some (v, w) → Ev md_X10_findOrder 3 63 [some (vR 79), some (vI v1), none, some (vI v3), some (vI v4), some (vI v5), some (vI v6), none, none, none] [] SH σ (some (vI v), SH, w)) (v1 : Int32) (v3 : Int32) (v4 : Int32) (v5 : Int32) (v6 : Int32) (v7 : Int32) (s0 : Int32) (σ : St) (v : Int32) (w : St) (h : j_X10_findOrder_144 N K_63 v1 v3 v4 v5 v6 v7 s0 σ = some (v, w)) : Ev md_X10_findOrder 3 144 [some (vR 79), some (vI v1), none, some (vI v3), some (vI v4), some (vI v5), some (vI v6), some (vI v7), none, none] [vI s0] SH σ (some (vI v), SH, w) := by
  unfold j_X10_findOrder_144 at h
  refine Ev.istore (pc := 144) (lv' := [some (vR 79), some (vI v1), none, some (vI v3), some (vI v4), some (vI v5), some (vI v6), some (vI v7), some (vI s0), none]) dX10_findOrder_144 (lt9 rfl) rfl rfl ?_
  refine Ev.iload (pc := 146) dX10_findOrder_146 rfl ?_
  refine Ev.istore (pc := 148) (lv' := [some (vR 79), some (vI v1), none, some (vI v3), some (vI v4), some (vI v5), some (vI v6), some (vI v7), some (vI s0), some (vI v5)]) dX10_findOrder_148 (lt9 rfl) rfl rfl ?_
  exact Ev.weak2 (ll_X10_findOrder_150 N K_63 hK_63 N _ _ _ _ _ _ _ _ _ _ _ h) (lsubS (lsubS (lsubN (lsubS (lsubS (lsubS (lsubS (lsubS (lsubS (lsubS lsubE))))))))))
theorem lj_X10_findOrder_118 (N : Nat) (K_63 : Int32 → Int32 → Int32 → Int32 → Int32 → St → Option (Int32 × St)) (hK_63 : ∀ (v1 : Int32) (v3 : Int32) (v4 : Int32) (v5 : Int32) (v6 : Int32) (σ : St) (v : Int32) (w : St), K_63 v1 v3 v4 v5 v6 σ = some (v, w) → Ev md_X10_findOrder 3 63 [some (vR 79), some (vI v1), none, some (vI v3), some (vI v4), some (vI v5), some (vI v6), none, none, none] [] SH σ (some (vI v), SH, w)) (v1 : Int32) (v3 : Int32) (v4 : Int32) (v5 : Int32) (v6 : Int32) (s0 : Int32) (σ : St) (v : Int32) (w : St) (h : j_X10_findOrder_118 N K_63 v1 v3 v4 v5 v6 s0 σ = some (v, w)) : Ev md_X10_findOrder 3 118 [some (vR 79), some (vI v1), none, some (vI v3), some (vI v4), some (vI v5), some (vI v6), none, none, none] [vI s0] SH σ (some (vI v), SH, w) := by
  unfold j_X10_findOrder_118 at h
  refine Ev.istore (pc := 118) (lv' := [some (vR 79), some (vI v1), none, some (vI v3), some (vI v4), some (vI v5), some (vI v6), some (vI s0), none, none]) dX10_findOrder_118 (lt9 rfl) rfl rfl ?_
  refine Ev.iload (pc := 120) dX10_findOrder_120 rfl ?_
  by_cases c1 : v4 = 0
  · replace h := (if_pos c1).symm.trans h
    refine Ev.if_ne_f (pc := 122) dX10_findOrder_122 ⟨135, rfl⟩ c1 ?_
    refine Ev.aload_n (pc := 125) dX10_findOrder_125 rfl rfl ?_
    refine Ev.getR (pc := 126) dX10_findOrder_126 fl_X10_7 sh_79 rfl ?_
    refine Ev.bipush (pc := 129) (v := 37) dX10_findOrder_129 kb_37 ?_
    refine Ev.iald (pc := 131) dX10_findOrder_131 sh_80 in_37_1360 ?_
    refine Ev.goto (pc := 132) (tgt := 144) dX10_findOrder_132 rfl ?_
    exact Ev.weak2 (lj_X10_findOrder_144 N K_63 hK_63 _ _ _ _ _ _ _ _ _ _ h) (lsubS (lsubS (lsubN (lsubS (lsubS (lsubS (lsubS (lsubS (lsubN (lsubN lsubE))))))))))
  · replace h := (if_neg c1).symm.trans h
    refine Ev.if_ne_t (pc := 122) (tgt := 135) dX10_findOrder_122 rfl c1 ?_
    refine Ev.aload_n (pc := 135) dX10_findOrder_135 rfl rfl ?_
    refine Ev.getR (pc := 136) dX10_findOrder_136 fl_X10_63 sh_79 rfl ?_
    refine Ev.iload (pc := 139) dX10_findOrder_139 rfl ?_
    refine Ev.iconst (pc := 141) (v := 1) dX10_findOrder_141 ki_1 ?_
    refine Ev.isub (pc := 142) dX10_findOrder_142 ?_
    obtain ⟨c2, h⟩ := ckA_elim h
    refine Ev.iald (pc := 143) dX10_findOrder_143 sh_96 c2 ?_
    exact Ev.weak2 (lj_X10_findOrder_144 N K_63 hK_63 _ _ _ _ _ _ _ _ _ _ h) (lsubS (lsubS (lsubN (lsubS (lsubS (lsubS (lsubS (lsubS (lsubN (lsubN lsubE))))))))))
theorem lj_X10_findOrder_88 (N : Nat) (K_63 : Int32 → Int32 → Int32 → Int32 → Int32 → St → Option (Int32 × St)) (hK_63 : ∀ (v1 : Int32) (v3 : Int32) (v4 : Int32) (v5 : Int32) (v6 : Int32) (σ : St) (v : Int32) (w : St), K_63 v1 v3 v4 v5 v6 σ = some (v, w) → Ev md_X10_findOrder 3 63 [some (vR 79), some (vI v1), none, some (vI v3), some (vI v4), some (vI v5), some (vI v6), none, none, none] [] SH σ (some (vI v), SH, w)) (v1 : Int32) (v3 : Int32) (v4 : Int32) (v5 : Int32) (v6 : Int32) (σ : St) (v : Int32) (w : St) (h : j_X10_findOrder_88 N K_63 v1 v3 v4 v5 v6 σ = some (v, w)) : Ev md_X10_findOrder 3 88 [some (vR 79), some (vI v1), none, some (vI v3), some (vI v4), some (vI v5), some (vI v6), none, none, none] [] SH σ (some (vI v), SH, w) := by
  unfold j_X10_findOrder_88 at h
  refine Ev.iload (pc := 88) dX10_findOrder_88 rfl ?_
  by_cases c1 : v4 = 0
  · replace h := (if_pos c1).symm.trans h
    refine Ev.if_ne_f (pc := 90) dX10_findOrder_90 ⟨105, rfl⟩ c1 ?_
    refine Ev.aload_n (pc := 93) dX10_findOrder_93 rfl rfl ?_
    refine Ev.getR (pc := 94) dX10_findOrder_94 fl_X10_7 sh_79 rfl ?_
    refine Ev.bipush (pc := 97) (v := 28) dX10_findOrder_97 kb_28 ?_
    refine Ev.iload_n (pc := 99) dX10_findOrder_99 rfl rfl ?_
    refine Ev.iadd (pc := 100) dX10_findOrder_100 ?_
    obtain ⟨c6, h⟩ := ckA_elim h
    refine Ev.iald (pc := 101) dX10_findOrder_101 sh_80 c6 ?_
    refine Ev.goto (pc := 102) (tgt := 118) dX10_findOrder_102 rfl ?_
    exact Ev.weak2 (lj_X10_findOrder_118 N K_63 hK_63 _ _ _ _ _ _ _ _ _ h) (lsubS (lsubS (lsubN (lsubS (lsubS (lsubS (lsubS (lsubN (lsubN (lsubN lsubE))))))))))
  · replace h := (if_neg c1).symm.trans h
    refine Ev.if_ne_t (pc := 90) (tgt := 105) dX10_findOrder_90 rfl c1 ?_
    refine Ev.aload_n (pc := 105) dX10_findOrder_105 rfl rfl ?_
    refine Ev.aload_n (pc := 106) dX10_findOrder_106 rfl rfl ?_
    refine Ev.getR (pc := 107) dX10_findOrder_107 fl_X10_60 sh_79 rfl ?_
    refine Ev.iload (pc := 110) dX10_findOrder_110 rfl ?_
    refine Ev.iconst (pc := 112) (v := 1) dX10_findOrder_112 ki_1 ?_
    refine Ev.isub (pc := 113) dX10_findOrder_113 ?_
    obtain ⟨c2, h⟩ := ckA_elim h
    refine Ev.iald (pc := 114) dX10_findOrder_114 sh_95 c2 ?_
    obtain ⟨x3, σ4, g5, h⟩ := bd_elim h
    refine Ev.cVi (pc := 115) (k := 79) (av := [vI (σ 95 (v4 - 1).toNatClampNeg)]) (rest := []) dX10_findOrder_115 ce_X10_townBy ml_X10_288 rfl sh_79 cl_X10 sh_sc (Nat.le_of_ble_eq_true rfl) (Nat.le_of_ble_eq_true rfl) (r_X10_townBy g5) ?_
    exact Ev.weak2 (lj_X10_findOrder_118 N K_63 hK_63 _ _ _ _ _ _ _ _ _ h) (lsubS (lsubS (lsubN (lsubS (lsubS (lsubS (lsubS (lsubN (lsubN (lsubN lsubE))))))))))
theorem ll_X10_findOrder_63 (N : Nat) : ∀ (n : Nat) (v1 : Int32) (v3 : Int32) (v4 : Int32) (v5 : Int32) (v6 : Int32) (σ : St) (v : Int32) (w : St), l_X10_findOrder_63 N n v1 v3 v4 v5 v6 σ = some (v, w) → Ev md_X10_findOrder 3 63 [some (vR 79), some (vI v1), none, some (vI v3), some (vI v4), some (vI v5), some (vI v6), none, none, none] [] SH σ (some (vI v), SH, w) := by
  intro n
  induction n with
  | zero =>
    intro v1 v3 v4 v5 v6 σ v w h
    rw [l_X10_findOrder_63] at h
    cases h
  | succ n ih =>
    intro v1 v3 v4 v5 v6 σ v w h
    rw [l_X10_findOrder_63] at h
    refine Ev.iload (pc := 63) dX10_findOrder_63 rfl ?_
    by_cases c1 : v4 < 0
    · replace h := (if_pos c1).symm.trans h
      refine Ev.if_lt_t (pc := 65) (tgt := 292) dX10_findOrder_65 rfl c1 ?_
      exact Ev.weak2 (lj_X10_findOrder_292 N _ _ _ h) (lsubS (lsubN (lsubN (lsubN (lsubN (lsubN (lsubN (lsubN (lsubN (lsubN lsubE))))))))))
    · replace h := (if_neg c1).symm.trans h
      refine Ev.if_lt_f (pc := 65) dX10_findOrder_65 ⟨292, rfl⟩ c1 ?_
      refine Ev.aload_n (pc := 68) dX10_findOrder_68 rfl rfl ?_
      refine Ev.getI (pc := 69) dX10_findOrder_69 fl_X10_300 sh_79 rfl ?_
      by_cases c2 : (σ 79 38) ≤ 0
      · replace h := (if_pos c2).symm.trans h
        refine Ev.if_le_t (pc := 72) (tgt := 292) dX10_findOrder_72 rfl c2 ?_
        exact Ev.weak2 (lj_X10_findOrder_292 N _ _ _ h) (lsubS (lsubN (lsubN (lsubN (lsubN (lsubN (lsubN (lsubN (lsubN (lsubN lsubE))))))))))
      · replace h := (if_neg c2).symm.trans h
        refine Ev.if_le_f (pc := 72) dX10_findOrder_72 ⟨292, rfl⟩ c2 ?_
        refine Ev.iload_n (pc := 75) dX10_findOrder_75 rfl rfl ?_
        by_cases c3 : v3 = 0
        · replace h := (if_pos c3).symm.trans h
          refine Ev.if_eq_t (pc := 76) (tgt := 88) dX10_findOrder_76 rfl c3 ?_
          exact Ev.weak2 (lj_X10_findOrder_88 N (l_X10_findOrder_63 N n) ih _ _ _ _ _ _ _ _ h) (lsubS (lsubS (lsubN (lsubS (lsubS (lsubS (lsubS (lsubN (lsubN (lsubN lsubE))))))))))
        · replace h := (if_neg c3).symm.trans h
          refine Ev.if_eq_f (pc := 76) dX10_findOrder_76 ⟨88, rfl⟩ c3 ?_
          refine Ev.aload_n (pc := 79) dX10_findOrder_79 rfl rfl ?_
          refine Ev.getI (pc := 80) dX10_findOrder_80 fl_X10_297 sh_79 rfl ?_
          refine Ev.ldc (pc := 83) dX10_findOrder_83 kc_X10_156 ?_
          by_cases c4 : (σ 79 37) < 99999999
          · replace h := (if_pos c4).symm.trans h
            refine Ev.icmp_lt_t (pc := 85) (tgt := 292) dX10_findOrder_85 rfl c4 ?_
            exact Ev.weak2 (lj_X10_findOrder_292 N _ _ _ h) (lsubS (lsubN (lsubN (lsubN (lsubN (lsubN (lsubN (lsubN (lsubN (lsubN lsubE))))))))))
          · replace h := (if_neg c4).symm.trans h
            refine Ev.icmp_lt_f (pc := 85) dX10_findOrder_85 ⟨292, rfl⟩ c4 ?_
            exact Ev.weak2 (lj_X10_findOrder_88 N (l_X10_findOrder_63 N n) ih _ _ _ _ _ _ _ _ h) (lsubS (lsubS (lsubN (lsubS (lsubS (lsubS (lsubS (lsubN (lsubN (lsubN lsubE))))))))))
theorem lj_X10_findOrder_54 (N : Nat) (v1 : Int32) (v2 : Int32) (v3 : Int32) (σ : St) (v : Int32) (w : St) (h : j_X10_findOrder_54 N v1 v2 v3 σ = some (v, w)) : Ev md_X10_findOrder 3 54 [some (vR 79), some (vI v1), some (vI v2), some (vI v3), none, none, none, none, none, none] [] SH σ (some (vI v), SH, w) := by
  unfold j_X10_findOrder_54 at h
  refine Ev.iconst (pc := 54) (v := 0) dX10_findOrder_54 ki_0 ?_
  refine Ev.istore (pc := 55) (lv' := [some (vR 79), some (vI v1), some (vI v2), some (vI v3), some (vI 0), none, none, none, none, none]) dX10_findOrder_55 (lt9 rfl) rfl rfl ?_
  refine Ev.iconst (pc := 57) (v := 0) dX10_findOrder_57 ki_0 ?_
  refine Ev.istore (pc := 58) (lv' := [some (vR 79), some (vI v1), some (vI v2), some (vI v3), some (vI 0), some (vI 0), none, none, none, none]) dX10_findOrder_58 (lt9 rfl) rfl rfl ?_
  refine Ev.iload_n (pc := 60) dX10_findOrder_60 rfl rfl ?_
  refine Ev.istore (pc := 61) (lv' := [some (vR 79), some (vI v1), some (vI v2), some (vI v3), some (vI 0), some (vI 0), some (vI v2), none, none, none]) dX10_findOrder_61 (lt9 rfl) rfl rfl ?_
  exact Ev.weak2 (ll_X10_findOrder_63 N N _ _ _ _ _ _ _ _ h) (lsubS (lsubS (lsubN (lsubS (lsubS (lsubS (lsubS (lsubN (lsubN (lsubN lsubE))))))))))
theorem ll_X10_findOrder_14 (N : Nat) : ∀ (n : Nat) (v1 : Int32) (v2 : Int32) (v3 : Int32) (v4 : Int32) (σ : St) (v : Int32) (w : St), l_X10_findOrder_14 N n v1 v2 v3 v4 σ = some (v, w) → Ev md_X10_findOrder 3 14 [some (vR 79), some (vI v1), some (vI v2), some (vI v3), some (vI v4), none, none, none, none, none] [] SH σ (some (vI v), SH, w) := by
  intro n
  induction n with
  | zero =>
    intro v1 v2 v3 v4 σ v w h
    rw [l_X10_findOrder_14] at h
    cases h
  | succ n ih =>
    intro v1 v2 v3 v4 σ v w h
    rw [l_X10_findOrder_14] at h
    refine Ev.iload (pc := 14) dX10_findOrder_14 rfl ?_
    refine Ev.bipush (pc := 16) (v := 7) dX10_findOrder_16 kb_7 ?_
    by_cases c1 : (7 : Int32) < v4
    · replace h := (if_pos c1).symm.trans h
      refine Ev.icmp_gt_t (pc := 18) (tgt := 42) dX10_findOrder_18 rfl c1 ?_
      refine Ev.aload_n (pc := 42) dX10_findOrder_42 rfl rfl ?_
      refine Ev.getI (pc := 43) dX10_findOrder_43 fl_X10_300 sh_79 rfl ?_
      by_cases c2 : (σ 79 38) = 0
      · replace h := (if_pos c2).symm.trans h
        refine Ev.if_ne_f (pc := 46) dX10_findOrder_46 ⟨54, rfl⟩ c2 ?_
        refine Ev.aload_n (pc := 49) dX10_findOrder_49 rfl rfl ?_
        refine Ev.iconst (pc := 50) (v := 0) dX10_findOrder_50 ki_0 ?_
        refine Ev.putI (pc := 51) dX10_findOrder_51 pl_X10_297 sh_79 rfl rfl rfl ?_
        refine Ev.nmS (fun σ3 e9 => ?_)
        replace h := bt_app h σ3 e9
        exact Ev.weak2 (lj_X10_findOrder_54 N _ _ _ _ _ _ h) (lsubS (lsubS (lsubS (lsubS (lsubN (lsubN (lsubN (lsubN (lsubN (lsubN lsubE))))))))))
      · replace h := (if_neg c2).symm.trans h
        refine Ev.if_ne_t (pc := 46) (tgt := 54) dX10_findOrder_46 rfl c2 ?_
        exact Ev.weak2 (lj_X10_findOrder_54 N _ _ _ _ _ _ h) (lsubS (lsubS (lsubS (lsubS (lsubN (lsubN (lsubN (lsubN (lsubN (lsubN lsubE))))))))))
    · replace h := (if_neg c1).symm.trans h
      refine Ev.icmp_gt_f (pc := 18) dX10_findOrder_18 ⟨42, rfl⟩ c1 ?_
      refine Ev.aload_n (pc := 21) dX10_findOrder_21 rfl rfl ?_
      refine Ev.dup (pc := 22) dX10_findOrder_22 rfl ?_
      refine Ev.getI (pc := 23) dX10_findOrder_23 fl_X10_300 sh_79 rfl ?_
      refine Ev.iload_n (pc := 26) dX10_findOrder_26 rfl rfl ?_
      refine Ev.iload (pc := 27) dX10_findOrder_27 rfl ?_
      refine Ev.ishr (pc := 29) dX10_findOrder_29 ?_
      refine Ev.iconst (pc := 30) (v := 1) dX10_findOrder_30 ki_1 ?_
      refine Ev.iand (pc := 31) dX10_findOrder_31 ?_
      refine Ev.iadd (pc := 32) dX10_findOrder_32 ?_
      refine Ev.putI (pc := 33) dX10_findOrder_33 pl_X10_300 sh_79 rfl rfl rfl ?_
      refine Ev.nmS (fun σ4 e9 => ?_)
      replace h := bt_app h σ4 e9
      obtain ⟨x5, e_x5, h⟩ := bt_elim h
      refine Ev.iinc (pc := 36) (v := x5) (lv' := [some (vR 79), some (vI v1), some (vI v2), some (vI v3), some (vI x5), none, none, none, none, none]) dX10_findOrder_36 rfl (by rw [ki_1, e_x5]) (lt9 rfl) rfl rfl ?_
      refine Ev.goto (pc := 39) (tgt := 14) dX10_findOrder_39 rfl ?_
      exact Ev.weak2 (ih _ _ _ _ _ _ _ h) (lsubS (lsubS (lsubS (lsubS (lsubS (lsubN (lsubN (lsubN (lsubN (lsubN lsubE))))))))))
theorem e_X10_findOrder (N : Nat) (a1 : Int32) (a2 : Int32) (a3 : Int32) (σ : St) (v : Int32) (w : St) (h : o_X10_findOrder N a1 a2 a3 σ = some (v, w)) : Ev md_X10_findOrder 3 0 (lvE [vR 79, vI a1, vI a2, vI a3] 10) [] SH σ (some (vI v), SH, w) := by
  show Ev md_X10_findOrder 3 0 [some (vR 79), some (vI a1), some (vI a2), some (vI a3), none, none, none, none, none, none] [] SH σ (some (vI v), SH, w)
  unfold o_X10_findOrder at h
  refine Ev.aload_n (pc := 0) dX10_findOrder_0 rfl rfl ?_
  refine Ev.ldc (pc := 1) dX10_findOrder_1 kc_X10_156 ?_
  refine Ev.putI (pc := 3) dX10_findOrder_3 pl_X10_297 sh_79 rfl rfl rfl ?_
  refine Ev.nmS (fun σ1 e9 => ?_)
  replace h := bt_app h σ1 e9
  refine Ev.aload_n (pc := 6) dX10_findOrder_6 rfl rfl ?_
  refine Ev.iconst (pc := 7) (v := 0) dX10_findOrder_7 ki_0 ?_
  refine Ev.putI (pc := 8) dX10_findOrder_8 pl_X10_300 sh_79 rfl rfl rfl ?_
  refine Ev.nmS (fun σ2 e9 => ?_)
  replace h := bt_app h σ2 e9
  refine Ev.iconst (pc := 11) (v := 0) dX10_findOrder_11 ki_0 ?_
  refine Ev.istore (pc := 12) (lv' := [some (vR 79), some (vI a1), some (vI a2), some (vI a3), some (vI 0), none, none, none, none, none]) dX10_findOrder_12 (lt9 rfl) rfl rfl ?_
  exact Ev.weak2 (ll_X10_findOrder_14 N N _ _ _ _ _ _ _ h) (lsubS (lsubS (lsubS (lsubS (lsubS (lsubN (lsubN (lsubN (lsubN (lsubN lsubE))))))))))
theorem r_X10_findOrder {N : Nat} {a1 : Int32} {a2 : Int32} {a3 : Int32} {σ : St} {v : Int32} {w : St} (h : o_X10_findOrder N a1 a2 a3 σ = some (v, w)) : Rn md_X10_findOrder 3 [vR 79, vI a1, vI a2, vI a3] SH σ (some (vI v), SH, w) := Rn.of ce_X10_findOrder.1 (Nat.le_of_ble_eq_true rfl) (e_X10_findOrder N _ _ _ _ _ _ h)
def j_X10_plan_45 (N : Nat) (v3 : Int32) (σ : St) : Option (Int32 × St) := if v3 = 99999999 then (some ((-1), σ)) else (some (v3, σ))
def o_X10_plan (N : Nat) (a1 : Int32) (a2 : Int32) (σ : St) : Option (Int32 × St) := bd (o_X10_isKeeper N a1 σ) fun x1 σ2 => if x1 = 0 then (some ((-1000000001), σ2)) else (bd (o_X10_isOnWay N a1 σ2) fun x5 σ6 => if x5 = 0 then (bd (o_X10_openOf N a1 σ6) fun x9 σ10 => bd (o_X10_findOrder N a1 x9 0 σ10) fun x12 σ13 => if x12 = 99999999 then (j_X10_plan_45 N x12 σ13) else (if a2 = (-1) then (j_X10_plan_45 N x12 σ13) else (if (p_X10_in a2.toInt64 0 (((σ13 79 38) - 1).toInt64) σ13) = 0 then (some ((-1), σ13)) else (ckA a2 9 (some ((σ13 98 a2.toNatClampNeg), σ13)))))) else (some ((-1000000003), σ6)))
theorem lj_X10_plan_45 (N : Nat) (v3 : Int32) (σ : St) (v : Int32) (w : St) (h : j_X10_plan_45 N v3 σ = some (v, w)) : Ev md_X10_plan 4 45 [none, none, none, some (vI v3)] [] SH σ (some (vI v), SH, w) := by
  unfold j_X10_plan_45 at h
  refine Ev.iload_n (pc := 45) dX10_plan_45 rfl rfl ?_
  refine Ev.ldc (pc := 46) dX10_plan_46 kc_X10_156 ?_
  by_cases c1 : v3 = 99999999
  · replace h := (if_pos c1).symm.trans h
    refine Ev.icmp_ne_f (pc := 48) dX10_plan_48 ⟨55, rfl⟩ c1 ?_
    refine Ev.iconst (pc := 51) (v := (-1)) dX10_plan_51 ki_m1 ?_
    refine Ev.goto (pc := 52) (tgt := 56) dX10_plan_52 rfl ?_
    obtain ⟨h1, h2⟩ := oeq h
    subst h1
    subst h2
    exact Ev.ret_i (pc := 56) dX10_plan_56 rfl rfl
  · replace h := (if_neg c1).symm.trans h
    refine Ev.icmp_ne_t (pc := 48) (tgt := 55) dX10_plan_48 rfl c1 ?_
    refine Ev.iload_n (pc := 55) dX10_plan_55 rfl rfl ?_
    obtain ⟨h1, h2⟩ := oeq h
    subst h1
    subst h2
    exact Ev.ret_i (pc := 56) dX10_plan_56 rfl rfl
theorem e_X10_plan (N : Nat) (a1 : Int32) (a2 : Int32) (σ : St) (v : Int32) (w : St) (h : o_X10_plan N a1 a2 σ = some (v, w)) : Ev md_X10_plan 4 0 (lvE [vR 79, vI a1, vI a2] 4) [] SH σ (some (vI v), SH, w) := by
  show Ev md_X10_plan 4 0 [some (vR 79), some (vI a1), some (vI a2), none] [] SH σ (some (vI v), SH, w)
  unfold o_X10_plan at h
  refine Ev.aload_n (pc := 0) dX10_plan_0 rfl rfl ?_
  refine Ev.iload_n (pc := 1) dX10_plan_1 rfl rfl ?_
  obtain ⟨x1, σ2, g3, h⟩ := bd_elim h
  refine Ev.cVi (pc := 2) (k := 79) (av := [vI a1]) (rest := []) dX10_plan_2 ce_X10_isKeeper ml_X10_206 rfl sh_79 cl_X10 sh_sc (Nat.le_of_ble_eq_true rfl) (Nat.le_of_ble_eq_true rfl) (r_X10_isKeeper g3) ?_
  by_cases c4 : x1 = 0
  · replace h := (if_pos c4).symm.trans h
    refine Ev.if_ne_f (pc := 5) dX10_plan_5 ⟨11, rfl⟩ c4 ?_
    refine Ev.ldc (pc := 8) dX10_plan_8 kc_X10_205 ?_
    obtain ⟨h1, h2⟩ := oeq h
    subst h1
    subst h2
    exact Ev.ret_i (pc := 10) dX10_plan_10 rfl rfl
  · replace h := (if_neg c4).symm.trans h
    refine Ev.if_ne_t (pc := 5) (tgt := 11) dX10_plan_5 rfl c4 ?_
    refine Ev.aload_n (pc := 11) dX10_plan_11 rfl rfl ?_
    refine Ev.iload_n (pc := 12) dX10_plan_12 rfl rfl ?_
    obtain ⟨x5, σ6, g7, h⟩ := bd_elim h
    refine Ev.cVi (pc := 13) (k := 79) (av := [vI a1]) (rest := []) dX10_plan_13 ce_X10_isOnWay ml_X10_220 rfl sh_79 cl_X10 sh_sc (Nat.le_of_ble_eq_true rfl) (Nat.le_of_ble_eq_true rfl) (r_X10_isOnWay g7) ?_
    by_cases c8 : x5 = 0
    · replace h := (if_pos c8).symm.trans h
      refine Ev.if_eq_t (pc := 16) (tgt := 22) dX10_plan_16 rfl c8 ?_
      refine Ev.aload_n (pc := 22) dX10_plan_22 rfl rfl ?_
      refine Ev.iload_n (pc := 23) dX10_plan_23 rfl rfl ?_
      refine Ev.aload_n (pc := 24) dX10_plan_24 rfl rfl ?_
      refine Ev.iload_n (pc := 25) dX10_plan_25 rfl rfl ?_
      obtain ⟨x9, σ10, g11, h⟩ := bd_elim h
      refine Ev.cVi (pc := 26) (k := 79) (av := [vI a1]) (rest := [vI a1, vR 79]) dX10_plan_26 ce_X10_openOf ml_X10_310 rfl sh_79 cl_X10 sh_sc (Nat.le_of_ble_eq_true rfl) (Nat.le_of_ble_eq_true rfl) (r_X10_openOf g11) ?_
      refine Ev.iconst (pc := 29) (v := 0) dX10_plan_29 ki_0 ?_
      obtain ⟨x12, σ13, g14, h⟩ := bd_elim h
      refine Ev.cVi (pc := 30) (k := 79) (av := [vI a1, vI x9, vI 0]) (rest := []) dX10_plan_30 ce_X10_findOrder ml_X10_313 rfl sh_79 cl_X10 sh_sc (Nat.le_of_ble_eq_true rfl) (Nat.le_of_ble_eq_true rfl) (r_X10_findOrder g14) ?_
      refine Ev.istore_n (pc := 33) (lv' := [some (vR 79), some (vI a1), some (vI a2), some (vI x12)]) dX10_plan_33 rfl (lt9 rfl) rfl rfl ?_
      refine Ev.iload_n (pc := 34) dX10_plan_34 rfl rfl ?_
      refine Ev.ldc (pc := 35) dX10_plan_35 kc_X10_156 ?_
      by_cases c15 : x12 = 99999999
      · replace h := (if_pos c15).symm.trans h
        refine Ev.icmp_eq_t (pc := 37) (tgt := 45) dX10_plan_37 rfl c15 ?_
        exact Ev.weak2 (lj_X10_plan_45 N _ _ _ _ h) (lsubN (lsubN (lsubN (lsubS lsubE))))
      · replace h := (if_neg c15).symm.trans h
        refine Ev.icmp_eq_f (pc := 37) dX10_plan_37 ⟨45, rfl⟩ c15 ?_
        refine Ev.iload_n (pc := 40) dX10_plan_40 rfl rfl ?_
        refine Ev.iconst (pc := 41) (v := (-1)) dX10_plan_41 ki_m1 ?_
        by_cases c16 : a2 = (-1)
        · replace h := (if_pos c16).symm.trans h
          refine Ev.icmp_ne_f (pc := 42) dX10_plan_42 ⟨57, rfl⟩ c16 ?_
          exact Ev.weak2 (lj_X10_plan_45 N _ _ _ _ h) (lsubN (lsubN (lsubN (lsubS lsubE))))
        · replace h := (if_neg c16).symm.trans h
          refine Ev.icmp_ne_t (pc := 42) (tgt := 57) dX10_plan_42 rfl c16 ?_
          refine Ev.iload_n (pc := 57) dX10_plan_57 rfl rfl ?_
          refine Ev.i2l (pc := 58) dX10_plan_58 ?_
          refine Ev.lconst (pc := 59) (v := 0) dX10_plan_59 kL_0 ?_
          refine Ev.aload_n (pc := 60) dX10_plan_60 rfl rfl ?_
          refine Ev.getI (pc := 61) dX10_plan_61 fl_X10_300 sh_79 rfl ?_
          refine Ev.iconst (pc := 64) (v := 1) dX10_plan_64 ki_1 ?_
          refine Ev.isub (pc := 65) dX10_plan_65 ?_
          refine Ev.i2l (pc := 66) dX10_plan_66 ?_
          refine Ev.cTi (pc := 67) (av := [vL a2.toInt64, vL 0, vL (((σ13 79 38) - 1).toInt64)]) (rest := []) dX10_plan_67 ce_X10_in ml_X10_89 rfl sh_sc (Nat.le_of_ble_eq_true rfl) (Nat.le_of_ble_eq_true rfl) (r_X10_in _ _ _ _) ?_
          by_cases c17 : (p_X10_in a2.toInt64 0 (((σ13 79 38) - 1).toInt64) σ13) = 0
          · replace h := (if_pos c17).symm.trans h
            refine Ev.if_eq_t (pc := 70) (tgt := 82) dX10_plan_70 rfl c17 ?_
            refine Ev.iconst (pc := 82) (v := (-1)) dX10_plan_82 ki_m1 ?_
            obtain ⟨h1, h2⟩ := oeq h
            subst h1
            subst h2
            exact Ev.ret_i (pc := 83) dX10_plan_83 rfl rfl
          · replace h := (if_neg c17).symm.trans h
            refine Ev.if_eq_f (pc := 70) dX10_plan_70 ⟨82, rfl⟩ c17 ?_
            refine Ev.aload_n (pc := 73) dX10_plan_73 rfl rfl ?_
            refine Ev.getR (pc := 74) dX10_plan_74 fl_X10_69 sh_79 rfl ?_
            refine Ev.iload_n (pc := 77) dX10_plan_77 rfl rfl ?_
            obtain ⟨c18, h⟩ := ckA_elim h
            refine Ev.iald (pc := 78) dX10_plan_78 sh_98 c18 ?_
            refine Ev.goto (pc := 79) (tgt := 83) dX10_plan_79 rfl ?_
            obtain ⟨h1, h2⟩ := oeq h
            subst h1
            subst h2
            exact Ev.ret_i (pc := 83) dX10_plan_83 rfl rfl
    · replace h := (if_neg c8).symm.trans h
      refine Ev.if_eq_f (pc := 16) dX10_plan_16 ⟨22, rfl⟩ c8 ?_
      refine Ev.ldc (pc := 19) dX10_plan_19 kc_X10_227 ?_
      obtain ⟨h1, h2⟩ := oeq h
      subst h1
      subst h2
      exact Ev.ret_i (pc := 21) dX10_plan_21 rfl rfl
theorem r_X10_plan {N : Nat} {a1 : Int32} {a2 : Int32} {σ : St} {v : Int32} {w : St} (h : o_X10_plan N a1 a2 σ = some (v, w)) : Rn md_X10_plan 4 [vR 79, vI a1, vI a2] SH σ (some (vI v), SH, w) := Rn.of ce_X10_plan.1 (Nat.le_of_ble_eq_true rfl) (e_X10_plan N _ _ _ _ _ h)
def l_X8_withOlder_8 (N : Nat) : Nat → Int32 → Int32 → Int32 → Int32 → St → Option (Int32 × St)
  | 0, _, _, _, _, _ => none
  | n + 1, v2, v3, v4, v5, σ => if (7 : Int32) ≤ v5 then (some (v3, σ)) else (if v4 = (-1) then (some (v3, σ)) else (if (p_X9_has v2 v4 σ) = 0 then (some (v3, σ)) else (bt (v3 ||| (1 <<< (v4 &&& 31))) fun x4 => bt (at_ σ 9 7 v4) fun x5 => bt (v5 + 1) fun x6 => l_X8_withOlder_8 N n v2 x4 x5 x6 σ)))
def o_X8_withOlder (N : Nat) (a1 : Int32) (a2 : Int32) (σ : St) : Option (Int32 × St) := l_X8_withOlder_8 N N a2 0 a1 0 σ
theorem ll_X8_withOlder_8 (N : Nat) : ∀ (n : Nat) (v2 : Int32) (v3 : Int32) (v4 : Int32) (v5 : Int32) (σ : St) (v : Int32) (w : St), l_X8_withOlder_8 N n v2 v3 v4 v5 σ = some (v, w) → Ev md_X8_withOlder 1 8 [some (vR 63), none, some (vI v2), some (vI v3), some (vI v4), some (vI v5)] [] SH σ (some (vI v), SH, w) := by
  intro n
  induction n with
  | zero =>
    intro v2 v3 v4 v5 σ v w h
    rw [l_X8_withOlder_8] at h
    cases h
  | succ n ih =>
    intro v2 v3 v4 v5 σ v w h
    rw [l_X8_withOlder_8] at h
    refine Ev.iload (pc := 8) dX8_withOlder_8 rfl ?_
    refine Ev.bipush (pc := 10) (v := 7) dX8_withOlder_10 kb_7 ?_
    by_cases c1 : (7 : Int32) ≤ v5
    · replace h := (if_pos c1).symm.trans h
      refine Ev.icmp_ge_t (pc := 12) (tgt := 57) dX8_withOlder_12 rfl c1 ?_
      refine Ev.iload_n (pc := 57) dX8_withOlder_57 rfl rfl ?_
      obtain ⟨h1, h2⟩ := oeq h
      subst h1
      subst h2
      exact Ev.ret_i (pc := 58) dX8_withOlder_58 rfl rfl
    · replace h := (if_neg c1).symm.trans h
      refine Ev.icmp_ge_f (pc := 12) dX8_withOlder_12 ⟨57, rfl⟩ c1 ?_
      refine Ev.iload (pc := 15) dX8_withOlder_15 rfl ?_
      refine Ev.iconst (pc := 17) (v := (-1)) dX8_withOlder_17 ki_m1 ?_
      by_cases c2 : v4 = (-1)
      · replace h := (if_pos c2).symm.trans h
        refine Ev.icmp_eq_t (pc := 18) (tgt := 57) dX8_withOlder_18 rfl c2 ?_
        refine Ev.iload_n (pc := 57) dX8_withOlder_57 rfl rfl ?_
        obtain ⟨h1, h2⟩ := oeq h
        subst h1
        subst h2
        exact Ev.ret_i (pc := 58) dX8_withOlder_58 rfl rfl
      · replace h := (if_neg c2).symm.trans h
        refine Ev.icmp_eq_f (pc := 18) dX8_withOlder_18 ⟨57, rfl⟩ c2 ?_
        refine Ev.iload_n (pc := 21) dX8_withOlder_21 rfl rfl ?_
        refine Ev.iload (pc := 22) dX8_withOlder_22 rfl ?_
        refine Ev.cTi (pc := 24) (av := [vI v2, vI v4]) (rest := []) dX8_withOlder_24 ce_X9_has ml_X8_77 rfl sh_sc (Nat.le_of_ble_eq_true rfl) (Nat.le_of_ble_eq_true rfl) (r_X9_has _ _ _) ?_
        by_cases c3 : (p_X9_has v2 v4 σ) = 0
        · replace h := (if_pos c3).symm.trans h
          refine Ev.if_eq_t (pc := 27) (tgt := 57) dX8_withOlder_27 rfl c3 ?_
          refine Ev.iload_n (pc := 57) dX8_withOlder_57 rfl rfl ?_
          obtain ⟨h1, h2⟩ := oeq h
          subst h1
          subst h2
          exact Ev.ret_i (pc := 58) dX8_withOlder_58 rfl rfl
        · replace h := (if_neg c3).symm.trans h
          refine Ev.if_eq_f (pc := 27) dX8_withOlder_27 ⟨57, rfl⟩ c3 ?_
          refine Ev.iload_n (pc := 30) dX8_withOlder_30 rfl rfl ?_
          refine Ev.iconst (pc := 31) (v := 1) dX8_withOlder_31 ki_1 ?_
          refine Ev.iload (pc := 32) dX8_withOlder_32 rfl ?_
          refine Ev.ishl (pc := 34) dX8_withOlder_34 ?_
          refine Ev.ior (pc := 35) dX8_withOlder_35 ?_
          refine Ev.nmI (fun x4 e9 => ?_)
          replace h := bt_app h x4 e9
          refine Ev.istore_n (pc := 36) (lv' := [some (vR 63), none, some (vI v2), some (vI x4), some (vI v4), some (vI v5)]) dX8_withOlder_36 rfl (lt9 rfl) rfl rfl ?_
          refine Ev.aload_n (pc := 37) dX8_withOlder_37 rfl rfl ?_
          refine Ev.getR (pc := 38) dX8_withOlder_38 fl_X8_27 sh_63 rfl ?_
          refine Ev.getR (pc := 41) dX8_withOlder_41 fl_X8_86 sh_1 rfl ?_
          refine Ev.iload (pc := 44) dX8_withOlder_44 rfl ?_
          refine Ev.cTi (pc := 46) (av := [vR 9, vI v4]) (rest := []) dX8_withOlder_46 ce_X9_at ml_X8_43 rfl sh_sc (Nat.le_of_ble_eq_true rfl) (Nat.le_of_ble_eq_true rfl) (r_at sh_9 (by decide) _ _) ?_
          refine Ev.nmI (fun x5 e9 => ?_)
          replace h := bt_app h x5 e9
          refine Ev.istore (pc := 49) (lv' := [some (vR 63), none, some (vI v2), some (vI x4), some (vI x5), some (vI v5)]) dX8_withOlder_49 (lt9 rfl) rfl rfl ?_
          obtain ⟨x6, e_x6, h⟩ := bt_elim h
          refine Ev.iinc (pc := 51) (v := x6) (lv' := [some (vR 63), none, some (vI v2), some (vI x4), some (vI x5), some (vI x6)]) dX8_withOlder_51 rfl (by rw [ki_1, e_x6]) (lt9 rfl) rfl rfl ?_
          refine Ev.goto (pc := 54) (tgt := 8) dX8_withOlder_54 rfl ?_
          exact Ev.weak2 (ih _ _ _ _ _ _ _ h) (lsubS (lsubN (lsubS (lsubS (lsubS (lsubS lsubE))))))
theorem e_X8_withOlder (N : Nat) (a1 : Int32) (a2 : Int32) (σ : St) (v : Int32) (w : St) (h : o_X8_withOlder N a1 a2 σ = some (v, w)) : Ev md_X8_withOlder 1 0 (lvE [vR 63, vI a1, vI a2] 6) [] SH σ (some (vI v), SH, w) := by
  show Ev md_X8_withOlder 1 0 [some (vR 63), some (vI a1), some (vI a2), none, none, none] [] SH σ (some (vI v), SH, w)
  unfold o_X8_withOlder at h
  refine Ev.iconst (pc := 0) (v := 0) dX8_withOlder_0 ki_0 ?_
  refine Ev.istore_n (pc := 1) (lv' := [some (vR 63), some (vI a1), some (vI a2), some (vI 0), none, none]) dX8_withOlder_1 rfl (lt9 rfl) rfl rfl ?_
  refine Ev.iload_n (pc := 2) dX8_withOlder_2 rfl rfl ?_
  refine Ev.istore (pc := 3) (lv' := [some (vR 63), some (vI a1), some (vI a2), some (vI 0), some (vI a1), none]) dX8_withOlder_3 (lt9 rfl) rfl rfl ?_
  refine Ev.iconst (pc := 5) (v := 0) dX8_withOlder_5 ki_0 ?_
  refine Ev.istore (pc := 6) (lv' := [some (vR 63), some (vI a1), some (vI a2), some (vI 0), some (vI a1), some (vI 0)]) dX8_withOlder_6 (lt9 rfl) rfl rfl ?_
  exact Ev.weak2 (ll_X8_withOlder_8 N N _ _ _ _ _ _ _ h) (lsubS (lsubN (lsubS (lsubS (lsubS (lsubS lsubE))))))
theorem r_X8_withOlder {N : Nat} {a1 : Int32} {a2 : Int32} {σ : St} {v : Int32} {w : St} (h : o_X8_withOlder N a1 a2 σ = some (v, w)) : Rn md_X8_withOlder 1 [vR 63, vI a1, vI a2] SH σ (some (vI v), SH, w) := Rn.of ce_X8_withOlder.1 (Nat.le_of_ble_eq_true rfl) (e_X8_withOlder N _ _ _ _ _ h)
def j_X8_firstClash_87 (N : Nat) (K_11 : Int32 → Int32 → Int32 → St → Option (Int32 × St)) (K_27 : Int32 → Int32 → Int32 → Int32 → St → Option (Int32 × St)) (v1 : Int32) (v2 : Int32) (v3 : Int32) (v4 : Int32) (σ : St) : Option (Int32 × St) := bt (v4 + 1) fun x1 => K_27 v1 v2 v3 x1 σ
def l_X8_firstClash_27 (N : Nat) (K_11 : Int32 → Int32 → Int32 → St → Option (Int32 × St)) : Nat → Int32 → Int32 → Int32 → Int32 → St → Option (Int32 × St)
  | 0, _, _, _, _, _ => none
  | n + 1, v1, v2, v3, v4, σ => if (σ 1 3) ≤ v4 then (bt (v3 + 1) fun x2 => K_11 v1 v2 x2 σ) else (if (p_X9_has v2 v3 σ) = 0 then (j_X8_firstClash_87 N K_11 (l_X8_firstClash_27 N K_11 n) v1 v2 v3 v4 σ) else (if (p_X9_has v2 v4 σ) = 0 then (j_X8_firstClash_87 N K_11 (l_X8_firstClash_27 N K_11 n) v1 v2 v3 v4 σ) else (bd (o_X8_withOlder N v3 v2 σ) fun x5 σ6 => bd (o_X8_withOlder N v4 v2 σ6) fun x8 σ9 => bd (o_X8_canKeepAll N v1 (x5 ||| x8) 1 σ9) fun x11 σ12 => if x11 = 0 then (some (((v3 * 7) + v4), σ12)) else (j_X8_firstClash_87 N K_11 (l_X8_firstClash_27 N K_11 n) v1 v2 v3 v4 σ12))))
def l_X8_firstClash_11 (N : Nat) : Nat → Int32 → Int32 → Int32 → St → Option (Int32 × St)
  | 0, _, _, _, _ => none
  | n + 1, v1, v2, v3, σ => if (σ 1 3) ≤ v3 then (some ((-1), σ)) else (bt (v3 + 1) fun x2 => l_X8_firstClash_27 N (l_X8_firstClash_11 N n) N v1 v2 v3 x2 σ)
def o_X8_firstClash (N : Nat) (a1 : Int32) (σ : St) : Option (Int32 × St) := bd (o_X1_openOf N a1 σ) fun x1 σ2 => l_X8_firstClash_11 N N a1 x1 0 σ2
theorem lj_X8_firstClash_87 (N : Nat) (K_11 : Int32 → Int32 → Int32 → St → Option (Int32 × St)) (K_27 : Int32 → Int32 → Int32 → Int32 → St → Option (Int32 × St)) (hK_11 : ∀ (v1 : Int32) (v2 : Int32) (v3 : Int32) (σ : St) (v : Int32) (w : St), K_11 v1 v2 v3 σ = some (v, w) → Ev md_X8_firstClash 82 11 [some (vR 63), some (vI v1), some (vI v2), some (vI v3), none] [] SH σ (some (vI v), SH, w)) (hK_27 : ∀ (v1 : Int32) (v2 : Int32) (v3 : Int32) (v4 : Int32) (σ : St) (v : Int32) (w : St), K_27 v1 v2 v3 v4 σ = some (v, w) → Ev md_X8_firstClash 82 27 [some (vR 63), some (vI v1), some (vI v2), some (vI v3), some (vI v4)] [] SH σ (some (vI v), SH, w)) (v1 : Int32) (v2 : Int32) (v3 : Int32) (v4 : Int32) (σ : St) (v : Int32) (w : St) (h : j_X8_firstClash_87 N K_11 K_27 v1 v2 v3 v4 σ = some (v, w)) : Ev md_X8_firstClash 82 87 [some (vR 63), some (vI v1), some (vI v2), some (vI v3), some (vI v4)] [] SH σ (some (vI v), SH, w) := by
  unfold j_X8_firstClash_87 at h
  obtain ⟨x1, e_x1, h⟩ := bt_elim h
  refine Ev.iinc (pc := 87) (v := x1) (lv' := [some (vR 63), some (vI v1), some (vI v2), some (vI v3), some (vI x1)]) dX8_firstClash_87 rfl (by rw [ki_1, e_x1]) (lt9 rfl) rfl rfl ?_
  refine Ev.goto (pc := 90) (tgt := 27) dX8_firstClash_90 rfl ?_
  exact Ev.weak2 (hK_27 _ _ _ _ _ _ _ h) (lsubS (lsubS (lsubS (lsubS (lsubS lsubE)))))
theorem ll_X8_firstClash_27 (N : Nat) (K_11 : Int32 → Int32 → Int32 → St → Option (Int32 × St)) (hK_11 : ∀ (v1 : Int32) (v2 : Int32) (v3 : Int32) (σ : St) (v : Int32) (w : St), K_11 v1 v2 v3 σ = some (v, w) → Ev md_X8_firstClash 82 11 [some (vR 63), some (vI v1), some (vI v2), some (vI v3), none] [] SH σ (some (vI v), SH, w)) : ∀ (n : Nat) (v1 : Int32) (v2 : Int32) (v3 : Int32) (v4 : Int32) (σ : St) (v : Int32) (w : St), l_X8_firstClash_27 N K_11 n v1 v2 v3 v4 σ = some (v, w) → Ev md_X8_firstClash 82 27 [some (vR 63), some (vI v1), some (vI v2), some (vI v3), some (vI v4)] [] SH σ (some (vI v), SH, w) := by
  intro n
  induction n with
  | zero =>
    intro v1 v2 v3 v4 σ v w h
    rw [l_X8_firstClash_27] at h
    cases h
  | succ n ih =>
    intro v1 v2 v3 v4 σ v w h
    rw [l_X8_firstClash_27] at h
    refine Ev.iload (pc := 27) dX8_firstClash_27 rfl ?_
    refine Ev.aload_n (pc := 29) dX8_firstClash_29 rfl rfl ?_
    refine Ev.getR (pc := 30) dX8_firstClash_30 fl_X8_27 sh_63 rfl ?_
    refine Ev.getI (pc := 33) dX8_firstClash_33 fl_X8_72 sh_1 rfl ?_
    by_cases c1 : (σ 1 3) ≤ v4
    · replace h := (if_pos c1).symm.trans h
      refine Ev.icmp_ge_t (pc := 36) (tgt := 93) dX8_firstClash_36 rfl c1 ?_
      obtain ⟨x2, e_x2, h⟩ := bt_elim h
      refine Ev.iinc (pc := 93) (v := x2) (lv' := [some (vR 63), some (vI v1), some (vI v2), some (vI x2), some (vI v4)]) dX8_firstClash_93 rfl (by rw [ki_1, e_x2]) (lt9 rfl) rfl rfl ?_
      refine Ev.goto (pc := 96) (tgt := 11) dX8_firstClash_96 rfl ?_
      exact Ev.weak2 (hK_11 _ _ _ _ _ _ h) (lsubS (lsubS (lsubS (lsubS (lsubN lsubE)))))
    · replace h := (if_neg c1).symm.trans h
      refine Ev.icmp_ge_f (pc := 36) dX8_firstClash_36 ⟨93, rfl⟩ c1 ?_
      refine Ev.iload_n (pc := 39) dX8_firstClash_39 rfl rfl ?_
      refine Ev.iload_n (pc := 40) dX8_firstClash_40 rfl rfl ?_
      refine Ev.cTi (pc := 41) (av := [vI v2, vI v3]) (rest := []) dX8_firstClash_41 ce_X9_has ml_X8_77 rfl sh_sc (Nat.le_of_ble_eq_true rfl) (Nat.le_of_ble_eq_true rfl) (r_X9_has _ _ _) ?_
      by_cases c3 : (p_X9_has v2 v3 σ) = 0
      · replace h := (if_pos c3).symm.trans h
        refine Ev.if_eq_t (pc := 44) (tgt := 87) dX8_firstClash_44 rfl c3 ?_
        exact Ev.weak2 (lj_X8_firstClash_87 N K_11 (l_X8_firstClash_27 N K_11 n) hK_11 ih _ _ _ _ _ _ _ h) (lsubS (lsubS (lsubS (lsubS (lsubS lsubE)))))
      · replace h := (if_neg c3).symm.trans h
        refine Ev.if_eq_f (pc := 44) dX8_firstClash_44 ⟨87, rfl⟩ c3 ?_
        refine Ev.iload_n (pc := 47) dX8_firstClash_47 rfl rfl ?_
        refine Ev.iload (pc := 48) dX8_firstClash_48 rfl ?_
        refine Ev.cTi (pc := 50) (av := [vI v2, vI v4]) (rest := []) dX8_firstClash_50 ce_X9_has ml_X8_77 rfl sh_sc (Nat.le_of_ble_eq_true rfl) (Nat.le_of_ble_eq_true rfl) (r_X9_has _ _ _) ?_
        by_cases c4 : (p_X9_has v2 v4 σ) = 0
        · replace h := (if_pos c4).symm.trans h
          refine Ev.if_eq_t (pc := 53) (tgt := 87) dX8_firstClash_53 rfl c4 ?_
          exact Ev.weak2 (lj_X8_firstClash_87 N K_11 (l_X8_firstClash_27 N K_11 n) hK_11 ih _ _ _ _ _ _ _ h) (lsubS (lsubS (lsubS (lsubS (lsubS lsubE)))))
        · replace h := (if_neg c4).symm.trans h
          refine Ev.if_eq_f (pc := 53) dX8_firstClash_53 ⟨87, rfl⟩ c4 ?_
          refine Ev.aload_n (pc := 56) dX8_firstClash_56 rfl rfl ?_
          refine Ev.iload_n (pc := 57) dX8_firstClash_57 rfl rfl ?_
          refine Ev.aload_n (pc := 58) dX8_firstClash_58 rfl rfl ?_
          refine Ev.iload_n (pc := 59) dX8_firstClash_59 rfl rfl ?_
          refine Ev.iload_n (pc := 60) dX8_firstClash_60 rfl rfl ?_
          obtain ⟨x5, σ6, g7, h⟩ := bd_elim h
          refine Ev.cVi (pc := 61) (k := 63) (av := [vI v3, vI v2]) (rest := [vI v1, vR 63]) dX8_firstClash_61 ce_X8_withOlder ml_X8_126 rfl sh_63 cl_X8 sh_sc (Nat.le_of_ble_eq_true rfl) (Nat.le_of_ble_eq_true rfl) (r_X8_withOlder g7) ?_
          refine Ev.aload_n (pc := 64) dX8_firstClash_64 rfl rfl ?_
          refine Ev.iload (pc := 65) dX8_firstClash_65 rfl ?_
          refine Ev.iload_n (pc := 67) dX8_firstClash_67 rfl rfl ?_
          obtain ⟨x8, σ9, g10, h⟩ := bd_elim h
          refine Ev.cVi (pc := 68) (k := 63) (av := [vI v4, vI v2]) (rest := [vI x5, vI v1, vR 63]) dX8_firstClash_68 ce_X8_withOlder ml_X8_126 rfl sh_63 cl_X8 sh_sc (Nat.le_of_ble_eq_true rfl) (Nat.le_of_ble_eq_true rfl) (r_X8_withOlder g10) ?_
          refine Ev.ior (pc := 71) dX8_firstClash_71 ?_
          refine Ev.iconst (pc := 72) (v := 1) dX8_firstClash_72 ki_1 ?_
          obtain ⟨x11, σ12, g13, h⟩ := bd_elim h
          refine Ev.cVi (pc := 73) (k := 63) (av := [vI v1, vI (x5 ||| x8), vI 1]) (rest := []) dX8_firstClash_73 ce_X8_canKeepAll ml_X8_129 rfl sh_63 cl_X8 sh_sc (Nat.le_of_ble_eq_true rfl) (Nat.le_of_ble_eq_true rfl) (r_X8_canKeepAll g13) ?_
          by_cases c14 : x11 = 0
          · replace h := (if_pos c14).symm.trans h
            refine Ev.if_ne_f (pc := 76) dX8_firstClash_76 ⟨87, rfl⟩ c14 ?_
            refine Ev.iload_n (pc := 79) dX8_firstClash_79 rfl rfl ?_
            refine Ev.bipush (pc := 80) (v := 7) dX8_firstClash_80 kb_7 ?_
            refine Ev.imul (pc := 82) dX8_firstClash_82 ?_
            refine Ev.iload (pc := 83) dX8_firstClash_83 rfl ?_
            refine Ev.iadd (pc := 85) dX8_firstClash_85 ?_
            obtain ⟨h1, h2⟩ := oeq h
            subst h1
            subst h2
            exact Ev.ret_i (pc := 86) dX8_firstClash_86 rfl rfl
          · replace h := (if_neg c14).symm.trans h
            refine Ev.if_ne_t (pc := 76) (tgt := 87) dX8_firstClash_76 rfl c14 ?_
            exact Ev.weak2 (lj_X8_firstClash_87 N K_11 (l_X8_firstClash_27 N K_11 n) hK_11 ih _ _ _ _ _ _ _ h) (lsubS (lsubS (lsubS (lsubS (lsubS lsubE)))))
theorem ll_X8_firstClash_11 (N : Nat) : ∀ (n : Nat) (v1 : Int32) (v2 : Int32) (v3 : Int32) (σ : St) (v : Int32) (w : St), l_X8_firstClash_11 N n v1 v2 v3 σ = some (v, w) → Ev md_X8_firstClash 82 11 [some (vR 63), some (vI v1), some (vI v2), some (vI v3), none] [] SH σ (some (vI v), SH, w) := by
  intro n
  induction n with
  | zero =>
    intro v1 v2 v3 σ v w h
    rw [l_X8_firstClash_11] at h
    cases h
  | succ n ih =>
    intro v1 v2 v3 σ v w h
    rw [l_X8_firstClash_11] at h
    refine Ev.iload_n (pc := 11) dX8_firstClash_11 rfl rfl ?_
    refine Ev.aload_n (pc := 12) dX8_firstClash_12 rfl rfl ?_
    refine Ev.getR (pc := 13) dX8_firstClash_13 fl_X8_27 sh_63 rfl ?_
    refine Ev.getI (pc := 16) dX8_firstClash_16 fl_X8_72 sh_1 rfl ?_
    by_cases c1 : (σ 1 3) ≤ v3
    · replace h := (if_pos c1).symm.trans h
      refine Ev.icmp_ge_t (pc := 19) (tgt := 99) dX8_firstClash_19 rfl c1 ?_
      refine Ev.iconst (pc := 99) (v := (-1)) dX8_firstClash_99 ki_m1 ?_
      obtain ⟨h1, h2⟩ := oeq h
      subst h1
      subst h2
      exact Ev.ret_i (pc := 100) dX8_firstClash_100 rfl rfl
    · replace h := (if_neg c1).symm.trans h
      refine Ev.icmp_ge_f (pc := 19) dX8_firstClash_19 ⟨99, rfl⟩ c1 ?_
      refine Ev.iload_n (pc := 22) dX8_firstClash_22 rfl rfl ?_
      refine Ev.iconst (pc := 23) (v := 1) dX8_firstClash_23 ki_1 ?_
      refine Ev.iadd (pc := 24) dX8_firstClash_24 ?_
      refine Ev.nmI (fun x2 e9 => ?_)
      replace h := bt_app h x2 e9
      refine Ev.istore (pc := 25) (lv' := [some (vR 63), some (vI v1), some (vI v2), some (vI v3), some (vI x2)]) dX8_firstClash_25 (lt9 rfl) rfl rfl ?_
      exact Ev.weak2 (ll_X8_firstClash_27 N (l_X8_firstClash_11 N n) ih N _ _ _ _ _ _ _ h) (lsubS (lsubS (lsubS (lsubS (lsubS lsubE)))))
theorem e_X8_firstClash (N : Nat) (a1 : Int32) (σ : St) (v : Int32) (w : St) (h : o_X8_firstClash N a1 σ = some (v, w)) : Ev md_X8_firstClash 82 0 (lvE [vR 63, vI a1] 5) [] SH σ (some (vI v), SH, w) := by
  show Ev md_X8_firstClash 82 0 [some (vR 63), some (vI a1), none, none, none] [] SH σ (some (vI v), SH, w)
  unfold o_X8_firstClash at h
  refine Ev.aload_n (pc := 0) dX8_firstClash_0 rfl rfl ?_
  refine Ev.getR (pc := 1) dX8_firstClash_1 fl_X8_31 sh_63 rfl ?_
  refine Ev.iload_n (pc := 4) dX8_firstClash_4 rfl rfl ?_
  obtain ⟨x1, σ2, g3, h⟩ := bd_elim h
  refine Ev.cVi (pc := 5) (k := 23) (av := [vI a1]) (rest := []) dX8_firstClash_5 ce_X1_openOf ml_X8_123 rfl sh_23 cl_X1 sh_sc (Nat.le_of_ble_eq_true rfl) (Nat.le_of_ble_eq_true rfl) (r_X1_openOf g3) ?_
  refine Ev.istore_n (pc := 8) (lv' := [some (vR 63), some (vI a1), some (vI x1), none, none]) dX8_firstClash_8 rfl (lt9 rfl) rfl rfl ?_
  refine Ev.iconst (pc := 9) (v := 0) dX8_firstClash_9 ki_0 ?_
  refine Ev.istore_n (pc := 10) (lv' := [some (vR 63), some (vI a1), some (vI x1), some (vI 0), none]) dX8_firstClash_10 rfl (lt9 rfl) rfl rfl ?_
  exact Ev.weak2 (ll_X8_firstClash_11 N N _ _ _ _ _ _ h) (lsubS (lsubS (lsubS (lsubS (lsubN lsubE)))))
theorem r_X8_firstClash {N : Nat} {a1 : Int32} {σ : St} {v : Int32} {w : St} (h : o_X8_firstClash N a1 σ = some (v, w)) : Rn md_X8_firstClash 82 [vR 63, vI a1] SH σ (some (vI v), SH, w) := Rn.of ce_X8_firstClash.1 (Nat.le_of_ble_eq_true rfl) (e_X8_firstClash N _ _ _ _ h)
