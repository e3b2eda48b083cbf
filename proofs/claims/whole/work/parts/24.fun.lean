def j_X10_let_104 (N : Nat) (K_58 : Int32 → Int32 → Int32 → Int32 → Int32 → Int32 → Int32 → St → Option (Int32 × St)) (K_72 : Int32 → Int32 → Int32 → Int32 → Int32 → Int32 → Int32 → Int32 → Int32 → St → Option (Int32 × St)) (v2 : Int32) (v3 : Int32) (v4 : Int32) (v5 : Int32) (v6 : Int32) (v7 : Int32) (v8 : Int32) (v10 : Int32) (s0 : Int32) (s1 : Int32) (σ : St) : Option (Int32 × St) := bt (s0 + s1) fun x1 => bt (v10 + 1) fun x2 => K_72 v2 v3 v4 v5 v6 v7 v8 x1 x2 σ
def j_X10_let_153 (N : Nat) (K_58 : Int32 → Int32 → Int32 → Int32 → Int32 → Int32 → Int32 → St → Option (Int32 × St)) (v2 : Int32) (v3 : Int32) (v4 : Int32) (v5 : Int32) (v6 : Int32) (v7 : Int32) (v8 : Int32) (σ : St) : Option (Int32 × St) := bt (v8 + 1) fun x1 => K_58 v2 v3 v4 v5 v6 v7 x1 σ
def j_X10_let_141 (N : Nat) (K_58 : Int32 → Int32 → Int32 → Int32 → Int32 → Int32 → Int32 → St → Option (Int32 × St)) (v2 : Int32) (v3 : Int32) (v4 : Int32) (v5 : Int32) (v7 : Int32) (v8 : Int32) (s0 : Int32) (σ : St) : Option (Int32 × St) := bt (v5 + 1) fun x1 => bt (v7 &&& v8) fun x2 => j_X10_let_153 N K_58 v2 v3 v4 x1 s0 x2 v8 σ
def l_X10_let_72 (N : Nat) (K_58 : Int32 → Int32 → Int32 → Int32 → Int32 → Int32 → Int32 → St → Option (Int32 × St)) : Nat → Int32 → Int32 → Int32 → Int32 → Int32 → Int32 → Int32 → Int32 → Int32 → St → Option (Int32 × St)
  | 0, _, _, _, _, _, _, _, _, _, _ => none
  | n + 1, v2, v3, v4, v5, v6, v7, v8, v9, v10, σ => if (σ 79 5) ≤ v10 then (if (v8 &&& (v4 ^^^ (-1))) = 0 then (if v9 = v2 then (if v5 = 0 then (j_X10_let_141 N K_58 v2 v3 v4 v5 v7 v8 v8 σ) else (j_X10_let_141 N K_58 v2 v3 v4 v5 v7 v8 v6 σ)) else (j_X10_let_153 N K_58 v2 v3 v4 v5 v6 v7 v8 σ)) else (j_X10_let_153 N K_58 v2 v3 v4 v5 v6 v7 v8 σ)) else (if (p_X10_has v8 v10 σ) = 0 then (j_X10_let_104 N K_58 (l_X10_let_72 N K_58 n) v2 v3 v4 v5 v6 v7 v8 v10 v9 0 σ) else (ckA v10 14 (j_X10_let_104 N K_58 (l_X10_let_72 N K_58 n) v2 v3 v4 v5 v6 v7 v8 v10 v9 (σ 90 v10.toNatClampNeg) σ)))
def l_X10_let_58 (N : Nat) : Nat → Int32 → Int32 → Int32 → Int32 → Int32 → Int32 → Int32 → St → Option (Int32 × St)
  | 0, _, _, _, _, _, _, _, _ => none
  | n + 1, v2, v3, v4, v5, v6, v7, v8, σ => if (128 : Int32) ≤ v8 then (if v3 = 0 then (some (v5, σ)) else (if v3 = 1 then (some (v6, σ)) else (if v5 = 0 then (some (0, σ)) else (some (v7, σ))))) else (l_X10_let_72 N (l_X10_let_58 N n) N v2 v3 v4 v5 v6 v7 v8 0 0 σ)
def o_X10_let (N : Nat) (a1 : Int32) (a2 : Int32) (a3 : Int32) (σ : St) : Option (Int32 × St) := bd (o_X10_isKeeper N a1 σ) fun x1 σ2 => if x1 = 0 then (some ((-1000000001), σ2)) else (if (p_X10_in a2.toInt64 0 99 σ2) = 0 then (some ((-1000000002), σ2)) else (if (p_X10_in a3.toInt64 0 2 σ2) = 0 then (some ((-1000000002), σ2)) else (bd (o_X10_ofKeeper N a1 σ2) fun x7 σ8 => l_X10_let_58 N N a2 a3 x7 0 (-1) 127 0 σ8)))
theorem lj_X10_let_104 (N : Nat) (K_58 : Int32 → Int32 → Int32 → Int32 → Int32 → Int32 → Int32 → St → Option (Int32 × St)) (K_72 : Int32 → Int32 → Int32 → Int32 → Int32 → Int32 → Int32 → Int32 → Int32 → St → Option (Int32 × St)) (hK_58 : ∀ (v2 : Int32) (v3 : Int32) (v4 : Int32) (v5 : Int32) (v6 : Int32) (v7 : Int32) (v8 : Int32) (σ : St) (v : Int32) (w : St), K_58 v2 v3 v4 v5 v6 v7 v8 σ = some (v, w) → Ev md_X10_let 2 58 [some (vR 79), none, some (vI v2), some (vI v3), some (vI v4), some (vI v5), some (vI v6), some (vI v7), some (vI v8), none, none] [] SH σ (some (vI v), SH, w)) (hK_72 : ∀ (v2 : Int32) (v3 : Int32) (v4 : Int32) (v5 : Int32) (v6 : Int32) (v7 : Int32) (v8 : Int32) (v9 : Int32) (v10 : Int32) (σ : St) (v : Int32) (w : St), K_72 v2 v3 v4 v5 v6 v7 v8 v9 v10 σ = some (v, w) → Ev md_X10_let 2 72 [some (vR 79), none, some (vI v2), some (vI v3), some (vI v4), some (vI v5), some (vI v6), some (vI v7), some (vI v8), some (vI v9), some (vI v10)] [] SH σ (some (vI v), SH, w)) (v2 : Int32) (v3 : Int32) (v4 : Int32) (v5 : Int32) (v6 : Int32) (v7 : Int32) (v8 : Int32) (v10 : Int32) (s0 : Int32) (s1 : Int32) (σ : St) (v : Int32) (w : St) (h : j_X10_let_104 N K_58 K_72 v2 v3 v4 v5 v6 v7 v8 v10 s0 s1 σ = some (v, w)) : Ev md_X10_let 2 104 [some (vR 79), none, some (vI v2), some (vI v3), some (vI v4), some (vI v5), some (vI v6), some (vI v7), some (vI v8), none, some (vI v10)] [vI s1, vI s0] SH σ (some (vI v), SH, w) := by
  unfold j_X10_let_104 at h
  refine Ev.iadd (pc := 104) dX10_let_104 ?_
  refine Ev.nmI (fun x1 e9 => ?_)
  replace h := bt_app h x1 e9
  refine Ev.istore (pc := 105) (lv' := [some (vR 79), none, some (vI v2), some (vI v3), some (vI v4), some (vI v5), some (vI v6), some (vI v7), some (vI v8), some (vI x1), some (vI v10)]) dX10_let_105 (lt9 rfl) rfl rfl ?_
  obtain ⟨x2, e_x2, h⟩ := bt_elim h
  refine Ev.iinc (pc := 107) (v := x2) (lv' := [some (vR 79), none, some (vI v2), some (vI v3), some (vI v4), some (vI v5), some (vI v6), some (vI v7), some (vI v8), some (vI x1), some (vI x2)]) dX10_let_107 rfl (by rw [ki_1, e_x2]) (lt9 rfl) rfl rfl ?_
  refine Ev.goto (pc := 110) (tgt := 72) dX10_let_110 rfl ?_
  exact Ev.weak2 (hK_72 _ _ _ _ _ _ _ _ _ _ _ _ h) (lsubS (lsubN (lsubS (lsubS (lsubS (lsubS (lsubS (lsubS (lsubS (lsubS (lsubS lsubE)))))))))))
theorem lj_X10_let_153 (N : Nat) (K_58 : Int32 → Int32 → Int32 → Int32 → Int32 → Int32 → Int32 → St → Option (Int32 × St)) (hK_58 : ∀ (v2 : Int32) (v3 : Int32) (v4 : Int32) (v5 : Int32) (v6 : Int32) (v7 : Int32) (v8 : Int32) (σ : St) (v : Int32) (w : St), K_58 v2 v3 v4 v5 v6 v7 v8 σ = some (v, w) → Ev md_X10_let 2 58 [some (vR 79), none, some (vI v2), some (vI v3), some (vI v4), some (vI v5), some (vI v6), some (vI v7), some (vI v8), none, none] [] SH σ (some (vI v), SH, w)) (v2 : Int32) (v3 : Int32) (v4 : Int32) (v5 : Int32) (v6 : Int32) (v7 : Int32) (v8 : Int32) (σ : St) (v : Int32) (w : St) (h : j_X10_let_153 N K_58 v2 v3 v4 v5 v6 v7 v8 σ = some (v, w)) : Ev md_X10_let 2 153 [some (vR 79), none, some (vI v2), some (vI v3), some (vI v4), some (vI v5), some (vI v6), some (vI v7), some (vI v8), none, none] [] SH σ (some (vI v), SH, w) := by
  unfold j_X10_let_153 at h
  obtain ⟨x1, e_x1, h⟩ := bt_elim h
  refine Ev.iinc (pc := 153) (v := x1) (lv' := [some (vR 79), none, some (vI v2), some (vI v3), some (vI v4), some (vI v5), some (vI v6), some (vI v7), some (vI x1), none, none]) dX10_let_153 rfl (by rw [ki_1, e_x1]) (lt9 rfl) rfl rfl ?_
  refine Ev.goto (pc := 156) (tgt := 58) dX10_let_156 rfl ?_
  exact Ev.weak2 (hK_58 _ _ _ _ _ _ _ _ _ _ h) (lsubS (lsubN (lsubS (lsubS (lsubS (lsubS (lsubS (lsubS (lsubS (lsubN (lsubN lsubE)))))))))))
theorem lj_X10_let_141 (N : Nat) (K_58 : Int32 → Int32 → Int32 → Int32 → Int32 → Int32 → Int32 → St → Option (Int32 × St)) (hK_58 : ∀ (v2 : Int32) (v3 : Int32) (v4 : Int32) (v5 : Int32) (v6 : Int32) (v7 : Int32) (v8 : Int32) (σ : St) (v : Int32) (w : St), K_58 v2 v3 v4 v5 v6 v7 v8 σ = some (v, w) → Ev md_X10_let 2 58 [some (vR 79), none, some (vI v2), some (vI v3), some (vI v4), some (vI v5), some (vI v6), some (vI v7), some (vI v8), none, none] [] SH σ (some (vI v), SH, w)) (v2 : Int32) (v3 : Int32) (v4 : Int32) (v5 : Int32) (v7 : Int32) (v8 : Int32) (s0 : Int32) (σ : St) (v : Int32) (w : St) (h : j_X10_let_141 N K_58 v2 v3 v4 v5 v7 v8 s0 σ = some (v, w)) : Ev md_X10_let 2 141 [some (vR 79), none, some (vI v2), some (vI v3), some (vI v4), some (vI v5), none, some (vI v7), some (vI v8), none, none] [vI s0] SH σ (some (vI v), SH, w) := by
  unfold j_X10_let_141 at h
  refine Ev.istore (pc := 141) (lv' := [some (vR 79), none, some (vI v2), some (vI v3), some (vI v4), some (vI v5), some (vI s0), some (vI v7), some (vI v8), none, none]) dX10_let_141 (lt9 rfl) rfl rfl ?_
  obtain ⟨x1, e_x1, h⟩ := bt_elim h
  refine Ev.iinc (pc := 143) (v := x1) (lv' := [some (vR 79), none, some (vI v2), some (vI v3), some (vI v4), some (vI x1), some (vI s0), some (vI v7), some (vI v8), none, none]) dX10_let_143 rfl (by rw [ki_1, e_x1]) (lt9 rfl) rfl rfl ?_
  refine Ev.iload (pc := 146) dX10_let_146 rfl ?_
  refine Ev.iload (pc := 148) dX10_let_148 rfl ?_
  refine Ev.iand (pc := 150) dX10_let_150 ?_
  refine Ev.nmI (fun x2 e9 => ?_)
  replace h := bt_app h x2 e9
  refine Ev.istore (pc := 151) (lv' := [some (vR 79), none, some (vI v2), some (vI v3), some (vI v4), some (vI x1), some (vI s0), some (vI x2), some (vI v8), none, none]) dX10_let_151 (lt9 rfl) rfl rfl ?_
  exact Ev.weak2 (lj_X10_let_153 N K_58 hK_58 _ _ _ _ _ _ _ _ _ _ h) (lsubS (lsubN (lsubS (lsubS (lsubS (lsubS (lsubS (lsubS (lsubS (lsubN (lsubN lsubE)))))))))))
theorem ll_X10_let_72 (N : Nat) (K_58 : Int32 → Int32 → Int32 → Int32 → Int32 → Int32 → Int32 → St → Option (Int32 × St)) (hK_58 : ∀ (v2 : Int32) (v3 : Int32) (v4 : Int32) (v5 : Int32) (v6 : Int32) (v7 : Int32) (v8 : Int32) (σ : St) (v : Int32) (w : St), K_58 v2 v3 v4 v5 v6 v7 v8 σ = some (v, w) → Ev md_X10_let 2 58 [some (vR 79), none, some (vI v2), some (vI v3), some (vI v4), some (vI v5), some (vI v6), some (vI v7), some (vI v8), none, none] [] SH σ (some (vI v), SH, w)) : ∀ (n : Nat) (v2 : Int32) (v3 : Int32) (v4 : Int32) (v5 : Int32) (v6 : Int32) (v7 : Int32) (v8 : Int32) (v9 : Int32) (v10 : Int32) (σ : St) (v : Int32) (w : St), l_X10_let_72 N K_58 n v2 v3 v4 v5 v6 v7 v8 v9 v10 σ = some (v, w) → Ev md_X10_let 2 72 [some (vR 79), none, some (vI v2), some (vI v3), some (vI v4), some (vI v5), some (vI v6), some (vI v7), some (vI v8), some (vI v9), some (vI v10)] [] SH σ (some (vI v), SH, w) := by
  intro n
  induction n with
  | zero =>
    intro v2 v3 v4 v5 v6 v7 v8 v9 v10 σ v w h
    rw [l_X10_let_72] at h
    cases h
  | succ n ih =>
    intro v2 v3 v4 v5 v6 v7 v8 v9 v10 σ v w h
    rw [l_X10_let_72] at h
    refine Ev.iload (pc := 72) dX10_let_72 rfl ?_
    refine Ev.aload_n (pc := 74) dX10_let_74 rfl rfl ?_
    refine Ev.getI (pc := 75) dX10_let_75 fl_X10_175 sh_79 rfl ?_
    by_cases c1 : (σ 79 5) ≤ v10
    · replace h := (if_pos c1).symm.trans h
      refine Ev.icmp_ge_t (pc := 78) (tgt := 113) dX10_let_78 rfl c1 ?_
      refine Ev.iload (pc := 113) dX10_let_113 rfl ?_
      refine Ev.iload (pc := 115) dX10_let_115 rfl ?_
      refine Ev.iconst (pc := 117) (v := (-1)) dX10_let_117 ki_m1 ?_
      refine Ev.ixor (pc := 118) dX10_let_118 ?_
      refine Ev.iand (pc := 119) dX10_let_119 ?_
      by_cases c2 : (v8 &&& (v4 ^^^ (-1))) = 0
      · replace h := (if_pos c2).symm.trans h
        refine Ev.if_ne_f (pc := 120) dX10_let_120 ⟨153, rfl⟩ c2 ?_
        refine Ev.iload (pc := 123) dX10_let_123 rfl ?_
        refine Ev.iload_n (pc := 125) dX10_let_125 rfl rfl ?_
        by_cases c3 : v9 = v2
        · replace h := (if_pos c3).symm.trans h
          refine Ev.icmp_ne_f (pc := 126) dX10_let_126 ⟨153, rfl⟩ c3 ?_
          refine Ev.iload (pc := 129) dX10_let_129 rfl ?_
          by_cases c4 : v5 = 0
          · replace h := (if_pos c4).symm.trans h
            refine Ev.if_ne_f (pc := 131) dX10_let_131 ⟨139, rfl⟩ c4 ?_
            refine Ev.iload (pc := 134) dX10_let_134 rfl ?_
            refine Ev.goto (pc := 136) (tgt := 141) dX10_let_136 rfl ?_
            exact Ev.weak2 (lj_X10_let_141 N K_58 hK_58 _ _ _ _ _ _ _ _ _ _ h) (lsubS (lsubN (lsubS (lsubS (lsubS (lsubS (lsubN (lsubS (lsubS (lsubN (lsubN lsubE)))))))))))
          · replace h := (if_neg c4).symm.trans h
            refine Ev.if_ne_t (pc := 131) (tgt := 139) dX10_let_131 rfl c4 ?_
            refine Ev.iload (pc := 139) dX10_let_139 rfl ?_
            exact Ev.weak2 (lj_X10_let_141 N K_58 hK_58 _ _ _ _ _ _ _ _ _ _ h) (lsubS (lsubN (lsubS (lsubS (lsubS (lsubS (lsubN (lsubS (lsubS (lsubN (lsubN lsubE)))))))))))
        · replace h := (if_neg c3).symm.trans h
          refine Ev.icmp_ne_t (pc := 126) (tgt := 153) dX10_let_126 rfl c3 ?_
          exact Ev.weak2 (lj_X10_let_153 N K_58 hK_58 _ _ _ _ _ _ _ _ _ _ h) (lsubS (lsubN (lsubS (lsubS (lsubS (lsubS (lsubS (lsubS (lsubS (lsubN (lsubN lsubE)))))))))))
      · replace h := (if_neg c2).symm.trans h
        refine Ev.if_ne_t (pc := 120) (tgt := 153) dX10_let_120 rfl c2 ?_
        exact Ev.weak2 (lj_X10_let_153 N K_58 hK_58 _ _ _ _ _ _ _ _ _ _ h) (lsubS (lsubN (lsubS (lsubS (lsubS (lsubS (lsubS (lsubS (lsubS (lsubN (lsubN lsubE)))))))))))
    · replace h := (if_neg c1).symm.trans h
      refine Ev.icmp_ge_f (pc := 78) dX10_let_78 ⟨113, rfl⟩ c1 ?_
      refine Ev.iload (pc := 81) dX10_let_81 rfl ?_
      refine Ev.iload (pc := 83) dX10_let_83 rfl ?_
      refine Ev.iload (pc := 85) dX10_let_85 rfl ?_
      refine Ev.cTi (pc := 87) (av := [vI v8, vI v10]) (rest := [vI v9]) dX10_let_87 ce_X10_has ml_X10_232 rfl sh_sc (Nat.le_of_ble_eq_true rfl) (Nat.le_of_ble_eq_true rfl) (r_X10_has _ _ _) ?_
      by_cases c5 : (p_X10_has v8 v10 σ) = 0
      · replace h := (if_pos c5).symm.trans h
        refine Ev.if_eq_t (pc := 90) (tgt := 103) dX10_let_90 rfl c5 ?_
        refine Ev.iconst (pc := 103) (v := 0) dX10_let_103 ki_0 ?_
        exact Ev.weak2 (lj_X10_let_104 N K_58 (l_X10_let_72 N K_58 n) hK_58 ih _ _ _ _ _ _ _ _ _ _ _ _ _ h) (lsubS (lsubN (lsubS (lsubS (lsubS (lsubS (lsubS (lsubS (lsubS (lsubN (lsubS lsubE)))))))))))
      · replace h := (if_neg c5).symm.trans h
        refine Ev.if_eq_f (pc := 90) dX10_let_90 ⟨103, rfl⟩ c5 ?_
        refine Ev.aload_n (pc := 93) dX10_let_93 rfl rfl ?_
        refine Ev.getR (pc := 94) dX10_let_94 fl_X10_41 sh_79 rfl ?_
        refine Ev.iload (pc := 97) dX10_let_97 rfl ?_
        obtain ⟨c6, h⟩ := ckA_elim h
        refine Ev.iald (pc := 99) dX10_let_99 sh_90 c6 ?_
        refine Ev.goto (pc := 100) (tgt := 104) dX10_let_100 rfl ?_
        exact Ev.weak2 (lj_X10_let_104 N K_58 (l_X10_let_72 N K_58 n) hK_58 ih _ _ _ _ _ _ _ _ _ _ _ _ _ h) (lsubS (lsubN (lsubS (lsubS (lsubS (lsubS (lsubS (lsubS (lsubS (lsubN (lsubS lsubE)))))))))))
theorem ll_X10_let_58 (N : Nat) : ∀ (n : Nat) (v2 : Int32) (v3 : Int32) (v4 : Int32) (v5 : Int32) (v6 : Int32) (v7 : Int32) (v8 : Int32) (σ : St) (v : Int32) (w : St), l_X10_let_58 N n v2 v3 v4 v5 v6 v7 v8 σ = some (v, w) → Ev md_X10_let 2 58 [some (vR 79), none, some (vI v2), some (vI v3), some (vI v4), some (vI v5), some (vI v6), some (vI v7), some (vI v8), none, none] [] SH σ (some (vI v), SH, w) := by
  intro n
  induction n with
  | zero =>
    intro v2 v3 v4 v5 v6 v7 v8 σ v w h
    rw [l_X10_let_58] at h
    cases h
  | succ n ih =>
    intro v2 v3 v4 v5 v6 v7 v8 σ v w h
    rw [l_X10_let_58] at h
    refine Ev.iload (pc := 58) dX10_let_58 rfl ?_
    refine Ev.sipush (pc := 60) (v := 128) dX10_let_60 ks_128 ?_
    by_cases c1 : (128 : Int32) ≤ v8
    · replace h := (if_pos c1).symm.trans h
      refine Ev.icmp_ge_t (pc := 63) (tgt := 159) dX10_let_63 rfl c1 ?_
      refine Ev.iload_n (pc := 159) dX10_let_159 rfl rfl ?_
      by_cases c2 : v3 = 0
      · replace h := (if_pos c2).symm.trans h
        refine Ev.if_ne_f (pc := 160) dX10_let_160 ⟨168, rfl⟩ c2 ?_
        refine Ev.iload (pc := 163) dX10_let_163 rfl ?_
        refine Ev.goto (pc := 165) (tgt := 189) dX10_let_165 rfl ?_
        obtain ⟨h1, h2⟩ := oeq h
        subst h1
        subst h2
        exact Ev.ret_i (pc := 189) dX10_let_189 rfl rfl
      · replace h := (if_neg c2).symm.trans h
        refine Ev.if_ne_t (pc := 160) (tgt := 168) dX10_let_160 rfl c2 ?_
        refine Ev.iload_n (pc := 168) dX10_let_168 rfl rfl ?_
        refine Ev.iconst (pc := 169) (v := 1) dX10_let_169 ki_1 ?_
        by_cases c3 : v3 = 1
        · replace h := (if_pos c3).symm.trans h
          refine Ev.icmp_ne_f (pc := 170) dX10_let_170 ⟨178, rfl⟩ c3 ?_
          refine Ev.iload (pc := 173) dX10_let_173 rfl ?_
          refine Ev.goto (pc := 175) (tgt := 189) dX10_let_175 rfl ?_
          obtain ⟨h1, h2⟩ := oeq h
          subst h1
          subst h2
          exact Ev.ret_i (pc := 189) dX10_let_189 rfl rfl
        · replace h := (if_neg c3).symm.trans h
          refine Ev.icmp_ne_t (pc := 170) (tgt := 178) dX10_let_170 rfl c3 ?_
          refine Ev.iload (pc := 178) dX10_let_178 rfl ?_
          by_cases c4 : v5 = 0
          · replace h := (if_pos c4).symm.trans h
            refine Ev.if_ne_f (pc := 180) dX10_let_180 ⟨187, rfl⟩ c4 ?_
            refine Ev.iconst (pc := 183) (v := 0) dX10_let_183 ki_0 ?_
            refine Ev.goto (pc := 184) (tgt := 189) dX10_let_184 rfl ?_
            obtain ⟨h1, h2⟩ := oeq h
            subst h1
            subst h2
            exact Ev.ret_i (pc := 189) dX10_let_189 rfl rfl
          · replace h := (if_neg c4).symm.trans h
            refine Ev.if_ne_t (pc := 180) (tgt := 187) dX10_let_180 rfl c4 ?_
            refine Ev.iload (pc := 187) dX10_let_187 rfl ?_
            obtain ⟨h1, h2⟩ := oeq h
            subst h1
            subst h2
            exact Ev.ret_i (pc := 189) dX10_let_189 rfl rfl
    · replace h := (if_neg c1).symm.trans h
      refine Ev.icmp_ge_f (pc := 63) dX10_let_63 ⟨159, rfl⟩ c1 ?_
      refine Ev.iconst (pc := 66) (v := 0) dX10_let_66 ki_0 ?_
      refine Ev.istore (pc := 67) (lv' := [some (vR 79), none, some (vI v2), some (vI v3), some (vI v4), some (vI v5), some (vI v6), some (vI v7), some (vI v8), some (vI 0), none]) dX10_let_67 (lt9 rfl) rfl rfl ?_
      refine Ev.iconst (pc := 69) (v := 0) dX10_let_69 ki_0 ?_
      refine Ev.istore (pc := 70) (lv' := [some (vR 79), none, some (vI v2), some (vI v3), some (vI v4), some (vI v5), some (vI v6), some (vI v7), some (vI v8), some (vI 0), some (vI 0)]) dX10_let_70 (lt9 rfl) rfl rfl ?_
      exact Ev.weak2 (ll_X10_let_72 N (l_X10_let_58 N n) ih N _ _ _ _ _ _ _ _ _ _ _ _ h) (lsubS (lsubN (lsubS (lsubS (lsubS (lsubS (lsubS (lsubS (lsubS (lsubS (lsubS lsubE)))))))))))
theorem e_X10_let (N : Nat) (a1 : Int32) (a2 : Int32) (a3 : Int32) (σ : St) (v : Int32) (w : St) (h : o_X10_let N a1 a2 a3 σ = some (v, w)) : Ev md_X10_let 2 0 (lvE [vR 79, vI a1, vI a2, vI a3] 11) [] SH σ (some (vI v), SH, w) := by
  show Ev md_X10_let 2 0 [some (vR 79), some (vI a1), some (vI a2), some (vI a3), none, none, none, none, none, none, none] [] SH σ (some (vI v), SH, w)
  unfold o_X10_let at h
  refine Ev.aload_n (pc := 0) dX10_let_0 rfl rfl ?_
  refine Ev.iload_n (pc := 1) dX10_let_1 rfl rfl ?_
  obtain ⟨x1, σ2, g3, h⟩ := bd_elim h
  refine Ev.cVi (pc := 2) (k := 79) (av := [vI a1]) (rest := []) dX10_let_2 ce_X10_isKeeper ml_X10_206 rfl sh_79 cl_X10 sh_sc (Nat.le_of_ble_eq_true rfl) (Nat.le_of_ble_eq_true rfl) (r_X10_isKeeper g3) ?_
  by_cases c4 : x1 = 0
  · replace h := (if_pos c4).symm.trans h
    refine Ev.if_ne_f (pc := 5) dX10_let_5 ⟨11, rfl⟩ c4 ?_
    refine Ev.ldc (pc := 8) dX10_let_8 kc_X10_205 ?_
    obtain ⟨h1, h2⟩ := oeq h
    subst h1
    subst h2
    exact Ev.ret_i (pc := 10) dX10_let_10 rfl rfl
  · replace h := (if_neg c4).symm.trans h
    refine Ev.if_ne_t (pc := 5) (tgt := 11) dX10_let_5 rfl c4 ?_
    refine Ev.iload_n (pc := 11) dX10_let_11 rfl rfl ?_
    refine Ev.i2l (pc := 12) dX10_let_12 ?_
    refine Ev.lconst (pc := 13) (v := 0) dX10_let_13 kL_0 ?_
    refine Ev.ldc2 (pc := 14) dX10_let_14 kl_X10_247 ?_
    refine Ev.cTi (pc := 17) (av := [vL a2.toInt64, vL 0, vL 99]) (rest := []) dX10_let_17 ce_X10_in ml_X10_89 rfl sh_sc (Nat.le_of_ble_eq_true rfl) (Nat.le_of_ble_eq_true rfl) (r_X10_in _ _ _ _) ?_
    by_cases c5 : (p_X10_in a2.toInt64 0 99 σ2) = 0
    · replace h := (if_pos c5).symm.trans h
      refine Ev.if_eq_t (pc := 20) (tgt := 35) dX10_let_20 rfl c5 ?_
      refine Ev.ldc (pc := 35) dX10_let_35 kc_X10_93 ?_
      obtain ⟨h1, h2⟩ := oeq h
      subst h1
      subst h2
      exact Ev.ret_i (pc := 37) dX10_let_37 rfl rfl
    · replace h := (if_neg c5).symm.trans h
      refine Ev.if_eq_f (pc := 20) dX10_let_20 ⟨35, rfl⟩ c5 ?_
      refine Ev.iload_n (pc := 23) dX10_let_23 rfl rfl ?_
      refine Ev.i2l (pc := 24) dX10_let_24 ?_
      refine Ev.lconst (pc := 25) (v := 0) dX10_let_25 kL_0 ?_
      refine Ev.ldc2 (pc := 26) dX10_let_26 kl_X10_218 ?_
      refine Ev.cTi (pc := 29) (av := [vL a3.toInt64, vL 0, vL 2]) (rest := []) dX10_let_29 ce_X10_in ml_X10_89 rfl sh_sc (Nat.le_of_ble_eq_true rfl) (Nat.le_of_ble_eq_true rfl) (r_X10_in _ _ _ _) ?_
      by_cases c6 : (p_X10_in a3.toInt64 0 2 σ2) = 0
      · replace h := (if_pos c6).symm.trans h
        refine Ev.if_ne_f (pc := 32) dX10_let_32 ⟨38, rfl⟩ c6 ?_
        refine Ev.ldc (pc := 35) dX10_let_35 kc_X10_93 ?_
        obtain ⟨h1, h2⟩ := oeq h
        subst h1
        subst h2
        exact Ev.ret_i (pc := 37) dX10_let_37 rfl rfl
      · replace h := (if_neg c6).symm.trans h
        refine Ev.if_ne_t (pc := 32) (tgt := 38) dX10_let_32 rfl c6 ?_
        refine Ev.aload_n (pc := 38) dX10_let_38 rfl rfl ?_
        refine Ev.iload_n (pc := 39) dX10_let_39 rfl rfl ?_
        obtain ⟨x7, σ8, g9, h⟩ := bd_elim h
        refine Ev.cVi (pc := 40) (k := 79) (av := [vI a1]) (rest := []) dX10_let_40 ce_X10_ofKeeper ml_X10_209 rfl sh_79 cl_X10 sh_sc (Nat.le_of_ble_eq_true rfl) (Nat.le_of_ble_eq_true rfl) (r_X10_ofKeeper g9) ?_
        refine Ev.istore (pc := 43) (lv' := [some (vR 79), some (vI a1), some (vI a2), some (vI a3), some (vI x7), none, none, none, none, none, none]) dX10_let_43 (lt9 rfl) rfl rfl ?_
        refine Ev.iconst (pc := 45) (v := 0) dX10_let_45 ki_0 ?_
        refine Ev.istore (pc := 46) (lv' := [some (vR 79), some (vI a1), some (vI a2), some (vI a3), some (vI x7), some (vI 0), none, none, none, none, none]) dX10_let_46 (lt9 rfl) rfl rfl ?_
        refine Ev.iconst (pc := 48) (v := (-1)) dX10_let_48 ki_m1 ?_
        refine Ev.istore (pc := 49) (lv' := [some (vR 79), some (vI a1), some (vI a2), some (vI a3), some (vI x7), some (vI 0), some (vI (-1)), none, none, none, none]) dX10_let_49 (lt9 rfl) rfl rfl ?_
        refine Ev.bipush (pc := 51) (v := 127) dX10_let_51 kb_127 ?_
        refine Ev.istore (pc := 53) (lv' := [some (vR 79), some (vI a1), some (vI a2), some (vI a3), some (vI x7), some (vI 0), some (vI (-1)), some (vI 127), none, none, none]) dX10_let_53 (lt9 rfl) rfl rfl ?_
        refine Ev.iconst (pc := 55) (v := 0) dX10_let_55 ki_0 ?_
        refine Ev.istore (pc := 56) (lv' := [some (vR 79), some (vI a1), some (vI a2), some (vI a3), some (vI x7), some (vI 0), some (vI (-1)), some (vI 127), some (vI 0), none, none]) dX10_let_56 (lt9 rfl) rfl rfl ?_
        exact Ev.weak2 (ll_X10_let_58 N N _ _ _ _ _ _ _ _ _ _ h) (lsubS (lsubN (lsubS (lsubS (lsubS (lsubS (lsubS (lsubS (lsubS (lsubN (lsubN lsubE)))))))))))
theorem r_X10_let {N : Nat} {a1 : Int32} {a2 : Int32} {a3 : Int32} {σ : St} {v : Int32} {w : St} (h : o_X10_let N a1 a2 a3 σ = some (v, w)) : Rn md_X10_let 2 [vR 79, vI a1, vI a2, vI a3] SH σ (some (vI v), SH, w) := Rn.of ce_X10_let.1 (Nat.le_of_ble_eq_true rfl) (e_X10_let N _ _ _ _ _ _ h)
def t_X0_add (a1 : Int32) (a2 : Int32) (σ : St) : Int32 × St := bt (put_ σ 75 20 (σ 74 4) a1) fun σ1 => bt (put_ σ1 76 20 (σ1 74 4) a2) fun σ2 => bt (st σ2 74 4 ((σ2 74 4) + 1)) fun σ3 => ((σ3 74 4), σ3)
theorem e_X0_add (a1 : Int32) (a2 : Int32) (σ : St) (q : Int32 × St) (h : t_X0_add a1 a2 σ = q) : Ev md_X0_add 1 0 (lvE [vR 74, vI a1, vI a2] 3) [] SH σ (some (vI q.1), SH, q.2) := by
  show Ev md_X0_add 1 0 [some (vR 74), some (vI a1), some (vI a2)] [] SH σ (some (vI q.1), SH, q.2)
  unfold t_X0_add at h
  refine Ev.aload_n (pc := 0) dX0_add_0 rfl rfl ?_
  refine Ev.getR (pc := 1) dX0_add_1 fl_X0_9 sh_74 rfl ?_
  refine Ev.aload_n (pc := 4) dX0_add_4 rfl rfl ?_
  refine Ev.getI (pc := 5) dX0_add_5 fl_X0_31 sh_74 rfl ?_
  refine Ev.iload_n (pc := 8) dX0_add_8 rfl rfl ?_
  refine Ev.cTv (pc := 9) (av := [vR 75, vI (σ 74 4), vI a1]) (rest := []) dX0_add_9 ce_X9_put ml_X0_35 rfl sh_sc (Nat.le_of_ble_eq_true rfl) (Nat.le_of_ble_eq_true rfl) (r_put sh_75 (by decide) _ _ _) ?_
  refine Ev.nmS (fun σ1 e9 => ?_)
  replace h := bt_app h σ1 e9
  refine Ev.aload_n (pc := 12) dX0_add_12 rfl rfl ?_
  refine Ev.getR (pc := 13) dX0_add_13 fl_X0_15 sh_74 rfl ?_
  refine Ev.aload_n (pc := 16) dX0_add_16 rfl rfl ?_
  refine Ev.getI (pc := 17) dX0_add_17 fl_X0_31 sh_74 rfl ?_
  refine Ev.iload_n (pc := 20) dX0_add_20 rfl rfl ?_
  refine Ev.cTv (pc := 21) (av := [vR 76, vI (σ1 74 4), vI a2]) (rest := []) dX0_add_21 ce_X9_put ml_X0_35 rfl sh_sc (Nat.le_of_ble_eq_true rfl) (Nat.le_of_ble_eq_true rfl) (r_put sh_76 (by decide) _ _ _) ?_
  refine Ev.nmS (fun σ2 e9 => ?_)
  replace h := bt_app h σ2 e9
  refine Ev.aload_n (pc := 24) dX0_add_24 rfl rfl ?_
  refine Ev.dup (pc := 25) dX0_add_25 rfl ?_
  refine Ev.getI (pc := 26) dX0_add_26 fl_X0_31 sh_74 rfl ?_
  refine Ev.iconst (pc := 29) (v := 1) dX0_add_29 ki_1 ?_
  refine Ev.iadd (pc := 30) dX0_add_30 ?_
  refine Ev.putI (pc := 31) dX0_add_31 pl_X0_31 sh_74 rfl rfl rfl ?_
  refine Ev.nmS (fun σ3 e9 => ?_)
  replace h := bt_app h σ3 e9
  refine Ev.aload_n (pc := 34) dX0_add_34 rfl rfl ?_
  refine Ev.getI (pc := 35) dX0_add_35 fl_X0_31 sh_74 rfl ?_
  subst h
  exact Ev.ret_i (pc := 38) dX0_add_38 rfl rfl
theorem r_X0_add (a1 : Int32) (a2 : Int32) (σ : St) : Rn md_X0_add 1 [vR 74, vI a1, vI a2] SH σ (some (vI (t_X0_add a1 a2 σ).1), SH, (t_X0_add a1 a2 σ).2) := Rn.of ce_X0_add.1 (Nat.le_of_ble_eq_true rfl) (e_X0_add _ _ _ _ rfl)
def t_X9_write (a1 : Int32) (a2 : Int32) (σ : St) : Int32 × St := if (p_X5_hasPromise a1 σ) = 0 then (((-1000000001), σ)) else (if a2 < 0 then (((-1000000002), σ)) else (if a2 ≤ 9999 then (if (σ 74 4) < 20 then (bt (t_X0_add a1 a2 σ) fun q5 => (q5.1, q5.2)) else (((-1000000004), σ))) else (((-1000000002), σ))))
theorem e_X9_write (a1 : Int32) (a2 : Int32) (σ : St) (q : Int32 × St) (h : t_X9_write a1 a2 σ = q) : Ev md_X9_write 2 0 (lvE [vR 0, vI a1, vI a2] 3) [] SH σ (some (vI q.1), SH, q.2) := by
  show Ev md_X9_write 2 0 [some (vR 0), some (vI a1), some (vI a2)] [] SH σ (some (vI q.1), SH, q.2)
  unfold t_X9_write at h
  refine Ev.aload_n (pc := 0) dX9_write_0 rfl rfl ?_
  refine Ev.getR (pc := 1) dX9_write_1 fl_X9_10 sh_0 rfl ?_
  refine Ev.iload_n (pc := 4) dX9_write_4 rfl rfl ?_
  refine Ev.cVi (pc := 5) (k := 1) (av := [vI a1]) (rest := []) dX9_write_5 ce_X5_hasPromise ml_X9_170 rfl sh_1 cl_X5 sh_sc (Nat.le_of_ble_eq_true rfl) (Nat.le_of_ble_eq_true rfl) (r_X5_hasPromise _ _) ?_
  by_cases c1 : (p_X5_hasPromise a1 σ) = 0
  · replace h := (if_pos c1).symm.trans h
    refine Ev.if_ne_f (pc := 8) dX9_write_8 ⟨14, rfl⟩ c1 ?_
    refine Ev.ldc (pc := 11) dX9_write_11 kc_X9_145 ?_
    subst h
    exact Ev.ret_i (pc := 13) dX9_write_13 rfl rfl
  · replace h := (if_neg c1).symm.trans h
    refine Ev.if_ne_t (pc := 8) (tgt := 14) dX9_write_8 rfl c1 ?_
    refine Ev.iload_n (pc := 14) dX9_write_14 rfl rfl ?_
    by_cases c2 : a2 < 0
    · replace h := (if_pos c2).symm.trans h
      refine Ev.if_lt_t (pc := 15) (tgt := 25) dX9_write_15 rfl c2 ?_
      refine Ev.ldc (pc := 25) dX9_write_25 kc_X9_81 ?_
      subst h
      exact Ev.ret_i (pc := 27) dX9_write_27 rfl rfl
    · replace h := (if_neg c2).symm.trans h
      refine Ev.if_lt_f (pc := 15) dX9_write_15 ⟨25, rfl⟩ c2 ?_
      refine Ev.iload_n (pc := 18) dX9_write_18 rfl rfl ?_
      refine Ev.sipush (pc := 19) (v := 9999) dX9_write_19 ks_9999 ?_
      by_cases c3 : a2 ≤ 9999
      · replace h := (if_pos c3).symm.trans h
        refine Ev.icmp_le_t (pc := 22) (tgt := 28) dX9_write_22 rfl c3 ?_
        refine Ev.aload_n (pc := 28) dX9_write_28 rfl rfl ?_
        refine Ev.getR (pc := 29) dX9_write_29 fl_X9_77 sh_0 rfl ?_
        refine Ev.getI (pc := 32) dX9_write_32 fl_X9_132 sh_74 rfl ?_
        refine Ev.bipush (pc := 35) (v := 20) dX9_write_35 kb_20 ?_
        by_cases c4 : (σ 74 4) < 20
        · replace h := (if_pos c4).symm.trans h
          refine Ev.icmp_lt_t (pc := 37) (tgt := 45) dX9_write_37 rfl c4 ?_
          refine Ev.aload_n (pc := 45) dX9_write_45 rfl rfl ?_
          refine Ev.getR (pc := 46) dX9_write_46 fl_X9_77 sh_0 rfl ?_
          refine Ev.iload_n (pc := 49) dX9_write_49 rfl rfl ?_
          refine Ev.iload_n (pc := 50) dX9_write_50 rfl rfl ?_
          refine Ev.cVi (pc := 51) (k := 74) (av := [vI a1, vI a2]) (rest := []) dX9_write_51 ce_X0_add ml_X9_298 rfl sh_74 cl_X0 sh_sc (Nat.le_of_ble_eq_true rfl) (Nat.le_of_ble_eq_true rfl) (r_X0_add _ _ _) ?_
          refine Ev.nmQ (fun q5 e9 => ?_)
          replace h := bt_app h q5 e9
          subst h
          exact Ev.ret_i (pc := 54) dX9_write_54 rfl rfl
        · replace h := (if_neg c4).symm.trans h
          refine Ev.icmp_lt_f (pc := 37) dX9_write_37 ⟨45, rfl⟩ c4 ?_
          refine Ev.ldc (pc := 40) dX9_write_40 kc_X9_86 ?_
          refine Ev.goto (pc := 42) (tgt := 54) dX9_write_42 rfl ?_
          subst h
          exact Ev.ret_i (pc := 54) dX9_write_54 rfl rfl
      · replace h := (if_neg c3).symm.trans h
        refine Ev.icmp_le_f (pc := 22) dX9_write_22 ⟨28, rfl⟩ c3 ?_
        refine Ev.ldc (pc := 25) dX9_write_25 kc_X9_81 ?_
        subst h
        exact Ev.ret_i (pc := 27) dX9_write_27 rfl rfl
theorem r_X9_write (a1 : Int32) (a2 : Int32) (σ : St) : Rn md_X9_write 2 [vR 0, vI a1, vI a2] SH σ (some (vI (t_X9_write a1 a2 σ).1), SH, (t_X9_write a1 a2 σ).2) := Rn.of ce_X9_write.1 (Nat.le_of_ble_eq_true rfl) (e_X9_write _ _ _ _ rfl)
def o_X10_write (N : Nat) (a1 : Int32) (a2 : Int32) (σ : St) : Option (Int32 × St) := bd (o_X10_isPromise N a1 σ) fun x1 σ2 => if x1 = 0 then (some ((-1000000001), σ2)) else (if (p_X10_in a2.toInt64 0 9999 σ2) = 0 then (some ((-1000000002), σ2)) else (if (σ2 79 44) = 20 then (some ((-1000000004), σ2)) else (ckA (σ2 79 44) 20 (bt (st σ2 102 (σ2 79 44).toNatClampNeg a1) fun σ8 => ckA (σ8 79 44) 20 (bt (st σ8 103 (σ8 79 44).toNatClampNeg a2) fun σ10 => bt (st σ10 79 44 ((σ10 79 44) + 1)) fun σ11 => some ((σ11 79 44), σ11))))))
theorem e_X10_write (N : Nat) (a1 : Int32) (a2 : Int32) (σ : St) (v : Int32) (w : St) (h : o_X10_write N a1 a2 σ = some (v, w)) : Ev md_X10_write 2 0 (lvE [vR 79, vI a1, vI a2] 3) [] SH σ (some (vI v), SH, w) := by
  show Ev md_X10_write 2 0 [some (vR 79), some (vI a1), some (vI a2)] [] SH σ (some (vI v), SH, w)
  unfold o_X10_write at h
  refine Ev.aload_n (pc := 0) dX10_write_0 rfl rfl ?_
  refine Ev.iload_n (pc := 1) dX10_write_1 rfl rfl ?_
  obtain ⟨x1, σ2, g3, h⟩ := bd_elim h
  refine Ev.cVi (pc := 2) (k := 79) (av := [vI a1]) (rest := []) dX10_write_2 ce_X10_isPromise ml_X10_212 rfl sh_79 cl_X10 sh_sc (Nat.le_of_ble_eq_true rfl) (Nat.le_of_ble_eq_true rfl) (r_X10_isPromise g3) ?_
  by_cases c4 : x1 = 0
  · replace h := (if_pos c4).symm.trans h
    refine Ev.if_ne_f (pc := 5) dX10_write_5 ⟨11, rfl⟩ c4 ?_
    refine Ev.ldc (pc := 8) dX10_write_8 kc_X10_205 ?_
    obtain ⟨h1, h2⟩ := oeq h
    subst h1
    subst h2
    exact Ev.ret_i (pc := 10) dX10_write_10 rfl rfl
  · replace h := (if_neg c4).symm.trans h
    refine Ev.if_ne_t (pc := 5) (tgt := 11) dX10_write_5 rfl c4 ?_
    refine Ev.iload_n (pc := 11) dX10_write_11 rfl rfl ?_
    refine Ev.i2l (pc := 12) dX10_write_12 ?_
    refine Ev.lconst (pc := 13) (v := 0) dX10_write_13 kL_0 ?_
    refine Ev.ldc2 (pc := 14) dX10_write_14 kl_X10_331 ?_
    refine Ev.cTi (pc := 17) (av := [vL a2.toInt64, vL 0, vL 9999]) (rest := []) dX10_write_17 ce_X10_in ml_X10_89 rfl sh_sc (Nat.le_of_ble_eq_true rfl) (Nat.le_of_ble_eq_true rfl) (r_X10_in _ _ _ _) ?_
    by_cases c5 : (p_X10_in a2.toInt64 0 9999 σ2) = 0
    · replace h := (if_pos c5).symm.trans h
      refine Ev.if_ne_f (pc := 20) dX10_write_20 ⟨26, rfl⟩ c5 ?_
      refine Ev.ldc (pc := 23) dX10_write_23 kc_X10_93 ?_
      obtain ⟨h1, h2⟩ := oeq h
      subst h1
      subst h2
      exact Ev.ret_i (pc := 25) dX10_write_25 rfl rfl
    · replace h := (if_neg c5).symm.trans h
      refine Ev.if_ne_t (pc := 20) (tgt := 26) dX10_write_20 rfl c5 ?_
      refine Ev.aload_n (pc := 26) dX10_write_26 rfl rfl ?_
      refine Ev.getI (pc := 27) dX10_write_27 fl_X10_181 sh_79 rfl ?_
      refine Ev.bipush (pc := 30) (v := 20) dX10_write_30 kb_20 ?_
      by_cases c6 : (σ2 79 44) = 20
      · replace h := (if_pos c6).symm.trans h
        refine Ev.icmp_ne_f (pc := 32) dX10_write_32 ⟨38, rfl⟩ c6 ?_
        refine Ev.ldc (pc := 35) dX10_write_35 kc_X10_97 ?_
        obtain ⟨h1, h2⟩ := oeq h
        subst h1
        subst h2
        exact Ev.ret_i (pc := 37) dX10_write_37 rfl rfl
      · replace h := (if_neg c6).symm.trans h
        refine Ev.icmp_ne_t (pc := 32) (tgt := 38) dX10_write_32 rfl c6 ?_
        refine Ev.aload_n (pc := 38) dX10_write_38 rfl rfl ?_
        refine Ev.getR (pc := 39) dX10_write_39 fl_X10_81 sh_79 rfl ?_
        refine Ev.aload_n (pc := 42) dX10_write_42 rfl rfl ?_
        refine Ev.getI (pc := 43) dX10_write_43 fl_X10_181 sh_79 rfl ?_
        refine Ev.iload_n (pc := 46) dX10_write_46 rfl rfl ?_
        obtain ⟨c7, h⟩ := ckA_elim h
        refine Ev.iast (pc := 47) dX10_write_47 sh_102 c7 ?_
        refine Ev.nmS (fun σ8 e9 => ?_)
        replace h := bt_app h σ8 e9
        refine Ev.aload_n (pc := 48) dX10_write_48 rfl rfl ?_
        refine Ev.getR (pc := 49) dX10_write_49 fl_X10_84 sh_79 rfl ?_
        refine Ev.aload_n (pc := 52) dX10_write_52 rfl rfl ?_
        refine Ev.getI (pc := 53) dX10_write_53 fl_X10_181 sh_79 rfl ?_
        refine Ev.iload_n (pc := 56) dX10_write_56 rfl rfl ?_
        obtain ⟨c9, h⟩ := ckA_elim h
        refine Ev.iast (pc := 57) dX10_write_57 sh_103 c9 ?_
        refine Ev.nmS (fun σ10 e9 => ?_)
        replace h := bt_app h σ10 e9
        refine Ev.aload_n (pc := 58) dX10_write_58 rfl rfl ?_
        refine Ev.dup (pc := 59) dX10_write_59 rfl ?_
        refine Ev.getI (pc := 60) dX10_write_60 fl_X10_181 sh_79 rfl ?_
        refine Ev.iconst (pc := 63) (v := 1) dX10_write_63 ki_1 ?_
        refine Ev.iadd (pc := 64) dX10_write_64 ?_
        refine Ev.putI (pc := 65) dX10_write_65 pl_X10_181 sh_79 rfl rfl rfl ?_
        refine Ev.nmS (fun σ11 e9 => ?_)
        replace h := bt_app h σ11 e9
        refine Ev.aload_n (pc := 68) dX10_write_68 rfl rfl ?_
        refine Ev.getI (pc := 69) dX10_write_69 fl_X10_181 sh_79 rfl ?_
        obtain ⟨h1, h2⟩ := oeq h
        subst h1
        subst h2
        exact Ev.ret_i (pc := 72) dX10_write_72 rfl rfl
theorem r_X10_write {N : Nat} {a1 : Int32} {a2 : Int32} {σ : St} {v : Int32} {w : St} (h : o_X10_write N a1 a2 σ = some (v, w)) : Rn md_X10_write 2 [vR 79, vI a1, vI a2] SH σ (some (vI v), SH, w) := Rn.of ce_X10_write.1 (Nat.le_of_ble_eq_true rfl) (e_X10_write N _ _ _ _ _ h)
def p_X1_holderOf_77 (a1 : Int32) (σ : St) : Int32 := (at_ σ 78 31 (15 + a1))
theorem e_X1_holderOf_77 (a1 : Int32) (σ : St) (v : Int32) (h : p_X1_holderOf_77 a1 σ = v) : Ev md_X1_holderOf 1 0 (lvE [vR 77, vI a1] 2) [] SH σ (some (vI v), SH, σ) := by
  show Ev md_X1_holderOf 1 0 [some (vR 77), some (vI a1)] [] SH σ (some (vI v), SH, σ)
  unfold p_X1_holderOf_77 at h
  refine Ev.aload_n (pc := 0) dX1_holderOf_0 rfl rfl ?_
  refine Ev.getR (pc := 1) dX1_holderOf_1 fl_X1_11 sh_77 rfl ?_
  refine Ev.bipush (pc := 4) (v := 15) dX1_holderOf_4 kb_15 ?_
  refine Ev.iload_n (pc := 6) dX1_holderOf_6 rfl rfl ?_
  refine Ev.iadd (pc := 7) dX1_holderOf_7 ?_
  refine Ev.cTi (pc := 8) (av := [vR 78, vI (15 + a1)]) (rest := []) dX1_holderOf_8 ce_X9_at ml_X1_28 rfl sh_sc (Nat.le_of_ble_eq_true rfl) (Nat.le_of_ble_eq_true rfl) (r_at sh_78 (by decide) _ _) ?_
  subst h
  exact Ev.ret_i (pc := 11) dX1_holderOf_11 rfl rfl
theorem r_X1_holderOf_77 (a1 : Int32) (σ : St) : Rn md_X1_holderOf 1 [vR 77, vI a1] SH σ (some (vI (p_X1_holderOf_77 a1 σ)), SH, σ) := Rn.of ce_X1_holderOf.1 (Nat.le_of_ble_eq_true rfl) (e_X1_holderOf_77 _ _ _ rfl)
def p_X1_townOf_77 (a1 : Int32) (σ : St) : Int32 := (at_ σ 78 31 (22 + a1))
theorem e_X1_townOf_77 (a1 : Int32) (σ : St) (v : Int32) (h : p_X1_townOf_77 a1 σ = v) : Ev md_X1_townOf 1 0 (lvE [vR 77, vI a1] 2) [] SH σ (some (vI v), SH, σ) := by
  show Ev md_X1_townOf 1 0 [some (vR 77), some (vI a1)] [] SH σ (some (vI v), SH, σ)
  unfold p_X1_townOf_77 at h
  refine Ev.aload_n (pc := 0) dX1_townOf_0 rfl rfl ?_
  refine Ev.getR (pc := 1) dX1_townOf_1 fl_X1_11 sh_77 rfl ?_
  refine Ev.bipush (pc := 4) (v := 22) dX1_townOf_4 kb_22 ?_
  refine Ev.iload_n (pc := 6) dX1_townOf_6 rfl rfl ?_
  refine Ev.iadd (pc := 7) dX1_townOf_7 ?_
  refine Ev.cTi (pc := 8) (av := [vR 78, vI (22 + a1)]) (rest := []) dX1_townOf_8 ce_X9_at ml_X1_28 rfl sh_sc (Nat.le_of_ble_eq_true rfl) (Nat.le_of_ble_eq_true rfl) (r_at sh_78 (by decide) _ _) ?_
  subst h
  exact Ev.ret_i (pc := 11) dX1_townOf_11 rfl rfl
theorem r_X1_townOf_77 (a1 : Int32) (σ : St) : Rn md_X1_townOf 1 [vR 77, vI a1] SH σ (some (vI (p_X1_townOf_77 a1 σ)), SH, σ) := Rn.of ce_X1_townOf.1 (Nat.le_of_ble_eq_true rfl) (e_X1_townOf_77 _ _ _ rfl)
def p_X1_today_77  (σ : St) : Int32 := (at_ σ 78 31 0)
theorem e_X1_today_77  (σ : St) (v : Int32) (h : p_X1_today_77  σ = v) : Ev md_X1_today 1 0 (lvE [vR 77] 1) [] SH σ (some (vI v), SH, σ) := by
  show Ev md_X1_today 1 0 [some (vR 77)] [] SH σ (some (vI v), SH, σ)
  unfold p_X1_today_77 at h
  refine Ev.aload_n (pc := 0) dX1_today_0 rfl rfl ?_
  refine Ev.getR (pc := 1) dX1_today_1 fl_X1_11 sh_77 rfl ?_
  refine Ev.iconst (pc := 4) (v := 0) dX1_today_4 ki_0 ?_
  refine Ev.cTi (pc := 5) (av := [vR 78, vI 0]) (rest := []) dX1_today_5 ce_X9_at ml_X1_28 rfl sh_sc (Nat.le_of_ble_eq_true rfl) (Nat.le_of_ble_eq_true rfl) (r_at sh_78 (by decide) _ _) ?_
  subst h
  exact Ev.ret_i (pc := 8) dX1_today_8 rfl rfl
theorem r_X1_today_77  (σ : St) : Rn md_X1_today 1 [vR 77] SH σ (some (vI (p_X1_today_77  σ)), SH, σ) := Rn.of ce_X1_today.1 (Nat.le_of_ble_eq_true rfl) (e_X1_today_77  _ _ rfl)
def p_X1_thereOn_77 (a1 : Int32) (σ : St) : Int32 := (at_ σ 78 31 (25 + a1))
theorem e_X1_thereOn_77 (a1 : Int32) (σ : St) (v : Int32) (h : p_X1_thereOn_77 a1 σ = v) : Ev md_X1_thereOn 1 0 (lvE [vR 77, vI a1] 2) [] SH σ (some (vI v), SH, σ) := by
  show Ev md_X1_thereOn 1 0 [some (vR 77), some (vI a1)] [] SH σ (some (vI v), SH, σ)
  unfold p_X1_thereOn_77 at h
  refine Ev.aload_n (pc := 0) dX1_thereOn_0 rfl rfl ?_
  refine Ev.getR (pc := 1) dX1_thereOn_1 fl_X1_11 sh_77 rfl ?_
  refine Ev.bipush (pc := 4) (v := 25) dX1_thereOn_4 kb_25 ?_
  refine Ev.iload_n (pc := 6) dX1_thereOn_6 rfl rfl ?_
  refine Ev.iadd (pc := 7) dX1_thereOn_7 ?_
  refine Ev.cTi (pc := 8) (av := [vR 78, vI (25 + a1)]) (rest := []) dX1_thereOn_8 ce_X9_at ml_X1_28 rfl sh_sc (Nat.le_of_ble_eq_true rfl) (Nat.le_of_ble_eq_true rfl) (r_at sh_78 (by decide) _ _) ?_
  subst h
  exact Ev.ret_i (pc := 11) dX1_thereOn_11 rfl rfl
theorem r_X1_thereOn_77 (a1 : Int32) (σ : St) : Rn md_X1_thereOn 1 [vR 77, vI a1] SH σ (some (vI (p_X1_thereOn_77 a1 σ)), SH, σ) := Rn.of ce_X1_thereOn.1 (Nat.le_of_ble_eq_true rfl) (e_X1_thereOn_77 _ _ _ rfl)
def p_X1_how_77 (a1 : Int32) (σ : St) : Int32 := (at_ σ 78 31 (1 + a1))
theorem e_X1_how_77 (a1 : Int32) (σ : St) (v : Int32) (h : p_X1_how_77 a1 σ = v) : Ev md_X1_how 1 0 (lvE [vR 77, vI a1] 2) [] SH σ (some (vI v), SH, σ) := by
  show Ev md_X1_how 1 0 [some (vR 77), some (vI a1)] [] SH σ (some (vI v), SH, σ)
  unfold p_X1_how_77 at h
  refine Ev.aload_n (pc := 0) dX1_how_0 rfl rfl ?_
  refine Ev.getR (pc := 1) dX1_how_1 fl_X1_11 sh_77 rfl ?_
  refine Ev.iconst (pc := 4) (v := 1) dX1_how_4 ki_1 ?_
  refine Ev.iload_n (pc := 5) dX1_how_5 rfl rfl ?_
  refine Ev.iadd (pc := 6) dX1_how_6 ?_
  refine Ev.cTi (pc := 7) (av := [vR 78, vI (1 + a1)]) (rest := []) dX1_how_7 ce_X9_at ml_X1_28 rfl sh_sc (Nat.le_of_ble_eq_true rfl) (Nat.le_of_ble_eq_true rfl) (r_at sh_78 (by decide) _ _) ?_
  subst h
  exact Ev.ret_i (pc := 10) dX1_how_10 rfl rfl
theorem r_X1_how_77 (a1 : Int32) (σ : St) : Rn md_X1_how 1 [vR 77, vI a1] SH σ (some (vI (p_X1_how_77 a1 σ)), SH, σ) := Rn.of ce_X1_how.1 (Nat.le_of_ble_eq_true rfl) (e_X1_how_77 _ _ _ rfl)
def j_X1_isOpen_77_23  (σ : St) : Int32 := 0
def p_X1_isOpen_77 (a1 : Int32) (σ : St) : Int32 := if (p_X5_hasPromise a1 σ) = 0 then (j_X1_isOpen_77_23 σ) else (if (p_X1_how_77 a1 σ) = 0 then 1 else (j_X1_isOpen_77_23 σ))
theorem lj_X1_isOpen_77_23  (σ : St) (v : Int32) (h : j_X1_isOpen_77_23  σ = v) : Ev md_X1_isOpen 2 23 [none, none] [] SH σ (some (vI v), SH, σ) := by
  unfold j_X1_isOpen_77_23 at h
  refine Ev.iconst (pc := 23) (v := 0) dX1_isOpen_23 ki_0 ?_
  subst h
  exact Ev.ret_i (pc := 24) dX1_isOpen_24 rfl nb_0
theorem e_X1_isOpen_77 (a1 : Int32) (σ : St) (v : Int32) (h : p_X1_isOpen_77 a1 σ = v) : Ev md_X1_isOpen 2 0 (lvE [vR 77, vI a1] 2) [] SH σ (some (vI v), SH, σ) := by
  show Ev md_X1_isOpen 2 0 [some (vR 77), some (vI a1)] [] SH σ (some (vI v), SH, σ)
  unfold p_X1_isOpen_77 at h
  refine Ev.aload_n (pc := 0) dX1_isOpen_0 rfl rfl ?_
  refine Ev.getR (pc := 1) dX1_isOpen_1 fl_X1_15 sh_77 rfl ?_
  refine Ev.iload_n (pc := 4) dX1_isOpen_4 rfl rfl ?_
  refine Ev.cVi (pc := 5) (k := 1) (av := [vI a1]) (rest := []) dX1_isOpen_5 ce_X5_hasPromise ml_X1_35 rfl sh_1 cl_X5 sh_sc (Nat.le_of_ble_eq_true rfl) (Nat.le_of_ble_eq_true rfl) (r_X5_hasPromise _ _) ?_
  by_cases c1 : (p_X5_hasPromise a1 σ) = 0
  · replace h := (if_pos c1).symm.trans h
    refine Ev.if_eq_t (pc := 8) (tgt := 23) dX1_isOpen_8 rfl c1 ?_
    exact Ev.weak2 (lj_X1_isOpen_77_23 _ _ h) (lsubN (lsubN lsubE))
  · replace h := (if_neg c1).symm.trans h
    refine Ev.if_eq_f (pc := 8) dX1_isOpen_8 ⟨23, rfl⟩ c1 ?_
    refine Ev.aload_n (pc := 11) dX1_isOpen_11 rfl rfl ?_
    refine Ev.iload_n (pc := 12) dX1_isOpen_12 rfl rfl ?_
    refine Ev.cVi (pc := 13) (k := 77) (av := [vI a1]) (rest := []) dX1_isOpen_13 ce_X1_how ml_X1_39 rfl sh_77 cl_X1 sh_sc (Nat.le_of_ble_eq_true rfl) (Nat.le_of_ble_eq_true rfl) (r_X1_how_77 _ _) ?_
    by_cases c2 : (p_X1_how_77 a1 σ) = 0
    · replace h := (if_pos c2).symm.trans h
      refine Ev.if_ne_f (pc := 16) dX1_isOpen_16 ⟨23, rfl⟩ c2 ?_
      refine Ev.iconst (pc := 19) (v := 1) dX1_isOpen_19 ki_1 ?_
      refine Ev.goto (pc := 20) (tgt := 24) dX1_isOpen_20 rfl ?_
      subst h
      exact Ev.ret_i (pc := 24) dX1_isOpen_24 rfl nb_1
    · replace h := (if_neg c2).symm.trans h
      refine Ev.if_ne_t (pc := 16) (tgt := 23) dX1_isOpen_16 rfl c2 ?_
      exact Ev.weak2 (lj_X1_isOpen_77_23 _ _ h) (lsubN (lsubN lsubE))
theorem r_X1_isOpen_77 (a1 : Int32) (σ : St) : Rn md_X1_isOpen 2 [vR 77, vI a1] SH σ (some (vI (p_X1_isOpen_77 a1 σ)), SH, σ) := Rn.of ce_X1_isOpen.1 (Nat.le_of_ble_eq_true rfl) (e_X1_isOpen_77 _ _ _ rfl)
def p_X1_givenOn_77 (a1 : Int32) (σ : St) : Int32 := bt (at_ σ 9 7 a1) fun x1 => if x1 = (-1) then 0 else (if (at_ σ 78 31 (1 + x1)) = 1 then ((at_ σ 78 31 (8 + x1))) else (-1))
theorem e_X1_givenOn_77 (a1 : Int32) (σ : St) (v : Int32) (h : p_X1_givenOn_77 a1 σ = v) : Ev md_X1_givenOn 1 0 (lvE [vR 77, vI a1] 3) [] SH σ (some (vI v), SH, σ) := by
  show Ev md_X1_givenOn 1 0 [some (vR 77), some (vI a1), none] [] SH σ (some (vI v), SH, σ)
  unfold p_X1_givenOn_77 at h
  refine Ev.aload_n (pc := 0) dX1_givenOn_0 rfl rfl ?_
  refine Ev.getR (pc := 1) dX1_givenOn_1 fl_X1_15 sh_77 rfl ?_
  refine Ev.getR (pc := 4) dX1_givenOn_4 fl_X1_66 sh_1 rfl ?_
  refine Ev.iload_n (pc := 7) dX1_givenOn_7 rfl rfl ?_
  refine Ev.cTi (pc := 8) (av := [vR 9, vI a1]) (rest := []) dX1_givenOn_8 ce_X9_at ml_X1_28 rfl sh_sc (Nat.le_of_ble_eq_true rfl) (Nat.le_of_ble_eq_true rfl) (r_at sh_9 (by decide) _ _) ?_
  refine Ev.nmI (fun x1 e9 => ?_)
  replace h := bt_app h x1 e9
  refine Ev.istore_n (pc := 11) (lv' := [some (vR 77), some (vI a1), some (vI x1)]) dX1_givenOn_11 rfl (lt9 rfl) rfl rfl ?_
  refine Ev.iload_n (pc := 12) dX1_givenOn_12 rfl rfl ?_
  refine Ev.iconst (pc := 13) (v := (-1)) dX1_givenOn_13 ki_m1 ?_
  by_cases c2 : x1 = (-1)
  · replace h := (if_pos c2).symm.trans h
    refine Ev.icmp_ne_f (pc := 14) dX1_givenOn_14 ⟨19, rfl⟩ c2 ?_
    refine Ev.iconst (pc := 17) (v := 0) dX1_givenOn_17 ki_0 ?_
    subst h
    exact Ev.ret_i (pc := 18) dX1_givenOn_18 rfl rfl
  · replace h := (if_neg c2).symm.trans h
    refine Ev.icmp_ne_t (pc := 14) (tgt := 19) dX1_givenOn_14 rfl c2 ?_
    refine Ev.aload_n (pc := 19) dX1_givenOn_19 rfl rfl ?_
    refine Ev.getR (pc := 20) dX1_givenOn_20 fl_X1_11 sh_77 rfl ?_
    refine Ev.iconst (pc := 23) (v := 1) dX1_givenOn_23 ki_1 ?_
    refine Ev.iload_n (pc := 24) dX1_givenOn_24 rfl rfl ?_
    refine Ev.iadd (pc := 25) dX1_givenOn_25 ?_
    refine Ev.cTi (pc := 26) (av := [vR 78, vI (1 + x1)]) (rest := []) dX1_givenOn_26 ce_X9_at ml_X1_28 rfl sh_sc (Nat.le_of_ble_eq_true rfl) (Nat.le_of_ble_eq_true rfl) (r_at sh_78 (by decide) _ _) ?_
    refine Ev.iconst (pc := 29) (v := 1) dX1_givenOn_29 ki_1 ?_
    by_cases c3 : (at_ σ 78 31 (1 + x1)) = 1
    · replace h := (if_pos c3).symm.trans h
      refine Ev.icmp_ne_f (pc := 30) dX1_givenOn_30 ⟨47, rfl⟩ c3 ?_
      refine Ev.aload_n (pc := 33) dX1_givenOn_33 rfl rfl ?_
      refine Ev.getR (pc := 34) dX1_givenOn_34 fl_X1_11 sh_77 rfl ?_
      refine Ev.bipush (pc := 37) (v := 8) dX1_givenOn_37 kb_8 ?_
      refine Ev.iload_n (pc := 39) dX1_givenOn_39 rfl rfl ?_
      refine Ev.iadd (pc := 40) dX1_givenOn_40 ?_
      refine Ev.cTi (pc := 41) (av := [vR 78, vI (8 + x1)]) (rest := []) dX1_givenOn_41 ce_X9_at ml_X1_28 rfl sh_sc (Nat.le_of_ble_eq_true rfl) (Nat.le_of_ble_eq_true rfl) (r_at sh_78 (by decide) _ _) ?_
      refine Ev.goto (pc := 44) (tgt := 48) dX1_givenOn_44 rfl ?_
      subst h
      exact Ev.ret_i (pc := 48) dX1_givenOn_48 rfl rfl
    · replace h := (if_neg c3).symm.trans h
      refine Ev.icmp_ne_t (pc := 30) (tgt := 47) dX1_givenOn_30 rfl c3 ?_
      refine Ev.iconst (pc := 47) (v := (-1)) dX1_givenOn_47 ki_m1 ?_
      subst h
      exact Ev.ret_i (pc := 48) dX1_givenOn_48 rfl rfl
theorem r_X1_givenOn_77 (a1 : Int32) (σ : St) : Rn md_X1_givenOn 1 [vR 77, vI a1] SH σ (some (vI (p_X1_givenOn_77 a1 σ)), SH, σ) := Rn.of ce_X1_givenOn.1 (Nat.le_of_ble_eq_true rfl) (e_X1_givenOn_77 _ _ _ rfl)
def o_X1_ripeOn_77 (N : Nat) (a1 : Int32) (σ : St) : Option (Int32 × St) := bt (p_X1_givenOn_77 a1 σ) fun x1 => if x1 = (-1) then (some ((-1), σ)) else (bd (o_X5_ripeDay N x1 (at_ σ 6 7 a1) σ) fun x3 σ4 => some (x3, σ4))
theorem e_X1_ripeOn_77 (N : Nat) (a1 : Int32) (σ : St) (v : Int32) (w : St) (h : o_X1_ripeOn_77 N a1 σ = some (v, w)) : Ev md_X1_ripeOn 2 0 (lvE [vR 77, vI a1] 3) [] SH σ (some (vI v), SH, w) := by
  show Ev md_X1_ripeOn 2 0 [some (vR 77), some (vI a1), none] [] SH σ (some (vI v), SH, w)
  unfold o_X1_ripeOn_77 at h
  refine Ev.aload_n (pc := 0) dX1_ripeOn_0 rfl rfl ?_
  refine Ev.iload_n (pc := 1) dX1_ripeOn_1 rfl rfl ?_
  refine Ev.cVi (pc := 2) (k := 77) (av := [vI a1]) (rest := []) dX1_ripeOn_2 ce_X1_givenOn ml_X1_69 rfl sh_77 cl_X1 sh_sc (Nat.le_of_ble_eq_true rfl) (Nat.le_of_ble_eq_true rfl) (r_X1_givenOn_77 _ _) ?_
  refine Ev.nmI (fun x1 e9 => ?_)
  replace h := bt_app h x1 e9
  refine Ev.istore_n (pc := 5) (lv' := [some (vR 77), some (vI a1), some (vI x1)]) dX1_ripeOn_5 rfl (lt9 rfl) rfl rfl ?_
  refine Ev.iload_n (pc := 6) dX1_ripeOn_6 rfl rfl ?_
  refine Ev.iconst (pc := 7) (v := (-1)) dX1_ripeOn_7 ki_m1 ?_
  by_cases c2 : x1 = (-1)
  · replace h := (if_pos c2).symm.trans h
    refine Ev.icmp_ne_f (pc := 8) dX1_ripeOn_8 ⟨15, rfl⟩ c2 ?_
    refine Ev.iconst (pc := 11) (v := (-1)) dX1_ripeOn_11 ki_m1 ?_
    refine Ev.goto (pc := 12) (tgt := 34) dX1_ripeOn_12 rfl ?_
    obtain ⟨h1, h2⟩ := oeq h
    subst h1
    subst h2
    exact Ev.ret_i (pc := 34) dX1_ripeOn_34 rfl rfl
  · replace h := (if_neg c2).symm.trans h
    refine Ev.icmp_ne_t (pc := 8) (tgt := 15) dX1_ripeOn_8 rfl c2 ?_
    refine Ev.aload_n (pc := 15) dX1_ripeOn_15 rfl rfl ?_
    refine Ev.getR (pc := 16) dX1_ripeOn_16 fl_X1_15 sh_77 rfl ?_
    refine Ev.iload_n (pc := 19) dX1_ripeOn_19 rfl rfl ?_
    refine Ev.aload_n (pc := 20) dX1_ripeOn_20 rfl rfl ?_
    refine Ev.getR (pc := 21) dX1_ripeOn_21 fl_X1_15 sh_77 rfl ?_
    refine Ev.getR (pc := 24) dX1_ripeOn_24 fl_X1_72 sh_1 rfl ?_
    refine Ev.iload_n (pc := 27) dX1_ripeOn_27 rfl rfl ?_
    refine Ev.cTi (pc := 28) (av := [vR 6, vI a1]) (rest := [vI x1, vR 1]) dX1_ripeOn_28 ce_X9_at ml_X1_28 rfl sh_sc (Nat.le_of_ble_eq_true rfl) (Nat.le_of_ble_eq_true rfl) (r_at sh_6 (by decide) _ _) ?_
    obtain ⟨x3, σ4, g5, h⟩ := bd_elim h
    refine Ev.cVi (pc := 31) (k := 1) (av := [vI x1, vI (at_ σ 6 7 a1)]) (rest := []) dX1_ripeOn_31 ce_X5_ripeDay ml_X1_75 rfl sh_1 cl_X5 sh_sc (Nat.le_of_ble_eq_true rfl) (Nat.le_of_ble_eq_true rfl) (r_X5_ripeDay g5) ?_
    obtain ⟨h1, h2⟩ := oeq h
    subst h1
    subst h2
    exact Ev.ret_i (pc := 34) dX1_ripeOn_34 rfl rfl
theorem r_X1_ripeOn_77 {N : Nat} {a1 : Int32} {σ : St} {v : Int32} {w : St} (h : o_X1_ripeOn_77 N a1 σ = some (v, w)) : Rn md_X1_ripeOn 2 [vR 77, vI a1] SH σ (some (vI v), SH, w) := Rn.of ce_X1_ripeOn.1 (Nat.le_of_ble_eq_true rfl) (e_X1_ripeOn_77 N _ _ _ _ h)
def j_X1_mayBeKeptOn_77_37 (N : Nat)  (σ : St) : Option (Int32 × St) := some (0, σ)
def o_X1_mayBeKeptOn_77 (N : Nat) (a1 : Int32) (a2 : Int32) (σ : St) : Option (Int32 × St) := bd (o_X1_ripeOn_77 N a1 σ) fun x1 σ2 => if x1 = (-1) then (j_X1_mayBeKeptOn_77_37 N σ2) else (if a2 < x1 then (j_X1_mayBeKeptOn_77_37 N σ2) else (if (x1 + (at_ σ2 7 7 a1)) < a2 then (j_X1_mayBeKeptOn_77_37 N σ2) else (some (1, σ2))))
theorem lj_X1_mayBeKeptOn_77_37 (N : Nat)  (σ : St) (v : Int32) (w : St) (h : j_X1_mayBeKeptOn_77_37 N  σ = some (v, w)) : Ev md_X1_mayBeKeptOn 3 37 [none, none, none, none] [] SH σ (some (vI v), SH, w) := by
  unfold j_X1_mayBeKeptOn_77_37 at h
  refine Ev.iconst (pc := 37) (v := 0) dX1_mayBeKeptOn_37 ki_0 ?_
  obtain ⟨h1, h2⟩ := oeq h
  subst h1
  subst h2
  exact Ev.ret_i (pc := 38) dX1_mayBeKeptOn_38 rfl nb_0
theorem e_X1_mayBeKeptOn_77 (N : Nat) (a1 : Int32) (a2 : Int32) (σ : St) (v : Int32) (w : St) (h : o_X1_mayBeKeptOn_77 N a1 a2 σ = some (v, w)) : Ev md_X1_mayBeKeptOn 3 0 (lvE [vR 77, vI a1, vI a2] 4) [] SH σ (some (vI v), SH, w) := by
  show Ev md_X1_mayBeKeptOn 3 0 [some (vR 77), some (vI a1), some (vI a2), none] [] SH σ (some (vI v), SH, w)
  unfold o_X1_mayBeKeptOn_77 at h
  refine Ev.aload_n (pc := 0) dX1_mayBeKeptOn_0 rfl rfl ?_
  refine Ev.iload_n (pc := 1) dX1_mayBeKeptOn_1 rfl rfl ?_
  obtain ⟨x1, σ2, g3, h⟩ := bd_elim h
  refine Ev.cVi (pc := 2) (k := 77) (av := [vI a1]) (rest := []) dX1_mayBeKeptOn_2 ce_X1_ripeOn ml_X1_79 rfl sh_77 cl_X1 sh_sc (Nat.le_of_ble_eq_true rfl) (Nat.le_of_ble_eq_true rfl) (r_X1_ripeOn_77 g3) ?_
  refine Ev.istore_n (pc := 5) (lv' := [some (vR 77), some (vI a1), some (vI a2), some (vI x1)]) dX1_mayBeKeptOn_5 rfl (lt9 rfl) rfl rfl ?_
  refine Ev.iload_n (pc := 6) dX1_mayBeKeptOn_6 rfl rfl ?_
  refine Ev.iconst (pc := 7) (v := (-1)) dX1_mayBeKeptOn_7 ki_m1 ?_
  by_cases c4 : x1 = (-1)
  · replace h := (if_pos c4).symm.trans h
    refine Ev.icmp_eq_t (pc := 8) (tgt := 37) dX1_mayBeKeptOn_8 rfl c4 ?_
    exact Ev.weak2 (lj_X1_mayBeKeptOn_77_37 N _ _ _ h) (lsubN (lsubN (lsubN (lsubN lsubE))))
  · replace h := (if_neg c4).symm.trans h
    refine Ev.icmp_eq_f (pc := 8) dX1_mayBeKeptOn_8 ⟨37, rfl⟩ c4 ?_
    refine Ev.iload_n (pc := 11) dX1_mayBeKeptOn_11 rfl rfl ?_
    refine Ev.iload_n (pc := 12) dX1_mayBeKeptOn_12 rfl rfl ?_
    by_cases c5 : a2 < x1
    · replace h := (if_pos c5).symm.trans h
      refine Ev.icmp_lt_t (pc := 13) (tgt := 37) dX1_mayBeKeptOn_13 rfl c5 ?_
      exact Ev.weak2 (lj_X1_mayBeKeptOn_77_37 N _ _ _ h) (lsubN (lsubN (lsubN (lsubN lsubE))))
    · replace h := (if_neg c5).symm.trans h
      refine Ev.icmp_lt_f (pc := 13) dX1_mayBeKeptOn_13 ⟨37, rfl⟩ c5 ?_
      refine Ev.iload_n (pc := 16) dX1_mayBeKeptOn_16 rfl rfl ?_
      refine Ev.iload_n (pc := 17) dX1_mayBeKeptOn_17 rfl rfl ?_
      refine Ev.aload_n (pc := 18) dX1_mayBeKeptOn_18 rfl rfl ?_
      refine Ev.getR (pc := 19) dX1_mayBeKeptOn_19 fl_X1_15 sh_77 rfl ?_
      refine Ev.getR (pc := 22) dX1_mayBeKeptOn_22 fl_X1_82 sh_1 rfl ?_
      refine Ev.iload_n (pc := 25) dX1_mayBeKeptOn_25 rfl rfl ?_
      refine Ev.cTi (pc := 26) (av := [vR 7, vI a1]) (rest := [vI x1, vI a2]) dX1_mayBeKeptOn_26 ce_X9_at ml_X1_28 rfl sh_sc (Nat.le_of_ble_eq_true rfl) (Nat.le_of_ble_eq_true rfl) (r_at sh_7 (by decide) _ _) ?_
      refine Ev.iadd (pc := 29) dX1_mayBeKeptOn_29 ?_
      by_cases c6 : (x1 + (at_ σ2 7 7 a1)) < a2
      · replace h := (if_pos c6).symm.trans h
        refine Ev.icmp_gt_t (pc := 30) (tgt := 37) dX1_mayBeKeptOn_30 rfl c6 ?_
        exact Ev.weak2 (lj_X1_mayBeKeptOn_77_37 N _ _ _ h) (lsubN (lsubN (lsubN (lsubN lsubE))))
      · replace h := (if_neg c6).symm.trans h
        refine Ev.icmp_gt_f (pc := 30) dX1_mayBeKeptOn_30 ⟨37, rfl⟩ c6 ?_
        refine Ev.iconst (pc := 33) (v := 1) dX1_mayBeKeptOn_33 ki_1 ?_
        refine Ev.goto (pc := 34) (tgt := 38) dX1_mayBeKeptOn_34 rfl ?_
        obtain ⟨h1, h2⟩ := oeq h
        subst h1
        subst h2
        exact Ev.ret_i (pc := 38) dX1_mayBeKeptOn_38 rfl nb_1
theorem r_X1_mayBeKeptOn_77 {N : Nat} {a1 : Int32} {a2 : Int32} {σ : St} {v : Int32} {w : St} (h : o_X1_mayBeKeptOn_77 N a1 a2 σ = some (v, w)) : Rn md_X1_mayBeKeptOn 3 [vR 77, vI a1, vI a2] SH σ (some (vI v), SH, w) := Rn.of ce_X1_mayBeKeptOn.1 (Nat.le_of_ble_eq_true rfl) (e_X1_mayBeKeptOn_77 N _ _ _ _ _ h)
def j_X0_canBeKept_99 (N : Nat)  (σ : St) : Option (Int32 × St) := some (0, σ)
def o_X0_canBeKept (N : Nat) (a1 : Int32) (a2 : Int32) (σ : St) : Option (Int32 × St) := bt (p_X1_holderOf_77 a1 σ) fun x1 => bt (p_X5_distance (p_X1_townOf_77 x1 σ) (at_ σ 5 7 a1) σ) fun x2 => bt (p_J9_max_7cf53 (p_X1_today_77 σ) (p_X1_thereOn_77 x1 σ) σ) fun x3 => if (p_X1_isOpen_77 a1 σ) = 0 then (j_X0_canBeKept_99 N σ) else (bd (o_X1_mayBeKeptOn_77 N a1 a2 σ) fun x5 σ6 => if x5 = 0 then (j_X0_canBeKept_99 N σ6) else (if x2 = (-1) then (j_X0_canBeKept_99 N σ6) else (if a2 < (x3 + x2) then (j_X0_canBeKept_99 N σ6) else (some (1, σ6)))))
theorem lj_X0_canBeKept_99 (N : Nat)  (σ : St) (v : Int32) (w : St) (h : j_X0_canBeKept_99 N  σ = some (v, w)) : Ev md_X0_canBeKept 4 99 [none, none, none, none, none, none] [] SH σ (some (vI v), SH, w) := by
  unfold j_X0_canBeKept_99 at h
  refine Ev.iconst (pc := 99) (v := 0) dX0_canBeKept_99 ki_0 ?_
  obtain ⟨h1, h2⟩ := oeq h
  subst h1
  subst h2
  exact Ev.ret_i (pc := 100) dX0_canBeKept_100 rfl nb_0
theorem e_X0_canBeKept (N : Nat) (a1 : Int32) (a2 : Int32) (σ : St) (v : Int32) (w : St) (h : o_X0_canBeKept N a1 a2 σ = some (v, w)) : Ev md_X0_canBeKept 4 0 (lvE [vR 74, vI a1, vI a2] 6) [] SH σ (some (vI v), SH, w) := by
  show Ev md_X0_canBeKept 4 0 [some (vR 74), some (vI a1), some (vI a2), none, none, none] [] SH σ (some (vI v), SH, w)
  unfold o_X0_canBeKept at h
  refine Ev.aload_n (pc := 0) dX0_canBeKept_0 rfl rfl ?_
  refine Ev.getR (pc := 1) dX0_canBeKept_1 fl_X0_27 sh_74 rfl ?_
  refine Ev.iload_n (pc := 4) dX0_canBeKept_4 rfl rfl ?_
  refine Ev.cVi (pc := 5) (k := 77) (av := [vI a1]) (rest := []) dX0_canBeKept_5 ce_X1_holderOf ml_X0_62 rfl sh_77 cl_X1 sh_sc (Nat.le_of_ble_eq_true rfl) (Nat.le_of_ble_eq_true rfl) (r_X1_holderOf_77 _ _) ?_
  refine Ev.nmI (fun x1 e9 => ?_)
  replace h := bt_app h x1 e9
  refine Ev.istore_n (pc := 8) (lv' := [some (vR 74), some (vI a1), some (vI a2), some (vI x1), none, none]) dX0_canBeKept_8 rfl (lt9 rfl) rfl rfl ?_
  refine Ev.aload_n (pc := 9) dX0_canBeKept_9 rfl rfl ?_
  refine Ev.getR (pc := 10) dX0_canBeKept_10 fl_X0_18 sh_74 rfl ?_
  refine Ev.aload_n (pc := 13) dX0_canBeKept_13 rfl rfl ?_
  refine Ev.getR (pc := 14) dX0_canBeKept_14 fl_X0_27 sh_74 rfl ?_
  refine Ev.iload_n (pc := 17) dX0_canBeKept_17 rfl rfl ?_
  refine Ev.cVi (pc := 18) (k := 77) (av := [vI x1]) (rest := [vR 1]) dX0_canBeKept_18 ce_X1_townOf ml_X0_74 rfl sh_77 cl_X1 sh_sc (Nat.le_of_ble_eq_true rfl) (Nat.le_of_ble_eq_true rfl) (r_X1_townOf_77 _ _) ?_
  refine Ev.aload_n (pc := 21) dX0_canBeKept_21 rfl rfl ?_
  refine Ev.getR (pc := 22) dX0_canBeKept_22 fl_X0_18 sh_74 rfl ?_
  refine Ev.getR (pc := 25) dX0_canBeKept_25 fl_X0_66 sh_1 rfl ?_
  refine Ev.iload_n (pc := 28) dX0_canBeKept_28 rfl rfl ?_
  refine Ev.cTi (pc := 29) (av := [vR 5, vI a1]) (rest := [vI (p_X1_townOf_77 x1 σ), vR 1]) dX0_canBeKept_29 ce_X9_at ml_X0_50 rfl sh_sc (Nat.le_of_ble_eq_true rfl) (Nat.le_of_ble_eq_true rfl) (r_at sh_5 (by decide) _ _) ?_
  refine Ev.cVi (pc := 32) (k := 1) (av := [vI (p_X1_townOf_77 x1 σ), vI (at_ σ 5 7 a1)]) (rest := []) dX0_canBeKept_32 ce_X5_distance ml_X0_77 rfl sh_1 cl_X5 sh_sc (Nat.le_of_ble_eq_true rfl) (Nat.le_of_ble_eq_true rfl) (r_X5_distance _ _ _) ?_
  refine Ev.nmI (fun x2 e9 => ?_)
  replace h := bt_app h x2 e9
  refine Ev.istore (pc := 35) (lv' := [some (vR 74), some (vI a1), some (vI a2), some (vI x1), some (vI x2), none]) dX0_canBeKept_35 (lt9 rfl) rfl rfl ?_
  refine Ev.aload_n (pc := 37) dX0_canBeKept_37 rfl rfl ?_
  refine Ev.getR (pc := 38) dX0_canBeKept_38 fl_X0_27 sh_74 rfl ?_
  refine Ev.cVi (pc := 41) (k := 77) (av := []) (rest := []) dX0_canBeKept_41 ce_X1_today ml_X0_46 rfl sh_77 cl_X1 sh_sc (Nat.le_of_ble_eq_true rfl) (Nat.le_of_ble_eq_true rfl) (r_X1_today_77  _) ?_
  refine Ev.aload_n (pc := 44) dX0_canBeKept_44 rfl rfl ?_
  refine Ev.getR (pc := 45) dX0_canBeKept_45 fl_X0_27 sh_74 rfl ?_
  refine Ev.iload_n (pc := 48) dX0_canBeKept_48 rfl rfl ?_
  refine Ev.cVi (pc := 49) (k := 77) (av := [vI x1]) (rest := [vI (p_X1_today_77 σ)]) dX0_canBeKept_49 ce_X1_thereOn ml_X0_81 rfl sh_77 cl_X1 sh_sc (Nat.le_of_ble_eq_true rfl) (Nat.le_of_ble_eq_true rfl) (r_X1_thereOn_77 _ _) ?_
  refine Ev.cTi (pc := 52) (av := [vI (p_X1_today_77 σ), vI (p_X1_thereOn_77 x1 σ)]) (rest := []) dX0_canBeKept_52 ce_J9_max_7cf53 ml_X0_84 rfl sh_sc (Nat.le_of_ble_eq_true rfl) (Nat.le_of_ble_eq_true rfl) (r_J9_max_7cf53 _ _ _) ?_
  refine Ev.nmI (fun x3 e9 => ?_)
  replace h := bt_app h x3 e9
  refine Ev.istore (pc := 55) (lv' := [some (vR 74), some (vI a1), some (vI a2), some (vI x1), some (vI x2), some (vI x3)]) dX0_canBeKept_55 (lt9 rfl) rfl rfl ?_
  refine Ev.aload_n (pc := 57) dX0_canBeKept_57 rfl rfl ?_
  refine Ev.getR (pc := 58) dX0_canBeKept_58 fl_X0_27 sh_74 rfl ?_
  refine Ev.iload_n (pc := 61) dX0_canBeKept_61 rfl rfl ?_
  refine Ev.cVi (pc := 62) (k := 77) (av := [vI a1]) (rest := []) dX0_canBeKept_62 ce_X1_isOpen ml_X0_89 rfl sh_77 cl_X1 sh_sc (Nat.le_of_ble_eq_true rfl) (Nat.le_of_ble_eq_true rfl) (r_X1_isOpen_77 _ _) ?_
  by_cases c4 : (p_X1_isOpen_77 a1 σ) = 0
  · replace h := (if_pos c4).symm.trans h
    refine Ev.if_eq_t (pc := 65) (tgt := 99) dX0_canBeKept_65 rfl c4 ?_
    exact Ev.weak2 (lj_X0_canBeKept_99 N _ _ _ h) (lsubN (lsubN (lsubN (lsubN (lsubN (lsubN lsubE))))))
  · replace h := (if_neg c4).symm.trans h
    refine Ev.if_eq_f (pc := 65) dX0_canBeKept_65 ⟨99, rfl⟩ c4 ?_
    refine Ev.aload_n (pc := 68) dX0_canBeKept_68 rfl rfl ?_
    refine Ev.getR (pc := 69) dX0_canBeKept_69 fl_X0_27 sh_74 rfl ?_
    refine Ev.iload_n (pc := 72) dX0_canBeKept_72 rfl rfl ?_
    refine Ev.iload_n (pc := 73) dX0_canBeKept_73 rfl rfl ?_
    obtain ⟨x5, σ6, g7, h⟩ := bd_elim h
    refine Ev.cVi (pc := 74) (k := 77) (av := [vI a1, vI a2]) (rest := []) dX0_canBeKept_74 ce_X1_mayBeKeptOn ml_X0_93 rfl sh_77 cl_X1 sh_sc (Nat.le_of_ble_eq_true rfl) (Nat.le_of_ble_eq_true rfl) (r_X1_mayBeKeptOn_77 g7) ?_
    by_cases c8 : x5 = 0
    · replace h := (if_pos c8).symm.trans h
      refine Ev.if_eq_t (pc := 77) (tgt := 99) dX0_canBeKept_77 rfl c8 ?_
      exact Ev.weak2 (lj_X0_canBeKept_99 N _ _ _ h) (lsubN (lsubN (lsubN (lsubN (lsubN (lsubN lsubE))))))
    · replace h := (if_neg c8).symm.trans h
      refine Ev.if_eq_f (pc := 77) dX0_canBeKept_77 ⟨99, rfl⟩ c8 ?_
      refine Ev.iload (pc := 80) dX0_canBeKept_80 rfl ?_
      refine Ev.iconst (pc := 82) (v := (-1)) dX0_canBeKept_82 ki_m1 ?_
      by_cases c9 : x2 = (-1)
      · replace h := (if_pos c9).symm.trans h
        refine Ev.icmp_eq_t (pc := 83) (tgt := 99) dX0_canBeKept_83 rfl c9 ?_
        exact Ev.weak2 (lj_X0_canBeKept_99 N _ _ _ h) (lsubN (lsubN (lsubN (lsubN (lsubN (lsubN lsubE))))))
      · replace h := (if_neg c9).symm.trans h
        refine Ev.icmp_eq_f (pc := 83) dX0_canBeKept_83 ⟨99, rfl⟩ c9 ?_
        refine Ev.iload (pc := 86) dX0_canBeKept_86 rfl ?_
        refine Ev.iload (pc := 88) dX0_canBeKept_88 rfl ?_
        refine Ev.iadd (pc := 90) dX0_canBeKept_90 ?_
        refine Ev.iload_n (pc := 91) dX0_canBeKept_91 rfl rfl ?_
        by_cases c10 : a2 < (x3 + x2)
        · replace h := (if_pos c10).symm.trans h
          refine Ev.icmp_gt_t (pc := 92) (tgt := 99) dX0_canBeKept_92 rfl c10 ?_
          exact Ev.weak2 (lj_X0_canBeKept_99 N _ _ _ h) (lsubN (lsubN (lsubN (lsubN (lsubN (lsubN lsubE))))))
        · replace h := (if_neg c10).symm.trans h
          refine Ev.icmp_gt_f (pc := 92) dX0_canBeKept_92 ⟨99, rfl⟩ c10 ?_
          refine Ev.iconst (pc := 95) (v := 1) dX0_canBeKept_95 ki_1 ?_
          refine Ev.goto (pc := 96) (tgt := 100) dX0_canBeKept_96 rfl ?_
          obtain ⟨h1, h2⟩ := oeq h
          subst h1
          subst h2
          exact Ev.ret_i (pc := 100) dX0_canBeKept_100 rfl nb_1
theorem r_X0_canBeKept {N : Nat} {a1 : Int32} {a2 : Int32} {σ : St} {v : Int32} {w : St} (h : o_X0_canBeKept N a1 a2 σ = some (v, w)) : Rn md_X0_canBeKept 4 [vR 74, vI a1, vI a2] SH σ (some (vI v), SH, w) := Rn.of ce_X0_canBeKept.1 (Nat.le_of_ble_eq_true rfl) (e_X0_canBeKept N _ _ _ _ _ h)
def t_X1_end_77 (a1 : Int32) (a2 : Int32) (a3 : Int32) (σ : St) : St := bt (put_ σ 78 31 (1 + a1) a2) fun σ1 => bt (put_ σ1 78 31 (8 + a1) a3) fun σ2 => σ2
theorem e_X1_end_77 (a1 : Int32) (a2 : Int32) (a3 : Int32) (σ : St) (q : St) (h : t_X1_end_77 a1 a2 a3 σ = q) : Ev md_X1_end 1 0 (lvE [vR 77, vI a1, vI a2, vI a3] 4) [] SH σ (none, SH, q) := by
  show Ev md_X1_end 1 0 [some (vR 77), some (vI a1), some (vI a2), some (vI a3)] [] SH σ (none, SH, q)
  unfold t_X1_end_77 at h
  refine Ev.aload_n (pc := 0) dX1_end_0 rfl rfl ?_
  refine Ev.getR (pc := 1) dX1_end_1 fl_X1_11 sh_77 rfl ?_
  refine Ev.iconst (pc := 4) (v := 1) dX1_end_4 ki_1 ?_
  refine Ev.iload_n (pc := 5) dX1_end_5 rfl rfl ?_
  refine Ev.iadd (pc := 6) dX1_end_6 ?_
  refine Ev.iload_n (pc := 7) dX1_end_7 rfl rfl ?_
  refine Ev.cTv (pc := 8) (av := [vR 78, vI (1 + a1), vI a2]) (rest := []) dX1_end_8 ce_X9_put ml_X1_19 rfl sh_sc (Nat.le_of_ble_eq_true rfl) (Nat.le_of_ble_eq_true rfl) (r_put sh_78 (by decide) _ _ _) ?_
  refine Ev.nmS (fun σ1 e9 => ?_)
  replace h := bt_app h σ1 e9
  refine Ev.aload_n (pc := 11) dX1_end_11 rfl rfl ?_
  refine Ev.getR (pc := 12) dX1_end_12 fl_X1_11 sh_77 rfl ?_
  refine Ev.bipush (pc := 15) (v := 8) dX1_end_15 kb_8 ?_
  refine Ev.iload_n (pc := 17) dX1_end_17 rfl rfl ?_
  refine Ev.iadd (pc := 18) dX1_end_18 ?_
  refine Ev.iload_n (pc := 19) dX1_end_19 rfl rfl ?_
  refine Ev.cTv (pc := 20) (av := [vR 78, vI (8 + a1), vI a3]) (rest := []) dX1_end_20 ce_X9_put ml_X1_19 rfl sh_sc (Nat.le_of_ble_eq_true rfl) (Nat.le_of_ble_eq_true rfl) (r_put sh_78 (by decide) _ _ _) ?_
  refine Ev.nmS (fun σ2 e9 => ?_)
  replace h := bt_app h σ2 e9
  subst h
  exact Ev.ret_v (pc := 23) dX1_end_23 rfl
theorem r_X1_end_77 (a1 : Int32) (a2 : Int32) (a3 : Int32) (σ : St) : Rn md_X1_end 1 [vR 77, vI a1, vI a2, vI a3] SH σ (none, SH, t_X1_end_77 a1 a2 a3 σ) := Rn.of ce_X1_end.1 (Nat.le_of_ble_eq_true rfl) (e_X1_end_77 _ _ _ _ _ rfl)
def t_X1_sendTo_77 (a1 : Int32) (a2 : Int32) (a3 : Int32) (σ : St) : St := bt (put_ σ 78 31 (22 + a1) a2) fun σ1 => bt (put_ σ1 78 31 (25 + a1) a3) fun σ2 => σ2
theorem e_X1_sendTo_77 (a1 : Int32) (a2 : Int32) (a3 : Int32) (σ : St) (q : St) (h : t_X1_sendTo_77 a1 a2 a3 σ = q) : Ev md_X1_sendTo 1 0 (lvE [vR 77, vI a1, vI a2, vI a3] 4) [] SH σ (none, SH, q) := by
  show Ev md_X1_sendTo 1 0 [some (vR 77), some (vI a1), some (vI a2), some (vI a3)] [] SH σ (none, SH, q)
  unfold t_X1_sendTo_77 at h
  refine Ev.aload_n (pc := 0) dX1_sendTo_0 rfl rfl ?_
  refine Ev.getR (pc := 1) dX1_sendTo_1 fl_X1_11 sh_77 rfl ?_
  refine Ev.bipush (pc := 4) (v := 22) dX1_sendTo_4 kb_22 ?_
  refine Ev.iload_n (pc := 6) dX1_sendTo_6 rfl rfl ?_
  refine Ev.iadd (pc := 7) dX1_sendTo_7 ?_
  refine Ev.iload_n (pc := 8) dX1_sendTo_8 rfl rfl ?_
  refine Ev.cTv (pc := 9) (av := [vR 78, vI (22 + a1), vI a2]) (rest := []) dX1_sendTo_9 ce_X9_put ml_X1_19 rfl sh_sc (Nat.le_of_ble_eq_true rfl) (Nat.le_of_ble_eq_true rfl) (r_put sh_78 (by decide) _ _ _) ?_
  refine Ev.nmS (fun σ1 e9 => ?_)
  replace h := bt_app h σ1 e9
  refine Ev.aload_n (pc := 12) dX1_sendTo_12 rfl rfl ?_
  refine Ev.getR (pc := 13) dX1_sendTo_13 fl_X1_11 sh_77 rfl ?_
  refine Ev.bipush (pc := 16) (v := 25) dX1_sendTo_16 kb_25 ?_
  refine Ev.iload_n (pc := 18) dX1_sendTo_18 rfl rfl ?_
  refine Ev.iadd (pc := 19) dX1_sendTo_19 ?_
  refine Ev.iload_n (pc := 20) dX1_sendTo_20 rfl rfl ?_
  refine Ev.cTv (pc := 21) (av := [vR 78, vI (25 + a1), vI a3]) (rest := []) dX1_sendTo_21 ce_X9_put ml_X1_19 rfl sh_sc (Nat.le_of_ble_eq_true rfl) (Nat.le_of_ble_eq_true rfl) (r_put sh_78 (by decide) _ _ _) ?_
  refine Ev.nmS (fun σ2 e9 => ?_)
  replace h := bt_app h σ2 e9
  subst h
  exact Ev.ret_v (pc := 24) dX1_sendTo_24 rfl
theorem r_X1_sendTo_77 (a1 : Int32) (a2 : Int32) (a3 : Int32) (σ : St) : Rn md_X1_sendTo 1 [vR 77, vI a1, vI a2, vI a3] SH σ (none, SH, t_X1_sendTo_77 a1 a2 a3 σ) := Rn.of ce_X1_sendTo.1 (Nat.le_of_ble_eq_true rfl) (e_X1_sendTo_77 _ _ _ _ _ rfl)
def l_X0_firstWrong_21 (N : Nat) : Nat → Int32 → Int32 → St → Option (Int32 × St)
  | 0, _, _, _ => none
  | n + 1, v2, v3, σ => if (σ 74 4) ≤ v3 then (some ((-1), σ)) else (bt (at_ σ 75 20 v3) fun x2 => bt (at_ σ 76 20 v3) fun x3 => if x3 < v2 then (some (v3, σ)) else (bd (o_X0_canBeKept N x2 x3 σ) fun x5 σ6 => if x5 = 0 then (some (v3, σ6)) else (bt (t_X1_end_77 x2 1 x3 σ6) fun σ9 => bt (t_X1_sendTo_77 (p_X1_holderOf_77 x2 σ9) (at_ σ9 5 7 x2) x3 σ9) fun σ10 => bt (v3 + 1) fun x11 => l_X0_firstWrong_21 N n x3 x11 σ10)))
def o_X0_firstWrong (N : Nat)  (σ : St) : Option (Int32 × St) := bt (cpO_ σ (some 24) (some 78) 31 31) fun σ1 => bt (p_X1_today_23 σ1) fun x2 => l_X0_firstWrong_21 N N x2 0 σ1
theorem ll_X0_firstWrong_21 (N : Nat) : ∀ (n : Nat) (v2 : Int32) (v3 : Int32) (σ : St) (v : Int32) (w : St), l_X0_firstWrong_21 N n v2 v3 σ = some (v, w) → Ev md_X0_firstWrong 5 21 [some (vR 74), none, some (vI v2), some (vI v3), none, none] [] SH σ (some (vI v), SH, w) := by
  intro n
  induction n with
  | zero =>
    intro v2 v3 σ v w h
    rw [l_X0_firstWrong_21] at h
    cases h
  | succ n ih =>
    intro v2 v3 σ v w h
    rw [l_X0_firstWrong_21] at h
    refine Ev.iload_n (pc := 21) dX0_firstWrong_21 rfl rfl ?_
    refine Ev.aload_n (pc := 22) dX0_firstWrong_22 rfl rfl ?_
    refine Ev.getI (pc := 23) dX0_firstWrong_23 fl_X0_31 sh_74 rfl ?_
    by_cases c1 : (σ 74 4) ≤ v3
    · replace h := (if_pos c1).symm.trans h
      refine Ev.icmp_ge_t (pc := 26) (tgt := 119) dX0_firstWrong_26 rfl c1 ?_
      refine Ev.iconst (pc := 119) (v := (-1)) dX0_firstWrong_119 ki_m1 ?_
      obtain ⟨h1, h2⟩ := oeq h
      subst h1
      subst h2
      exact Ev.ret_i (pc := 120) dX0_firstWrong_120 rfl rfl
    · replace h := (if_neg c1).symm.trans h
      refine Ev.icmp_ge_f (pc := 26) dX0_firstWrong_26 ⟨119, rfl⟩ c1 ?_
      refine Ev.aload_n (pc := 29) dX0_firstWrong_29 rfl rfl ?_
      refine Ev.getR (pc := 30) dX0_firstWrong_30 fl_X0_9 sh_74 rfl ?_
      refine Ev.iload_n (pc := 33) dX0_firstWrong_33 rfl rfl ?_
      refine Ev.cTi (pc := 34) (av := [vR 75, vI v3]) (rest := []) dX0_firstWrong_34 ce_X9_at ml_X0_50 rfl sh_sc (Nat.le_of_ble_eq_true rfl) (Nat.le_of_ble_eq_true rfl) (r_at sh_75 (by decide) _ _) ?_
      refine Ev.nmI (fun x2 e9 => ?_)
      replace h := bt_app h x2 e9
      refine Ev.istore (pc := 37) (lv' := [some (vR 74), none, some (vI v2), some (vI v3), some (vI x2), none]) dX0_firstWrong_37 (lt9 rfl) rfl rfl ?_
      refine Ev.aload_n (pc := 39) dX0_firstWrong_39 rfl rfl ?_
      refine Ev.getR (pc := 40) dX0_firstWrong_40 fl_X0_15 sh_74 rfl ?_
      refine Ev.iload_n (pc := 43) dX0_firstWrong_43 rfl rfl ?_
      refine Ev.cTi (pc := 44) (av := [vR 76, vI v3]) (rest := []) dX0_firstWrong_44 ce_X9_at ml_X0_50 rfl sh_sc (Nat.le_of_ble_eq_true rfl) (Nat.le_of_ble_eq_true rfl) (r_at sh_76 (by decide) _ _) ?_
      refine Ev.nmI (fun x3 e9 => ?_)
      replace h := bt_app h x3 e9
      refine Ev.istore (pc := 47) (lv' := [some (vR 74), none, some (vI v2), some (vI v3), some (vI x2), some (vI x3)]) dX0_firstWrong_47 (lt9 rfl) rfl rfl ?_
      refine Ev.iload (pc := 49) dX0_firstWrong_49 rfl ?_
      refine Ev.iload_n (pc := 51) dX0_firstWrong_51 rfl rfl ?_
      by_cases c4 : x3 < v2
      · replace h := (if_pos c4).symm.trans h
        refine Ev.icmp_lt_t (pc := 52) (tgt := 66) dX0_firstWrong_52 rfl c4 ?_
        refine Ev.iload_n (pc := 66) dX0_firstWrong_66 rfl rfl ?_
        obtain ⟨h1, h2⟩ := oeq h
        subst h1
        subst h2
        exact Ev.ret_i (pc := 67) dX0_firstWrong_67 rfl rfl
      · replace h := (if_neg c4).symm.trans h
        refine Ev.icmp_lt_f (pc := 52) dX0_firstWrong_52 ⟨66, rfl⟩ c4 ?_
        refine Ev.aload_n (pc := 55) dX0_firstWrong_55 rfl rfl ?_
        refine Ev.iload (pc := 56) dX0_firstWrong_56 rfl ?_
        refine Ev.iload (pc := 58) dX0_firstWrong_58 rfl ?_
        obtain ⟨x5, σ6, g7, h⟩ := bd_elim h
        refine Ev.cVi (pc := 60) (k := 74) (av := [vI x2, vI x3]) (rest := []) dX0_firstWrong_60 ce_X0_canBeKept ml_X0_54 rfl sh_74 cl_X0 sh_sc (Nat.le_of_ble_eq_true rfl) (Nat.le_of_ble_eq_true rfl) (r_X0_canBeKept g7) ?_
        by_cases c8 : x5 = 0
        · replace h := (if_pos c8).symm.trans h
          refine Ev.if_ne_f (pc := 63) dX0_firstWrong_63 ⟨68, rfl⟩ c8 ?_
          refine Ev.iload_n (pc := 66) dX0_firstWrong_66 rfl rfl ?_
          obtain ⟨h1, h2⟩ := oeq h
          subst h1
          subst h2
          exact Ev.ret_i (pc := 67) dX0_firstWrong_67 rfl rfl
        · replace h := (if_neg c8).symm.trans h
          refine Ev.if_ne_t (pc := 63) (tgt := 68) dX0_firstWrong_63 rfl c8 ?_
          refine Ev.aload_n (pc := 68) dX0_firstWrong_68 rfl rfl ?_
          refine Ev.getR (pc := 69) dX0_firstWrong_69 fl_X0_27 sh_74 rfl ?_
          refine Ev.iload (pc := 72) dX0_firstWrong_72 rfl ?_
          refine Ev.iconst (pc := 74) (v := 1) dX0_firstWrong_74 ki_1 ?_
          refine Ev.iload (pc := 75) dX0_firstWrong_75 rfl ?_
          refine Ev.cVv (pc := 77) (k := 77) (av := [vI x2, vI 1, vI x3]) (rest := []) dX0_firstWrong_77 ce_X1_end ml_X0_58 rfl sh_77 cl_X1 sh_sc (Nat.le_of_ble_eq_true rfl) (Nat.le_of_ble_eq_true rfl) (r_X1_end_77 _ _ _ _) ?_
          refine Ev.nmS (fun σ9 e9 => ?_)
          replace h := bt_app h σ9 e9
          refine Ev.aload_n (pc := 80) dX0_firstWrong_80 rfl rfl ?_
          refine Ev.getR (pc := 81) dX0_firstWrong_81 fl_X0_27 sh_74 rfl ?_
          refine Ev.aload_n (pc := 84) dX0_firstWrong_84 rfl rfl ?_
          refine Ev.getR (pc := 85) dX0_firstWrong_85 fl_X0_27 sh_74 rfl ?_
          refine Ev.iload (pc := 88) dX0_firstWrong_88 rfl ?_
          refine Ev.cVi (pc := 90) (k := 77) (av := [vI x2]) (rest := [vR 77]) dX0_firstWrong_90 ce_X1_holderOf ml_X0_62 rfl sh_77 cl_X1 sh_sc (Nat.le_of_ble_eq_true rfl) (Nat.le_of_ble_eq_true rfl) (r_X1_holderOf_77 _ _) ?_
          refine Ev.aload_n (pc := 93) dX0_firstWrong_93 rfl rfl ?_
          refine Ev.getR (pc := 94) dX0_firstWrong_94 fl_X0_18 sh_74 rfl ?_
          refine Ev.getR (pc := 97) dX0_firstWrong_97 fl_X0_66 sh_1 rfl ?_
          refine Ev.iload (pc := 100) dX0_firstWrong_100 rfl ?_
          refine Ev.cTi (pc := 102) (av := [vR 5, vI x2]) (rest := [vI (p_X1_holderOf_77 x2 σ9), vR 77]) dX0_firstWrong_102 ce_X9_at ml_X0_50 rfl sh_sc (Nat.le_of_ble_eq_true rfl) (Nat.le_of_ble_eq_true rfl) (r_at sh_5 (by decide) _ _) ?_
          refine Ev.iload (pc := 105) dX0_firstWrong_105 rfl ?_
          refine Ev.cVv (pc := 107) (k := 77) (av := [vI (p_X1_holderOf_77 x2 σ9), vI (at_ σ9 5 7 x2), vI x3]) (rest := []) dX0_firstWrong_107 ce_X1_sendTo ml_X0_71 rfl sh_77 cl_X1 sh_sc (Nat.le_of_ble_eq_true rfl) (Nat.le_of_ble_eq_true rfl) (r_X1_sendTo_77 _ _ _ _) ?_
          refine Ev.nmS (fun σ10 e9 => ?_)
          replace h := bt_app h σ10 e9
          refine Ev.iload (pc := 110) dX0_firstWrong_110 rfl ?_
          refine Ev.istore_n (pc := 112) (lv' := [some (vR 74), none, some (vI x3), some (vI v3), some (vI x2), some (vI x3)]) dX0_firstWrong_112 rfl (lt9 rfl) rfl rfl ?_
          obtain ⟨x11, e_x11, h⟩ := bt_elim h
          refine Ev.iinc (pc := 113) (v := x11) (lv' := [some (vR 74), none, some (vI x3), some (vI x11), some (vI x2), some (vI x3)]) dX0_firstWrong_113 rfl (by rw [ki_1, e_x11]) (lt9 rfl) rfl rfl ?_
          refine Ev.goto (pc := 116) (tgt := 21) dX0_firstWrong_116 rfl ?_
          exact Ev.weak2 (ih _ _ _ _ _ h) (lsubS (lsubN (lsubS (lsubS (lsubN (lsubN lsubE))))))
theorem e_X0_firstWrong (N : Nat)  (σ : St) (v : Int32) (w : St) (h : o_X0_firstWrong N  σ = some (v, w)) : Ev md_X0_firstWrong 5 0 (lvE [vR 74, vR 23] 6) [] SH σ (some (vI v), SH, w) := by
  show Ev md_X0_firstWrong 5 0 [some (vR 74), some (vR 23), none, none, none, none] [] SH σ (some (vI v), SH, w)
  unfold o_X0_firstWrong at h
  refine Ev.aload_n (pc := 0) dX0_firstWrong_0 rfl rfl ?_
  refine Ev.getR (pc := 1) dX0_firstWrong_1 fl_X0_39 sh_23 rfl ?_
  refine Ev.aload_n (pc := 4) dX0_firstWrong_4 rfl rfl ?_
  refine Ev.getR (pc := 5) dX0_firstWrong_5 fl_X0_27 sh_74 rfl ?_
  refine Ev.getR (pc := 8) dX0_firstWrong_8 fl_X0_39 sh_77 rfl ?_
  refine Ev.cTv (pc := 11) (av := [vR 24, vR 78]) (rest := []) dX0_firstWrong_11 ce_X9_copy ml_X0_42 rfl sh_sc (Nat.le_of_ble_eq_true rfl) (Nat.le_of_ble_eq_true rfl) (r_copy (hs_some sh_24) (hs_some sh_78) (by decide) (by decide) _) ?_
  refine Ev.nmS (fun σ1 e9 => ?_)
  replace h := bt_app h σ1 e9
  refine Ev.aload_n (pc := 14) dX0_firstWrong_14 rfl rfl ?_
  refine Ev.cVi (pc := 15) (k := 23) (av := []) (rest := []) dX0_firstWrong_15 ce_X1_today ml_X0_46 rfl sh_23 cl_X1 sh_sc (Nat.le_of_ble_eq_true rfl) (Nat.le_of_ble_eq_true rfl) (r_X1_today_23  _) ?_
  refine Ev.nmI (fun x2 e9 => ?_)
  replace h := bt_app h x2 e9
  refine Ev.istore_n (pc := 18) (lv' := [some (vR 74), some (vR 23), some (vI x2), none, none, none]) dX0_firstWrong_18 rfl (lt9 rfl) rfl rfl ?_
  refine Ev.iconst (pc := 19) (v := 0) dX0_firstWrong_19 ki_0 ?_
  refine Ev.istore_n (pc := 20) (lv' := [some (vR 74), some (vR 23), some (vI x2), some (vI 0), none, none]) dX0_firstWrong_20 rfl (lt9 rfl) rfl rfl ?_
  exact Ev.weak2 (ll_X0_firstWrong_21 N N _ _ _ _ _ h) (lsubS (lsubN (lsubS (lsubS (lsubN (lsubN lsubE))))))
theorem r_X0_firstWrong {N : Nat}  {σ : St} {v : Int32} {w : St} (h : o_X0_firstWrong N  σ = some (v, w)) : Rn md_X0_firstWrong 5 [vR 74, vR 23] SH σ (some (vI v), SH, w) := Rn.of ce_X0_firstWrong.1 (Nat.le_of_ble_eq_true rfl) (e_X0_firstWrong N  _ _ _ h)
def o_X9_judge (N : Nat)  (σ : St) : Option (Int32 × St) := bd (o_X0_firstWrong N  σ) fun x1 σ2 => some (x1, σ2)
theorem e_X9_judge (N : Nat)  (σ : St) (v : Int32) (w : St) (h : o_X9_judge N  σ = some (v, w)) : Ev md_X9_judge 6 0 (lvE [vR 0] 1) [] SH σ (some (vI v), SH, w) := by
  show Ev md_X9_judge 6 0 [some (vR 0)] [] SH σ (some (vI v), SH, w)
  unfold o_X9_judge at h
  refine Ev.aload_n (pc := 0) dX9_judge_0 rfl rfl ?_
  refine Ev.getR (pc := 1) dX9_judge_1 fl_X9_77 sh_0 rfl ?_
  refine Ev.aload_n (pc := 4) dX9_judge_4 rfl rfl ?_
  refine Ev.getR (pc := 5) dX9_judge_5 fl_X9_31 sh_0 rfl ?_
  obtain ⟨x1, σ2, g3, h⟩ := bd_elim h
  refine Ev.cVi (pc := 8) (k := 74) (av := [vR 23]) (rest := []) dX9_judge_8 ce_X0_firstWrong ml_X9_300 rfl sh_74 cl_X0 sh_sc (Nat.le_of_ble_eq_true rfl) (Nat.le_of_ble_eq_true rfl) (r_X0_firstWrong g3) ?_
  obtain ⟨h1, h2⟩ := oeq h
  subst h1
  subst h2
  exact Ev.ret_i (pc := 11) dX9_judge_11 rfl rfl
theorem r_X9_judge {N : Nat}  {σ : St} {v : Int32} {w : St} (h : o_X9_judge N  σ = some (v, w)) : Rn md_X9_judge 6 [vR 0] SH σ (some (vI v), SH, w) := Rn.of ce_X9_judge.1 (Nat.le_of_ble_eq_true rfl) (e_X9_judge N  _ _ _ h)
def j_X10_keepsSo_263 (N : Nat) (K_216 : Int32 → Int32 → Int32 → Int32 → Int32 → St → Option (Int32 × St)) (v1 : Int32) (v2 : Int32) (v3 : Int32) (v7 : Int32) (v8 : Int32) (s1 : Int32) (s2 : Int32) (σ : St) : Option (Int32 × St) := ckA s1 1360 (bt (st σ 80 s1.toNatClampNeg s2) fun σ2 => bt (v8 + 1) fun x3 => K_216 v1 v2 v3 v7 x3 σ2)
def l_X10_keepsSo_216 (N : Nat) : Nat → Int32 → Int32 → Int32 → Int32 → Int32 → St → Option (Int32 × St)
  | 0, _, _, _, _, _, _ => none
  | n + 1, v1, v2, v3, v7, v8, σ => if (σ 79 5) ≤ v8 then (ckB v7 (some (v7, σ))) else (ckA v8 14 (if (σ 91 v8.toNatClampNeg) = v1 then (j_X10_keepsSo_263 N (l_X10_keepsSo_216 N n) v1 v2 v3 v7 v8 ((v3 + 21) + v8) v2 σ) else (ckA ((v3 + 21) + v8) 1360 (j_X10_keepsSo_263 N (l_X10_keepsSo_216 N n) v1 v2 v3 v7 v8 ((v3 + 21) + v8) (σ 80 ((v3 + 21) + v8).toNatClampNeg) σ))))
def j_X10_keepsSo_171 (N : Nat) (v1 : Int32) (v2 : Int32) (v3 : Int32) (v4 : Int32) (s0 : Int32) (σ : St) : Option (Int32 × St) := ckA (v3 + v1) 1360 (bt (st σ 80 (v3 + v1).toNatClampNeg 1) fun σ2 => ckA v1 14 (ckA ((v3 + 28) + v4) 1360 (bt (st σ2 80 ((v3 + 28) + v4).toNatClampNeg (σ2 87 v1.toNatClampNeg)) fun σ5 => ckA ((v3 + 31) + v4) 1360 (bt (st σ5 80 ((v3 + 31) + v4).toNatClampNeg v2) fun σ7 => l_X10_keepsSo_216 N N v1 v2 v3 s0 0 σ7))))
def j_X10_keepsSo_170 (N : Nat) (v1 : Int32) (v2 : Int32) (v3 : Int32) (v4 : Int32) (σ : St) : Option (Int32 × St) := j_X10_keepsSo_171 N v1 v2 v3 v4 0 σ
def j_X10_keepsSo_136 (N : Nat) (v1 : Int32) (v2 : Int32) (v3 : Int32) (v4 : Int32) (s0 : Int32) (σ : St) : Option (Int32 × St) := if s0 = 0 then (j_X10_keepsSo_170 N v1 v2 v3 v4 σ) else (bd (o_X10_ripe N v3 v1 σ) fun x2 σ3 => ckA v1 14 (if (p_X10_in ((v2 - x2).toInt64) 0 ((σ3 89 v1.toNatClampNeg).toInt64) σ3) = 0 then (j_X10_keepsSo_170 N v1 v2 v3 v4 σ3) else (j_X10_keepsSo_171 N v1 v2 v3 v4 1 σ3)))
def j_X10_keepsSo_135 (N : Nat) (v1 : Int32) (v2 : Int32) (v3 : Int32) (v4 : Int32) (σ : St) : Option (Int32 × St) := j_X10_keepsSo_136 N v1 v2 v3 v4 0 σ
def j_X10_keepsSo_60 (N : Nat) (v1 : Int32) (v2 : Int32) (v3 : Int32) (v4 : Int32) (s0 : Int32) (σ : St) : Option (Int32 × St) := ckA ((v3 + 28) + v4) 1360 (ckA v1 14 (ckA ((5 * (σ 80 ((v3 + 28) + v4).toNatClampNeg)) + (σ 87 v1.toNatClampNeg)) 25 (bt (σ 83 ((5 * (σ 80 ((v3 + 28) + v4).toNatClampNeg)) + (σ 87 v1.toNatClampNeg)).toNatClampNeg) fun x4 => ckA (v3 + v1) 1360 (if (σ 80 (v3 + v1).toNatClampNeg) = 0 then (ckA ((v3 + 21) + v1) 1360 (if (σ 80 ((v3 + 21) + v1).toNatClampNeg) < 0 then (j_X10_keepsSo_135 N v1 v2 v3 v4 σ) else (if (99999999 : Int32) ≤ x4 then (j_X10_keepsSo_135 N v1 v2 v3 v4 σ) else (if v2 < (s0 + x4) then (j_X10_keepsSo_135 N v1 v2 v3 v4 σ) else (j_X10_keepsSo_136 N v1 v2 v3 v4 1 σ))))) else (j_X10_keepsSo_135 N v1 v2 v3 v4 σ)))))
def o_X10_keepsSo (N : Nat) (a1 : Int32) (a2 : Int32) (σ : St) : Option (Int32 × St) := ckA ((40 + 14) + a1) 1360 (bt (σ 80 ((40 + 14) + a1).toNatClampNeg) fun x2 => ckA ((40 + 31) + x2) 1360 (if (σ 80 ((40 + 31) + x2).toNatClampNeg) ≤ (σ 80 (37 : Int32).toNatClampNeg) then (j_X10_keepsSo_60 N a1 a2 40 x2 (σ 80 (37 : Int32).toNatClampNeg) σ) else (ckA ((40 + 31) + x2) 1360 (j_X10_keepsSo_60 N a1 a2 40 x2 (σ 80 ((40 + 31) + x2).toNatClampNeg) σ))))
theorem lj_X10_keepsSo_263 (N : Nat) (K_216 : Int32 → Int32 → Int32 → Int32 → Int32 → St → Option (Int32 × St)) (hK_216 : ∀ (v1 : Int32) (v2 : Int32) (v3 : Int32) (v7 : Int32) (v8 : Int32) (σ : St) (v : Int32) (w : St), K_216 v1 v2 v3 v7 v8 σ = some (v, w) → Ev md_X10_keepsSo 3 216 [some (vR 79), some (vI v1), some (vI v2), some (vI v3), none, none, none, some (vI v7), some (vI v8)] [] SH σ (some (vI v), SH, w)) (v1 : Int32) (v2 : Int32) (v3 : Int32) (v7 : Int32) (v8 : Int32) (s1 : Int32) (s2 : Int32) (σ : St) (v : Int32) (w : St) (h : j_X10_keepsSo_263 N K_216 v1 v2 v3 v7 v8 s1 s2 σ = some (v, w)) : Ev md_X10_keepsSo 3 263 [some (vR 79), some (vI v1), some (vI v2), some (vI v3), none, none, none, some (vI v7), some (vI v8)] [vI s2, vI s1, vR 80] SH σ (some (vI v), SH, w) := by
  unfold j_X10_keepsSo_263 at h
  obtain ⟨c1, h⟩ := ckA_elim h
  refine Ev.iast (pc := 263) dX10_keepsSo_263 sh_80 c1 ?_
  refine Ev.nmS (fun σ2 e9 => ?_)
  replace h := bt_app h σ2 e9
  obtain ⟨x3, e_x3, h⟩ := bt_elim h
  refine Ev.iinc (pc := 264) (v := x3) (lv' := [some (vR 79), some (vI v1), some (vI v2), some (vI v3), none, none, none, some (vI v7), some (vI x3)]) dX10_keepsSo_264 rfl (by rw [ki_1, e_x3]) (lt9 rfl) rfl rfl ?_
  refine Ev.goto (pc := 267) (tgt := 216) dX10_keepsSo_267 rfl ?_
  exact Ev.weak2 (hK_216 _ _ _ _ _ _ _ _ h) (lsubS (lsubS (lsubS (lsubS (lsubN (lsubN (lsubN (lsubS (lsubS lsubE)))))))))
theorem ll_X10_keepsSo_216 (N : Nat) : ∀ (n : Nat) (v1 : Int32) (v2 : Int32) (v3 : Int32) (v7 : Int32) (v8 : Int32) (σ : St) (v : Int32) (w : St), l_X10_keepsSo_216 N n v1 v2 v3 v7 v8 σ = some (v, w) → Ev md_X10_keepsSo 3 216 [some (vR 79), some (vI v1), some (vI v2), some (vI v3), none, none, none, some (vI v7), some (vI v8)] [] SH σ (some (vI v), SH, w) := by
  intro n
  induction n with
  | zero =>
    intro v1 v2 v3 v7 v8 σ v w h
    rw [l_X10_keepsSo_216] at h
    cases h
  | succ n ih =>
    intro v1 v2 v3 v7 v8 σ v w h
    rw [l_X10_keepsSo_216] at h
    refine Ev.iload (pc := 216) dX10_keepsSo_216 rfl ?_
    refine Ev.aload_n (pc := 218) dX10_keepsSo_218 rfl rfl ?_
    refine Ev.getI (pc := 219) dX10_keepsSo_219 fl_X10_175 sh_79 rfl ?_
    by_cases c1 : (σ 79 5) ≤ v8
    · replace h := (if_pos c1).symm.trans h
      refine Ev.icmp_ge_t (pc := 222) (tgt := 270) dX10_keepsSo_222 rfl c1 ?_
      refine Ev.iload (pc := 270) dX10_keepsSo_270 rfl ?_
      obtain ⟨c2, h⟩ := ckB_elim h
      obtain ⟨h1, h2⟩ := oeq h
      subst h1
      subst h2
      exact Ev.ret_i (pc := 272) dX10_keepsSo_272 rfl c2.1
    · replace h := (if_neg c1).symm.trans h
      refine Ev.icmp_ge_f (pc := 222) dX10_keepsSo_222 ⟨270, rfl⟩ c1 ?_
      refine Ev.aload_n (pc := 225) dX10_keepsSo_225 rfl rfl ?_
      refine Ev.getR (pc := 226) dX10_keepsSo_226 fl_X10_7 sh_79 rfl ?_
      refine Ev.iload_n (pc := 229) dX10_keepsSo_229 rfl rfl ?_
      refine Ev.bipush (pc := 230) (v := 21) dX10_keepsSo_230 kb_21 ?_
      refine Ev.iadd (pc := 232) dX10_keepsSo_232 ?_
      refine Ev.iload (pc := 233) dX10_keepsSo_233 rfl ?_
      refine Ev.iadd (pc := 235) dX10_keepsSo_235 ?_
      refine Ev.aload_n (pc := 236) dX10_keepsSo_236 rfl rfl ?_
      refine Ev.getR (pc := 237) dX10_keepsSo_237 fl_X10_44 sh_79 rfl ?_
      refine Ev.iload (pc := 240) dX10_keepsSo_240 rfl ?_
      obtain ⟨c3, h⟩ := ckA_elim h
      refine Ev.iald (pc := 242) dX10_keepsSo_242 sh_91 c3 ?_
      refine Ev.iload_n (pc := 243) dX10_keepsSo_243 rfl rfl ?_
      by_cases c4 : (σ 91 v8.toNatClampNeg) = v1
      · replace h := (if_pos c4).symm.trans h
        refine Ev.icmp_ne_f (pc := 244) dX10_keepsSo_244 ⟨251, rfl⟩ c4 ?_
        refine Ev.iload_n (pc := 247) dX10_keepsSo_247 rfl rfl ?_
        refine Ev.goto (pc := 248) (tgt := 263) dX10_keepsSo_248 rfl ?_
        exact Ev.weak2 (lj_X10_keepsSo_263 N (l_X10_keepsSo_216 N n) ih _ _ _ _ _ _ _ _ _ _ h) (lsubS (lsubS (lsubS (lsubS (lsubN (lsubN (lsubN (lsubS (lsubS lsubE)))))))))
      · replace h := (if_neg c4).symm.trans h
        refine Ev.icmp_ne_t (pc := 244) (tgt := 251) dX10_keepsSo_244 rfl c4 ?_
        refine Ev.aload_n (pc := 251) dX10_keepsSo_251 rfl rfl ?_
        refine Ev.getR (pc := 252) dX10_keepsSo_252 fl_X10_7 sh_79 rfl ?_
        refine Ev.iload_n (pc := 255) dX10_keepsSo_255 rfl rfl ?_
        refine Ev.bipush (pc := 256) (v := 21) dX10_keepsSo_256 kb_21 ?_
        refine Ev.iadd (pc := 258) dX10_keepsSo_258 ?_
        refine Ev.iload (pc := 259) dX10_keepsSo_259 rfl ?_
        refine Ev.iadd (pc := 261) dX10_keepsSo_261 ?_
        obtain ⟨c5, h⟩ := ckA_elim h
        refine Ev.iald (pc := 262) dX10_keepsSo_262 sh_80 c5 ?_
        exact Ev.weak2 (lj_X10_keepsSo_263 N (l_X10_keepsSo_216 N n) ih _ _ _ _ _ _ _ _ _ _ h) (lsubS (lsubS (lsubS (lsubS (lsubN (lsubN (lsubN (lsubS (lsubS lsubE)))))))))
theorem lj_X10_keepsSo_171 (N : Nat) (v1 : Int32) (v2 : Int32) (v3 : Int32) (v4 : Int32) (s0 : Int32) (σ : St) (v : Int32) (w : St) (h : j_X10_keepsSo_171 N v1 v2 v3 v4 s0 σ = some (v, w)) : Ev md_X10_keepsSo 3 171 [some (vR 79), some (vI v1), some (vI v2), some (vI v3), some (vI v4), none, none, none, none] [vI s0] SH σ (some (vI v), SH, w) := by
  unfold j_X10_keepsSo_171 at h
  refine Ev.istore (pc := 171) (lv' := [some (vR 79), some (vI v1), some (vI v2), some (vI v3), some (vI v4), none, none, some (vI s0), none]) dX10_keepsSo_171 (lt9 rfl) rfl rfl ?_
  refine Ev.aload_n (pc := 173) dX10_keepsSo_173 rfl rfl ?_
  refine Ev.getR (pc := 174) dX10_keepsSo_174 fl_X10_7 sh_79 rfl ?_
  refine Ev.iload_n (pc := 177) dX10_keepsSo_177 rfl rfl ?_
  refine Ev.iload_n (pc := 178) dX10_keepsSo_178 rfl rfl ?_
  refine Ev.iadd (pc := 179) dX10_keepsSo_179 ?_
  refine Ev.iconst (pc := 180) (v := 1) dX10_keepsSo_180 ki_1 ?_
  obtain ⟨c1, h⟩ := ckA_elim h
  refine Ev.iast (pc := 181) dX10_keepsSo_181 sh_80 c1 ?_
  refine Ev.nmS (fun σ2 e9 => ?_)
  replace h := bt_app h σ2 e9
  refine Ev.aload_n (pc := 182) dX10_keepsSo_182 rfl rfl ?_
  refine Ev.getR (pc := 183) dX10_keepsSo_183 fl_X10_7 sh_79 rfl ?_
  refine Ev.iload_n (pc := 186) dX10_keepsSo_186 rfl rfl ?_
  refine Ev.bipush (pc := 187) (v := 28) dX10_keepsSo_187 kb_28 ?_
  refine Ev.iadd (pc := 189) dX10_keepsSo_189 ?_
  refine Ev.iload (pc := 190) dX10_keepsSo_190 rfl ?_
  refine Ev.iadd (pc := 192) dX10_keepsSo_192 ?_
  refine Ev.aload_n (pc := 193) dX10_keepsSo_193 rfl rfl ?_
  refine Ev.getR (pc := 194) dX10_keepsSo_194 fl_X10_32 sh_79 rfl ?_
  refine Ev.iload_n (pc := 197) dX10_keepsSo_197 rfl rfl ?_
  obtain ⟨c3, h⟩ := ckA_elim h
  refine Ev.iald (pc := 198) dX10_keepsSo_198 sh_87 c3 ?_
  obtain ⟨c4, h⟩ := ckA_elim h
  refine Ev.iast (pc := 199) dX10_keepsSo_199 sh_80 c4 ?_
  refine Ev.nmS (fun σ5 e9 => ?_)
  replace h := bt_app h σ5 e9
  refine Ev.aload_n (pc := 200) dX10_keepsSo_200 rfl rfl ?_
  refine Ev.getR (pc := 201) dX10_keepsSo_201 fl_X10_7 sh_79 rfl ?_
  refine Ev.iload_n (pc := 204) dX10_keepsSo_204 rfl rfl ?_
  refine Ev.bipush (pc := 205) (v := 31) dX10_keepsSo_205 kb_31 ?_
  refine Ev.iadd (pc := 207) dX10_keepsSo_207 ?_
  refine Ev.iload (pc := 208) dX10_keepsSo_208 rfl ?_
  refine Ev.iadd (pc := 210) dX10_keepsSo_210 ?_
  refine Ev.iload_n (pc := 211) dX10_keepsSo_211 rfl rfl ?_
  obtain ⟨c6, h⟩ := ckA_elim h
  refine Ev.iast (pc := 212) dX10_keepsSo_212 sh_80 c6 ?_
  refine Ev.nmS (fun σ7 e9 => ?_)
  replace h := bt_app h σ7 e9
  refine Ev.iconst (pc := 213) (v := 0) dX10_keepsSo_213 ki_0 ?_
  refine Ev.istore (pc := 214) (lv' := [some (vR 79), some (vI v1), some (vI v2), some (vI v3), some (vI v4), none, none, some (vI s0), some (vI 0)]) dX10_keepsSo_214 (lt9 rfl) rfl rfl ?_
  exact Ev.weak2 (ll_X10_keepsSo_216 N N _ _ _ _ _ _ _ _ h) (lsubS (lsubS (lsubS (lsubS (lsubN (lsubN (lsubN (lsubS (lsubS lsubE)))))))))
theorem lj_X10_keepsSo_170 (N : Nat) (v1 : Int32) (v2 : Int32) (v3 : Int32) (v4 : Int32) (σ : St) (v : Int32) (w : St) (h : j_X10_keepsSo_170 N v1 v2 v3 v4 σ = some (v, w)) : Ev md_X10_keepsSo 3 170 [some (vR 79), some (vI v1), some (vI v2), some (vI v3), some (vI v4), none, none, none, none] [] SH σ (some (vI v), SH, w) := by
  unfold j_X10_keepsSo_170 at h
  refine Ev.iconst (pc := 170) (v := 0) dX10_keepsSo_170 ki_0 ?_
  exact Ev.weak2 (lj_X10_keepsSo_171 N _ _ _ _ _ _ _ _ h) (lsubS (lsubS (lsubS (lsubS (lsubS (lsubN (lsubN (lsubN (lsubN lsubE)))))))))
theorem lj_X10_keepsSo_136 (N : Nat) (v1 : Int32) (v2 : Int32) (v3 : Int32) (v4 : Int32) (s0 : Int32) (σ : St) (v : Int32) (w : St) (h : j_X10_keepsSo_136 N v1 v2 v3 v4 s0 σ = some (v, w)) : Ev md_X10_keepsSo 3 136 [some (vR 79), some (vI v1), some (vI v2), some (vI v3), some (vI v4), none, none, none, none] [vI s0] SH σ (some (vI v), SH, w) := by
  unfold j_X10_keepsSo_136 at h
  refine Ev.istore (pc := 136) (lv' := [some (vR 79), some (vI v1), some (vI v2), some (vI v3), some (vI v4), none, none, some (vI s0), none]) dX10_keepsSo_136 (lt9 rfl) rfl rfl ?_
  refine Ev.iload (pc := 138) dX10_keepsSo_138 rfl ?_
  by_cases c1 : s0 = 0
  · replace h := (if_pos c1).symm.trans h
    refine Ev.if_eq_t (pc := 140) (tgt := 170) dX10_keepsSo_140 rfl c1 ?_
    exact Ev.weak2 (lj_X10_keepsSo_170 N _ _ _ _ _ _ _ h) (lsubS (lsubS (lsubS (lsubS (lsubS (lsubN (lsubN (lsubN (lsubN lsubE)))))))))
  · replace h := (if_neg c1).symm.trans h
    refine Ev.if_eq_f (pc := 140) dX10_keepsSo_140 ⟨170, rfl⟩ c1 ?_
    refine Ev.iload_n (pc := 143) dX10_keepsSo_143 rfl rfl ?_
    refine Ev.aload_n (pc := 144) dX10_keepsSo_144 rfl rfl ?_
    refine Ev.iload_n (pc := 145) dX10_keepsSo_145 rfl rfl ?_
    refine Ev.iload_n (pc := 146) dX10_keepsSo_146 rfl rfl ?_
    obtain ⟨x2, σ3, g4, h⟩ := bd_elim h
    refine Ev.cVi (pc := 147) (k := 79) (av := [vI v3, vI v1]) (rest := [vI v2]) dX10_keepsSo_147 ce_X10_ripe ml_X10_215 rfl sh_79 cl_X10 sh_sc (Nat.le_of_ble_eq_true rfl) (Nat.le_of_ble_eq_true rfl) (r_X10_ripe g4) ?_
    refine Ev.isub (pc := 150) dX10_keepsSo_150 ?_
    refine Ev.i2l (pc := 151) dX10_keepsSo_151 ?_
    refine Ev.lconst (pc := 152) (v := 0) dX10_keepsSo_152 kL_0 ?_
    refine Ev.aload_n (pc := 153) dX10_keepsSo_153 rfl rfl ?_
    refine Ev.getR (pc := 154) dX10_keepsSo_154 fl_X10_38 sh_79 rfl ?_
    refine Ev.iload_n (pc := 157) dX10_keepsSo_157 rfl rfl ?_
    obtain ⟨c5, h⟩ := ckA_elim h
    refine Ev.iald (pc := 158) dX10_keepsSo_158 sh_89 c5 ?_
    refine Ev.i2l (pc := 159) dX10_keepsSo_159 ?_
    refine Ev.cTi (pc := 160) (av := [vL ((v2 - x2).toInt64), vL 0, vL ((σ3 89 v1.toNatClampNeg).toInt64)]) (rest := []) dX10_keepsSo_160 ce_X10_in ml_X10_89 rfl sh_sc (Nat.le_of_ble_eq_true rfl) (Nat.le_of_ble_eq_true rfl) (r_X10_in _ _ _ _) ?_
    by_cases c6 : (p_X10_in ((v2 - x2).toInt64) 0 ((σ3 89 v1.toNatClampNeg).toInt64) σ3) = 0
    · replace h := (if_pos c6).symm.trans h
      refine Ev.if_eq_t (pc := 163) (tgt := 170) dX10_keepsSo_163 rfl c6 ?_
      exact Ev.weak2 (lj_X10_keepsSo_170 N _ _ _ _ _ _ _ h) (lsubS (lsubS (lsubS (lsubS (lsubS (lsubN (lsubN (lsubN (lsubN lsubE)))))))))
    · replace h := (if_neg c6).symm.trans h
      refine Ev.if_eq_f (pc := 163) dX10_keepsSo_163 ⟨170, rfl⟩ c6 ?_
      refine Ev.iconst (pc := 166) (v := 1) dX10_keepsSo_166 ki_1 ?_
      refine Ev.goto (pc := 167) (tgt := 171) dX10_keepsSo_167 rfl ?_
      exact Ev.weak2 (lj_X10_keepsSo_171 N _ _ _ _ _ _ _ _ h) (lsubS (lsubS (lsubS (lsubS (lsubS (lsubN (lsubN (lsubN (lsubN lsubE)))))))))
theorem lj_X10_keepsSo_135 (N : Nat) (v1 : Int32) (v2 : Int32) (v3 : Int32) (v4 : Int32) (σ : St) (v : Int32) (w : St) (h : j_X10_keepsSo_135 N v1 v2 v3 v4 σ = some (v, w)) : Ev md_X10_keepsSo 3 135 [some (vR 79), some (vI v1), some (vI v2), some (vI v3), some (vI v4), none, none, none, none] [] SH σ (some (vI v), SH, w) := by
  unfold j_X10_keepsSo_135 at h
  refine Ev.iconst (pc := 135) (v := 0) dX10_keepsSo_135 ki_0 ?_
  exact Ev.weak2 (lj_X10_keepsSo_136 N _ _ _ _ _ _ _ _ h) (lsubS (lsubS (lsubS (lsubS (lsubS (lsubN (lsubN (lsubN (lsubN lsubE)))))))))
theorem lj_X10_keepsSo_60 (N : Nat) (v1 : Int32) (v2 : Int32) (v3 : Int32) (v4 : Int32) (s0 : Int32) (σ : St) (v : Int32) (w : St) (h : j_X10_keepsSo_60 N v1 v2 v3 v4 s0 σ = some (v, w)) : Ev md_X10_keepsSo 3 60 [some (vR 79), some (vI v1), some (vI v2), some (vI v3), some (vI v4), none, none, none, none] [vI s0] SH σ (some (vI v), SH, w) := by
  unfold j_X10_keepsSo_60 at h
  refine Ev.istore (pc := 60) (lv' := [some (vR 79), some (vI v1), some (vI v2), some (vI v3), some (vI v4), some (vI s0), none, none, none]) dX10_keepsSo_60 (lt9 rfl) rfl rfl ?_
  refine Ev.aload_n (pc := 62) dX10_keepsSo_62 rfl rfl ?_
  refine Ev.getR (pc := 63) dX10_keepsSo_63 fl_X10_20 sh_79 rfl ?_
  refine Ev.iconst (pc := 66) (v := 5) dX10_keepsSo_66 ki_5 ?_
  refine Ev.aload_n (pc := 67) dX10_keepsSo_67 rfl rfl ?_
  refine Ev.getR (pc := 68) dX10_keepsSo_68 fl_X10_7 sh_79 rfl ?_
  refine Ev.iload_n (pc := 71) dX10_keepsSo_71 rfl rfl ?_
  refine Ev.bipush (pc := 72) (v := 28) dX10_keepsSo_72 kb_28 ?_
  refine Ev.iadd (pc := 74) dX10_keepsSo_74 ?_
  refine Ev.iload (pc := 75) dX10_keepsSo_75 rfl ?_
  refine Ev.iadd (pc := 77) dX10_keepsSo_77 ?_
  obtain ⟨c1, h⟩ := ckA_elim h
  refine Ev.iald (pc := 78) dX10_keepsSo_78 sh_80 c1 ?_
  refine Ev.imul (pc := 79) dX10_keepsSo_79 ?_
  refine Ev.aload_n (pc := 80) dX10_keepsSo_80 rfl rfl ?_
  refine Ev.getR (pc := 81) dX10_keepsSo_81 fl_X10_32 sh_79 rfl ?_
  refine Ev.iload_n (pc := 84) dX10_keepsSo_84 rfl rfl ?_
  obtain ⟨c2, h⟩ := ckA_elim h
  refine Ev.iald (pc := 85) dX10_keepsSo_85 sh_87 c2 ?_
  refine Ev.iadd (pc := 86) dX10_keepsSo_86 ?_
  obtain ⟨c3, h⟩ := ckA_elim h
  refine Ev.iald (pc := 87) dX10_keepsSo_87 sh_83 c3 ?_
  refine Ev.nmI (fun x4 e9 => ?_)
  replace h := bt_app h x4 e9
  refine Ev.istore (pc := 88) (lv' := [some (vR 79), some (vI v1), some (vI v2), some (vI v3), some (vI v4), some (vI s0), some (vI x4), none, none]) dX10_keepsSo_88 (lt9 rfl) rfl rfl ?_
  refine Ev.aload_n (pc := 90) dX10_keepsSo_90 rfl rfl ?_
  refine Ev.getR (pc := 91) dX10_keepsSo_91 fl_X10_7 sh_79 rfl ?_
  refine Ev.iload_n (pc := 94) dX10_keepsSo_94 rfl rfl ?_
  refine Ev.iload_n (pc := 95) dX10_keepsSo_95 rfl rfl ?_
  refine Ev.iadd (pc := 96) dX10_keepsSo_96 ?_
  obtain ⟨c5, h⟩ := ckA_elim h
  refine Ev.iald (pc := 97) dX10_keepsSo_97 sh_80 c5 ?_
  by_cases c6 : (σ 80 (v3 + v1).toNatClampNeg) = 0
  · replace h := (if_pos c6).symm.trans h
    refine Ev.if_ne_f (pc := 98) dX10_keepsSo_98 ⟨135, rfl⟩ c6 ?_
    refine Ev.aload_n (pc := 101) dX10_keepsSo_101 rfl rfl ?_
    refine Ev.getR (pc := 102) dX10_keepsSo_102 fl_X10_7 sh_79 rfl ?_
    refine Ev.iload_n (pc := 105) dX10_keepsSo_105 rfl rfl ?_
    refine Ev.bipush (pc := 106) (v := 21) dX10_keepsSo_106 kb_21 ?_
    refine Ev.iadd (pc := 108) dX10_keepsSo_108 ?_
    refine Ev.iload_n (pc := 109) dX10_keepsSo_109 rfl rfl ?_
    refine Ev.iadd (pc := 110) dX10_keepsSo_110 ?_
    obtain ⟨c7, h⟩ := ckA_elim h
    refine Ev.iald (pc := 111) dX10_keepsSo_111 sh_80 c7 ?_
    by_cases c8 : (σ 80 ((v3 + 21) + v1).toNatClampNeg) < 0
    · replace h := (if_pos c8).symm.trans h
      refine Ev.if_lt_t (pc := 112) (tgt := 135) dX10_keepsSo_112 rfl c8 ?_
      exact Ev.weak2 (lj_X10_keepsSo_135 N _ _ _ _ _ _ _ h) (lsubS (lsubS (lsubS (lsubS (lsubS (lsubN (lsubN (lsubN (lsubN lsubE)))))))))
    · replace h := (if_neg c8).symm.trans h
      refine Ev.if_lt_f (pc := 112) dX10_keepsSo_112 ⟨135, rfl⟩ c8 ?_
      refine Ev.iload (pc := 115) dX10_keepsSo_115 rfl ?_
      refine Ev.ldc (pc := 117) dX10_keepsSo_117 kc_X10_156 ?_
      by_cases c9 : (99999999 : Int32) ≤ x4
      · replace h := (if_pos c9).symm.trans h
        refine Ev.icmp_ge_t (pc := 119) (tgt := 135) dX10_keepsSo_119 rfl c9 ?_
        exact Ev.weak2 (lj_X10_keepsSo_135 N _ _ _ _ _ _ _ h) (lsubS (lsubS (lsubS (lsubS (lsubS (lsubN (lsubN (lsubN (lsubN lsubE)))))))))
      · replace h := (if_neg c9).symm.trans h
        refine Ev.icmp_ge_f (pc := 119) dX10_keepsSo_119 ⟨135, rfl⟩ c9 ?_
        refine Ev.iload (pc := 122) dX10_keepsSo_122 rfl ?_
        refine Ev.iload (pc := 124) dX10_keepsSo_124 rfl ?_
        refine Ev.iadd (pc := 126) dX10_keepsSo_126 ?_
        refine Ev.iload_n (pc := 127) dX10_keepsSo_127 rfl rfl ?_
        by_cases c10 : v2 < (s0 + x4)
        · replace h := (if_pos c10).symm.trans h
          refine Ev.icmp_gt_t (pc := 128) (tgt := 135) dX10_keepsSo_128 rfl c10 ?_
          exact Ev.weak2 (lj_X10_keepsSo_135 N _ _ _ _ _ _ _ h) (lsubS (lsubS (lsubS (lsubS (lsubS (lsubN (lsubN (lsubN (lsubN lsubE)))))))))
        · replace h := (if_neg c10).symm.trans h
          refine Ev.icmp_gt_f (pc := 128) dX10_keepsSo_128 ⟨135, rfl⟩ c10 ?_
          refine Ev.iconst (pc := 131) (v := 1) dX10_keepsSo_131 ki_1 ?_
          refine Ev.goto (pc := 132) (tgt := 136) dX10_keepsSo_132 rfl ?_
          exact Ev.weak2 (lj_X10_keepsSo_136 N _ _ _ _ _ _ _ _ h) (lsubS (lsubS (lsubS (lsubS (lsubS (lsubN (lsubN (lsubN (lsubN lsubE)))))))))
  · replace h := (if_neg c6).symm.trans h
    refine Ev.if_ne_t (pc := 98) (tgt := 135) dX10_keepsSo_98 rfl c6 ?_
    exact Ev.weak2 (lj_X10_keepsSo_135 N _ _ _ _ _ _ _ h) (lsubS (lsubS (lsubS (lsubS (lsubS (lsubN (lsubN (lsubN (lsubN lsubE)))))))))
theorem e_X10_keepsSo (N : Nat) (a1 : Int32) (a2 : Int32) (σ : St) (v : Int32) (w : St) (h : o_X10_keepsSo N a1 a2 σ = some (v, w)) : Ev md_X10_keepsSo 3 0 (lvE [vR 79, vI a1, vI a2] 9) [] SH σ (some (vI v), SH, w) := by
  show Ev md_X10_keepsSo 3 0 [some (vR 79), some (vI a1), some (vI a2), none, none, none, none, none, none] [] SH σ (some (vI v), SH, w)
  unfold o_X10_keepsSo at h
  refine Ev.bipush (pc := 0) (v := 40) dX10_keepsSo_0 kb_40 ?_
  refine Ev.istore_n (pc := 2) (lv' := [some (vR 79), some (vI a1), some (vI a2), some (vI 40), none, none, none, none, none]) dX10_keepsSo_2 rfl (lt9 rfl) rfl rfl ?_
  refine Ev.aload_n (pc := 3) dX10_keepsSo_3 rfl rfl ?_
  refine Ev.getR (pc := 4) dX10_keepsSo_4 fl_X10_7 sh_79 rfl ?_
  refine Ev.iload_n (pc := 7) dX10_keepsSo_7 rfl rfl ?_
  refine Ev.bipush (pc := 8) (v := 14) dX10_keepsSo_8 kb_14 ?_
  refine Ev.iadd (pc := 10) dX10_keepsSo_10 ?_
  refine Ev.iload_n (pc := 11) dX10_keepsSo_11 rfl rfl ?_
  refine Ev.iadd (pc := 12) dX10_keepsSo_12 ?_
  obtain ⟨c1, h⟩ := ckA_elim h
  refine Ev.iald (pc := 13) dX10_keepsSo_13 sh_80 c1 ?_
  refine Ev.nmI (fun x2 e9 => ?_)
  replace h := bt_app h x2 e9
  refine Ev.istore (pc := 14) (lv' := [some (vR 79), some (vI a1), some (vI a2), some (vI 40), some (vI x2), none, none, none, none]) dX10_keepsSo_14 (lt9 rfl) rfl rfl ?_
  refine Ev.aload_n (pc := 16) dX10_keepsSo_16 rfl rfl ?_
  refine Ev.getR (pc := 17) dX10_keepsSo_17 fl_X10_7 sh_79 rfl ?_
  refine Ev.iload_n (pc := 20) dX10_keepsSo_20 rfl rfl ?_
  refine Ev.bipush (pc := 21) (v := 31) dX10_keepsSo_21 kb_31 ?_
  refine Ev.iadd (pc := 23) dX10_keepsSo_23 ?_
  refine Ev.iload (pc := 24) dX10_keepsSo_24 rfl ?_
  refine Ev.iadd (pc := 26) dX10_keepsSo_26 ?_
  obtain ⟨c3, h⟩ := ckA_elim h
  refine Ev.iald (pc := 27) dX10_keepsSo_27 sh_80 c3 ?_
  refine Ev.aload_n (pc := 28) dX10_keepsSo_28 rfl rfl ?_
  refine Ev.getR (pc := 29) dX10_keepsSo_29 fl_X10_7 sh_79 rfl ?_
  refine Ev.bipush (pc := 32) (v := 37) dX10_keepsSo_32 kb_37 ?_
  refine Ev.iald (pc := 34) dX10_keepsSo_34 sh_80 in_37_1360 ?_
  by_cases c4 : (σ 80 ((40 + 31) + x2).toNatClampNeg) ≤ (σ 80 (37 : Int32).toNatClampNeg)
  · replace h := (if_pos c4).symm.trans h
    refine Ev.icmp_le_t (pc := 35) (tgt := 53) dX10_keepsSo_35 rfl c4 ?_
    refine Ev.aload_n (pc := 53) dX10_keepsSo_53 rfl rfl ?_
    refine Ev.getR (pc := 54) dX10_keepsSo_54 fl_X10_7 sh_79 rfl ?_
    refine Ev.bipush (pc := 57) (v := 37) dX10_keepsSo_57 kb_37 ?_
    refine Ev.iald (pc := 59) dX10_keepsSo_59 sh_80 in_37_1360 ?_
    exact Ev.weak2 (lj_X10_keepsSo_60 N _ _ _ _ _ _ _ _ h) (lsubS (lsubS (lsubS (lsubS (lsubS (lsubN (lsubN (lsubN (lsubN lsubE)))))))))
  · replace h := (if_neg c4).symm.trans h
    refine Ev.icmp_le_f (pc := 35) dX10_keepsSo_35 ⟨53, rfl⟩ c4 ?_
    refine Ev.aload_n (pc := 38) dX10_keepsSo_38 rfl rfl ?_
    refine Ev.getR (pc := 39) dX10_keepsSo_39 fl_X10_7 sh_79 rfl ?_
    refine Ev.iload_n (pc := 42) dX10_keepsSo_42 rfl rfl ?_
    refine Ev.bipush (pc := 43) (v := 31) dX10_keepsSo_43 kb_31 ?_
    refine Ev.iadd (pc := 45) dX10_keepsSo_45 ?_
    refine Ev.iload (pc := 46) dX10_keepsSo_46 rfl ?_
    refine Ev.iadd (pc := 48) dX10_keepsSo_48 ?_
    obtain ⟨c5, h⟩ := ckA_elim h
    refine Ev.iald (pc := 49) dX10_keepsSo_49 sh_80 c5 ?_
    refine Ev.goto (pc := 50) (tgt := 60) dX10_keepsSo_50 rfl ?_
    exact Ev.weak2 (lj_X10_keepsSo_60 N _ _ _ _ _ _ _ _ h) (lsubS (lsubS (lsubS (lsubS (lsubS (lsubN (lsubN (lsubN (lsubN lsubE)))))))))
theorem r_X10_keepsSo {N : Nat} {a1 : Int32} {a2 : Int32} {σ : St} {v : Int32} {w : St} (h : o_X10_keepsSo N a1 a2 σ = some (v, w)) : Rn md_X10_keepsSo 3 [vR 79, vI a1, vI a2] SH σ (some (vI v), SH, w) := Rn.of ce_X10_keepsSo.1 (Nat.le_of_ble_eq_true rfl) (e_X10_keepsSo N _ _ _ _ _ h)
def l_X10_judge_17 (N : Nat) : Nat → Int32 → Int32 → St → Option (Int32 × St)
  | 0, _, _, _ => none
  | n + 1, v1, v2, σ => if (σ 79 44) ≤ v2 then (some ((-1), σ)) else (ckA v2 20 (if (σ 103 v2.toNatClampNeg) < v1 then (some (v2, σ)) else (ckA v2 20 (ckA v2 20 (bd (o_X10_keepsSo N (σ 102 v2.toNatClampNeg) (σ 103 v2.toNatClampNeg) σ) fun x6 σ7 => if x6 = 0 then (some (v2, σ7)) else (ckA v2 20 (bt (σ7 103 v2.toNatClampNeg) fun x11 => bt (v2 + 1) fun x12 => l_X10_judge_17 N n x11 x12 σ7)))))))
def o_X10_judge (N : Nat)  (σ : St) : Option (Int32 × St) := bd (o_X10_copy N 0 40 σ) fun u1 σ2 => bt (σ2 80 (37 : Int32).toNatClampNeg) fun x4 => l_X10_judge_17 N N x4 0 σ2
theorem ll_X10_judge_17 (N : Nat) : ∀ (n : Nat) (v1 : Int32) (v2 : Int32) (σ : St) (v : Int32) (w : St), l_X10_judge_17 N n v1 v2 σ = some (v, w) → Ev md_X10_judge 4 17 [some (vR 79), some (vI v1), some (vI v2)] [] SH σ (some (vI v), SH, w) := by
  intro n
  induction n with
  | zero =>
    intro v1 v2 σ v w h
    rw [l_X10_judge_17] at h
    cases h
  | succ n ih =>
    intro v1 v2 σ v w h
    rw [l_X10_judge_17] at h
    refine Ev.iload_n (pc := 17) dX10_judge_17 rfl rfl ?_
    refine Ev.aload_n (pc := 18) dX10_judge_18 rfl rfl ?_
    refine Ev.getI (pc := 19) dX10_judge_19 fl_X10_181 sh_79 rfl ?_
    by_cases c1 : (σ 79 44) ≤ v2
    · replace h := (if_pos c1).symm.trans h
      refine Ev.icmp_ge_t (pc := 22) (tgt := 69) dX10_judge_22 rfl c1 ?_
      refine Ev.iconst (pc := 69) (v := (-1)) dX10_judge_69 ki_m1 ?_
      obtain ⟨h1, h2⟩ := oeq h
      subst h1
      subst h2
      exact Ev.ret_i (pc := 70) dX10_judge_70 rfl rfl
    · replace h := (if_neg c1).symm.trans h
      refine Ev.icmp_ge_f (pc := 22) dX10_judge_22 ⟨69, rfl⟩ c1 ?_
      refine Ev.aload_n (pc := 25) dX10_judge_25 rfl rfl ?_
      refine Ev.getR (pc := 26) dX10_judge_26 fl_X10_84 sh_79 rfl ?_
      refine Ev.iload_n (pc := 29) dX10_judge_29 rfl rfl ?_
      obtain ⟨c2, h⟩ := ckA_elim h
      refine Ev.iald (pc := 30) dX10_judge_30 sh_103 c2 ?_
      refine Ev.iload_n (pc := 31) dX10_judge_31 rfl rfl ?_
      by_cases c3 : (σ 103 v2.toNatClampNeg) < v1
      · replace h := (if_pos c3).symm.trans h
        refine Ev.icmp_lt_t (pc := 32) (tgt := 54) dX10_judge_32 rfl c3 ?_
        refine Ev.iload_n (pc := 54) dX10_judge_54 rfl rfl ?_
        obtain ⟨h1, h2⟩ := oeq h
        subst h1
        subst h2
        exact Ev.ret_i (pc := 55) dX10_judge_55 rfl rfl
      · replace h := (if_neg c3).symm.trans h
        refine Ev.icmp_lt_f (pc := 32) dX10_judge_32 ⟨54, rfl⟩ c3 ?_
        refine Ev.aload_n (pc := 35) dX10_judge_35 rfl rfl ?_
        refine Ev.aload_n (pc := 36) dX10_judge_36 rfl rfl ?_
        refine Ev.getR (pc := 37) dX10_judge_37 fl_X10_81 sh_79 rfl ?_
        refine Ev.iload_n (pc := 40) dX10_judge_40 rfl rfl ?_
        obtain ⟨c4, h⟩ := ckA_elim h
        refine Ev.iald (pc := 41) dX10_judge_41 sh_102 c4 ?_
        refine Ev.aload_n (pc := 42) dX10_judge_42 rfl rfl ?_
        refine Ev.getR (pc := 43) dX10_judge_43 fl_X10_84 sh_79 rfl ?_
        refine Ev.iload_n (pc := 46) dX10_judge_46 rfl rfl ?_
        obtain ⟨c5, h⟩ := ckA_elim h
        refine Ev.iald (pc := 47) dX10_judge_47 sh_103 c5 ?_
        obtain ⟨x6, σ7, g8, h⟩ := bd_elim h
        refine Ev.cVi (pc := 48) (k := 79) (av := [vI (σ 102 v2.toNatClampNeg), vI (σ 103 v2.toNatClampNeg)]) (rest := []) dX10_judge_48 ce_X10_keepsSo ml_X10_346 rfl sh_79 cl_X10 sh_sc (Nat.le_of_ble_eq_true rfl) (Nat.le_of_ble_eq_true rfl) (r_X10_keepsSo g8) ?_
        by_cases c9 : x6 = 0
        · replace h := (if_pos c9).symm.trans h
          refine Ev.if_ne_f (pc := 51) dX10_judge_51 ⟨56, rfl⟩ c9 ?_
          refine Ev.iload_n (pc := 54) dX10_judge_54 rfl rfl ?_
          obtain ⟨h1, h2⟩ := oeq h
          subst h1
          subst h2
          exact Ev.ret_i (pc := 55) dX10_judge_55 rfl rfl
        · replace h := (if_neg c9).symm.trans h
          refine Ev.if_ne_t (pc := 51) (tgt := 56) dX10_judge_51 rfl c9 ?_
          refine Ev.aload_n (pc := 56) dX10_judge_56 rfl rfl ?_
          refine Ev.getR (pc := 57) dX10_judge_57 fl_X10_84 sh_79 rfl ?_
          refine Ev.iload_n (pc := 60) dX10_judge_60 rfl rfl ?_
          obtain ⟨c10, h⟩ := ckA_elim h
          refine Ev.iald (pc := 61) dX10_judge_61 sh_103 c10 ?_
          refine Ev.nmI (fun x11 e9 => ?_)
          replace h := bt_app h x11 e9
          refine Ev.istore_n (pc := 62) (lv' := [some (vR 79), some (vI x11), some (vI v2)]) dX10_judge_62 rfl (lt9 rfl) rfl rfl ?_
          obtain ⟨x12, e_x12, h⟩ := bt_elim h
          refine Ev.iinc (pc := 63) (v := x12) (lv' := [some (vR 79), some (vI x11), some (vI x12)]) dX10_judge_63 rfl (by rw [ki_1, e_x12]) (lt9 rfl) rfl rfl ?_
          refine Ev.goto (pc := 66) (tgt := 17) dX10_judge_66 rfl ?_
          exact Ev.weak2 (ih _ _ _ _ _ h) (lsubS (lsubS (lsubS lsubE)))
theorem e_X10_judge (N : Nat)  (σ : St) (v : Int32) (w : St) (h : o_X10_judge N  σ = some (v, w)) : Ev md_X10_judge 4 0 (lvE [vR 79] 3) [] SH σ (some (vI v), SH, w) := by
  show Ev md_X10_judge 4 0 [some (vR 79), none, none] [] SH σ (some (vI v), SH, w)
  unfold o_X10_judge at h
  refine Ev.aload_n (pc := 0) dX10_judge_0 rfl rfl ?_
  refine Ev.iconst (pc := 1) (v := 0) dX10_judge_1 ki_0 ?_
  refine Ev.bipush (pc := 2) (v := 40) dX10_judge_2 kb_40 ?_
  obtain ⟨u1, σ2, g3, h⟩ := bd_elim h
  refine Ev.cVv (pc := 4) (k := 79) (av := [vI 0, vI 40]) (rest := []) dX10_judge_4 ce_X10_copy ml_X10_235 rfl sh_79 cl_X10 sh_sc (Nat.le_of_ble_eq_true rfl) (Nat.le_of_ble_eq_true rfl) (r_X10_copy g3) ?_
  refine Ev.aload_n (pc := 7) dX10_judge_7 rfl rfl ?_
  refine Ev.getR (pc := 8) dX10_judge_8 fl_X10_7 sh_79 rfl ?_
  refine Ev.bipush (pc := 11) (v := 37) dX10_judge_11 kb_37 ?_
  refine Ev.iald (pc := 13) dX10_judge_13 sh_80 in_37_1360 ?_
  refine Ev.nmI (fun x4 e9 => ?_)
  replace h := bt_app h x4 e9
  refine Ev.istore_n (pc := 14) (lv' := [some (vR 79), some (vI x4), none]) dX10_judge_14 rfl (lt9 rfl) rfl rfl ?_
  refine Ev.iconst (pc := 15) (v := 0) dX10_judge_15 ki_0 ?_
  refine Ev.istore_n (pc := 16) (lv' := [some (vR 79), some (vI x4), some (vI 0)]) dX10_judge_16 rfl (lt9 rfl) rfl rfl ?_
  exact Ev.weak2 (ll_X10_judge_17 N N _ _ _ _ _ h) (lsubS (lsubS (lsubS lsubE)))
theorem r_X10_judge {N : Nat}  {σ : St} {v : Int32} {w : St} (h : o_X10_judge N  σ = some (v, w)) : Rn md_X10_judge 4 [vR 79] SH σ (some (vI v), SH, w) := Rn.of ce_X10_judge.1 (Nat.le_of_ble_eq_true rfl) (e_X10_judge N  _ _ _ h)
def t_X9_tear  (σ : St) : Int32 × St := bt (σ 74 4) fun x1 => bt (t_X0_empty  σ) fun σ2 => (x1, σ2)
theorem e_X9_tear  (σ : St) (q : Int32 × St) (h : t_X9_tear  σ = q) : Ev md_X9_tear 1 0 (lvE [vR 0] 2) [] SH σ (some (vI q.1), SH, q.2) := by
  show Ev md_X9_tear 1 0 [some (vR 0), none] [] SH σ (some (vI q.1), SH, q.2)
  unfold t_X9_tear at h
  refine Ev.aload_n (pc := 0) dX9_tear_0 rfl rfl ?_
  refine Ev.getR (pc := 1) dX9_tear_1 fl_X9_77 sh_0 rfl ?_
  refine Ev.getI (pc := 4) dX9_tear_4 fl_X9_132 sh_74 rfl ?_
  refine Ev.nmI (fun x1 e9 => ?_)
  replace h := bt_app h x1 e9
  refine Ev.istore_n (pc := 7) (lv' := [some (vR 0), some (vI x1)]) dX9_tear_7 rfl (lt9 rfl) rfl rfl ?_
  refine Ev.aload_n (pc := 8) dX9_tear_8 rfl rfl ?_
  refine Ev.getR (pc := 9) dX9_tear_9 fl_X9_77 sh_0 rfl ?_
  refine Ev.cVv (pc := 12) (k := 74) (av := []) (rest := []) dX9_tear_12 ce_X0_empty ml_X9_102 rfl sh_74 cl_X0 sh_sc (Nat.le_of_ble_eq_true rfl) (Nat.le_of_ble_eq_true rfl) (r_X0_empty  _) ?_
  refine Ev.nmS (fun σ2 e9 => ?_)
  replace h := bt_app h σ2 e9
  refine Ev.iload_n (pc := 15) dX9_tear_15 rfl rfl ?_
  subst h
  exact Ev.ret_i (pc := 16) dX9_tear_16 rfl rfl
theorem r_X9_tear  (σ : St) : Rn md_X9_tear 1 [vR 0] SH σ (some (vI (t_X9_tear  σ).1), SH, (t_X9_tear  σ).2) := Rn.of ce_X9_tear.1 (Nat.le_of_ble_eq_true rfl) (e_X9_tear  _ _ rfl)
def t_X10_tear  (σ : St) : Int32 × St := bt (σ 79 44) fun x1 => bt (st σ 79 44 0) fun σ2 => (x1, σ2)
theorem e_X10_tear  (σ : St) (q : Int32 × St) (h : t_X10_tear  σ = q) : Ev md_X10_tear 0 0 (lvE [vR 79] 2) [] SH σ (some (vI q.1), SH, q.2) := by
  show Ev md_X10_tear 0 0 [some (vR 79), none] [] SH σ (some (vI q.1), SH, q.2)
  unfold t_X10_tear at h
  refine Ev.aload_n (pc := 0) dX10_tear_0 rfl rfl ?_
  refine Ev.getI (pc := 1) dX10_tear_1 fl_X10_181 sh_79 rfl ?_
  refine Ev.nmI (fun x1 e9 => ?_)
  replace h := bt_app h x1 e9
  refine Ev.istore_n (pc := 4) (lv' := [some (vR 79), some (vI x1)]) dX10_tear_4 rfl (lt9 rfl) rfl rfl ?_
  refine Ev.aload_n (pc := 5) dX10_tear_5 rfl rfl ?_
  refine Ev.iconst (pc := 6) (v := 0) dX10_tear_6 ki_0 ?_
  refine Ev.putI (pc := 7) dX10_tear_7 pl_X10_181 sh_79 rfl rfl rfl ?_
  refine Ev.nmS (fun σ2 e9 => ?_)
  replace h := bt_app h σ2 e9
  refine Ev.iload_n (pc := 10) dX10_tear_10 rfl rfl ?_
  subst h
  exact Ev.ret_i (pc := 11) dX10_tear_11 rfl rfl
theorem r_X10_tear  (σ : St) : Rn md_X10_tear 0 [vR 79] SH σ (some (vI (t_X10_tear  σ).1), SH, (t_X10_tear  σ).2) := Rn.of ce_X10_tear.1 (Nat.le_of_ble_eq_true rfl) (e_X10_tear  _ _ rfl)
def t_X9_seed (a1 : Int32) (σ : St) : Int32 × St := if (0 : Int32) ≤ a1 then (bt (σ 62 0) fun x2 => bt (st σ 62 0 a1) fun σ3 => (x2, σ3)) else (((-1000000002), σ))
theorem e_X9_seed (a1 : Int32) (σ : St) (q : Int32 × St) (h : t_X9_seed a1 σ = q) : Ev md_X9_seed 0 0 (lvE [vR 0, vI a1] 3) [] SH σ (some (vI q.1), SH, q.2) := by
  show Ev md_X9_seed 0 0 [some (vR 0), some (vI a1), none] [] SH σ (some (vI q.1), SH, q.2)
  unfold t_X9_seed at h
  refine Ev.iload_n (pc := 0) dX9_seed_0 rfl rfl ?_
  by_cases c1 : (0 : Int32) ≤ a1
  · replace h := (if_pos c1).symm.trans h
    refine Ev.if_ge_t (pc := 1) (tgt := 7) dX9_seed_1 rfl c1 ?_
    refine Ev.aload_n (pc := 7) dX9_seed_7 rfl rfl ?_
    refine Ev.getR (pc := 8) dX9_seed_8 fl_X9_52 sh_0 rfl ?_
    refine Ev.getI (pc := 11) dX9_seed_11 fl_X9_304 sh_62 rfl ?_
    refine Ev.nmI (fun x2 e9 => ?_)
    replace h := bt_app h x2 e9
    refine Ev.istore_n (pc := 14) (lv' := [some (vR 0), some (vI a1), some (vI x2)]) dX9_seed_14 rfl (lt9 rfl) rfl rfl ?_
    refine Ev.aload_n (pc := 15) dX9_seed_15 rfl rfl ?_
    refine Ev.getR (pc := 16) dX9_seed_16 fl_X9_52 sh_0 rfl ?_
    refine Ev.iload_n (pc := 19) dX9_seed_19 rfl rfl ?_
    refine Ev.putI (pc := 20) dX9_seed_20 pl_X9_304 sh_62 rfl rfl rfl ?_
    refine Ev.nmS (fun σ3 e9 => ?_)
    replace h := bt_app h σ3 e9
    refine Ev.iload_n (pc := 23) dX9_seed_23 rfl rfl ?_
    subst h
    exact Ev.ret_i (pc := 24) dX9_seed_24 rfl rfl
  · replace h := (if_neg c1).symm.trans h
    refine Ev.if_ge_f (pc := 1) dX9_seed_1 ⟨7, rfl⟩ c1 ?_
    refine Ev.ldc (pc := 4) dX9_seed_4 kc_X9_81 ?_
    subst h
    exact Ev.ret_i (pc := 6) dX9_seed_6 rfl rfl
theorem r_X9_seed (a1 : Int32) (σ : St) : Rn md_X9_seed 0 [vR 0, vI a1] SH σ (some (vI (t_X9_seed a1 σ).1), SH, (t_X9_seed a1 σ).2) := Rn.of ce_X9_seed.1 (Nat.le_of_ble_eq_true rfl) (e_X9_seed _ _ _ rfl)
def t_X10_seed (a1 : Int32) (σ : St) : Int32 × St := if (0 : Int32) ≤ a1 then (bt (σ 80 (38 : Int32).toNatClampNeg) fun x2 => bt (st σ 80 (38 : Int32).toNatClampNeg a1) fun σ3 => (x2, σ3)) else (((-1000000002), σ))
theorem e_X10_seed (a1 : Int32) (σ : St) (q : Int32 × St) (h : t_X10_seed a1 σ = q) : Ev md_X10_seed 0 0 (lvE [vR 79, vI a1] 3) [] SH σ (some (vI q.1), SH, q.2) := by
  show Ev md_X10_seed 0 0 [some (vR 79), some (vI a1), none] [] SH σ (some (vI q.1), SH, q.2)
  unfold t_X10_seed at h
  refine Ev.iload_n (pc := 0) dX10_seed_0 rfl rfl ?_
  by_cases c1 : (0 : Int32) ≤ a1
  · replace h := (if_pos c1).symm.trans h
    refine Ev.if_ge_t (pc := 1) (tgt := 7) dX10_seed_1 rfl c1 ?_
    refine Ev.aload_n (pc := 7) dX10_seed_7 rfl rfl ?_
    refine Ev.getR (pc := 8) dX10_seed_8 fl_X10_7 sh_79 rfl ?_
    refine Ev.bipush (pc := 11) (v := 38) dX10_seed_11 kb_38 ?_
    refine Ev.iald (pc := 13) dX10_seed_13 sh_80 in_38_1360 ?_
    refine Ev.nmI (fun x2 e9 => ?_)
    replace h := bt_app h x2 e9
    refine Ev.istore_n (pc := 14) (lv' := [some (vR 79), some (vI a1), some (vI x2)]) dX10_seed_14 rfl (lt9 rfl) rfl rfl ?_
    refine Ev.aload_n (pc := 15) dX10_seed_15 rfl rfl ?_
    refine Ev.getR (pc := 16) dX10_seed_16 fl_X10_7 sh_79 rfl ?_
    refine Ev.bipush (pc := 19) (v := 38) dX10_seed_19 kb_38 ?_
    refine Ev.iload_n (pc := 21) dX10_seed_21 rfl rfl ?_
    refine Ev.iast (pc := 22) dX10_seed_22 sh_80 in_38_1360 ?_
    refine Ev.nmS (fun σ3 e9 => ?_)
    replace h := bt_app h σ3 e9
    refine Ev.iload_n (pc := 23) dX10_seed_23 rfl rfl ?_
    subst h
    exact Ev.ret_i (pc := 24) dX10_seed_24 rfl rfl
  · replace h := (if_neg c1).symm.trans h
    refine Ev.if_ge_f (pc := 1) dX10_seed_1 ⟨7, rfl⟩ c1 ?_
    refine Ev.ldc (pc := 4) dX10_seed_4 kc_X10_93 ?_
    subst h
    exact Ev.ret_i (pc := 6) dX10_seed_6 rfl rfl
theorem r_X10_seed (a1 : Int32) (σ : St) : Rn md_X10_seed 0 [vR 79, vI a1] SH σ (some (vI (t_X10_seed a1 σ).1), SH, (t_X10_seed a1 σ).2) := Rn.of ce_X10_seed.1 (Nat.le_of_ble_eq_true rfl) (e_X10_seed _ _ _ rfl)
def t_X4_take (a1 : Int32) (σ : St) : St := bt (cpO_ σ (some 24) (rwA_ 59 2 a1) 31 31) fun σ1 => bt (put_ σ1 61 2 a1 (σ1 62 0)) fun σ2 => bt (st σ2 57 2 ((σ2 57 2) ||| (1 <<< (a1 &&& 31)))) fun σ3 => σ3
theorem e_X4_take (a1 : Int32) (σ : St) (q : St) (h : t_X4_take a1 σ = q) : Ev md_X4_take 1 0 (lvE [vR 57, vI a1, vR 23, vR 62] 4) [] SH σ (none, SH, q) := by
  show Ev md_X4_take 1 0 [some (vR 57), some (vI a1), some (vR 23), some (vR 62)] [] SH σ (none, SH, q)
  unfold t_X4_take at h
  refine Ev.aload_n (pc := 0) dX4_take_0 rfl rfl ?_
  refine Ev.getR (pc := 1) dX4_take_1 fl_X4_26 sh_23 rfl ?_
  refine Ev.aload_n (pc := 4) dX4_take_4 rfl rfl ?_
  refine Ev.getR (pc := 5) dX4_take_5 fl_X4_13 sh_57 rfl ?_
  refine Ev.iload_n (pc := 8) dX4_take_8 rfl rfl ?_
  refine Ev.cTq (pc := 9) (av := [vR 58, vI a1]) (rest := [vR 24]) dX4_take_9 ce_X9_rowAt ml_X4_29 rfl sh_sc (Nat.le_of_ble_eq_true rfl) (Nat.le_of_ble_eq_true rfl) (r_rowAt sh_58 hr_58 (by decide) _ _) ?_
  refine Ev.cTv (pc := 12) (av := [vR 24, .inr (.inr (rwA_ 59 2 a1))]) (rest := []) dX4_take_12 ce_X9_copy ml_X4_33 rfl sh_sc (Nat.le_of_ble_eq_true rfl) (Nat.le_of_ble_eq_true rfl) (r_copy (hs_some sh_24) (hq_58 _) (by decide) (by decide) _) ?_
  refine Ev.nmS (fun σ1 e9 => ?_)
  replace h := bt_app h σ1 e9
  refine Ev.aload_n (pc := 15) dX4_take_15 rfl rfl ?_
  refine Ev.getR (pc := 16) dX4_take_16 fl_X4_18 sh_57 rfl ?_
  refine Ev.iload_n (pc := 19) dX4_take_19 rfl rfl ?_
  refine Ev.aload_n (pc := 20) dX4_take_20 rfl rfl ?_
  refine Ev.getI (pc := 21) dX4_take_21 fl_X4_37 sh_62 rfl ?_
  refine Ev.cTv (pc := 24) (av := [vR 61, vI a1, vI (σ1 62 0)]) (rest := []) dX4_take_24 ce_X9_put ml_X4_42 rfl sh_sc (Nat.le_of_ble_eq_true rfl) (Nat.le_of_ble_eq_true rfl) (r_put sh_61 (by decide) _ _ _) ?_
  refine Ev.nmS (fun σ2 e9 => ?_)
  replace h := bt_app h σ2 e9
  refine Ev.aload_n (pc := 27) dX4_take_27 rfl rfl ?_
  refine Ev.dup (pc := 28) dX4_take_28 rfl ?_
  refine Ev.getI (pc := 29) dX4_take_29 fl_X4_22 sh_57 rfl ?_
  refine Ev.iconst (pc := 32) (v := 1) dX4_take_32 ki_1 ?_
  refine Ev.iload_n (pc := 33) dX4_take_33 rfl rfl ?_
  refine Ev.ishl (pc := 34) dX4_take_34 ?_
  refine Ev.ior (pc := 35) dX4_take_35 ?_
  refine Ev.putI (pc := 36) dX4_take_36 pl_X4_22 sh_57 rfl rfl rfl ?_
  refine Ev.nmS (fun σ3 e9 => ?_)
  replace h := bt_app h σ3 e9
  subst h
  exact Ev.ret_v (pc := 39) dX4_take_39 rfl
theorem r_X4_take (a1 : Int32) (σ : St) : Rn md_X4_take 1 [vR 57, vI a1, vR 23, vR 62] SH σ (none, SH, t_X4_take a1 σ) := Rn.of ce_X4_take.1 (Nat.le_of_ble_eq_true rfl) (e_X4_take _ _ _ rfl)
def t_X9_image (a1 : Int32) (σ : St) : Int32 × St := if a1 < 0 then (((-1000000001), σ)) else (if a1 < 2 then (bt (t_X4_take a1 σ) fun σ3 => bt (t_X6_forget  σ3) fun σ4 => (1, σ4)) else (((-1000000001), σ)))
theorem e_X9_image (a1 : Int32) (σ : St) (q : Int32 × St) (h : t_X9_image a1 σ = q) : Ev md_X9_image 2 0 (lvE [vR 0, vI a1] 2) [] SH σ (some (vI q.1), SH, q.2) := by
  show Ev md_X9_image 2 0 [some (vR 0), some (vI a1)] [] SH σ (some (vI q.1), SH, q.2)
  unfold t_X9_image at h
  refine Ev.iload_n (pc := 0) dX9_image_0 rfl rfl ?_
  by_cases c1 : a1 < 0
  · replace h := (if_pos c1).symm.trans h
    refine Ev.if_lt_t (pc := 1) (tgt := 9) dX9_image_1 rfl c1 ?_
    refine Ev.ldc (pc := 9) dX9_image_9 kc_X9_145 ?_
    subst h
    exact Ev.ret_i (pc := 11) dX9_image_11 rfl rfl
  · replace h := (if_neg c1).symm.trans h
    refine Ev.if_lt_f (pc := 1) dX9_image_1 ⟨9, rfl⟩ c1 ?_
    refine Ev.iload_n (pc := 4) dX9_image_4 rfl rfl ?_
    refine Ev.iconst (pc := 5) (v := 2) dX9_image_5 ki_2 ?_
    by_cases c2 : a1 < 2
    · replace h := (if_pos c2).symm.trans h
      refine Ev.icmp_lt_t (pc := 6) (tgt := 12) dX9_image_6 rfl c2 ?_
      refine Ev.aload_n (pc := 12) dX9_image_12 rfl rfl ?_
      refine Ev.getR (pc := 13) dX9_image_13 fl_X9_45 sh_0 rfl ?_
      refine Ev.iload_n (pc := 16) dX9_image_16 rfl rfl ?_
      refine Ev.aload_n (pc := 17) dX9_image_17 rfl rfl ?_
      refine Ev.getR (pc := 18) dX9_image_18 fl_X9_31 sh_0 rfl ?_
      refine Ev.aload_n (pc := 21) dX9_image_21 rfl rfl ?_
      refine Ev.getR (pc := 22) dX9_image_22 fl_X9_52 sh_0 rfl ?_
      refine Ev.cVv (pc := 25) (k := 57) (av := [vI a1, vR 23, vR 62]) (rest := []) dX9_image_25 ce_X4_take ml_X9_307 rfl sh_57 cl_X4 sh_sc (Nat.le_of_ble_eq_true rfl) (Nat.le_of_ble_eq_true rfl) (r_X4_take _ _) ?_
      refine Ev.nmS (fun σ3 e9 => ?_)
      replace h := bt_app h σ3 e9
      refine Ev.aload_n (pc := 28) dX9_image_28 rfl rfl ?_
      refine Ev.getR (pc := 29) dX9_image_29 fl_X9_38 sh_0 rfl ?_
      refine Ev.cVv (pc := 32) (k := 25) (av := []) (rest := []) dX9_image_32 ce_X6_forget ml_X9_98 rfl sh_25 cl_X6 sh_sc (Nat.le_of_ble_eq_true rfl) (Nat.le_of_ble_eq_true rfl) (r_X6_forget  _) ?_
      refine Ev.nmS (fun σ4 e9 => ?_)
      replace h := bt_app h σ4 e9
      refine Ev.iconst (pc := 35) (v := 1) dX9_image_35 ki_1 ?_
      subst h
      exact Ev.ret_i (pc := 36) dX9_image_36 rfl rfl
    · replace h := (if_neg c2).symm.trans h
      refine Ev.icmp_lt_f (pc := 6) dX9_image_6 ⟨12, rfl⟩ c2 ?_
      refine Ev.ldc (pc := 9) dX9_image_9 kc_X9_145 ?_
      subst h
      exact Ev.ret_i (pc := 11) dX9_image_11 rfl rfl
theorem r_X9_image (a1 : Int32) (σ : St) : Rn md_X9_image 2 [vR 0, vI a1] SH σ (some (vI (t_X9_image a1 σ).1), SH, (t_X9_image a1 σ).2) := Rn.of ce_X9_image.1 (Nat.le_of_ble_eq_true rfl) (e_X9_image _ _ _ rfl)
def o_X10_image (N : Nat) (a1 : Int32) (σ : St) : Option (Int32 × St) := if (p_X10_in a1.toInt64 0 1 σ) = 0 then (some ((-1000000001), σ)) else (bd (o_X10_copy N 0 (80 + (40 * a1)) σ) fun u2 σ3 => ckA a1 2 (bt (st σ3 81 a1.toNatClampNeg (vp_nar .boolean 1)) fun σ6 => bt (st σ6 79 28 0) fun σ7 => some (1, σ7)))
theorem e_X10_image (N : Nat) (a1 : Int32) (σ : St) (v : Int32) (w : St) (h : o_X10_image N a1 σ = some (v, w)) : Ev md_X10_image 1 0 (lvE [vR 79, vI a1] 2) [] SH σ (some (vI v), SH, w) := by
  show Ev md_X10_image 1 0 [some (vR 79), some (vI a1)] [] SH σ (some (vI v), SH, w)
  unfold o_X10_image at h
  refine Ev.iload_n (pc := 0) dX10_image_0 rfl rfl ?_
  refine Ev.i2l (pc := 1) dX10_image_1 ?_
  refine Ev.lconst (pc := 2) (v := 0) dX10_image_2 kL_0 ?_
  refine Ev.lconst (pc := 3) (v := 1) dX10_image_3 kL_1 ?_
  refine Ev.cTi (pc := 4) (av := [vL a1.toInt64, vL 0, vL 1]) (rest := []) dX10_image_4 ce_X10_in ml_X10_89 rfl sh_sc (Nat.le_of_ble_eq_true rfl) (Nat.le_of_ble_eq_true rfl) (r_X10_in _ _ _ _) ?_
  by_cases c1 : (p_X10_in a1.toInt64 0 1 σ) = 0
  · replace h := (if_pos c1).symm.trans h
    refine Ev.if_ne_f (pc := 7) dX10_image_7 ⟨13, rfl⟩ c1 ?_
    refine Ev.ldc (pc := 10) dX10_image_10 kc_X10_205 ?_
    obtain ⟨h1, h2⟩ := oeq h
    subst h1
    subst h2
    exact Ev.ret_i (pc := 12) dX10_image_12 rfl rfl
  · replace h := (if_neg c1).symm.trans h
    refine Ev.if_ne_t (pc := 7) (tgt := 13) dX10_image_7 rfl c1 ?_
    refine Ev.aload_n (pc := 13) dX10_image_13 rfl rfl ?_
    refine Ev.iconst (pc := 14) (v := 0) dX10_image_14 ki_0 ?_
    refine Ev.bipush (pc := 15) (v := 80) dX10_image_15 kb_80 ?_
    refine Ev.bipush (pc := 17) (v := 40) dX10_image_17 kb_40 ?_
    refine Ev.iload_n (pc := 19) dX10_image_19 rfl rfl ?_
    refine Ev.imul (pc := 20) dX10_image_20 ?_
    refine Ev.iadd (pc := 21) dX10_image_21 ?_
    obtain ⟨u2, σ3, g4, h⟩ := bd_elim h
    refine Ev.cVv (pc := 22) (k := 79) (av := [vI 0, vI (80 + (40 * a1))]) (rest := []) dX10_image_22 ce_X10_copy ml_X10_235 rfl sh_79 cl_X10 sh_sc (Nat.le_of_ble_eq_true rfl) (Nat.le_of_ble_eq_true rfl) (r_X10_copy g4) ?_
    refine Ev.aload_n (pc := 25) dX10_image_25 rfl rfl ?_
    refine Ev.getR (pc := 26) dX10_image_26 fl_X10_13 sh_79 rfl ?_
    refine Ev.iload_n (pc := 29) dX10_image_29 rfl rfl ?_
    refine Ev.iconst (pc := 30) (v := 1) dX10_image_30 ki_1 ?_
    obtain ⟨c5, h⟩ := ckA_elim h
    refine Ev.zast (pc := 31) dX10_image_31 sh_81 c5 ?_
    refine Ev.nmS (fun σ6 e9 => ?_)
    replace h := bt_app h σ6 e9
    refine Ev.aload_n (pc := 32) dX10_image_32 rfl rfl ?_
    refine Ev.iconst (pc := 33) (v := 0) dX10_image_33 ki_0 ?_
    refine Ev.putI (pc := 34) dX10_image_34 pl_X10_184 sh_79 rfl rfl rfl ?_
    refine Ev.nmS (fun σ7 e9 => ?_)
    replace h := bt_app h σ7 e9
    refine Ev.iconst (pc := 37) (v := 1) dX10_image_37 ki_1 ?_
    obtain ⟨h1, h2⟩ := oeq h
    subst h1
    subst h2
    exact Ev.ret_i (pc := 38) dX10_image_38 rfl rfl
theorem r_X10_image {N : Nat} {a1 : Int32} {σ : St} {v : Int32} {w : St} (h : o_X10_image N a1 σ = some (v, w)) : Rn md_X10_image 1 [vR 79, vI a1] SH σ (some (vI v), SH, w) := Rn.of ce_X10_image.1 (Nat.le_of_ble_eq_true rfl) (e_X10_image N _ _ _ _ h)
def t_X4_giveBack (a1 : Int32) (σ : St) : Int32 × St := if (p_X9_has (σ 57 2) a1 σ) = 0 then ((0, σ)) else (bt (cpO_ σ (rwA_ 59 2 a1) (some 24) 31 31) fun σ2 => bt (st σ2 62 0 (at_ σ2 61 2 a1)) fun σ3 => (1, σ3))
theorem e_X4_giveBack (a1 : Int32) (σ : St) (q : Int32 × St) (h : t_X4_giveBack a1 σ = q) : Ev md_X4_giveBack 1 0 (lvE [vR 57, vI a1, vR 23, vR 62] 4) [] SH σ (some (vI q.1), SH, q.2) := by
  show Ev md_X4_giveBack 1 0 [some (vR 57), some (vI a1), some (vR 23), some (vR 62)] [] SH σ (some (vI q.1), SH, q.2)
  unfold t_X4_giveBack at h
  refine Ev.aload_n (pc := 0) dX4_giveBack_0 rfl rfl ?_
  refine Ev.getI (pc := 1) dX4_giveBack_1 fl_X4_22 sh_57 rfl ?_
  refine Ev.iload_n (pc := 4) dX4_giveBack_4 rfl rfl ?_
  refine Ev.cTi (pc := 5) (av := [vI (σ 57 2), vI a1]) (rest := []) dX4_giveBack_5 ce_X9_has ml_X4_46 rfl sh_sc (Nat.le_of_ble_eq_true rfl) (Nat.le_of_ble_eq_true rfl) (r_X9_has _ _ _) ?_
  by_cases c1 : (p_X9_has (σ 57 2) a1 σ) = 0
  · replace h := (if_pos c1).symm.trans h
    refine Ev.if_ne_f (pc := 8) dX4_giveBack_8 ⟨13, rfl⟩ c1 ?_
    refine Ev.iconst (pc := 11) (v := 0) dX4_giveBack_11 ki_0 ?_
    subst h
    exact Ev.ret_i (pc := 12) dX4_giveBack_12 rfl nb_0
  · replace h := (if_neg c1).symm.trans h
    refine Ev.if_ne_t (pc := 8) (tgt := 13) dX4_giveBack_8 rfl c1 ?_
    refine Ev.aload_n (pc := 13) dX4_giveBack_13 rfl rfl ?_
    refine Ev.getR (pc := 14) dX4_giveBack_14 fl_X4_13 sh_57 rfl ?_
    refine Ev.iload_n (pc := 17) dX4_giveBack_17 rfl rfl ?_
    refine Ev.cTq (pc := 18) (av := [vR 58, vI a1]) (rest := []) dX4_giveBack_18 ce_X9_rowAt ml_X4_29 rfl sh_sc (Nat.le_of_ble_eq_true rfl) (Nat.le_of_ble_eq_true rfl) (r_rowAt sh_58 hr_58 (by decide) _ _) ?_
    refine Ev.aload_n (pc := 21) dX4_giveBack_21 rfl rfl ?_
    refine Ev.getR (pc := 22) dX4_giveBack_22 fl_X4_26 sh_23 rfl ?_
    refine Ev.cTv (pc := 25) (av := [.inr (.inr (rwA_ 59 2 a1)), vR 24]) (rest := []) dX4_giveBack_25 ce_X9_copy ml_X4_33 rfl sh_sc (Nat.le_of_ble_eq_true rfl) (Nat.le_of_ble_eq_true rfl) (r_copy (hq_58 _) (hs_some sh_24) (by decide) (by decide) _) ?_
    refine Ev.nmS (fun σ2 e9 => ?_)
    replace h := bt_app h σ2 e9
    refine Ev.aload_n (pc := 28) dX4_giveBack_28 rfl rfl ?_
    refine Ev.aload_n (pc := 29) dX4_giveBack_29 rfl rfl ?_
    refine Ev.getR (pc := 30) dX4_giveBack_30 fl_X4_18 sh_57 rfl ?_
    refine Ev.iload_n (pc := 33) dX4_giveBack_33 rfl rfl ?_
    refine Ev.cTi (pc := 34) (av := [vR 61, vI a1]) (rest := [vR 62]) dX4_giveBack_34 ce_X9_at ml_X4_50 rfl sh_sc (Nat.le_of_ble_eq_true rfl) (Nat.le_of_ble_eq_true rfl) (r_at sh_61 (by decide) _ _) ?_
    refine Ev.putI (pc := 37) dX4_giveBack_37 pl_X4_37 sh_62 rfl rfl rfl ?_
    refine Ev.nmS (fun σ3 e9 => ?_)
    replace h := bt_app h σ3 e9
    refine Ev.iconst (pc := 40) (v := 1) dX4_giveBack_40 ki_1 ?_
    subst h
    exact Ev.ret_i (pc := 41) dX4_giveBack_41 rfl nb_1
theorem r_X4_giveBack (a1 : Int32) (σ : St) : Rn md_X4_giveBack 1 [vR 57, vI a1, vR 23, vR 62] SH σ (some (vI (t_X4_giveBack a1 σ).1), SH, (t_X4_giveBack a1 σ).2) := Rn.of ce_X4_giveBack.1 (Nat.le_of_ble_eq_true rfl) (e_X4_giveBack _ _ _ rfl)
def t_X9_goBack (a1 : Int32) (σ : St) : Int32 × St := if a1 < 0 then (((-1000000001), σ)) else (if a1 < 2 then (bt (t_X4_giveBack a1 σ) fun q3 => if q3.1 = 0 then (((-1000000003), q3.2)) else (bt (t_X6_forget  q3.2) fun σ5 => (1, σ5))) else (((-1000000001), σ)))
theorem e_X9_goBack (a1 : Int32) (σ : St) (q : Int32 × St) (h : t_X9_goBack a1 σ = q) : Ev md_X9_goBack 2 0 (lvE [vR 0, vI a1] 2) [] SH σ (some (vI q.1), SH, q.2) := by
  show Ev md_X9_goBack 2 0 [some (vR 0), some (vI a1)] [] SH σ (some (vI q.1), SH, q.2)
  unfold t_X9_goBack at h
  refine Ev.iload_n (pc := 0) dX9_goBack_0 rfl rfl ?_
  by_cases c1 : a1 < 0
  · replace h := (if_pos c1).symm.trans h
    refine Ev.if_lt_t (pc := 1) (tgt := 9) dX9_goBack_1 rfl c1 ?_
    refine Ev.ldc (pc := 9) dX9_goBack_9 kc_X9_145 ?_
    subst h
    exact Ev.ret_i (pc := 11) dX9_goBack_11 rfl rfl
  · replace h := (if_neg c1).symm.trans h
    refine Ev.if_lt_f (pc := 1) dX9_goBack_1 ⟨9, rfl⟩ c1 ?_
    refine Ev.iload_n (pc := 4) dX9_goBack_4 rfl rfl ?_
    refine Ev.iconst (pc := 5) (v := 2) dX9_goBack_5 ki_2 ?_
    by_cases c2 : a1 < 2
    · replace h := (if_pos c2).symm.trans h
      refine Ev.icmp_lt_t (pc := 6) (tgt := 12) dX9_goBack_6 rfl c2 ?_
      refine Ev.aload_n (pc := 12) dX9_goBack_12 rfl rfl ?_
      refine Ev.getR (pc := 13) dX9_goBack_13 fl_X9_45 sh_0 rfl ?_
      refine Ev.iload_n (pc := 16) dX9_goBack_16 rfl rfl ?_
      refine Ev.aload_n (pc := 17) dX9_goBack_17 rfl rfl ?_
      refine Ev.getR (pc := 18) dX9_goBack_18 fl_X9_31 sh_0 rfl ?_
      refine Ev.aload_n (pc := 21) dX9_goBack_21 rfl rfl ?_
      refine Ev.getR (pc := 22) dX9_goBack_22 fl_X9_52 sh_0 rfl ?_
      refine Ev.cVi (pc := 25) (k := 57) (av := [vI a1, vR 23, vR 62]) (rest := []) dX9_goBack_25 ce_X4_giveBack ml_X9_311 rfl sh_57 cl_X4 sh_sc (Nat.le_of_ble_eq_true rfl) (Nat.le_of_ble_eq_true rfl) (r_X4_giveBack _ _) ?_
      refine Ev.nmQ (fun q3 e9 => ?_)
      replace h := bt_app h q3 e9
      by_cases c4 : q3.1 = 0
      · replace h := (if_pos c4).symm.trans h
        refine Ev.if_ne_f (pc := 28) dX9_goBack_28 ⟨34, rfl⟩ c4 ?_
        refine Ev.ldc (pc := 31) dX9_goBack_31 kc_X9_207 ?_
        subst h
        exact Ev.ret_i (pc := 33) dX9_goBack_33 rfl rfl
      · replace h := (if_neg c4).symm.trans h
        refine Ev.if_ne_t (pc := 28) (tgt := 34) dX9_goBack_28 rfl c4 ?_
        refine Ev.aload_n (pc := 34) dX9_goBack_34 rfl rfl ?_
        refine Ev.getR (pc := 35) dX9_goBack_35 fl_X9_38 sh_0 rfl ?_
        refine Ev.cVv (pc := 38) (k := 25) (av := []) (rest := []) dX9_goBack_38 ce_X6_forget ml_X9_98 rfl sh_25 cl_X6 sh_sc (Nat.le_of_ble_eq_true rfl) (Nat.le_of_ble_eq_true rfl) (r_X6_forget  _) ?_
        refine Ev.nmS (fun σ5 e9 => ?_)
        replace h := bt_app h σ5 e9
        refine Ev.iconst (pc := 41) (v := 1) dX9_goBack_41 ki_1 ?_
        subst h
        exact Ev.ret_i (pc := 42) dX9_goBack_42 rfl rfl
    · replace h := (if_neg c2).symm.trans h
      refine Ev.icmp_lt_f (pc := 6) dX9_goBack_6 ⟨12, rfl⟩ c2 ?_
      refine Ev.ldc (pc := 9) dX9_goBack_9 kc_X9_145 ?_
      subst h
      exact Ev.ret_i (pc := 11) dX9_goBack_11 rfl rfl
theorem r_X9_goBack (a1 : Int32) (σ : St) : Rn md_X9_goBack 2 [vR 0, vI a1] SH σ (some (vI (t_X9_goBack a1 σ).1), SH, (t_X9_goBack a1 σ).2) := Rn.of ce_X9_goBack.1 (Nat.le_of_ble_eq_true rfl) (e_X9_goBack _ _ _ rfl)
def o_X10_goBack (N : Nat) (a1 : Int32) (σ : St) : Option (Int32 × St) := if (p_X10_in a1.toInt64 0 1 σ) = 0 then (some ((-1000000001), σ)) else (ckA a1 2 (if (σ 81 a1.toNatClampNeg) = 0 then (some ((-1000000003), σ)) else (bd (o_X10_copy N (80 + (40 * a1)) 0 σ) fun u4 σ5 => bt (st σ5 79 28 0) fun σ7 => some (1, σ7))))
theorem e_X10_goBack (N : Nat) (a1 : Int32) (σ : St) (v : Int32) (w : St) (h : o_X10_goBack N a1 σ = some (v, w)) : Ev md_X10_goBack 1 0 (lvE [vR 79, vI a1] 2) [] SH σ (some (vI v), SH, w) := by
  show Ev md_X10_goBack 1 0 [some (vR 79), some (vI a1)] [] SH σ (some (vI v), SH, w)
  unfold o_X10_goBack at h
  refine Ev.iload_n (pc := 0) dX10_goBack_0 rfl rfl ?_
  refine Ev.i2l (pc := 1) dX10_goBack_1 ?_
  refine Ev.lconst (pc := 2) (v := 0) dX10_goBack_2 kL_0 ?_
  refine Ev.lconst (pc := 3) (v := 1) dX10_goBack_3 kL_1 ?_
  refine Ev.cTi (pc := 4) (av := [vL a1.toInt64, vL 0, vL 1]) (rest := []) dX10_goBack_4 ce_X10_in ml_X10_89 rfl sh_sc (Nat.le_of_ble_eq_true rfl) (Nat.le_of_ble_eq_true rfl) (r_X10_in _ _ _ _) ?_
  by_cases c1 : (p_X10_in a1.toInt64 0 1 σ) = 0
  · replace h := (if_pos c1).symm.trans h
    refine Ev.if_ne_f (pc := 7) dX10_goBack_7 ⟨13, rfl⟩ c1 ?_
    refine Ev.ldc (pc := 10) dX10_goBack_10 kc_X10_205 ?_
    obtain ⟨h1, h2⟩ := oeq h
    subst h1
    subst h2
    exact Ev.ret_i (pc := 12) dX10_goBack_12 rfl rfl
  · replace h := (if_neg c1).symm.trans h
    refine Ev.if_ne_t (pc := 7) (tgt := 13) dX10_goBack_7 rfl c1 ?_
    refine Ev.aload_n (pc := 13) dX10_goBack_13 rfl rfl ?_
    refine Ev.getR (pc := 14) dX10_goBack_14 fl_X10_13 sh_79 rfl ?_
    refine Ev.iload_n (pc := 17) dX10_goBack_17 rfl rfl ?_
    obtain ⟨c2, h⟩ := ckA_elim h
    refine Ev.zald (pc := 18) dX10_goBack_18 sh_81 c2 ?_
    by_cases c3 : (σ 81 a1.toNatClampNeg) = 0
    · replace h := (if_pos c3).symm.trans h
      refine Ev.if_ne_f (pc := 19) dX10_goBack_19 ⟨25, rfl⟩ c3 ?_
      refine Ev.ldc (pc := 22) dX10_goBack_22 kc_X10_227 ?_
      obtain ⟨h1, h2⟩ := oeq h
      subst h1
      subst h2
      exact Ev.ret_i (pc := 24) dX10_goBack_24 rfl rfl
    · replace h := (if_neg c3).symm.trans h
      refine Ev.if_ne_t (pc := 19) (tgt := 25) dX10_goBack_19 rfl c3 ?_
      refine Ev.aload_n (pc := 25) dX10_goBack_25 rfl rfl ?_
      refine Ev.bipush (pc := 26) (v := 80) dX10_goBack_26 kb_80 ?_
      refine Ev.bipush (pc := 28) (v := 40) dX10_goBack_28 kb_40 ?_
      refine Ev.iload_n (pc := 30) dX10_goBack_30 rfl rfl ?_
      refine Ev.imul (pc := 31) dX10_goBack_31 ?_
      refine Ev.iadd (pc := 32) dX10_goBack_32 ?_
      refine Ev.iconst (pc := 33) (v := 0) dX10_goBack_33 ki_0 ?_
      obtain ⟨u4, σ5, g6, h⟩ := bd_elim h
      refine Ev.cVv (pc := 34) (k := 79) (av := [vI (80 + (40 * a1)), vI 0]) (rest := []) dX10_goBack_34 ce_X10_copy ml_X10_235 rfl sh_79 cl_X10 sh_sc (Nat.le_of_ble_eq_true rfl) (Nat.le_of_ble_eq_true rfl) (r_X10_copy g6) ?_
      refine Ev.aload_n (pc := 37) dX10_goBack_37 rfl rfl ?_
      refine Ev.iconst (pc := 38) (v := 0) dX10_goBack_38 ki_0 ?_
      refine Ev.putI (pc := 39) dX10_goBack_39 pl_X10_184 sh_79 rfl rfl rfl ?_
      refine Ev.nmS (fun σ7 e9 => ?_)
      replace h := bt_app h σ7 e9
      refine Ev.iconst (pc := 42) (v := 1) dX10_goBack_42 ki_1 ?_
      obtain ⟨h1, h2⟩ := oeq h
      subst h1
      subst h2
      exact Ev.ret_i (pc := 43) dX10_goBack_43 rfl rfl
theorem r_X10_goBack {N : Nat} {a1 : Int32} {σ : St} {v : Int32} {w : St} (h : o_X10_goBack N a1 σ = some (v, w)) : Rn md_X10_goBack 1 [vR 79, vI a1] SH σ (some (vI v), SH, w) := Rn.of ce_X10_goBack.1 (Nat.le_of_ble_eq_true rfl) (e_X10_goBack N _ _ _ _ h)
