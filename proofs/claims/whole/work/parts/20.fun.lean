def p_X7_isFull  (σ : St) : Int32 := if (σ 21 1) < 250 then 0 else 1
theorem e_X7_isFull  (σ : St) (v : Int32) (h : p_X7_isFull  σ = v) : Ev md_X7_isFull 0 0 (lvE [vR 21] 1) [] SH σ (some (vI v), SH, σ) := by
  show Ev md_X7_isFull 0 0 [some (vR 21)] [] SH σ (some (vI v), SH, σ)
  unfold p_X7_isFull at h
  refine Ev.aload_n (pc := 0) dX7_isFull_0 rfl rfl ?_
  refine Ev.getI (pc := 1) dX7_isFull_1 fl_X7_19 sh_21 rfl ?_
  refine Ev.sipush (pc := 4) (v := 250) dX7_isFull_4 ks_250 ?_
  by_cases c1 : (σ 21 1) < 250
  · replace h := (if_pos c1).symm.trans h
    refine Ev.icmp_lt_t (pc := 7) (tgt := 14) dX7_isFull_7 rfl c1 ?_
    refine Ev.iconst (pc := 14) (v := 0) dX7_isFull_14 ki_0 ?_
    subst h
    exact Ev.ret_i (pc := 15) dX7_isFull_15 rfl nb_0
  · replace h := (if_neg c1).symm.trans h
    refine Ev.icmp_lt_f (pc := 7) dX7_isFull_7 ⟨14, rfl⟩ c1 ?_
    refine Ev.iconst (pc := 10) (v := 1) dX7_isFull_10 ki_1 ?_
    refine Ev.goto (pc := 11) (tgt := 15) dX7_isFull_11 rfl ?_
    subst h
    exact Ev.ret_i (pc := 15) dX7_isFull_15 rfl nb_1
theorem r_X7_isFull  (σ : St) : Rn md_X7_isFull 0 [vR 21] SH σ (some (vI (p_X7_isFull  σ)), SH, σ) := Rn.of ce_X7_isFull.1 (Nat.le_of_ble_eq_true rfl) (e_X7_isFull  _ _ rfl)
def t_X7_add (a1 : Int32) (σ : St) : Int32 × St := bt (put_ σ 22 250 (σ 21 1) a1) fun σ1 => bt (st σ1 21 1 ((σ1 21 1) + 1)) fun σ2 => ((σ2 21 1), σ2)
theorem e_X7_add (a1 : Int32) (σ : St) (q : Int32 × St) (h : t_X7_add a1 σ = q) : Ev md_X7_add 1 0 (lvE [vR 21, vI a1] 2) [] SH σ (some (vI q.1), SH, q.2) := by
  show Ev md_X7_add 1 0 [some (vR 21), some (vI a1)] [] SH σ (some (vI q.1), SH, q.2)
  unfold t_X7_add at h
  refine Ev.aload_n (pc := 0) dX7_add_0 rfl rfl ?_
  refine Ev.getR (pc := 1) dX7_add_1 fl_X7_9 sh_21 rfl ?_
  refine Ev.aload_n (pc := 4) dX7_add_4 rfl rfl ?_
  refine Ev.getI (pc := 5) dX7_add_5 fl_X7_19 sh_21 rfl ?_
  refine Ev.iload_n (pc := 8) dX7_add_8 rfl rfl ?_
  refine Ev.cTv (pc := 9) (av := [vR 22, vI (σ 21 1), vI a1]) (rest := []) dX7_add_9 ce_X9_put ml_X7_22 rfl sh_sc (Nat.le_of_ble_eq_true rfl) (Nat.le_of_ble_eq_true rfl) (r_put sh_22 (by decide) _ _ _) ?_
  refine Ev.nmS (fun σ1 e9 => ?_)
  replace h := bt_app h σ1 e9
  refine Ev.aload_n (pc := 12) dX7_add_12 rfl rfl ?_
  refine Ev.dup (pc := 13) dX7_add_13 rfl ?_
  refine Ev.getI (pc := 14) dX7_add_14 fl_X7_19 sh_21 rfl ?_
  refine Ev.iconst (pc := 17) (v := 1) dX7_add_17 ki_1 ?_
  refine Ev.iadd (pc := 18) dX7_add_18 ?_
  refine Ev.putI (pc := 19) dX7_add_19 pl_X7_19 sh_21 rfl rfl rfl ?_
  refine Ev.nmS (fun σ2 e9 => ?_)
  replace h := bt_app h σ2 e9
  refine Ev.aload_n (pc := 22) dX7_add_22 rfl rfl ?_
  refine Ev.getI (pc := 23) dX7_add_23 fl_X7_19 sh_21 rfl ?_
  subst h
  exact Ev.ret_i (pc := 26) dX7_add_26 rfl rfl
theorem r_X7_add (a1 : Int32) (σ : St) : Rn md_X7_add 1 [vR 21, vI a1] SH σ (some (vI (t_X7_add a1 σ).1), SH, (t_X7_add a1 σ).2) := Rn.of ce_X7_add.1 (Nat.le_of_ble_eq_true rfl) (e_X7_add _ _ _ rfl)
def t_X9_feed (a1 : Int32) (σ : St) : Int32 × St := if a1 < 0 then (((-1000000002), σ)) else (if a1 ≤ 255 then (if (p_X7_isFull σ) = 0 then (bt (t_X7_add a1 σ) fun q4 => (q4.1, q4.2)) else (((-1000000004), σ))) else (((-1000000002), σ)))
theorem e_X9_feed (a1 : Int32) (σ : St) (q : Int32 × St) (h : t_X9_feed a1 σ = q) : Ev md_X9_feed 2 0 (lvE [vR 0, vI a1] 2) [] SH σ (some (vI q.1), SH, q.2) := by
  show Ev md_X9_feed 2 0 [some (vR 0), some (vI a1)] [] SH σ (some (vI q.1), SH, q.2)
  unfold t_X9_feed at h
  refine Ev.iload_n (pc := 0) dX9_feed_0 rfl rfl ?_
  by_cases c1 : a1 < 0
  · replace h := (if_pos c1).symm.trans h
    refine Ev.if_lt_t (pc := 1) (tgt := 11) dX9_feed_1 rfl c1 ?_
    refine Ev.ldc (pc := 11) dX9_feed_11 kc_X9_81 ?_
    subst h
    exact Ev.ret_i (pc := 13) dX9_feed_13 rfl rfl
  · replace h := (if_neg c1).symm.trans h
    refine Ev.if_lt_f (pc := 1) dX9_feed_1 ⟨11, rfl⟩ c1 ?_
    refine Ev.iload_n (pc := 4) dX9_feed_4 rfl rfl ?_
    refine Ev.sipush (pc := 5) (v := 255) dX9_feed_5 ks_255 ?_
    by_cases c2 : a1 ≤ 255
    · replace h := (if_pos c2).symm.trans h
      refine Ev.icmp_le_t (pc := 8) (tgt := 14) dX9_feed_8 rfl c2 ?_
      refine Ev.aload_n (pc := 14) dX9_feed_14 rfl rfl ?_
      refine Ev.getR (pc := 15) dX9_feed_15 fl_X9_22 sh_0 rfl ?_
      refine Ev.cVi (pc := 18) (k := 21) (av := []) (rest := []) dX9_feed_18 ce_X7_isFull ml_X9_82 rfl sh_21 cl_X7 sh_sc (Nat.le_of_ble_eq_true rfl) (Nat.le_of_ble_eq_true rfl) (r_X7_isFull  _) ?_
      by_cases c3 : (p_X7_isFull σ) = 0
      · replace h := (if_pos c3).symm.trans h
        refine Ev.if_eq_t (pc := 21) (tgt := 29) dX9_feed_21 rfl c3 ?_
        refine Ev.aload_n (pc := 29) dX9_feed_29 rfl rfl ?_
        refine Ev.getR (pc := 30) dX9_feed_30 fl_X9_22 sh_0 rfl ?_
        refine Ev.iload_n (pc := 33) dX9_feed_33 rfl rfl ?_
        refine Ev.cVi (pc := 34) (k := 21) (av := [vI a1]) (rest := []) dX9_feed_34 ce_X7_add ml_X9_87 rfl sh_21 cl_X7 sh_sc (Nat.le_of_ble_eq_true rfl) (Nat.le_of_ble_eq_true rfl) (r_X7_add _ _) ?_
        refine Ev.nmQ (fun q4 e9 => ?_)
        replace h := bt_app h q4 e9
        subst h
        exact Ev.ret_i (pc := 37) dX9_feed_37 rfl rfl
      · replace h := (if_neg c3).symm.trans h
        refine Ev.if_eq_f (pc := 21) dX9_feed_21 ⟨29, rfl⟩ c3 ?_
        refine Ev.ldc (pc := 24) dX9_feed_24 kc_X9_86 ?_
        refine Ev.goto (pc := 26) (tgt := 37) dX9_feed_26 rfl ?_
        subst h
        exact Ev.ret_i (pc := 37) dX9_feed_37 rfl rfl
    · replace h := (if_neg c2).symm.trans h
      refine Ev.icmp_le_f (pc := 8) dX9_feed_8 ⟨14, rfl⟩ c2 ?_
      refine Ev.ldc (pc := 11) dX9_feed_11 kc_X9_81 ?_
      subst h
      exact Ev.ret_i (pc := 13) dX9_feed_13 rfl rfl
theorem r_X9_feed (a1 : Int32) (σ : St) : Rn md_X9_feed 2 [vR 0, vI a1] SH σ (some (vI (t_X9_feed a1 σ).1), SH, (t_X9_feed a1 σ).2) := Rn.of ce_X9_feed.1 (Nat.le_of_ble_eq_true rfl) (e_X9_feed _ _ _ rfl)
def j_X10_in_17  (σ : St) : Int32 := 0
def p_X10_in (a0 : Int64) (a2 : Int64) (a4 : Int64) (σ : St) : Int32 := if (lg_cmp a0 a2) < 0 then (j_X10_in_17 σ) else (if (0 : Int32) < (lg_cmp a0 a4) then (j_X10_in_17 σ) else 1)
theorem lj_X10_in_17  (σ : St) (v : Int32) (h : j_X10_in_17  σ = v) : Ev md_X10_in 0 17 [none, none, none, none, none, none] [] SH σ (some (vI v), SH, σ) := by
  unfold j_X10_in_17 at h
  refine Ev.iconst (pc := 17) (v := 0) dX10_in_17 ki_0 ?_
  subst h
  exact Ev.ret_i (pc := 18) dX10_in_18 rfl nb_0
theorem e_X10_in (a0 : Int64) (a2 : Int64) (a4 : Int64) (σ : St) (v : Int32) (h : p_X10_in a0 a2 a4 σ = v) : Ev md_X10_in 0 0 (lvE [vL a0, vL a2, vL a4] 6) [] SH σ (some (vI v), SH, σ) := by
  show Ev md_X10_in 0 0 [some (vL a0), none, some (vL a2), none, some (vL a4), none] [] SH σ (some (vI v), SH, σ)
  unfold p_X10_in at h
  refine Ev.lload_n (pc := 0) dX10_in_0 rfl rfl ?_
  refine Ev.lload_n (pc := 1) dX10_in_1 rfl rfl ?_
  refine Ev.lcmp (pc := 2) dX10_in_2 ?_
  by_cases c1 : (lg_cmp a0 a2) < 0
  · replace h := (if_pos c1).symm.trans h
    refine Ev.if_lt_t (pc := 3) (tgt := 17) dX10_in_3 rfl c1 ?_
    exact Ev.weak2 (lj_X10_in_17 _ _ h) (lsubN (lsubN (lsubN (lsubN (lsubN (lsubN lsubE))))))
  · replace h := (if_neg c1).symm.trans h
    refine Ev.if_lt_f (pc := 3) dX10_in_3 ⟨17, rfl⟩ c1 ?_
    refine Ev.lload_n (pc := 6) dX10_in_6 rfl rfl ?_
    refine Ev.lload (pc := 7) dX10_in_7 rfl ?_
    refine Ev.lcmp (pc := 9) dX10_in_9 ?_
    by_cases c2 : (0 : Int32) < (lg_cmp a0 a4)
    · replace h := (if_pos c2).symm.trans h
      refine Ev.if_gt_t (pc := 10) (tgt := 17) dX10_in_10 rfl c2 ?_
      exact Ev.weak2 (lj_X10_in_17 _ _ h) (lsubN (lsubN (lsubN (lsubN (lsubN (lsubN lsubE))))))
    · replace h := (if_neg c2).symm.trans h
      refine Ev.if_gt_f (pc := 10) dX10_in_10 ⟨17, rfl⟩ c2 ?_
      refine Ev.iconst (pc := 13) (v := 1) dX10_in_13 ki_1 ?_
      refine Ev.goto (pc := 14) (tgt := 18) dX10_in_14 rfl ?_
      subst h
      exact Ev.ret_i (pc := 18) dX10_in_18 rfl nb_1
theorem r_X10_in (a0 : Int64) (a2 : Int64) (a4 : Int64) (σ : St) : Rn md_X10_in 0 [vL a0, vL a2, vL a4] SH σ (some (vI (p_X10_in a0 a2 a4 σ)), SH, σ) := Rn.of ce_X10_in.1 (Nat.le_of_ble_eq_true rfl) (e_X10_in _ _ _ _ _ rfl)
def o_X10_feed (N : Nat) (a1 : Int32) (σ : St) : Option (Int32 × St) := if (p_X10_in a1.toInt64 0 255 σ) = 0 then (some ((-1000000002), σ)) else (if (σ 79 23) = 250 then (some ((-1000000004), σ)) else (ckA (σ 79 23) 250 (bt (st σ 93 (σ 79 23).toNatClampNeg a1) fun σ4 => bt (st σ4 79 23 ((σ4 79 23) + 1)) fun σ5 => some ((σ5 79 23), σ5))))
theorem e_X10_feed (N : Nat) (a1 : Int32) (σ : St) (v : Int32) (w : St) (h : o_X10_feed N a1 σ = some (v, w)) : Ev md_X10_feed 1 0 (lvE [vR 79, vI a1] 2) [] SH σ (some (vI v), SH, w) := by
  show Ev md_X10_feed 1 0 [some (vR 79), some (vI a1)] [] SH σ (some (vI v), SH, w)
  unfold o_X10_feed at h
  refine Ev.iload_n (pc := 0) dX10_feed_0 rfl rfl ?_
  refine Ev.i2l (pc := 1) dX10_feed_1 ?_
  refine Ev.lconst (pc := 2) (v := 0) dX10_feed_2 kL_0 ?_
  refine Ev.ldc2 (pc := 3) dX10_feed_3 kl_X10_87 ?_
  refine Ev.cTi (pc := 6) (av := [vL a1.toInt64, vL 0, vL 255]) (rest := []) dX10_feed_6 ce_X10_in ml_X10_89 rfl sh_sc (Nat.le_of_ble_eq_true rfl) (Nat.le_of_ble_eq_true rfl) (r_X10_in _ _ _ _) ?_
  by_cases c1 : (p_X10_in a1.toInt64 0 255 σ) = 0
  · replace h := (if_pos c1).symm.trans h
    refine Ev.if_ne_f (pc := 9) dX10_feed_9 ⟨15, rfl⟩ c1 ?_
    refine Ev.ldc (pc := 12) dX10_feed_12 kc_X10_93 ?_
    obtain ⟨h1, h2⟩ := oeq h
    subst h1
    subst h2
    exact Ev.ret_i (pc := 14) dX10_feed_14 rfl rfl
  · replace h := (if_neg c1).symm.trans h
    refine Ev.if_ne_t (pc := 9) (tgt := 15) dX10_feed_9 rfl c1 ?_
    refine Ev.aload_n (pc := 15) dX10_feed_15 rfl rfl ?_
    refine Ev.getI (pc := 16) dX10_feed_16 fl_X10_94 sh_79 rfl ?_
    refine Ev.sipush (pc := 19) (v := 250) dX10_feed_19 ks_250 ?_
    by_cases c2 : (σ 79 23) = 250
    · replace h := (if_pos c2).symm.trans h
      refine Ev.icmp_ne_f (pc := 22) dX10_feed_22 ⟨28, rfl⟩ c2 ?_
      refine Ev.ldc (pc := 25) dX10_feed_25 kc_X10_97 ?_
      obtain ⟨h1, h2⟩ := oeq h
      subst h1
      subst h2
      exact Ev.ret_i (pc := 27) dX10_feed_27 rfl rfl
    · replace h := (if_neg c2).symm.trans h
      refine Ev.icmp_ne_t (pc := 22) (tgt := 28) dX10_feed_22 rfl c2 ?_
      refine Ev.aload_n (pc := 28) dX10_feed_28 rfl rfl ?_
      refine Ev.getR (pc := 29) dX10_feed_29 fl_X10_50 sh_79 rfl ?_
      refine Ev.aload_n (pc := 32) dX10_feed_32 rfl rfl ?_
      refine Ev.getI (pc := 33) dX10_feed_33 fl_X10_94 sh_79 rfl ?_
      refine Ev.iload_n (pc := 36) dX10_feed_36 rfl rfl ?_
      obtain ⟨c3, h⟩ := ckA_elim h
      refine Ev.iast (pc := 37) dX10_feed_37 sh_93 c3 ?_
      refine Ev.nmS (fun σ4 e9 => ?_)
      replace h := bt_app h σ4 e9
      refine Ev.aload_n (pc := 38) dX10_feed_38 rfl rfl ?_
      refine Ev.dup (pc := 39) dX10_feed_39 rfl ?_
      refine Ev.getI (pc := 40) dX10_feed_40 fl_X10_94 sh_79 rfl ?_
      refine Ev.iconst (pc := 43) (v := 1) dX10_feed_43 ki_1 ?_
      refine Ev.iadd (pc := 44) dX10_feed_44 ?_
      refine Ev.putI (pc := 45) dX10_feed_45 pl_X10_94 sh_79 rfl rfl rfl ?_
      refine Ev.nmS (fun σ5 e9 => ?_)
      replace h := bt_app h σ5 e9
      refine Ev.aload_n (pc := 48) dX10_feed_48 rfl rfl ?_
      refine Ev.getI (pc := 49) dX10_feed_49 fl_X10_94 sh_79 rfl ?_
      obtain ⟨h1, h2⟩ := oeq h
      subst h1
      subst h2
      exact Ev.ret_i (pc := 52) dX10_feed_52 rfl rfl
theorem r_X10_feed {N : Nat} {a1 : Int32} {σ : St} {v : Int32} {w : St} (h : o_X10_feed N a1 σ = some (v, w)) : Rn md_X10_feed 1 [vR 79, vI a1] SH σ (some (vI v), SH, w) := Rn.of ce_X10_feed.1 (Nat.le_of_ble_eq_true rfl) (e_X10_feed N _ _ _ _ h)
def j_X5_clear_11_65 (N : Nat) (K_37 : Int32 → St → Option (Unit × St)) (v1 : Int32) (s1 : Int32) (s2 : Int32) (σ : St) : Option (Unit × St) := ckA s1 25 (bt (st σ 20 s1.toNatClampNeg s2) fun σ2 => bt (v1 + 1) fun x3 => K_37 x3 σ2)
def l_X5_clear_11_37 (N : Nat) : Nat → Int32 → St → Option (Unit × St)
  | 0, _, _ => none
  | n + 1, v1, σ => if (25 : Int32) ≤ v1 then (some ((), σ)) else (if (v1 / 5) = (v1 - v1 / 5 * 5) then (j_X5_clear_11_65 N (l_X5_clear_11_37 N n) v1 v1 0 σ) else (j_X5_clear_11_65 N (l_X5_clear_11_37 N n) v1 v1 (-1) σ))
def o_X5_clear_11 (N : Nat)  (σ : St) : Option (Unit × St) := bt (st σ 11 0 0) fun σ1 => bt (st σ1 11 1 0) fun σ2 => bt (st σ2 11 2 0) fun σ3 => bt (st σ3 11 3 0) fun σ4 => bt (st σ4 11 4 0) fun σ5 => bt (st σ5 11 5 0) fun σ6 => bt (st σ6 11 6 0) fun σ7 => l_X5_clear_11_37 N N 0 σ7
theorem lj_X5_clear_11_65 (N : Nat) (K_37 : Int32 → St → Option (Unit × St)) (hK_37 : ∀ (v1 : Int32) (σ : St) (v : Unit) (w : St), K_37 v1 σ = some (v, w) → Ev md_X5_clear 0 37 [some (vR 11), some (vI v1)] [] SH σ (none, SH, w)) (v1 : Int32) (s1 : Int32) (s2 : Int32) (σ : St) (v : Unit) (w : St) (h : j_X5_clear_11_65 N K_37 v1 s1 s2 σ = some (v, w)) : Ev md_X5_clear 0 65 [some (vR 11), some (vI v1)] [vI s2, vI s1, vR 20] SH σ (none, SH, w) := by
  unfold j_X5_clear_11_65 at h
  obtain ⟨c1, h⟩ := ckA_elim h
  refine Ev.iast (pc := 65) dX5_clear_65 sh_20 c1 ?_
  refine Ev.nmS (fun σ2 e9 => ?_)
  replace h := bt_app h σ2 e9
  obtain ⟨x3, e_x3, h⟩ := bt_elim h
  refine Ev.iinc (pc := 66) (v := x3) (lv' := [some (vR 11), some (vI x3)]) dX5_clear_66 rfl (by rw [ki_1, e_x3]) (by decide) rfl rfl ?_
  refine Ev.goto (pc := 69) (tgt := 37) dX5_clear_69 rfl ?_
  exact Ev.weak2 (hK_37 _ _ _ _ h) (lsubS (lsubS lsubE))
theorem ll_X5_clear_11_37 (N : Nat) : ∀ (n : Nat) (v1 : Int32) (σ : St) (v : Unit) (w : St), l_X5_clear_11_37 N n v1 σ = some (v, w) → Ev md_X5_clear 0 37 [some (vR 11), some (vI v1)] [] SH σ (none, SH, w) := by
  intro n
  induction n with
  | zero =>
    intro v1 σ v w h
    rw [l_X5_clear_11_37] at h
    cases h
  | succ n ih =>
    intro v1 σ v w h
    rw [l_X5_clear_11_37] at h
    refine Ev.iload_n (pc := 37) dX5_clear_37 rfl rfl ?_
    refine Ev.aload_n (pc := 38) dX5_clear_38 rfl rfl ?_
    refine Ev.getR (pc := 39) dX5_clear_39 fl_X5_36 sh_11 rfl ?_
    refine Ev.alen (pc := 42) (v := 25) dX5_clear_42 sh_20 kn_25 ?_
    by_cases c1 : (25 : Int32) ≤ v1
    · replace h := (if_pos c1).symm.trans h
      refine Ev.icmp_ge_t (pc := 43) (tgt := 72) dX5_clear_43 rfl c1 ?_
      obtain ⟨h1, h2⟩ := oeq h
      subst h1
      subst h2
      exact Ev.ret_v (pc := 72) dX5_clear_72 rfl
    · replace h := (if_neg c1).symm.trans h
      refine Ev.icmp_ge_f (pc := 43) dX5_clear_43 ⟨72, rfl⟩ c1 ?_
      refine Ev.aload_n (pc := 46) dX5_clear_46 rfl rfl ?_
      refine Ev.getR (pc := 47) dX5_clear_47 fl_X5_36 sh_11 rfl ?_
      refine Ev.iload_n (pc := 50) dX5_clear_50 rfl rfl ?_
      refine Ev.iload_n (pc := 51) dX5_clear_51 rfl rfl ?_
      refine Ev.iconst (pc := 52) (v := 5) dX5_clear_52 ki_5 ?_
      refine Ev.idiv (pc := 53) dX5_clear_53 (by decide) ?_
      refine Ev.iload_n (pc := 54) dX5_clear_54 rfl rfl ?_
      refine Ev.iconst (pc := 55) (v := 5) dX5_clear_55 ki_5 ?_
      refine Ev.irem (pc := 56) dX5_clear_56 (by decide) ?_
      by_cases c2 : (v1 / 5) = (v1 - v1 / 5 * 5)
      · replace h := (if_pos c2).symm.trans h
        refine Ev.icmp_ne_f (pc := 57) dX5_clear_57 ⟨64, rfl⟩ c2 ?_
        refine Ev.iconst (pc := 60) (v := 0) dX5_clear_60 ki_0 ?_
        refine Ev.goto (pc := 61) (tgt := 65) dX5_clear_61 rfl ?_
        exact Ev.weak2 (lj_X5_clear_11_65 N (l_X5_clear_11_37 N n) ih _ _ _ _ _ _ h) (lsubS (lsubS lsubE))
      · replace h := (if_neg c2).symm.trans h
        refine Ev.icmp_ne_t (pc := 57) (tgt := 64) dX5_clear_57 rfl c2 ?_
        refine Ev.iconst (pc := 64) (v := (-1)) dX5_clear_64 ki_m1 ?_
        exact Ev.weak2 (lj_X5_clear_11_65 N (l_X5_clear_11_37 N n) ih _ _ _ _ _ _ h) (lsubS (lsubS lsubE))
theorem e_X5_clear_11 (N : Nat)  (σ : St) (v : Unit) (w : St) (h : o_X5_clear_11 N  σ = some (v, w)) : Ev md_X5_clear 0 0 (lvE [vR 11] 2) [] SH σ (none, SH, w) := by
  show Ev md_X5_clear 0 0 [some (vR 11), none] [] SH σ (none, SH, w)
  unfold o_X5_clear_11 at h
  refine Ev.aload_n (pc := 0) dX5_clear_0 rfl rfl ?_
  refine Ev.iconst (pc := 1) (v := 0) dX5_clear_1 ki_0 ?_
  refine Ev.putI (pc := 2) dX5_clear_2 pl_X5_39 sh_11 rfl rfl rfl ?_
  refine Ev.nmS (fun σ1 e9 => ?_)
  replace h := bt_app h σ1 e9
  refine Ev.aload_n (pc := 5) dX5_clear_5 rfl rfl ?_
  refine Ev.iconst (pc := 6) (v := 0) dX5_clear_6 ki_0 ?_
  refine Ev.putI (pc := 7) dX5_clear_7 pl_X5_43 sh_11 rfl rfl rfl ?_
  refine Ev.nmS (fun σ2 e9 => ?_)
  replace h := bt_app h σ2 e9
  refine Ev.aload_n (pc := 10) dX5_clear_10 rfl rfl ?_
  refine Ev.iconst (pc := 11) (v := 0) dX5_clear_11 ki_0 ?_
  refine Ev.putI (pc := 12) dX5_clear_12 pl_X5_46 sh_11 rfl rfl rfl ?_
  refine Ev.nmS (fun σ3 e9 => ?_)
  replace h := bt_app h σ3 e9
  refine Ev.aload_n (pc := 15) dX5_clear_15 rfl rfl ?_
  refine Ev.iconst (pc := 16) (v := 0) dX5_clear_16 ki_0 ?_
  refine Ev.putI (pc := 17) dX5_clear_17 pl_X5_49 sh_11 rfl rfl rfl ?_
  refine Ev.nmS (fun σ4 e9 => ?_)
  replace h := bt_app h σ4 e9
  refine Ev.aload_n (pc := 20) dX5_clear_20 rfl rfl ?_
  refine Ev.iconst (pc := 21) (v := 0) dX5_clear_21 ki_0 ?_
  refine Ev.putI (pc := 22) dX5_clear_22 pl_X5_52 sh_11 rfl rfl rfl ?_
  refine Ev.nmS (fun σ5 e9 => ?_)
  replace h := bt_app h σ5 e9
  refine Ev.aload_n (pc := 25) dX5_clear_25 rfl rfl ?_
  refine Ev.iconst (pc := 26) (v := 0) dX5_clear_26 ki_0 ?_
  refine Ev.putI (pc := 27) dX5_clear_27 pl_X5_55 sh_11 rfl rfl rfl ?_
  refine Ev.nmS (fun σ6 e9 => ?_)
  replace h := bt_app h σ6 e9
  refine Ev.aload_n (pc := 30) dX5_clear_30 rfl rfl ?_
  refine Ev.iconst (pc := 31) (v := 0) dX5_clear_31 ki_0 ?_
  refine Ev.putI (pc := 32) dX5_clear_32 pl_X5_58 sh_11 rfl rfl rfl ?_
  refine Ev.nmS (fun σ7 e9 => ?_)
  replace h := bt_app h σ7 e9
  refine Ev.iconst (pc := 35) (v := 0) dX5_clear_35 ki_0 ?_
  refine Ev.istore_n (pc := 36) (lv' := [some (vR 11), some (vI 0)]) dX5_clear_36 rfl (by decide) rfl rfl ?_
  exact Ev.weak2 (ll_X5_clear_11_37 N N _ _ _ _ h) (lsubS (lsubS lsubE))
theorem r_X5_clear_11 {N : Nat}  {σ : St} {v : Unit} {w : St} (h : o_X5_clear_11 N  σ = some (v, w)) : Rn md_X5_clear 0 [vR 11] SH σ (none, SH, w) := Rn.of ce_X5_clear.1 (Nat.le_of_ble_eq_true rfl) (e_X5_clear_11 N  _ _ _ h)
def l_X7_skipBlanks_0 (N : Nat) : Nat → St → Option (Unit × St)
  | 0, _ => none
  | n + 1, σ => if (σ 21 1) ≤ (σ 21 2) then (some ((), σ)) else (if (at_ σ 22 250 (σ 21 2)) = 32 then (bt (st σ 21 2 ((σ 21 2) + 1)) fun σ3 => l_X7_skipBlanks_0 N n σ3) else (some ((), σ)))
def o_X7_skipBlanks (N : Nat)  (σ : St) : Option (Unit × St) := l_X7_skipBlanks_0 N N σ
theorem ll_X7_skipBlanks_0 (N : Nat) : ∀ (n : Nat)  (σ : St) (v : Unit) (w : St), l_X7_skipBlanks_0 N n  σ = some (v, w) → Ev md_X7_skipBlanks 1 0 [some (vR 21)] [] SH σ (none, SH, w) := by
  intro n
  induction n with
  | zero =>
    intro  σ v w h
    rw [l_X7_skipBlanks_0] at h
    cases h
  | succ n ih =>
    intro  σ v w h
    rw [l_X7_skipBlanks_0] at h
    refine Ev.aload_n (pc := 0) dX7_skipBlanks_0 rfl rfl ?_
    refine Ev.getI (pc := 1) dX7_skipBlanks_1 fl_X7_26 sh_21 rfl ?_
    refine Ev.aload_n (pc := 4) dX7_skipBlanks_4 rfl rfl ?_
    refine Ev.getI (pc := 5) dX7_skipBlanks_5 fl_X7_19 sh_21 rfl ?_
    by_cases c1 : (σ 21 1) ≤ (σ 21 2)
    · replace h := (if_pos c1).symm.trans h
      refine Ev.icmp_ge_t (pc := 8) (tgt := 40) dX7_skipBlanks_8 rfl c1 ?_
      obtain ⟨h1, h2⟩ := oeq h
      subst h1
      subst h2
      exact Ev.ret_v (pc := 40) dX7_skipBlanks_40 rfl
    · replace h := (if_neg c1).symm.trans h
      refine Ev.icmp_ge_f (pc := 8) dX7_skipBlanks_8 ⟨40, rfl⟩ c1 ?_
      refine Ev.aload_n (pc := 11) dX7_skipBlanks_11 rfl rfl ?_
      refine Ev.getR (pc := 12) dX7_skipBlanks_12 fl_X7_9 sh_21 rfl ?_
      refine Ev.aload_n (pc := 15) dX7_skipBlanks_15 rfl rfl ?_
      refine Ev.getI (pc := 16) dX7_skipBlanks_16 fl_X7_26 sh_21 rfl ?_
      refine Ev.cTi (pc := 19) (av := [vR 22, vI (σ 21 2)]) (rest := []) dX7_skipBlanks_19 ce_X9_at ml_X7_47 rfl sh_sc (Nat.le_of_ble_eq_true rfl) (Nat.le_of_ble_eq_true rfl) (r_at sh_22 (by decide) _ _) ?_
      refine Ev.bipush (pc := 22) (v := 32) dX7_skipBlanks_22 kb_32 ?_
      by_cases c2 : (at_ σ 22 250 (σ 21 2)) = 32
      · replace h := (if_pos c2).symm.trans h
        refine Ev.icmp_ne_f (pc := 24) dX7_skipBlanks_24 ⟨40, rfl⟩ c2 ?_
        refine Ev.aload_n (pc := 27) dX7_skipBlanks_27 rfl rfl ?_
        refine Ev.dup (pc := 28) dX7_skipBlanks_28 rfl ?_
        refine Ev.getI (pc := 29) dX7_skipBlanks_29 fl_X7_26 sh_21 rfl ?_
        refine Ev.iconst (pc := 32) (v := 1) dX7_skipBlanks_32 ki_1 ?_
        refine Ev.iadd (pc := 33) dX7_skipBlanks_33 ?_
        refine Ev.putI (pc := 34) dX7_skipBlanks_34 pl_X7_26 sh_21 rfl rfl rfl ?_
        refine Ev.nmS (fun σ3 e9 => ?_)
        replace h := bt_app h σ3 e9
        refine Ev.goto (pc := 37) (tgt := 0) dX7_skipBlanks_37 rfl ?_
        exact Ev.weak2 (ih  _ _ _ h) (lsubS lsubE)
      · replace h := (if_neg c2).symm.trans h
        refine Ev.icmp_ne_t (pc := 24) (tgt := 40) dX7_skipBlanks_24 rfl c2 ?_
        obtain ⟨h1, h2⟩ := oeq h
        subst h1
        subst h2
        exact Ev.ret_v (pc := 40) dX7_skipBlanks_40 rfl
theorem e_X7_skipBlanks (N : Nat)  (σ : St) (v : Unit) (w : St) (h : o_X7_skipBlanks N  σ = some (v, w)) : Ev md_X7_skipBlanks 1 0 (lvE [vR 21] 1) [] SH σ (none, SH, w) := by
  show Ev md_X7_skipBlanks 1 0 [some (vR 21)] [] SH σ (none, SH, w)
  unfold o_X7_skipBlanks at h
  exact Ev.weak2 (ll_X7_skipBlanks_0 N N _ _ _ h) (lsubS lsubE)
theorem r_X7_skipBlanks {N : Nat}  {σ : St} {v : Unit} {w : St} (h : o_X7_skipBlanks N  σ = some (v, w)) : Rn md_X7_skipBlanks 1 [vR 21] SH σ (none, SH, w) := Rn.of ce_X7_skipBlanks.1 (Nat.le_of_ble_eq_true rfl) (e_X7_skipBlanks N  _ _ _ h)
def t_X7_blame (a1 : Int32) (a2 : Int32) (σ : St) : St := if (σ 21 4) = 0 then (bt (st σ 21 4 a1) fun σ2 => bt (st σ2 21 5 a2) fun σ3 => σ3) else σ
theorem e_X7_blame (a1 : Int32) (a2 : Int32) (σ : St) (q : St) (h : t_X7_blame a1 a2 σ = q) : Ev md_X7_blame 0 0 (lvE [vR 21, vI a1, vI a2] 3) [] SH σ (none, SH, q) := by
  show Ev md_X7_blame 0 0 [some (vR 21), some (vI a1), some (vI a2)] [] SH σ (none, SH, q)
  unfold t_X7_blame at h
  refine Ev.aload_n (pc := 0) dX7_blame_0 rfl rfl ?_
  refine Ev.getI (pc := 1) dX7_blame_1 fl_X7_29 sh_21 rfl ?_
  by_cases c1 : (σ 21 4) = 0
  · replace h := (if_pos c1).symm.trans h
    refine Ev.if_ne_f (pc := 4) dX7_blame_4 ⟨17, rfl⟩ c1 ?_
    refine Ev.aload_n (pc := 7) dX7_blame_7 rfl rfl ?_
    refine Ev.iload_n (pc := 8) dX7_blame_8 rfl rfl ?_
    refine Ev.putI (pc := 9) dX7_blame_9 pl_X7_29 sh_21 rfl rfl rfl ?_
    refine Ev.nmS (fun σ2 e9 => ?_)
    replace h := bt_app h σ2 e9
    refine Ev.aload_n (pc := 12) dX7_blame_12 rfl rfl ?_
    refine Ev.iload_n (pc := 13) dX7_blame_13 rfl rfl ?_
    refine Ev.putI (pc := 14) dX7_blame_14 pl_X7_15 sh_21 rfl rfl rfl ?_
    refine Ev.nmS (fun σ3 e9 => ?_)
    replace h := bt_app h σ3 e9
    subst h
    exact Ev.ret_v (pc := 17) dX7_blame_17 rfl
  · replace h := (if_neg c1).symm.trans h
    refine Ev.if_ne_t (pc := 4) (tgt := 17) dX7_blame_4 rfl c1 ?_
    subst h
    exact Ev.ret_v (pc := 17) dX7_blame_17 rfl
theorem r_X7_blame (a1 : Int32) (a2 : Int32) (σ : St) : Rn md_X7_blame 0 [vR 21, vI a1, vI a2] SH σ (none, SH, t_X7_blame a1 a2 σ) := Rn.of ce_X7_blame.1 (Nat.le_of_ble_eq_true rfl) (e_X7_blame _ _ _ _ rfl)
def p_X7_isOneTooMany_21_11 (a1 : Int32) (σ : St) : Int32 := if a1 = 107 then (if (σ 11 2) < 3 then 0 else 1) else if a1 = 112 then (if (σ 11 3) < 7 then 0 else 1) else if a1 = 114 then (if (σ 11 1) < 8 then 0 else 1) else if a1 = 116 then (if (σ 11 0) ≤ 0 then 0 else 1) else if a1 = 119 then (if (σ 11 6) ≤ 0 then 0 else 1) else 0
theorem e_X7_isOneTooMany_21_11 (a1 : Int32) (σ : St) (v : Int32) (h : p_X7_isOneTooMany_21_11 a1 σ = v) : Ev md_X7_isOneTooMany 0 0 (lvE [vR 21, vI a1, vR 11] 3) [] SH σ (some (vI v), SH, σ) := by
  show Ev md_X7_isOneTooMany 0 0 [some (vR 21), some (vI a1), some (vR 11)] [] SH σ (some (vI v), SH, σ)
  unfold p_X7_isOneTooMany_21_11 at h
  refine Ev.iload_n (pc := 0) dX7_isOneTooMany_0 rfl rfl ?_
  by_cases c1 : a1 = 107
  · replace h := (if_pos c1).symm.trans h
    refine Ev.swC (pc := 1) (c := 107) (tgt := 96) dX7_isOneTooMany_1 c1 (by decide) (by decide) rfl rfl ?_
    refine Ev.aload_n (pc := 96) dX7_isOneTooMany_96 rfl rfl ?_
    refine Ev.getI (pc := 97) dX7_isOneTooMany_97 fl_X7_80 sh_11 rfl ?_
    refine Ev.iconst (pc := 100) (v := 3) dX7_isOneTooMany_100 ki_3 ?_
    by_cases c2 : (σ 11 2) < 3
    · replace h := (if_pos c2).symm.trans h
      refine Ev.icmp_lt_t (pc := 101) (tgt := 108) dX7_isOneTooMany_101 rfl c2 ?_
      refine Ev.iconst (pc := 108) (v := 0) dX7_isOneTooMany_108 ki_0 ?_
      subst h
      exact Ev.ret_i (pc := 109) dX7_isOneTooMany_109 rfl nb_0
    · replace h := (if_neg c2).symm.trans h
      refine Ev.icmp_lt_f (pc := 101) dX7_isOneTooMany_101 ⟨108, rfl⟩ c2 ?_
      refine Ev.iconst (pc := 104) (v := 1) dX7_isOneTooMany_104 ki_1 ?_
      refine Ev.goto (pc := 105) (tgt := 109) dX7_isOneTooMany_105 rfl ?_
      subst h
      exact Ev.ret_i (pc := 109) dX7_isOneTooMany_109 rfl nb_1
  replace h := (if_neg c1).symm.trans h
  by_cases c3 : a1 = 112
  · replace h := (if_pos c3).symm.trans h
    refine Ev.swC (pc := 1) (c := 112) (tgt := 110) dX7_isOneTooMany_1 c3 (by decide) (by decide) rfl rfl ?_
    refine Ev.aload_n (pc := 110) dX7_isOneTooMany_110 rfl rfl ?_
    refine Ev.getI (pc := 111) dX7_isOneTooMany_111 fl_X7_83 sh_11 rfl ?_
    refine Ev.bipush (pc := 114) (v := 7) dX7_isOneTooMany_114 kb_7 ?_
    by_cases c4 : (σ 11 3) < 7
    · replace h := (if_pos c4).symm.trans h
      refine Ev.icmp_lt_t (pc := 116) (tgt := 123) dX7_isOneTooMany_116 rfl c4 ?_
      refine Ev.iconst (pc := 123) (v := 0) dX7_isOneTooMany_123 ki_0 ?_
      subst h
      exact Ev.ret_i (pc := 124) dX7_isOneTooMany_124 rfl nb_0
    · replace h := (if_neg c4).symm.trans h
      refine Ev.icmp_lt_f (pc := 116) dX7_isOneTooMany_116 ⟨123, rfl⟩ c4 ?_
      refine Ev.iconst (pc := 119) (v := 1) dX7_isOneTooMany_119 ki_1 ?_
      refine Ev.goto (pc := 120) (tgt := 124) dX7_isOneTooMany_120 rfl ?_
      subst h
      exact Ev.ret_i (pc := 124) dX7_isOneTooMany_124 rfl nb_1
  replace h := (if_neg c3).symm.trans h
  by_cases c5 : a1 = 114
  · replace h := (if_pos c5).symm.trans h
    refine Ev.swC (pc := 1) (c := 114) (tgt := 81) dX7_isOneTooMany_1 c5 (by decide) (by decide) rfl rfl ?_
    refine Ev.aload_n (pc := 81) dX7_isOneTooMany_81 rfl rfl ?_
    refine Ev.getI (pc := 82) dX7_isOneTooMany_82 fl_X7_77 sh_11 rfl ?_
    refine Ev.bipush (pc := 85) (v := 8) dX7_isOneTooMany_85 kb_8 ?_
    by_cases c6 : (σ 11 1) < 8
    · replace h := (if_pos c6).symm.trans h
      refine Ev.icmp_lt_t (pc := 87) (tgt := 94) dX7_isOneTooMany_87 rfl c6 ?_
      refine Ev.iconst (pc := 94) (v := 0) dX7_isOneTooMany_94 ki_0 ?_
      subst h
      exact Ev.ret_i (pc := 95) dX7_isOneTooMany_95 rfl nb_0
    · replace h := (if_neg c6).symm.trans h
      refine Ev.icmp_lt_f (pc := 87) dX7_isOneTooMany_87 ⟨94, rfl⟩ c6 ?_
      refine Ev.iconst (pc := 90) (v := 1) dX7_isOneTooMany_90 ki_1 ?_
      refine Ev.goto (pc := 91) (tgt := 95) dX7_isOneTooMany_91 rfl ?_
      subst h
      exact Ev.ret_i (pc := 95) dX7_isOneTooMany_95 rfl nb_1
  replace h := (if_neg c5).symm.trans h
  by_cases c7 : a1 = 116
  · replace h := (if_pos c7).symm.trans h
    refine Ev.swC (pc := 1) (c := 116) (tgt := 68) dX7_isOneTooMany_1 c7 (by decide) (by decide) rfl rfl ?_
    refine Ev.aload_n (pc := 68) dX7_isOneTooMany_68 rfl rfl ?_
    refine Ev.getI (pc := 69) dX7_isOneTooMany_69 fl_X7_51 sh_11 rfl ?_
    by_cases c8 : (σ 11 0) ≤ 0
    · replace h := (if_pos c8).symm.trans h
      refine Ev.if_le_t (pc := 72) (tgt := 79) dX7_isOneTooMany_72 rfl c8 ?_
      refine Ev.iconst (pc := 79) (v := 0) dX7_isOneTooMany_79 ki_0 ?_
      subst h
      exact Ev.ret_i (pc := 80) dX7_isOneTooMany_80 rfl nb_0
    · replace h := (if_neg c8).symm.trans h
      refine Ev.if_le_f (pc := 72) dX7_isOneTooMany_72 ⟨79, rfl⟩ c8 ?_
      refine Ev.iconst (pc := 75) (v := 1) dX7_isOneTooMany_75 ki_1 ?_
      refine Ev.goto (pc := 76) (tgt := 80) dX7_isOneTooMany_76 rfl ?_
      subst h
      exact Ev.ret_i (pc := 80) dX7_isOneTooMany_80 rfl nb_1
  replace h := (if_neg c7).symm.trans h
  by_cases c9 : a1 = 119
  · replace h := (if_pos c9).symm.trans h
    refine Ev.swC (pc := 1) (c := 119) (tgt := 125) dX7_isOneTooMany_1 c9 (by decide) (by decide) rfl rfl ?_
    refine Ev.aload_n (pc := 125) dX7_isOneTooMany_125 rfl rfl ?_
    refine Ev.getI (pc := 126) dX7_isOneTooMany_126 fl_X7_86 sh_11 rfl ?_
    by_cases c10 : (σ 11 6) ≤ 0
    · replace h := (if_pos c10).symm.trans h
      refine Ev.if_le_t (pc := 129) (tgt := 136) dX7_isOneTooMany_129 rfl c10 ?_
      refine Ev.iconst (pc := 136) (v := 0) dX7_isOneTooMany_136 ki_0 ?_
      subst h
      exact Ev.ret_i (pc := 137) dX7_isOneTooMany_137 rfl nb_0
    · replace h := (if_neg c10).symm.trans h
      refine Ev.if_le_f (pc := 129) dX7_isOneTooMany_129 ⟨136, rfl⟩ c10 ?_
      refine Ev.iconst (pc := 132) (v := 1) dX7_isOneTooMany_132 ki_1 ?_
      refine Ev.goto (pc := 133) (tgt := 137) dX7_isOneTooMany_133 rfl ?_
      subst h
      exact Ev.ret_i (pc := 137) dX7_isOneTooMany_137 rfl nb_1
  replace h := (if_neg c9).symm.trans h
  refine Ev.swD (pc := 1) (tgt := 138) (tl := [107, 112, 114, 116, 119]) dX7_isOneTooMany_1 (not_mem_cons9 (neI c1 rfl) (not_mem_cons9 (neI c3 rfl) (not_mem_cons9 (neI c5 rfl) (not_mem_cons9 (neI c7 rfl) (not_mem_cons9 (neI c9 rfl) (not_mem_nil9)))))) rfl rfl rfl ?_
  refine Ev.iconst (pc := 138) (v := 0) dX7_isOneTooMany_138 ki_0 ?_
  subst h
  exact Ev.ret_i (pc := 139) dX7_isOneTooMany_139 rfl nb_0
theorem r_X7_isOneTooMany_21_11 (a1 : Int32) (σ : St) : Rn md_X7_isOneTooMany 0 [vR 21, vI a1, vR 11] SH σ (some (vI (p_X7_isOneTooMany_21_11 a1 σ)), SH, σ) := Rn.of ce_X7_isOneTooMany.1 (Nat.le_of_ble_eq_true rfl) (e_X7_isOneTooMany_21_11 _ _ _ rfl)
def j_X7_isFigure_16  (σ : St) : Int32 := 0
def p_X7_isFigure (a0 : Int32) (σ : St) : Int32 := if a0 < 48 then (j_X7_isFigure_16 σ) else (if (57 : Int32) < a0 then (j_X7_isFigure_16 σ) else 1)
theorem lj_X7_isFigure_16  (σ : St) (v : Int32) (h : j_X7_isFigure_16  σ = v) : Ev md_X7_isFigure 0 16 [none] [] SH σ (some (vI v), SH, σ) := by
  unfold j_X7_isFigure_16 at h
  refine Ev.iconst (pc := 16) (v := 0) dX7_isFigure_16 ki_0 ?_
  subst h
  exact Ev.ret_i (pc := 17) dX7_isFigure_17 rfl nb_0
theorem e_X7_isFigure (a0 : Int32) (σ : St) (v : Int32) (h : p_X7_isFigure a0 σ = v) : Ev md_X7_isFigure 0 0 (lvE [vI a0] 1) [] SH σ (some (vI v), SH, σ) := by
  show Ev md_X7_isFigure 0 0 [some (vI a0)] [] SH σ (some (vI v), SH, σ)
  unfold p_X7_isFigure at h
  refine Ev.iload_n (pc := 0) dX7_isFigure_0 rfl rfl ?_
  refine Ev.bipush (pc := 1) (v := 48) dX7_isFigure_1 kb_48 ?_
  by_cases c1 : a0 < 48
  · replace h := (if_pos c1).symm.trans h
    refine Ev.icmp_lt_t (pc := 3) (tgt := 16) dX7_isFigure_3 rfl c1 ?_
    exact Ev.weak2 (lj_X7_isFigure_16 _ _ h) (lsubN lsubE)
  · replace h := (if_neg c1).symm.trans h
    refine Ev.icmp_lt_f (pc := 3) dX7_isFigure_3 ⟨16, rfl⟩ c1 ?_
    refine Ev.iload_n (pc := 6) dX7_isFigure_6 rfl rfl ?_
    refine Ev.bipush (pc := 7) (v := 57) dX7_isFigure_7 kb_57 ?_
    by_cases c2 : (57 : Int32) < a0
    · replace h := (if_pos c2).symm.trans h
      refine Ev.icmp_gt_t (pc := 9) (tgt := 16) dX7_isFigure_9 rfl c2 ?_
      exact Ev.weak2 (lj_X7_isFigure_16 _ _ h) (lsubN lsubE)
    · replace h := (if_neg c2).symm.trans h
      refine Ev.icmp_gt_f (pc := 9) dX7_isFigure_9 ⟨16, rfl⟩ c2 ?_
      refine Ev.iconst (pc := 12) (v := 1) dX7_isFigure_12 ki_1 ?_
      refine Ev.goto (pc := 13) (tgt := 17) dX7_isFigure_13 rfl ?_
      subst h
      exact Ev.ret_i (pc := 17) dX7_isFigure_17 rfl nb_1
theorem r_X7_isFigure (a0 : Int32) (σ : St) : Rn md_X7_isFigure 0 [vI a0] SH σ (some (vI (p_X7_isFigure a0 σ)), SH, σ) := Rn.of ce_X7_isFigure.1 (Nat.le_of_ble_eq_true rfl) (e_X7_isFigure _ _ _ rfl)
def p_J9_min_7cf53 (a0 : Int32) (a1 : Int32) (σ : St) : Int32 := if a1 < a0 then a1 else a0
theorem e_J9_min_7cf53 (a0 : Int32) (a1 : Int32) (σ : St) (v : Int32) (h : p_J9_min_7cf53 a0 a1 σ = v) : Ev md_J9_min_7cf53 0 0 (lvE [vI a0, vI a1] 2) [] SH σ (some (vI v), SH, σ) := by
  show Ev md_J9_min_7cf53 0 0 [some (vI a0), some (vI a1)] [] SH σ (some (vI v), SH, σ)
  unfold p_J9_min_7cf53 at h
  refine Ev.iload_n (pc := 0) dJ9_min_7cf53_0 rfl rfl ?_
  refine Ev.iload_n (pc := 1) dJ9_min_7cf53_1 rfl rfl ?_
  by_cases c1 : a1 < a0
  · replace h := (if_pos c1).symm.trans h
    refine Ev.icmp_gt_t (pc := 2) (tgt := 9) dJ9_min_7cf53_2 rfl c1 ?_
    refine Ev.iload_n (pc := 9) dJ9_min_7cf53_9 rfl rfl ?_
    subst h
    exact Ev.ret_i (pc := 10) dJ9_min_7cf53_10 rfl rfl
  · replace h := (if_neg c1).symm.trans h
    refine Ev.icmp_gt_f (pc := 2) dJ9_min_7cf53_2 ⟨9, rfl⟩ c1 ?_
    refine Ev.iload_n (pc := 5) dJ9_min_7cf53_5 rfl rfl ?_
    refine Ev.goto (pc := 6) (tgt := 10) dJ9_min_7cf53_6 rfl ?_
    subst h
    exact Ev.ret_i (pc := 10) dJ9_min_7cf53_10 rfl rfl
theorem r_J9_min_7cf53 (a0 : Int32) (a1 : Int32) (σ : St) : Rn md_J9_min_7cf53 0 [vI a0, vI a1] SH σ (some (vI (p_J9_min_7cf53 a0 a1 σ)), SH, σ) := Rn.of ce_J9_min_7cf53.1 (Nat.le_of_ble_eq_true rfl) (e_J9_min_7cf53 _ _ _ _ rfl)
def j_X7_number_136 (N : Nat) (v3 : Int32) (σ : St) : Option (Int32 × St) := bt (t_X7_blame 2 (σ 21 3) σ) fun σ1 => some (v3, σ1)
def j_X7_number_90 (N : Nat) (v1 : Int32) (v2 : Int32) (v3 : Int32) (σ : St) : Option (Int32 × St) := if (σ 21 2) = (σ 21 3) then (bt (t_X7_blame 1 (σ 21 3) σ) fun σ5 => some (v3, σ5)) else (if (3 : Int32) < ((σ 21 2) - (σ 21 3)) then (j_X7_number_136 N v3 σ) else (if v3 < v1 then (j_X7_number_136 N v3 σ) else (if v3 ≤ v2 then (some (v3, σ)) else (j_X7_number_136 N v3 σ))))
def l_X7_number_23 (N : Nat) : Nat → Int32 → Int32 → Int32 → St → Option (Int32 × St)
  | 0, _, _, _, _ => none
  | n + 1, v1, v2, v3, σ => if (σ 21 1) ≤ (σ 21 2) then (j_X7_number_90 N v1 v2 v3 σ) else (if (p_X7_isFigure (at_ σ 22 250 (σ 21 2)) σ) = 0 then (j_X7_number_90 N v1 v2 v3 σ) else (bt ((((p_J9_min_7cf53 v3 1000 σ) * 10) + (at_ σ 22 250 (σ 21 2))) - 48) fun x3 => bt (st σ 21 2 ((σ 21 2) + 1)) fun σ4 => l_X7_number_23 N n v1 v2 x3 σ4))
def o_X7_number (N : Nat) (a1 : Int32) (a2 : Int32) (σ : St) : Option (Int32 × St) := if (σ 21 4) = 0 then (bd (o_X7_skipBlanks N  σ) fun u2 σ3 => bt (st σ3 21 3 (σ3 21 2)) fun σ5 => l_X7_number_23 N N a1 a2 0 σ5) else (some ((-1), σ))
theorem lj_X7_number_136 (N : Nat) (v3 : Int32) (σ : St) (v : Int32) (w : St) (h : j_X7_number_136 N v3 σ = some (v, w)) : Ev md_X7_number 2 136 [some (vR 21), none, none, some (vI v3)] [] SH σ (some (vI v), SH, w) := by
  unfold j_X7_number_136 at h
  refine Ev.aload_n (pc := 136) dX7_number_136 rfl rfl ?_
  refine Ev.iconst (pc := 137) (v := 2) dX7_number_137 ki_2 ?_
  refine Ev.aload_n (pc := 138) dX7_number_138 rfl rfl ?_
  refine Ev.getI (pc := 139) dX7_number_139 fl_X7_97 sh_21 rfl ?_
  refine Ev.cVv (pc := 142) (k := 21) (av := [vI 2, vI (σ 21 3)]) (rest := []) dX7_number_142 ce_X7_blame ml_X7_54 rfl sh_21 cl_X7 sh_sc (Nat.le_of_ble_eq_true rfl) (Nat.le_of_ble_eq_true rfl) (r_X7_blame _ _ _) ?_
  refine Ev.nmS (fun σ1 e9 => ?_)
  replace h := bt_app h σ1 e9
  refine Ev.iload_n (pc := 145) dX7_number_145 rfl rfl ?_
  obtain ⟨h1, h2⟩ := oeq h
  subst h1
  subst h2
  exact Ev.ret_i (pc := 146) dX7_number_146 rfl rfl
theorem lj_X7_number_90 (N : Nat) (v1 : Int32) (v2 : Int32) (v3 : Int32) (σ : St) (v : Int32) (w : St) (h : j_X7_number_90 N v1 v2 v3 σ = some (v, w)) : Ev md_X7_number 2 90 [some (vR 21), some (vI v1), some (vI v2), some (vI v3)] [] SH σ (some (vI v), SH, w) := by
  unfold j_X7_number_90 at h
  refine Ev.aload_n (pc := 90) dX7_number_90 rfl rfl ?_
  refine Ev.getI (pc := 91) dX7_number_91 fl_X7_26 sh_21 rfl ?_
  refine Ev.aload_n (pc := 94) dX7_number_94 rfl rfl ?_
  refine Ev.getI (pc := 95) dX7_number_95 fl_X7_97 sh_21 rfl ?_
  by_cases c1 : (σ 21 2) = (σ 21 3)
  · replace h := (if_pos c1).symm.trans h
    refine Ev.icmp_ne_f (pc := 98) dX7_number_98 ⟨113, rfl⟩ c1 ?_
    refine Ev.aload_n (pc := 101) dX7_number_101 rfl rfl ?_
    refine Ev.iconst (pc := 102) (v := 1) dX7_number_102 ki_1 ?_
    refine Ev.aload_n (pc := 103) dX7_number_103 rfl rfl ?_
    refine Ev.getI (pc := 104) dX7_number_104 fl_X7_97 sh_21 rfl ?_
    refine Ev.cVv (pc := 107) (k := 21) (av := [vI 1, vI (σ 21 3)]) (rest := []) dX7_number_107 ce_X7_blame ml_X7_54 rfl sh_21 cl_X7 sh_sc (Nat.le_of_ble_eq_true rfl) (Nat.le_of_ble_eq_true rfl) (r_X7_blame _ _ _) ?_
    refine Ev.nmS (fun σ5 e9 => ?_)
    replace h := bt_app h σ5 e9
    refine Ev.goto (pc := 110) (tgt := 145) dX7_number_110 rfl ?_
    refine Ev.iload_n (pc := 145) dX7_number_145 rfl rfl ?_
    obtain ⟨h1, h2⟩ := oeq h
    subst h1
    subst h2
    exact Ev.ret_i (pc := 146) dX7_number_146 rfl rfl
  · replace h := (if_neg c1).symm.trans h
    refine Ev.icmp_ne_t (pc := 98) (tgt := 113) dX7_number_98 rfl c1 ?_
    refine Ev.aload_n (pc := 113) dX7_number_113 rfl rfl ?_
    refine Ev.getI (pc := 114) dX7_number_114 fl_X7_26 sh_21 rfl ?_
    refine Ev.aload_n (pc := 117) dX7_number_117 rfl rfl ?_
    refine Ev.getI (pc := 118) dX7_number_118 fl_X7_97 sh_21 rfl ?_
    refine Ev.isub (pc := 121) dX7_number_121 ?_
    refine Ev.iconst (pc := 122) (v := 3) dX7_number_122 ki_3 ?_
    by_cases c2 : (3 : Int32) < ((σ 21 2) - (σ 21 3))
    · replace h := (if_pos c2).symm.trans h
      refine Ev.icmp_gt_t (pc := 123) (tgt := 136) dX7_number_123 rfl c2 ?_
      exact Ev.weak2 (lj_X7_number_136 N _ _ _ _ h) (lsubS (lsubN (lsubN (lsubS lsubE))))
    · replace h := (if_neg c2).symm.trans h
      refine Ev.icmp_gt_f (pc := 123) dX7_number_123 ⟨136, rfl⟩ c2 ?_
      refine Ev.iload_n (pc := 126) dX7_number_126 rfl rfl ?_
      refine Ev.iload_n (pc := 127) dX7_number_127 rfl rfl ?_
      by_cases c3 : v3 < v1
      · replace h := (if_pos c3).symm.trans h
        refine Ev.icmp_lt_t (pc := 128) (tgt := 136) dX7_number_128 rfl c3 ?_
        exact Ev.weak2 (lj_X7_number_136 N _ _ _ _ h) (lsubS (lsubN (lsubN (lsubS lsubE))))
      · replace h := (if_neg c3).symm.trans h
        refine Ev.icmp_lt_f (pc := 128) dX7_number_128 ⟨136, rfl⟩ c3 ?_
        refine Ev.iload_n (pc := 131) dX7_number_131 rfl rfl ?_
        refine Ev.iload_n (pc := 132) dX7_number_132 rfl rfl ?_
        by_cases c4 : v3 ≤ v2
        · replace h := (if_pos c4).symm.trans h
          refine Ev.icmp_le_t (pc := 133) (tgt := 145) dX7_number_133 rfl c4 ?_
          refine Ev.iload_n (pc := 145) dX7_number_145 rfl rfl ?_
          obtain ⟨h1, h2⟩ := oeq h
          subst h1
          subst h2
          exact Ev.ret_i (pc := 146) dX7_number_146 rfl rfl
        · replace h := (if_neg c4).symm.trans h
          refine Ev.icmp_le_f (pc := 133) dX7_number_133 ⟨145, rfl⟩ c4 ?_
          exact Ev.weak2 (lj_X7_number_136 N _ _ _ _ h) (lsubS (lsubN (lsubN (lsubS lsubE))))
theorem ll_X7_number_23 (N : Nat) : ∀ (n : Nat) (v1 : Int32) (v2 : Int32) (v3 : Int32) (σ : St) (v : Int32) (w : St), l_X7_number_23 N n v1 v2 v3 σ = some (v, w) → Ev md_X7_number 2 23 [some (vR 21), some (vI v1), some (vI v2), some (vI v3)] [] SH σ (some (vI v), SH, w) := by
  intro n
  induction n with
  | zero =>
    intro v1 v2 v3 σ v w h
    rw [l_X7_number_23] at h
    cases h
  | succ n ih =>
    intro v1 v2 v3 σ v w h
    rw [l_X7_number_23] at h
    refine Ev.aload_n (pc := 23) dX7_number_23 rfl rfl ?_
    refine Ev.getI (pc := 24) dX7_number_24 fl_X7_26 sh_21 rfl ?_
    refine Ev.aload_n (pc := 27) dX7_number_27 rfl rfl ?_
    refine Ev.getI (pc := 28) dX7_number_28 fl_X7_19 sh_21 rfl ?_
    by_cases c1 : (σ 21 1) ≤ (σ 21 2)
    · replace h := (if_pos c1).symm.trans h
      refine Ev.icmp_ge_t (pc := 31) (tgt := 90) dX7_number_31 rfl c1 ?_
      exact Ev.weak2 (lj_X7_number_90 N _ _ _ _ _ _ h) (lsubS (lsubS (lsubS (lsubS lsubE))))
    · replace h := (if_neg c1).symm.trans h
      refine Ev.icmp_ge_f (pc := 31) dX7_number_31 ⟨90, rfl⟩ c1 ?_
      refine Ev.aload_n (pc := 34) dX7_number_34 rfl rfl ?_
      refine Ev.getR (pc := 35) dX7_number_35 fl_X7_9 sh_21 rfl ?_
      refine Ev.aload_n (pc := 38) dX7_number_38 rfl rfl ?_
      refine Ev.getI (pc := 39) dX7_number_39 fl_X7_26 sh_21 rfl ?_
      refine Ev.cTi (pc := 42) (av := [vR 22, vI (σ 21 2)]) (rest := []) dX7_number_42 ce_X9_at ml_X7_47 rfl sh_sc (Nat.le_of_ble_eq_true rfl) (Nat.le_of_ble_eq_true rfl) (r_at sh_22 (by decide) _ _) ?_
      refine Ev.cTi (pc := 45) (av := [vI (at_ σ 22 250 (σ 21 2))]) (rest := []) dX7_number_45 ce_X7_isFigure ml_X7_133 rfl sh_sc (Nat.le_of_ble_eq_true rfl) (Nat.le_of_ble_eq_true rfl) (r_X7_isFigure _ _) ?_
      by_cases c2 : (p_X7_isFigure (at_ σ 22 250 (σ 21 2)) σ) = 0
      · replace h := (if_pos c2).symm.trans h
        refine Ev.if_eq_t (pc := 48) (tgt := 90) dX7_number_48 rfl c2 ?_
        exact Ev.weak2 (lj_X7_number_90 N _ _ _ _ _ _ h) (lsubS (lsubS (lsubS (lsubS lsubE))))
      · replace h := (if_neg c2).symm.trans h
        refine Ev.if_eq_f (pc := 48) dX7_number_48 ⟨90, rfl⟩ c2 ?_
        refine Ev.iload_n (pc := 51) dX7_number_51 rfl rfl ?_
        refine Ev.sipush (pc := 52) (v := 1000) dX7_number_52 ks_1000 ?_
        refine Ev.cTi (pc := 55) (av := [vI v3, vI 1000]) (rest := []) dX7_number_55 ce_J9_min_7cf53 ml_X7_137 rfl sh_sc (Nat.le_of_ble_eq_true rfl) (Nat.le_of_ble_eq_true rfl) (r_J9_min_7cf53 _ _ _) ?_
        refine Ev.bipush (pc := 58) (v := 10) dX7_number_58 kb_10 ?_
        refine Ev.imul (pc := 60) dX7_number_60 ?_
        refine Ev.aload_n (pc := 61) dX7_number_61 rfl rfl ?_
        refine Ev.getR (pc := 62) dX7_number_62 fl_X7_9 sh_21 rfl ?_
        refine Ev.aload_n (pc := 65) dX7_number_65 rfl rfl ?_
        refine Ev.getI (pc := 66) dX7_number_66 fl_X7_26 sh_21 rfl ?_
        refine Ev.cTi (pc := 69) (av := [vR 22, vI (σ 21 2)]) (rest := [vI ((p_J9_min_7cf53 v3 1000 σ) * 10)]) dX7_number_69 ce_X9_at ml_X7_47 rfl sh_sc (Nat.le_of_ble_eq_true rfl) (Nat.le_of_ble_eq_true rfl) (r_at sh_22 (by decide) _ _) ?_
        refine Ev.iadd (pc := 72) dX7_number_72 ?_
        refine Ev.bipush (pc := 73) (v := 48) dX7_number_73 kb_48 ?_
        refine Ev.isub (pc := 75) dX7_number_75 ?_
        refine Ev.nmI (fun x3 e9 => ?_)
        replace h := bt_app h x3 e9
        refine Ev.istore_n (pc := 76) (lv' := [some (vR 21), some (vI v1), some (vI v2), some (vI x3)]) dX7_number_76 rfl (by decide) rfl rfl ?_
        refine Ev.aload_n (pc := 77) dX7_number_77 rfl rfl ?_
        refine Ev.dup (pc := 78) dX7_number_78 rfl ?_
        refine Ev.getI (pc := 79) dX7_number_79 fl_X7_26 sh_21 rfl ?_
        refine Ev.iconst (pc := 82) (v := 1) dX7_number_82 ki_1 ?_
        refine Ev.iadd (pc := 83) dX7_number_83 ?_
        refine Ev.putI (pc := 84) dX7_number_84 pl_X7_26 sh_21 rfl rfl rfl ?_
        refine Ev.nmS (fun σ4 e9 => ?_)
        replace h := bt_app h σ4 e9
        refine Ev.goto (pc := 87) (tgt := 23) dX7_number_87 rfl ?_
        exact Ev.weak2 (ih _ _ _ _ _ _ h) (lsubS (lsubS (lsubS (lsubS lsubE))))
theorem e_X7_number (N : Nat) (a1 : Int32) (a2 : Int32) (σ : St) (v : Int32) (w : St) (h : o_X7_number N a1 a2 σ = some (v, w)) : Ev md_X7_number 2 0 (lvE [vR 21, vI a1, vI a2] 4) [] SH σ (some (vI v), SH, w) := by
  show Ev md_X7_number 2 0 [some (vR 21), some (vI a1), some (vI a2), none] [] SH σ (some (vI v), SH, w)
  unfold o_X7_number at h
  refine Ev.aload_n (pc := 0) dX7_number_0 rfl rfl ?_
  refine Ev.getI (pc := 1) dX7_number_1 fl_X7_29 sh_21 rfl ?_
  by_cases c1 : (σ 21 4) = 0
  · replace h := (if_pos c1).symm.trans h
    refine Ev.if_eq_t (pc := 4) (tgt := 9) dX7_number_4 rfl c1 ?_
    refine Ev.aload_n (pc := 9) dX7_number_9 rfl rfl ?_
    obtain ⟨u2, σ3, g4, h⟩ := bd_elim h
    refine Ev.cVv (pc := 10) (k := 21) (av := []) (rest := []) dX7_number_10 ce_X7_skipBlanks ml_X7_37 rfl sh_21 cl_X7 sh_sc (Nat.le_of_ble_eq_true rfl) (Nat.le_of_ble_eq_true rfl) (r_X7_skipBlanks g4) ?_
    refine Ev.aload_n (pc := 13) dX7_number_13 rfl rfl ?_
    refine Ev.aload_n (pc := 14) dX7_number_14 rfl rfl ?_
    refine Ev.getI (pc := 15) dX7_number_15 fl_X7_26 sh_21 rfl ?_
    refine Ev.putI (pc := 18) dX7_number_18 pl_X7_97 sh_21 rfl rfl rfl ?_
    refine Ev.nmS (fun σ5 e9 => ?_)
    replace h := bt_app h σ5 e9
    refine Ev.iconst (pc := 21) (v := 0) dX7_number_21 ki_0 ?_
    refine Ev.istore_n (pc := 22) (lv' := [some (vR 21), some (vI a1), some (vI a2), some (vI 0)]) dX7_number_22 rfl (by decide) rfl rfl ?_
    exact Ev.weak2 (ll_X7_number_23 N N _ _ _ _ _ _ h) (lsubS (lsubS (lsubS (lsubS lsubE))))
  · replace h := (if_neg c1).symm.trans h
    refine Ev.if_eq_f (pc := 4) dX7_number_4 ⟨9, rfl⟩ c1 ?_
    refine Ev.iconst (pc := 7) (v := (-1)) dX7_number_7 ki_m1 ?_
    obtain ⟨h1, h2⟩ := oeq h
    subst h1
    subst h2
    exact Ev.ret_i (pc := 8) dX7_number_8 rfl rfl
theorem r_X7_number {N : Nat} {a1 : Int32} {a2 : Int32} {σ : St} {v : Int32} {w : St} (h : o_X7_number N a1 a2 σ = some (v, w)) : Rn md_X7_number 2 [vR 21, vI a1, vI a2] SH σ (some (vI v), SH, w) := Rn.of ce_X7_number.1 (Nat.le_of_ble_eq_true rfl) (e_X7_number N _ _ _ _ _ h)
def j_X7_isEnd_40 (N : Nat)  (σ : St) : Option (Int32 × St) := bt (t_X7_blame 1 (σ 21 2) σ) fun σ1 => some (0, σ1)
def o_X7_isEnd (N : Nat)  (σ : St) : Option (Int32 × St) := if (σ 21 4) = 0 then (bd (o_X7_skipBlanks N  σ) fun u2 σ3 => if (σ3 21 1) ≤ (σ3 21 2) then (j_X7_isEnd_40 N σ3) else (if (at_ σ3 22 250 (σ3 21 2)) = 59 then (bt (st σ3 21 2 ((σ3 21 2) + 1)) fun σ7 => some (1, σ7)) else (j_X7_isEnd_40 N σ3))) else (some (0, σ))
theorem lj_X7_isEnd_40 (N : Nat)  (σ : St) (v : Int32) (w : St) (h : j_X7_isEnd_40 N  σ = some (v, w)) : Ev md_X7_isEnd 2 40 [some (vR 21)] [] SH σ (some (vI v), SH, w) := by
  unfold j_X7_isEnd_40 at h
  refine Ev.aload_n (pc := 40) dX7_isEnd_40 rfl rfl ?_
  refine Ev.iconst (pc := 41) (v := 1) dX7_isEnd_41 ki_1 ?_
  refine Ev.aload_n (pc := 42) dX7_isEnd_42 rfl rfl ?_
  refine Ev.getI (pc := 43) dX7_isEnd_43 fl_X7_26 sh_21 rfl ?_
  refine Ev.cVv (pc := 46) (k := 21) (av := [vI 1, vI (σ 21 2)]) (rest := []) dX7_isEnd_46 ce_X7_blame ml_X7_54 rfl sh_21 cl_X7 sh_sc (Nat.le_of_ble_eq_true rfl) (Nat.le_of_ble_eq_true rfl) (r_X7_blame _ _ _) ?_
  refine Ev.nmS (fun σ1 e9 => ?_)
  replace h := bt_app h σ1 e9
  refine Ev.iconst (pc := 49) (v := 0) dX7_isEnd_49 ki_0 ?_
  obtain ⟨h1, h2⟩ := oeq h
  subst h1
  subst h2
  exact Ev.ret_i (pc := 50) dX7_isEnd_50 rfl nb_0
theorem e_X7_isEnd (N : Nat)  (σ : St) (v : Int32) (w : St) (h : o_X7_isEnd N  σ = some (v, w)) : Ev md_X7_isEnd 2 0 (lvE [vR 21] 1) [] SH σ (some (vI v), SH, w) := by
  show Ev md_X7_isEnd 2 0 [some (vR 21)] [] SH σ (some (vI v), SH, w)
  unfold o_X7_isEnd at h
  refine Ev.aload_n (pc := 0) dX7_isEnd_0 rfl rfl ?_
  refine Ev.getI (pc := 1) dX7_isEnd_1 fl_X7_29 sh_21 rfl ?_
  by_cases c1 : (σ 21 4) = 0
  · replace h := (if_pos c1).symm.trans h
    refine Ev.if_eq_t (pc := 4) (tgt := 9) dX7_isEnd_4 rfl c1 ?_
    refine Ev.aload_n (pc := 9) dX7_isEnd_9 rfl rfl ?_
    obtain ⟨u2, σ3, g4, h⟩ := bd_elim h
    refine Ev.cVv (pc := 10) (k := 21) (av := []) (rest := []) dX7_isEnd_10 ce_X7_skipBlanks ml_X7_37 rfl sh_21 cl_X7 sh_sc (Nat.le_of_ble_eq_true rfl) (Nat.le_of_ble_eq_true rfl) (r_X7_skipBlanks g4) ?_
    refine Ev.aload_n (pc := 13) dX7_isEnd_13 rfl rfl ?_
    refine Ev.getI (pc := 14) dX7_isEnd_14 fl_X7_26 sh_21 rfl ?_
    refine Ev.aload_n (pc := 17) dX7_isEnd_17 rfl rfl ?_
    refine Ev.getI (pc := 18) dX7_isEnd_18 fl_X7_19 sh_21 rfl ?_
    by_cases c5 : (σ3 21 1) ≤ (σ3 21 2)
    · replace h := (if_pos c5).symm.trans h
      refine Ev.icmp_ge_t (pc := 21) (tgt := 40) dX7_isEnd_21 rfl c5 ?_
      exact Ev.weak2 (lj_X7_isEnd_40 N _ _ _ h) (lsubS lsubE)
    · replace h := (if_neg c5).symm.trans h
      refine Ev.icmp_ge_f (pc := 21) dX7_isEnd_21 ⟨40, rfl⟩ c5 ?_
      refine Ev.aload_n (pc := 24) dX7_isEnd_24 rfl rfl ?_
      refine Ev.getR (pc := 25) dX7_isEnd_25 fl_X7_9 sh_21 rfl ?_
      refine Ev.aload_n (pc := 28) dX7_isEnd_28 rfl rfl ?_
      refine Ev.getI (pc := 29) dX7_isEnd_29 fl_X7_26 sh_21 rfl ?_
      refine Ev.cTi (pc := 32) (av := [vR 22, vI (σ3 21 2)]) (rest := []) dX7_isEnd_32 ce_X9_at ml_X7_47 rfl sh_sc (Nat.le_of_ble_eq_true rfl) (Nat.le_of_ble_eq_true rfl) (r_at sh_22 (by decide) _ _) ?_
      refine Ev.bipush (pc := 35) (v := 59) dX7_isEnd_35 kb_59 ?_
      by_cases c6 : (at_ σ3 22 250 (σ3 21 2)) = 59
      · replace h := (if_pos c6).symm.trans h
        refine Ev.icmp_eq_t (pc := 37) (tgt := 51) dX7_isEnd_37 rfl c6 ?_
        refine Ev.aload_n (pc := 51) dX7_isEnd_51 rfl rfl ?_
        refine Ev.dup (pc := 52) dX7_isEnd_52 rfl ?_
        refine Ev.getI (pc := 53) dX7_isEnd_53 fl_X7_26 sh_21 rfl ?_
        refine Ev.iconst (pc := 56) (v := 1) dX7_isEnd_56 ki_1 ?_
        refine Ev.iadd (pc := 57) dX7_isEnd_57 ?_
        refine Ev.putI (pc := 58) dX7_isEnd_58 pl_X7_26 sh_21 rfl rfl rfl ?_
        refine Ev.nmS (fun σ7 e9 => ?_)
        replace h := bt_app h σ7 e9
        refine Ev.iconst (pc := 61) (v := 1) dX7_isEnd_61 ki_1 ?_
        obtain ⟨h1, h2⟩ := oeq h
        subst h1
        subst h2
        exact Ev.ret_i (pc := 62) dX7_isEnd_62 rfl nb_1
      · replace h := (if_neg c6).symm.trans h
        refine Ev.icmp_eq_f (pc := 37) dX7_isEnd_37 ⟨51, rfl⟩ c6 ?_
        exact Ev.weak2 (lj_X7_isEnd_40 N _ _ _ h) (lsubS lsubE)
  · replace h := (if_neg c1).symm.trans h
    refine Ev.if_eq_f (pc := 4) dX7_isEnd_4 ⟨9, rfl⟩ c1 ?_
    refine Ev.iconst (pc := 7) (v := 0) dX7_isEnd_7 ki_0 ?_
    obtain ⟨h1, h2⟩ := oeq h
    subst h1
    subst h2
    exact Ev.ret_i (pc := 8) dX7_isEnd_8 rfl nb_0
theorem r_X7_isEnd {N : Nat}  {σ : St} {v : Int32} {w : St} (h : o_X7_isEnd N  σ = some (v, w)) : Rn md_X7_isEnd 2 [vR 21] SH σ (some (vI v), SH, w) := Rn.of ce_X7_isEnd.1 (Nat.le_of_ble_eq_true rfl) (e_X7_isEnd N  _ _ _ h)
def o_X7_readKeeper_21_11 (N : Nat)  (σ : St) : Option (Unit × St) := bt (st σ 21 2 ((σ 21 2) + 1)) fun σ1 => bd (o_X7_number N 0 ((σ1 11 0) - 1) σ1) fun x2 σ3 => bd (o_X7_number N 0 2 σ3) fun x5 σ6 => bd (o_X7_isEnd N  σ6) fun x8 σ9 => if x8 = 0 then (some ((), σ9)) else (bt (put_ σ9 12 3 (σ9 11 2) x2) fun σ12 => bt (put_ σ12 13 3 (σ12 11 2) x5) fun σ13 => bt (st σ13 11 2 ((σ13 11 2) + 1)) fun σ14 => some ((), σ14))
theorem e_X7_readKeeper_21_11 (N : Nat)  (σ : St) (v : Unit) (w : St) (h : o_X7_readKeeper_21_11 N  σ = some (v, w)) : Ev md_X7_readKeeper 3 0 (lvE [vR 21, vR 11] 4) [] SH σ (none, SH, w) := by
  show Ev md_X7_readKeeper 3 0 [some (vR 21), some (vR 11), none, none] [] SH σ (none, SH, w)
  unfold o_X7_readKeeper_21_11 at h
  refine Ev.aload_n (pc := 0) dX7_readKeeper_0 rfl rfl ?_
  refine Ev.dup (pc := 1) dX7_readKeeper_1 rfl ?_
  refine Ev.getI (pc := 2) dX7_readKeeper_2 fl_X7_26 sh_21 rfl ?_
  refine Ev.iconst (pc := 5) (v := 1) dX7_readKeeper_5 ki_1 ?_
  refine Ev.iadd (pc := 6) dX7_readKeeper_6 ?_
  refine Ev.putI (pc := 7) dX7_readKeeper_7 pl_X7_26 sh_21 rfl rfl rfl ?_
  refine Ev.nmS (fun σ1 e9 => ?_)
  replace h := bt_app h σ1 e9
  refine Ev.aload_n (pc := 10) dX7_readKeeper_10 rfl rfl ?_
  refine Ev.iconst (pc := 11) (v := 0) dX7_readKeeper_11 ki_0 ?_
  refine Ev.aload_n (pc := 12) dX7_readKeeper_12 rfl rfl ?_
  refine Ev.getI (pc := 13) dX7_readKeeper_13 fl_X7_51 sh_11 rfl ?_
  refine Ev.iconst (pc := 16) (v := 1) dX7_readKeeper_16 ki_1 ?_
  refine Ev.isub (pc := 17) dX7_readKeeper_17 ?_
  obtain ⟨x2, σ3, g4, h⟩ := bd_elim h
  refine Ev.cVi (pc := 18) (k := 21) (av := [vI 0, vI ((σ1 11 0) - 1)]) (rest := []) dX7_readKeeper_18 ce_X7_number ml_X7_89 rfl sh_21 cl_X7 sh_sc (Nat.le_of_ble_eq_true rfl) (Nat.le_of_ble_eq_true rfl) (r_X7_number g4) ?_
  refine Ev.istore_n (pc := 21) (lv' := [some (vR 21), some (vR 11), some (vI x2), none]) dX7_readKeeper_21 rfl (by decide) rfl rfl ?_
  refine Ev.aload_n (pc := 22) dX7_readKeeper_22 rfl rfl ?_
  refine Ev.iconst (pc := 23) (v := 0) dX7_readKeeper_23 ki_0 ?_
  refine Ev.iconst (pc := 24) (v := 2) dX7_readKeeper_24 ki_2 ?_
  obtain ⟨x5, σ6, g7, h⟩ := bd_elim h
  refine Ev.cVi (pc := 25) (k := 21) (av := [vI 0, vI 2]) (rest := []) dX7_readKeeper_25 ce_X7_number ml_X7_89 rfl sh_21 cl_X7 sh_sc (Nat.le_of_ble_eq_true rfl) (Nat.le_of_ble_eq_true rfl) (r_X7_number g7) ?_
  refine Ev.istore_n (pc := 28) (lv' := [some (vR 21), some (vR 11), some (vI x2), some (vI x5)]) dX7_readKeeper_28 rfl (by decide) rfl rfl ?_
  refine Ev.aload_n (pc := 29) dX7_readKeeper_29 rfl rfl ?_
  obtain ⟨x8, σ9, g10, h⟩ := bd_elim h
  refine Ev.cVi (pc := 30) (k := 21) (av := []) (rest := []) dX7_readKeeper_30 ce_X7_isEnd ml_X7_93 rfl sh_21 cl_X7 sh_sc (Nat.le_of_ble_eq_true rfl) (Nat.le_of_ble_eq_true rfl) (r_X7_isEnd g10) ?_
  by_cases c11 : x8 = 0
  · replace h := (if_pos c11).symm.trans h
    refine Ev.if_eq_t (pc := 33) (tgt := 70) dX7_readKeeper_33 rfl c11 ?_
    obtain ⟨h1, h2⟩ := oeq h
    subst h1
    subst h2
    exact Ev.ret_v (pc := 70) dX7_readKeeper_70 rfl
  · replace h := (if_neg c11).symm.trans h
    refine Ev.if_eq_f (pc := 33) dX7_readKeeper_33 ⟨70, rfl⟩ c11 ?_
    refine Ev.aload_n (pc := 36) dX7_readKeeper_36 rfl rfl ?_
    refine Ev.getR (pc := 37) dX7_readKeeper_37 fl_X7_104 sh_11 rfl ?_
    refine Ev.aload_n (pc := 40) dX7_readKeeper_40 rfl rfl ?_
    refine Ev.getI (pc := 41) dX7_readKeeper_41 fl_X7_80 sh_11 rfl ?_
    refine Ev.iload_n (pc := 44) dX7_readKeeper_44 rfl rfl ?_
    refine Ev.cTv (pc := 45) (av := [vR 12, vI (σ9 11 2), vI x2]) (rest := []) dX7_readKeeper_45 ce_X9_put ml_X7_22 rfl sh_sc (Nat.le_of_ble_eq_true rfl) (Nat.le_of_ble_eq_true rfl) (r_put sh_12 (by decide) _ _ _) ?_
    refine Ev.nmS (fun σ12 e9 => ?_)
    replace h := bt_app h σ12 e9
    refine Ev.aload_n (pc := 48) dX7_readKeeper_48 rfl rfl ?_
    refine Ev.getR (pc := 49) dX7_readKeeper_49 fl_X7_107 sh_11 rfl ?_
    refine Ev.aload_n (pc := 52) dX7_readKeeper_52 rfl rfl ?_
    refine Ev.getI (pc := 53) dX7_readKeeper_53 fl_X7_80 sh_11 rfl ?_
    refine Ev.iload_n (pc := 56) dX7_readKeeper_56 rfl rfl ?_
    refine Ev.cTv (pc := 57) (av := [vR 13, vI (σ12 11 2), vI x5]) (rest := []) dX7_readKeeper_57 ce_X9_put ml_X7_22 rfl sh_sc (Nat.le_of_ble_eq_true rfl) (Nat.le_of_ble_eq_true rfl) (r_put sh_13 (by decide) _ _ _) ?_
    refine Ev.nmS (fun σ13 e9 => ?_)
    replace h := bt_app h σ13 e9
    refine Ev.aload_n (pc := 60) dX7_readKeeper_60 rfl rfl ?_
    refine Ev.dup (pc := 61) dX7_readKeeper_61 rfl ?_
    refine Ev.getI (pc := 62) dX7_readKeeper_62 fl_X7_80 sh_11 rfl ?_
    refine Ev.iconst (pc := 65) (v := 1) dX7_readKeeper_65 ki_1 ?_
    refine Ev.iadd (pc := 66) dX7_readKeeper_66 ?_
    refine Ev.putI (pc := 67) dX7_readKeeper_67 pl_X7_80 sh_11 rfl rfl rfl ?_
    refine Ev.nmS (fun σ14 e9 => ?_)
    replace h := bt_app h σ14 e9
    obtain ⟨h1, h2⟩ := oeq h
    subst h1
    subst h2
    exact Ev.ret_v (pc := 70) dX7_readKeeper_70 rfl
theorem r_X7_readKeeper_21_11 {N : Nat}  {σ : St} {v : Unit} {w : St} (h : o_X7_readKeeper_21_11 N  σ = some (v, w)) : Rn md_X7_readKeeper 3 [vR 21, vR 11] SH σ (none, SH, w) := Rn.of ce_X7_readKeeper.1 (Nat.le_of_ble_eq_true rfl) (e_X7_readKeeper_21_11 N  _ _ _ h)
def j_X7_readPromise_21_11_180 (N : Nat) (s1 : Int32) (s2 : Int32) (σ : St) : Option (Unit × St) := bt (put_ σ 19 7 s1 s2) fun σ1 => bt (st σ1 11 3 ((σ1 11 3) + 1)) fun σ2 => some ((), σ2)
def j_X7_readPromise_21_11_95 (N : Nat) (v2 : Int32) (v3 : Int32) (v4 : Int32) (v5 : Int32) (v6 : Int32) (v7 : Int32) (σ : St) : Option (Unit × St) := bd (o_X7_isEnd N  σ) fun x1 σ2 => if x1 = 0 then (some ((), σ2)) else (bt (σ2 11 3) fun x5 => bt (put_ σ2 14 7 x5 v2) fun σ6 => bt (put_ σ6 15 7 x5 v3) fun σ7 => bt (put_ σ7 16 7 x5 v4) fun σ8 => bt (put_ σ8 17 7 x5 v5) fun σ9 => bt (put_ σ9 18 7 x5 v6) fun σ10 => if v7 = 9 then (j_X7_readPromise_21_11_180 N x5 (-1) σ10) else (j_X7_readPromise_21_11_180 N x5 v7 σ10))
def o_X7_readPromise_21_11 (N : Nat)  (σ : St) : Option (Unit × St) := bt (st σ 21 2 ((σ 21 2) + 1)) fun σ1 => bd (o_X7_number N 0 ((σ1 11 2) - 1) σ1) fun x2 σ3 => bd (o_X7_number N 0 ((σ3 11 0) - 1) σ3) fun x5 σ6 => bd (o_X7_number N 1 60 σ6) fun x8 σ9 => bd (o_X7_number N 0 9 σ9) fun x11 σ12 => bd (o_X7_number N 1 9 σ12) fun x14 σ15 => bd (o_X7_number N 0 9 σ15) fun x17 σ18 => if x17 = 9 then (j_X7_readPromise_21_11_95 N x2 x5 x8 x11 x14 x17 σ18) else (if x17 < (σ18 11 3) then (j_X7_readPromise_21_11_95 N x2 x5 x8 x11 x14 x17 σ18) else (bt (t_X7_blame 2 (σ18 21 3) σ18) fun σ22 => j_X7_readPromise_21_11_95 N x2 x5 x8 x11 x14 x17 σ22))
theorem lj_X7_readPromise_21_11_180 (N : Nat) (s1 : Int32) (s2 : Int32) (σ : St) (v : Unit) (w : St) (h : j_X7_readPromise_21_11_180 N s1 s2 σ = some (v, w)) : Ev md_X7_readPromise 3 180 [none, some (vR 11), none, none, none, none, none, none, none] [vI s2, vI s1, vR 19] SH σ (none, SH, w) := by
  unfold j_X7_readPromise_21_11_180 at h
  refine Ev.cTv (pc := 180) (av := [vR 19, vI s1, vI s2]) (rest := []) dX7_readPromise_180 ce_X9_put ml_X7_22 rfl sh_sc (Nat.le_of_ble_eq_true rfl) (Nat.le_of_ble_eq_true rfl) (r_put sh_19 (by decide) _ _ _) ?_
  refine Ev.nmS (fun σ1 e9 => ?_)
  replace h := bt_app h σ1 e9
  refine Ev.aload_n (pc := 183) dX7_readPromise_183 rfl rfl ?_
  refine Ev.dup (pc := 184) dX7_readPromise_184 rfl ?_
  refine Ev.getI (pc := 185) dX7_readPromise_185 fl_X7_83 sh_11 rfl ?_
  refine Ev.iconst (pc := 188) (v := 1) dX7_readPromise_188 ki_1 ?_
  refine Ev.iadd (pc := 189) dX7_readPromise_189 ?_
  refine Ev.putI (pc := 190) dX7_readPromise_190 pl_X7_83 sh_11 rfl rfl rfl ?_
  refine Ev.nmS (fun σ2 e9 => ?_)
  replace h := bt_app h σ2 e9
  obtain ⟨h1, h2⟩ := oeq h
  subst h1
  subst h2
  exact Ev.ret_v (pc := 193) dX7_readPromise_193 rfl
theorem lj_X7_readPromise_21_11_95 (N : Nat) (v2 : Int32) (v3 : Int32) (v4 : Int32) (v5 : Int32) (v6 : Int32) (v7 : Int32) (σ : St) (v : Unit) (w : St) (h : j_X7_readPromise_21_11_95 N v2 v3 v4 v5 v6 v7 σ = some (v, w)) : Ev md_X7_readPromise 3 95 [some (vR 21), some (vR 11), some (vI v2), some (vI v3), some (vI v4), some (vI v5), some (vI v6), some (vI v7), none] [] SH σ (none, SH, w) := by
  unfold j_X7_readPromise_21_11_95 at h
  refine Ev.aload_n (pc := 95) dX7_readPromise_95 rfl rfl ?_
  obtain ⟨x1, σ2, g3, h⟩ := bd_elim h
  refine Ev.cVi (pc := 96) (k := 21) (av := []) (rest := []) dX7_readPromise_96 ce_X7_isEnd ml_X7_93 rfl sh_21 cl_X7 sh_sc (Nat.le_of_ble_eq_true rfl) (Nat.le_of_ble_eq_true rfl) (r_X7_isEnd g3) ?_
  by_cases c4 : x1 = 0
  · replace h := (if_pos c4).symm.trans h
    refine Ev.if_eq_t (pc := 99) (tgt := 193) dX7_readPromise_99 rfl c4 ?_
    obtain ⟨h1, h2⟩ := oeq h
    subst h1
    subst h2
    exact Ev.ret_v (pc := 193) dX7_readPromise_193 rfl
  · replace h := (if_neg c4).symm.trans h
    refine Ev.if_eq_f (pc := 99) dX7_readPromise_99 ⟨193, rfl⟩ c4 ?_
    refine Ev.aload_n (pc := 102) dX7_readPromise_102 rfl rfl ?_
    refine Ev.getI (pc := 103) dX7_readPromise_103 fl_X7_83 sh_11 rfl ?_
    refine Ev.nmI (fun x5 e9 => ?_)
    replace h := bt_app h x5 e9
    refine Ev.istore (pc := 106) (lv' := [some (vR 21), some (vR 11), some (vI v2), some (vI v3), some (vI v4), some (vI v5), some (vI v6), some (vI v7), some (vI x5)]) dX7_readPromise_106 (by decide) rfl rfl ?_
    refine Ev.aload_n (pc := 108) dX7_readPromise_108 rfl rfl ?_
    refine Ev.getR (pc := 109) dX7_readPromise_109 fl_X7_110 sh_11 rfl ?_
    refine Ev.iload (pc := 112) dX7_readPromise_112 rfl ?_
    refine Ev.iload_n (pc := 114) dX7_readPromise_114 rfl rfl ?_
    refine Ev.cTv (pc := 115) (av := [vR 14, vI x5, vI v2]) (rest := []) dX7_readPromise_115 ce_X9_put ml_X7_22 rfl sh_sc (Nat.le_of_ble_eq_true rfl) (Nat.le_of_ble_eq_true rfl) (r_put sh_14 (by decide) _ _ _) ?_
    refine Ev.nmS (fun σ6 e9 => ?_)
    replace h := bt_app h σ6 e9
    refine Ev.aload_n (pc := 118) dX7_readPromise_118 rfl rfl ?_
    refine Ev.getR (pc := 119) dX7_readPromise_119 fl_X7_113 sh_11 rfl ?_
    refine Ev.iload (pc := 122) dX7_readPromise_122 rfl ?_
    refine Ev.iload_n (pc := 124) dX7_readPromise_124 rfl rfl ?_
    refine Ev.cTv (pc := 125) (av := [vR 15, vI x5, vI v3]) (rest := []) dX7_readPromise_125 ce_X9_put ml_X7_22 rfl sh_sc (Nat.le_of_ble_eq_true rfl) (Nat.le_of_ble_eq_true rfl) (r_put sh_15 (by decide) _ _ _) ?_
    refine Ev.nmS (fun σ7 e9 => ?_)
    replace h := bt_app h σ7 e9
    refine Ev.aload_n (pc := 128) dX7_readPromise_128 rfl rfl ?_
    refine Ev.getR (pc := 129) dX7_readPromise_129 fl_X7_115 sh_11 rfl ?_
    refine Ev.iload (pc := 132) dX7_readPromise_132 rfl ?_
    refine Ev.iload (pc := 134) dX7_readPromise_134 rfl ?_
    refine Ev.cTv (pc := 136) (av := [vR 16, vI x5, vI v4]) (rest := []) dX7_readPromise_136 ce_X9_put ml_X7_22 rfl sh_sc (Nat.le_of_ble_eq_true rfl) (Nat.le_of_ble_eq_true rfl) (r_put sh_16 (by decide) _ _ _) ?_
    refine Ev.nmS (fun σ8 e9 => ?_)
    replace h := bt_app h σ8 e9
    refine Ev.aload_n (pc := 139) dX7_readPromise_139 rfl rfl ?_
    refine Ev.getR (pc := 140) dX7_readPromise_140 fl_X7_118 sh_11 rfl ?_
    refine Ev.iload (pc := 143) dX7_readPromise_143 rfl ?_
    refine Ev.iload (pc := 145) dX7_readPromise_145 rfl ?_
    refine Ev.cTv (pc := 147) (av := [vR 17, vI x5, vI v5]) (rest := []) dX7_readPromise_147 ce_X9_put ml_X7_22 rfl sh_sc (Nat.le_of_ble_eq_true rfl) (Nat.le_of_ble_eq_true rfl) (r_put sh_17 (by decide) _ _ _) ?_
    refine Ev.nmS (fun σ9 e9 => ?_)
    replace h := bt_app h σ9 e9
    refine Ev.aload_n (pc := 150) dX7_readPromise_150 rfl rfl ?_
    refine Ev.getR (pc := 151) dX7_readPromise_151 fl_X7_121 sh_11 rfl ?_
    refine Ev.iload (pc := 154) dX7_readPromise_154 rfl ?_
    refine Ev.iload (pc := 156) dX7_readPromise_156 rfl ?_
    refine Ev.cTv (pc := 158) (av := [vR 18, vI x5, vI v6]) (rest := []) dX7_readPromise_158 ce_X9_put ml_X7_22 rfl sh_sc (Nat.le_of_ble_eq_true rfl) (Nat.le_of_ble_eq_true rfl) (r_put sh_18 (by decide) _ _ _) ?_
    refine Ev.nmS (fun σ10 e9 => ?_)
    replace h := bt_app h σ10 e9
    refine Ev.aload_n (pc := 161) dX7_readPromise_161 rfl rfl ?_
    refine Ev.getR (pc := 162) dX7_readPromise_162 fl_X7_124 sh_11 rfl ?_
    refine Ev.iload (pc := 165) dX7_readPromise_165 rfl ?_
    refine Ev.iload (pc := 167) dX7_readPromise_167 rfl ?_
    refine Ev.bipush (pc := 169) (v := 9) dX7_readPromise_169 kb_9 ?_
    by_cases c11 : v7 = 9
    · replace h := (if_pos c11).symm.trans h
      refine Ev.icmp_ne_f (pc := 171) dX7_readPromise_171 ⟨178, rfl⟩ c11 ?_
      refine Ev.iconst (pc := 174) (v := (-1)) dX7_readPromise_174 ki_m1 ?_
      refine Ev.goto (pc := 175) (tgt := 180) dX7_readPromise_175 rfl ?_
      exact Ev.weak2 (lj_X7_readPromise_21_11_180 N _ _ _ _ _ h) (lsubN (lsubS (lsubN (lsubN (lsubN (lsubN (lsubN (lsubN (lsubN lsubE)))))))))
    · replace h := (if_neg c11).symm.trans h
      refine Ev.icmp_ne_t (pc := 171) (tgt := 178) dX7_readPromise_171 rfl c11 ?_
      refine Ev.iload (pc := 178) dX7_readPromise_178 rfl ?_
      exact Ev.weak2 (lj_X7_readPromise_21_11_180 N _ _ _ _ _ h) (lsubN (lsubS (lsubN (lsubN (lsubN (lsubN (lsubN (lsubN (lsubN lsubE)))))))))
theorem e_X7_readPromise_21_11 (N : Nat)  (σ : St) (v : Unit) (w : St) (h : o_X7_readPromise_21_11 N  σ = some (v, w)) : Ev md_X7_readPromise 3 0 (lvE [vR 21, vR 11] 9) [] SH σ (none, SH, w) := by
  show Ev md_X7_readPromise 3 0 [some (vR 21), some (vR 11), none, none, none, none, none, none, none] [] SH σ (none, SH, w)
  unfold o_X7_readPromise_21_11 at h
  refine Ev.aload_n (pc := 0) dX7_readPromise_0 rfl rfl ?_
  refine Ev.dup (pc := 1) dX7_readPromise_1 rfl ?_
  refine Ev.getI (pc := 2) dX7_readPromise_2 fl_X7_26 sh_21 rfl ?_
  refine Ev.iconst (pc := 5) (v := 1) dX7_readPromise_5 ki_1 ?_
  refine Ev.iadd (pc := 6) dX7_readPromise_6 ?_
  refine Ev.putI (pc := 7) dX7_readPromise_7 pl_X7_26 sh_21 rfl rfl rfl ?_
  refine Ev.nmS (fun σ1 e9 => ?_)
  replace h := bt_app h σ1 e9
  refine Ev.aload_n (pc := 10) dX7_readPromise_10 rfl rfl ?_
  refine Ev.iconst (pc := 11) (v := 0) dX7_readPromise_11 ki_0 ?_
  refine Ev.aload_n (pc := 12) dX7_readPromise_12 rfl rfl ?_
  refine Ev.getI (pc := 13) dX7_readPromise_13 fl_X7_80 sh_11 rfl ?_
  refine Ev.iconst (pc := 16) (v := 1) dX7_readPromise_16 ki_1 ?_
  refine Ev.isub (pc := 17) dX7_readPromise_17 ?_
  obtain ⟨x2, σ3, g4, h⟩ := bd_elim h
  refine Ev.cVi (pc := 18) (k := 21) (av := [vI 0, vI ((σ1 11 2) - 1)]) (rest := []) dX7_readPromise_18 ce_X7_number ml_X7_89 rfl sh_21 cl_X7 sh_sc (Nat.le_of_ble_eq_true rfl) (Nat.le_of_ble_eq_true rfl) (r_X7_number g4) ?_
  refine Ev.istore_n (pc := 21) (lv' := [some (vR 21), some (vR 11), some (vI x2), none, none, none, none, none, none]) dX7_readPromise_21 rfl (by decide) rfl rfl ?_
  refine Ev.aload_n (pc := 22) dX7_readPromise_22 rfl rfl ?_
  refine Ev.iconst (pc := 23) (v := 0) dX7_readPromise_23 ki_0 ?_
  refine Ev.aload_n (pc := 24) dX7_readPromise_24 rfl rfl ?_
  refine Ev.getI (pc := 25) dX7_readPromise_25 fl_X7_51 sh_11 rfl ?_
  refine Ev.iconst (pc := 28) (v := 1) dX7_readPromise_28 ki_1 ?_
  refine Ev.isub (pc := 29) dX7_readPromise_29 ?_
  obtain ⟨x5, σ6, g7, h⟩ := bd_elim h
  refine Ev.cVi (pc := 30) (k := 21) (av := [vI 0, vI ((σ3 11 0) - 1)]) (rest := []) dX7_readPromise_30 ce_X7_number ml_X7_89 rfl sh_21 cl_X7 sh_sc (Nat.le_of_ble_eq_true rfl) (Nat.le_of_ble_eq_true rfl) (r_X7_number g7) ?_
  refine Ev.istore_n (pc := 33) (lv' := [some (vR 21), some (vR 11), some (vI x2), some (vI x5), none, none, none, none, none]) dX7_readPromise_33 rfl (by decide) rfl rfl ?_
  refine Ev.aload_n (pc := 34) dX7_readPromise_34 rfl rfl ?_
  refine Ev.iconst (pc := 35) (v := 1) dX7_readPromise_35 ki_1 ?_
  refine Ev.bipush (pc := 36) (v := 60) dX7_readPromise_36 kb_60 ?_
  obtain ⟨x8, σ9, g10, h⟩ := bd_elim h
  refine Ev.cVi (pc := 38) (k := 21) (av := [vI 1, vI 60]) (rest := []) dX7_readPromise_38 ce_X7_number ml_X7_89 rfl sh_21 cl_X7 sh_sc (Nat.le_of_ble_eq_true rfl) (Nat.le_of_ble_eq_true rfl) (r_X7_number g10) ?_
  refine Ev.istore (pc := 41) (lv' := [some (vR 21), some (vR 11), some (vI x2), some (vI x5), some (vI x8), none, none, none, none]) dX7_readPromise_41 (by decide) rfl rfl ?_
  refine Ev.aload_n (pc := 43) dX7_readPromise_43 rfl rfl ?_
  refine Ev.iconst (pc := 44) (v := 0) dX7_readPromise_44 ki_0 ?_
  refine Ev.bipush (pc := 45) (v := 9) dX7_readPromise_45 kb_9 ?_
  obtain ⟨x11, σ12, g13, h⟩ := bd_elim h
  refine Ev.cVi (pc := 47) (k := 21) (av := [vI 0, vI 9]) (rest := []) dX7_readPromise_47 ce_X7_number ml_X7_89 rfl sh_21 cl_X7 sh_sc (Nat.le_of_ble_eq_true rfl) (Nat.le_of_ble_eq_true rfl) (r_X7_number g13) ?_
  refine Ev.istore (pc := 50) (lv' := [some (vR 21), some (vR 11), some (vI x2), some (vI x5), some (vI x8), some (vI x11), none, none, none]) dX7_readPromise_50 (by decide) rfl rfl ?_
  refine Ev.aload_n (pc := 52) dX7_readPromise_52 rfl rfl ?_
  refine Ev.iconst (pc := 53) (v := 1) dX7_readPromise_53 ki_1 ?_
  refine Ev.bipush (pc := 54) (v := 9) dX7_readPromise_54 kb_9 ?_
  obtain ⟨x14, σ15, g16, h⟩ := bd_elim h
  refine Ev.cVi (pc := 56) (k := 21) (av := [vI 1, vI 9]) (rest := []) dX7_readPromise_56 ce_X7_number ml_X7_89 rfl sh_21 cl_X7 sh_sc (Nat.le_of_ble_eq_true rfl) (Nat.le_of_ble_eq_true rfl) (r_X7_number g16) ?_
  refine Ev.istore (pc := 59) (lv' := [some (vR 21), some (vR 11), some (vI x2), some (vI x5), some (vI x8), some (vI x11), some (vI x14), none, none]) dX7_readPromise_59 (by decide) rfl rfl ?_
  refine Ev.aload_n (pc := 61) dX7_readPromise_61 rfl rfl ?_
  refine Ev.iconst (pc := 62) (v := 0) dX7_readPromise_62 ki_0 ?_
  refine Ev.bipush (pc := 63) (v := 9) dX7_readPromise_63 kb_9 ?_
  obtain ⟨x17, σ18, g19, h⟩ := bd_elim h
  refine Ev.cVi (pc := 65) (k := 21) (av := [vI 0, vI 9]) (rest := []) dX7_readPromise_65 ce_X7_number ml_X7_89 rfl sh_21 cl_X7 sh_sc (Nat.le_of_ble_eq_true rfl) (Nat.le_of_ble_eq_true rfl) (r_X7_number g19) ?_
  refine Ev.istore (pc := 68) (lv' := [some (vR 21), some (vR 11), some (vI x2), some (vI x5), some (vI x8), some (vI x11), some (vI x14), some (vI x17), none]) dX7_readPromise_68 (by decide) rfl rfl ?_
  refine Ev.iload (pc := 70) dX7_readPromise_70 rfl ?_
  refine Ev.bipush (pc := 72) (v := 9) dX7_readPromise_72 kb_9 ?_
  by_cases c20 : x17 = 9
  · replace h := (if_pos c20).symm.trans h
    refine Ev.icmp_eq_t (pc := 74) (tgt := 95) dX7_readPromise_74 rfl c20 ?_
    exact Ev.weak2 (lj_X7_readPromise_21_11_95 N _ _ _ _ _ _ _ _ _ h) (lsubS (lsubS (lsubS (lsubS (lsubS (lsubS (lsubS (lsubS (lsubN lsubE)))))))))
  · replace h := (if_neg c20).symm.trans h
    refine Ev.icmp_eq_f (pc := 74) dX7_readPromise_74 ⟨95, rfl⟩ c20 ?_
    refine Ev.iload (pc := 77) dX7_readPromise_77 rfl ?_
    refine Ev.aload_n (pc := 79) dX7_readPromise_79 rfl rfl ?_
    refine Ev.getI (pc := 80) dX7_readPromise_80 fl_X7_83 sh_11 rfl ?_
    by_cases c21 : x17 < (σ18 11 3)
    · replace h := (if_pos c21).symm.trans h
      refine Ev.icmp_lt_t (pc := 83) (tgt := 95) dX7_readPromise_83 rfl c21 ?_
      exact Ev.weak2 (lj_X7_readPromise_21_11_95 N _ _ _ _ _ _ _ _ _ h) (lsubS (lsubS (lsubS (lsubS (lsubS (lsubS (lsubS (lsubS (lsubN lsubE)))))))))
    · replace h := (if_neg c21).symm.trans h
      refine Ev.icmp_lt_f (pc := 83) dX7_readPromise_83 ⟨95, rfl⟩ c21 ?_
      refine Ev.aload_n (pc := 86) dX7_readPromise_86 rfl rfl ?_
      refine Ev.iconst (pc := 87) (v := 2) dX7_readPromise_87 ki_2 ?_
      refine Ev.aload_n (pc := 88) dX7_readPromise_88 rfl rfl ?_
      refine Ev.getI (pc := 89) dX7_readPromise_89 fl_X7_97 sh_21 rfl ?_
      refine Ev.cVv (pc := 92) (k := 21) (av := [vI 2, vI (σ18 21 3)]) (rest := []) dX7_readPromise_92 ce_X7_blame ml_X7_54 rfl sh_21 cl_X7 sh_sc (Nat.le_of_ble_eq_true rfl) (Nat.le_of_ble_eq_true rfl) (r_X7_blame _ _ _) ?_
      refine Ev.nmS (fun σ22 e9 => ?_)
      replace h := bt_app h σ22 e9
      exact Ev.weak2 (lj_X7_readPromise_21_11_95 N _ _ _ _ _ _ _ _ _ h) (lsubS (lsubS (lsubS (lsubS (lsubS (lsubS (lsubS (lsubS (lsubN lsubE)))))))))
theorem r_X7_readPromise_21_11 {N : Nat}  {σ : St} {v : Unit} {w : St} (h : o_X7_readPromise_21_11 N  σ = some (v, w)) : Rn md_X7_readPromise 3 [vR 21, vR 11] SH σ (none, SH, w) := Rn.of ce_X7_readPromise.1 (Nat.le_of_ble_eq_true rfl) (e_X7_readPromise_21_11 N  _ _ _ h)
def j_X5_shorten_11_26 (v1 : Int32) (v2 : Int32) (v3 : Int32) (σ : St) : St := bt (put_ σ 20 25 ((v1 * 5) + v2) v3) fun σ1 => σ1
def t_X5_shorten_11 (a1 : Int32) (a2 : Int32) (a3 : Int32) (σ : St) : St := bt (at_ σ 20 25 ((a1 * 5) + a2)) fun x1 => if x1 = (-1) then (j_X5_shorten_11_26 a1 a2 a3 σ) else (if x1 ≤ a3 then σ else (j_X5_shorten_11_26 a1 a2 a3 σ))
theorem lj_X5_shorten_11_26 (v1 : Int32) (v2 : Int32) (v3 : Int32) (σ : St) (q : St) (h : j_X5_shorten_11_26 v1 v2 v3 σ = q) : Ev md_X5_shorten 1 26 [some (vR 11), some (vI v1), some (vI v2), some (vI v3), none] [] SH σ (none, SH, q) := by
  unfold j_X5_shorten_11_26 at h
  refine Ev.aload_n (pc := 26) dX5_shorten_26 rfl rfl ?_
  refine Ev.getR (pc := 27) dX5_shorten_27 fl_X5_36 sh_11 rfl ?_
  refine Ev.iload_n (pc := 30) dX5_shorten_30 rfl rfl ?_
  refine Ev.iconst (pc := 31) (v := 5) dX5_shorten_31 ki_5 ?_
  refine Ev.imul (pc := 32) dX5_shorten_32 ?_
  refine Ev.iload_n (pc := 33) dX5_shorten_33 rfl rfl ?_
  refine Ev.iadd (pc := 34) dX5_shorten_34 ?_
  refine Ev.iload_n (pc := 35) dX5_shorten_35 rfl rfl ?_
  refine Ev.cTv (pc := 36) (av := [vR 20, vI ((v1 * 5) + v2), vI v3]) (rest := []) dX5_shorten_36 ce_X9_put ml_X5_69 rfl sh_sc (Nat.le_of_ble_eq_true rfl) (Nat.le_of_ble_eq_true rfl) (r_put sh_20 (by decide) _ _ _) ?_
  refine Ev.nmS (fun σ1 e9 => ?_)
  replace h := bt_app h σ1 e9
  subst h
  exact Ev.ret_v (pc := 39) dX5_shorten_39 rfl
theorem e_X5_shorten_11 (a1 : Int32) (a2 : Int32) (a3 : Int32) (σ : St) (q : St) (h : t_X5_shorten_11 a1 a2 a3 σ = q) : Ev md_X5_shorten 1 0 (lvE [vR 11, vI a1, vI a2, vI a3] 5) [] SH σ (none, SH, q) := by
  show Ev md_X5_shorten 1 0 [some (vR 11), some (vI a1), some (vI a2), some (vI a3), none] [] SH σ (none, SH, q)
  unfold t_X5_shorten_11 at h
  refine Ev.aload_n (pc := 0) dX5_shorten_0 rfl rfl ?_
  refine Ev.getR (pc := 1) dX5_shorten_1 fl_X5_36 sh_11 rfl ?_
  refine Ev.iload_n (pc := 4) dX5_shorten_4 rfl rfl ?_
  refine Ev.iconst (pc := 5) (v := 5) dX5_shorten_5 ki_5 ?_
  refine Ev.imul (pc := 6) dX5_shorten_6 ?_
  refine Ev.iload_n (pc := 7) dX5_shorten_7 rfl rfl ?_
  refine Ev.iadd (pc := 8) dX5_shorten_8 ?_
  refine Ev.cTi (pc := 9) (av := [vR 20, vI ((a1 * 5) + a2)]) (rest := []) dX5_shorten_9 ce_X9_at ml_X5_65 rfl sh_sc (Nat.le_of_ble_eq_true rfl) (Nat.le_of_ble_eq_true rfl) (r_at sh_20 (by decide) _ _) ?_
  refine Ev.nmI (fun x1 e9 => ?_)
  replace h := bt_app h x1 e9
  refine Ev.istore (pc := 12) (lv' := [some (vR 11), some (vI a1), some (vI a2), some (vI a3), some (vI x1)]) dX5_shorten_12 (by decide) rfl rfl ?_
  refine Ev.iload (pc := 14) dX5_shorten_14 rfl ?_
  refine Ev.iconst (pc := 16) (v := (-1)) dX5_shorten_16 ki_m1 ?_
  by_cases c2 : x1 = (-1)
  · replace h := (if_pos c2).symm.trans h
    refine Ev.icmp_eq_t (pc := 17) (tgt := 26) dX5_shorten_17 rfl c2 ?_
    exact Ev.weak2 (lj_X5_shorten_11_26 _ _ _ _ _ h) (lsubS (lsubS (lsubS (lsubS (lsubN lsubE)))))
  · replace h := (if_neg c2).symm.trans h
    refine Ev.icmp_eq_f (pc := 17) dX5_shorten_17 ⟨26, rfl⟩ c2 ?_
    refine Ev.iload_n (pc := 20) dX5_shorten_20 rfl rfl ?_
    refine Ev.iload (pc := 21) dX5_shorten_21 rfl ?_
    by_cases c3 : x1 ≤ a3
    · replace h := (if_pos c3).symm.trans h
      refine Ev.icmp_ge_t (pc := 23) (tgt := 39) dX5_shorten_23 rfl c3 ?_
      subst h
      exact Ev.ret_v (pc := 39) dX5_shorten_39 rfl
    · replace h := (if_neg c3).symm.trans h
      refine Ev.icmp_ge_f (pc := 23) dX5_shorten_23 ⟨39, rfl⟩ c3 ?_
      exact Ev.weak2 (lj_X5_shorten_11_26 _ _ _ _ _ h) (lsubS (lsubS (lsubS (lsubS (lsubN lsubE)))))
theorem r_X5_shorten_11 (a1 : Int32) (a2 : Int32) (a3 : Int32) (σ : St) : Rn md_X5_shorten 1 [vR 11, vI a1, vI a2, vI a3] SH σ (none, SH, t_X5_shorten_11 a1 a2 a3 σ) := Rn.of ce_X5_shorten.1 (Nat.le_of_ble_eq_true rfl) (e_X5_shorten_11 _ _ _ _ _ rfl)
def t_X5_addRoad_11 (a1 : Int32) (a2 : Int32) (a3 : Int32) (σ : St) : St := bt (st σ 11 1 ((σ 11 1) + 1)) fun σ1 => bt (t_X5_shorten_11 a1 a2 a3 σ1) fun σ2 => bt (t_X5_shorten_11 a2 a1 a3 σ2) fun σ3 => σ3
theorem e_X5_addRoad_11 (a1 : Int32) (a2 : Int32) (a3 : Int32) (σ : St) (q : St) (h : t_X5_addRoad_11 a1 a2 a3 σ = q) : Ev md_X5_addRoad 2 0 (lvE [vR 11, vI a1, vI a2, vI a3] 4) [] SH σ (none, SH, q) := by
  show Ev md_X5_addRoad 2 0 [some (vR 11), some (vI a1), some (vI a2), some (vI a3)] [] SH σ (none, SH, q)
  unfold t_X5_addRoad_11 at h
  refine Ev.aload_n (pc := 0) dX5_addRoad_0 rfl rfl ?_
  refine Ev.dup (pc := 1) dX5_addRoad_1 rfl ?_
  refine Ev.getI (pc := 2) dX5_addRoad_2 fl_X5_43 sh_11 rfl ?_
  refine Ev.iconst (pc := 5) (v := 1) dX5_addRoad_5 ki_1 ?_
  refine Ev.iadd (pc := 6) dX5_addRoad_6 ?_
  refine Ev.putI (pc := 7) dX5_addRoad_7 pl_X5_43 sh_11 rfl rfl rfl ?_
  refine Ev.nmS (fun σ1 e9 => ?_)
  replace h := bt_app h σ1 e9
  refine Ev.aload_n (pc := 10) dX5_addRoad_10 rfl rfl ?_
  refine Ev.iload_n (pc := 11) dX5_addRoad_11 rfl rfl ?_
  refine Ev.iload_n (pc := 12) dX5_addRoad_12 rfl rfl ?_
  refine Ev.iload_n (pc := 13) dX5_addRoad_13 rfl rfl ?_
  refine Ev.cVv (pc := 14) (k := 11) (av := [vI a1, vI a2, vI a3]) (rest := []) dX5_addRoad_14 ce_X5_shorten ml_X5_61 rfl sh_11 cl_X5 sh_sc (Nat.le_of_ble_eq_true rfl) (Nat.le_of_ble_eq_true rfl) (r_X5_shorten_11 _ _ _ _) ?_
  refine Ev.nmS (fun σ2 e9 => ?_)
  replace h := bt_app h σ2 e9
  refine Ev.aload_n (pc := 17) dX5_addRoad_17 rfl rfl ?_
  refine Ev.iload_n (pc := 18) dX5_addRoad_18 rfl rfl ?_
  refine Ev.iload_n (pc := 19) dX5_addRoad_19 rfl rfl ?_
  refine Ev.iload_n (pc := 20) dX5_addRoad_20 rfl rfl ?_
  refine Ev.cVv (pc := 21) (k := 11) (av := [vI a2, vI a1, vI a3]) (rest := []) dX5_addRoad_21 ce_X5_shorten ml_X5_61 rfl sh_11 cl_X5 sh_sc (Nat.le_of_ble_eq_true rfl) (Nat.le_of_ble_eq_true rfl) (r_X5_shorten_11 _ _ _ _) ?_
  refine Ev.nmS (fun σ3 e9 => ?_)
  replace h := bt_app h σ3 e9
  subst h
  exact Ev.ret_v (pc := 24) dX5_addRoad_24 rfl
theorem r_X5_addRoad_11 (a1 : Int32) (a2 : Int32) (a3 : Int32) (σ : St) : Rn md_X5_addRoad 2 [vR 11, vI a1, vI a2, vI a3] SH σ (none, SH, t_X5_addRoad_11 a1 a2 a3 σ) := Rn.of ce_X5_addRoad.1 (Nat.le_of_ble_eq_true rfl) (e_X5_addRoad_11 _ _ _ _ _ rfl)
def j_X7_readRoad_21_11_48 (N : Nat) (v2 : Int32) (v3 : Int32) (σ : St) : Option (Unit × St) := bd (o_X7_number N 1 9 σ) fun x1 σ2 => bd (o_X7_isEnd N  σ2) fun x4 σ5 => if x4 = 0 then (some ((), σ5)) else (bt (t_X5_addRoad_11 v2 v3 x1 σ5) fun σ8 => some ((), σ8))
def o_X7_readRoad_21_11 (N : Nat)  (σ : St) : Option (Unit × St) := bt (st σ 21 2 ((σ 21 2) + 1)) fun σ1 => bd (o_X7_number N 0 ((σ1 11 0) - 1) σ1) fun x2 σ3 => bd (o_X7_number N 0 ((σ3 11 0) - 1) σ3) fun x5 σ6 => if x2 = x5 then (bt (t_X7_blame 4 (σ6 21 3) σ6) fun σ9 => j_X7_readRoad_21_11_48 N x2 x5 σ9) else (j_X7_readRoad_21_11_48 N x2 x5 σ6)
theorem lj_X7_readRoad_21_11_48 (N : Nat) (v2 : Int32) (v3 : Int32) (σ : St) (v : Unit) (w : St) (h : j_X7_readRoad_21_11_48 N v2 v3 σ = some (v, w)) : Ev md_X7_readRoad 3 48 [some (vR 21), some (vR 11), some (vI v2), some (vI v3), none] [] SH σ (none, SH, w) := by
  unfold j_X7_readRoad_21_11_48 at h
  refine Ev.aload_n (pc := 48) dX7_readRoad_48 rfl rfl ?_
  refine Ev.iconst (pc := 49) (v := 1) dX7_readRoad_49 ki_1 ?_
  refine Ev.bipush (pc := 50) (v := 9) dX7_readRoad_50 kb_9 ?_
  obtain ⟨x1, σ2, g3, h⟩ := bd_elim h
  refine Ev.cVi (pc := 52) (k := 21) (av := [vI 1, vI 9]) (rest := []) dX7_readRoad_52 ce_X7_number ml_X7_89 rfl sh_21 cl_X7 sh_sc (Nat.le_of_ble_eq_true rfl) (Nat.le_of_ble_eq_true rfl) (r_X7_number g3) ?_
  refine Ev.istore (pc := 55) (lv' := [some (vR 21), some (vR 11), some (vI v2), some (vI v3), some (vI x1)]) dX7_readRoad_55 (by decide) rfl rfl ?_
  refine Ev.aload_n (pc := 57) dX7_readRoad_57 rfl rfl ?_
  obtain ⟨x4, σ5, g6, h⟩ := bd_elim h
  refine Ev.cVi (pc := 58) (k := 21) (av := []) (rest := []) dX7_readRoad_58 ce_X7_isEnd ml_X7_93 rfl sh_21 cl_X7 sh_sc (Nat.le_of_ble_eq_true rfl) (Nat.le_of_ble_eq_true rfl) (r_X7_isEnd g6) ?_
  by_cases c7 : x4 = 0
  · replace h := (if_pos c7).symm.trans h
    refine Ev.if_eq_t (pc := 61) (tgt := 72) dX7_readRoad_61 rfl c7 ?_
    obtain ⟨h1, h2⟩ := oeq h
    subst h1
    subst h2
    exact Ev.ret_v (pc := 72) dX7_readRoad_72 rfl
  · replace h := (if_neg c7).symm.trans h
    refine Ev.if_eq_f (pc := 61) dX7_readRoad_61 ⟨72, rfl⟩ c7 ?_
    refine Ev.aload_n (pc := 64) dX7_readRoad_64 rfl rfl ?_
    refine Ev.iload_n (pc := 65) dX7_readRoad_65 rfl rfl ?_
    refine Ev.iload_n (pc := 66) dX7_readRoad_66 rfl rfl ?_
    refine Ev.iload (pc := 67) dX7_readRoad_67 rfl ?_
    refine Ev.cVv (pc := 69) (k := 11) (av := [vI v2, vI v3, vI x1]) (rest := []) dX7_readRoad_69 ce_X5_addRoad ml_X7_100 rfl sh_11 cl_X5 sh_sc (Nat.le_of_ble_eq_true rfl) (Nat.le_of_ble_eq_true rfl) (r_X5_addRoad_11 _ _ _ _) ?_
    refine Ev.nmS (fun σ8 e9 => ?_)
    replace h := bt_app h σ8 e9
    obtain ⟨h1, h2⟩ := oeq h
    subst h1
    subst h2
    exact Ev.ret_v (pc := 72) dX7_readRoad_72 rfl
theorem e_X7_readRoad_21_11 (N : Nat)  (σ : St) (v : Unit) (w : St) (h : o_X7_readRoad_21_11 N  σ = some (v, w)) : Ev md_X7_readRoad 3 0 (lvE [vR 21, vR 11] 5) [] SH σ (none, SH, w) := by
  show Ev md_X7_readRoad 3 0 [some (vR 21), some (vR 11), none, none, none] [] SH σ (none, SH, w)
  unfold o_X7_readRoad_21_11 at h
  refine Ev.aload_n (pc := 0) dX7_readRoad_0 rfl rfl ?_
  refine Ev.dup (pc := 1) dX7_readRoad_1 rfl ?_
  refine Ev.getI (pc := 2) dX7_readRoad_2 fl_X7_26 sh_21 rfl ?_
  refine Ev.iconst (pc := 5) (v := 1) dX7_readRoad_5 ki_1 ?_
  refine Ev.iadd (pc := 6) dX7_readRoad_6 ?_
  refine Ev.putI (pc := 7) dX7_readRoad_7 pl_X7_26 sh_21 rfl rfl rfl ?_
  refine Ev.nmS (fun σ1 e9 => ?_)
  replace h := bt_app h σ1 e9
  refine Ev.aload_n (pc := 10) dX7_readRoad_10 rfl rfl ?_
  refine Ev.iconst (pc := 11) (v := 0) dX7_readRoad_11 ki_0 ?_
  refine Ev.aload_n (pc := 12) dX7_readRoad_12 rfl rfl ?_
  refine Ev.getI (pc := 13) dX7_readRoad_13 fl_X7_51 sh_11 rfl ?_
  refine Ev.iconst (pc := 16) (v := 1) dX7_readRoad_16 ki_1 ?_
  refine Ev.isub (pc := 17) dX7_readRoad_17 ?_
  obtain ⟨x2, σ3, g4, h⟩ := bd_elim h
  refine Ev.cVi (pc := 18) (k := 21) (av := [vI 0, vI ((σ1 11 0) - 1)]) (rest := []) dX7_readRoad_18 ce_X7_number ml_X7_89 rfl sh_21 cl_X7 sh_sc (Nat.le_of_ble_eq_true rfl) (Nat.le_of_ble_eq_true rfl) (r_X7_number g4) ?_
  refine Ev.istore_n (pc := 21) (lv' := [some (vR 21), some (vR 11), some (vI x2), none, none]) dX7_readRoad_21 rfl (by decide) rfl rfl ?_
  refine Ev.aload_n (pc := 22) dX7_readRoad_22 rfl rfl ?_
  refine Ev.iconst (pc := 23) (v := 0) dX7_readRoad_23 ki_0 ?_
  refine Ev.aload_n (pc := 24) dX7_readRoad_24 rfl rfl ?_
  refine Ev.getI (pc := 25) dX7_readRoad_25 fl_X7_51 sh_11 rfl ?_
  refine Ev.iconst (pc := 28) (v := 1) dX7_readRoad_28 ki_1 ?_
  refine Ev.isub (pc := 29) dX7_readRoad_29 ?_
  obtain ⟨x5, σ6, g7, h⟩ := bd_elim h
  refine Ev.cVi (pc := 30) (k := 21) (av := [vI 0, vI ((σ3 11 0) - 1)]) (rest := []) dX7_readRoad_30 ce_X7_number ml_X7_89 rfl sh_21 cl_X7 sh_sc (Nat.le_of_ble_eq_true rfl) (Nat.le_of_ble_eq_true rfl) (r_X7_number g7) ?_
  refine Ev.istore_n (pc := 33) (lv' := [some (vR 21), some (vR 11), some (vI x2), some (vI x5), none]) dX7_readRoad_33 rfl (by decide) rfl rfl ?_
  refine Ev.iload_n (pc := 34) dX7_readRoad_34 rfl rfl ?_
  refine Ev.iload_n (pc := 35) dX7_readRoad_35 rfl rfl ?_
  by_cases c8 : x2 = x5
  · replace h := (if_pos c8).symm.trans h
    refine Ev.icmp_ne_f (pc := 36) dX7_readRoad_36 ⟨48, rfl⟩ c8 ?_
    refine Ev.aload_n (pc := 39) dX7_readRoad_39 rfl rfl ?_
    refine Ev.iconst (pc := 40) (v := 4) dX7_readRoad_40 ki_4 ?_
    refine Ev.aload_n (pc := 41) dX7_readRoad_41 rfl rfl ?_
    refine Ev.getI (pc := 42) dX7_readRoad_42 fl_X7_97 sh_21 rfl ?_
    refine Ev.cVv (pc := 45) (k := 21) (av := [vI 4, vI (σ6 21 3)]) (rest := []) dX7_readRoad_45 ce_X7_blame ml_X7_54 rfl sh_21 cl_X7 sh_sc (Nat.le_of_ble_eq_true rfl) (Nat.le_of_ble_eq_true rfl) (r_X7_blame _ _ _) ?_
    refine Ev.nmS (fun σ9 e9 => ?_)
    replace h := bt_app h σ9 e9
    exact Ev.weak2 (lj_X7_readRoad_21_11_48 N _ _ _ _ _ h) (lsubS (lsubS (lsubS (lsubS (lsubN lsubE)))))
  · replace h := (if_neg c8).symm.trans h
    refine Ev.icmp_ne_t (pc := 36) (tgt := 48) dX7_readRoad_36 rfl c8 ?_
    exact Ev.weak2 (lj_X7_readRoad_21_11_48 N _ _ _ _ _ h) (lsubS (lsubS (lsubS (lsubS (lsubN lsubE)))))
theorem r_X7_readRoad_21_11 {N : Nat}  {σ : St} {v : Unit} {w : St} (h : o_X7_readRoad_21_11 N  σ = some (v, w)) : Rn md_X7_readRoad 3 [vR 21, vR 11] SH σ (none, SH, w) := Rn.of ce_X7_readRoad.1 (Nat.le_of_ble_eq_true rfl) (e_X7_readRoad_21_11 N  _ _ _ h)
def o_X7_readTowns_21_11 (N : Nat)  (σ : St) : Option (Unit × St) := bt (st σ 21 2 ((σ 21 2) + 1)) fun σ1 => bd (o_X7_number N 1 5 σ1) fun x2 σ3 => bd (o_X7_isEnd N  σ3) fun x5 σ6 => if x5 = 0 then (some ((), σ6)) else (bt (st σ6 11 0 x2) fun σ9 => some ((), σ9))
theorem e_X7_readTowns_21_11 (N : Nat)  (σ : St) (v : Unit) (w : St) (h : o_X7_readTowns_21_11 N  σ = some (v, w)) : Ev md_X7_readTowns 3 0 (lvE [vR 21, vR 11] 3) [] SH σ (none, SH, w) := by
  show Ev md_X7_readTowns 3 0 [some (vR 21), some (vR 11), none] [] SH σ (none, SH, w)
  unfold o_X7_readTowns_21_11 at h
  refine Ev.aload_n (pc := 0) dX7_readTowns_0 rfl rfl ?_
  refine Ev.dup (pc := 1) dX7_readTowns_1 rfl ?_
  refine Ev.getI (pc := 2) dX7_readTowns_2 fl_X7_26 sh_21 rfl ?_
  refine Ev.iconst (pc := 5) (v := 1) dX7_readTowns_5 ki_1 ?_
  refine Ev.iadd (pc := 6) dX7_readTowns_6 ?_
  refine Ev.putI (pc := 7) dX7_readTowns_7 pl_X7_26 sh_21 rfl rfl rfl ?_
  refine Ev.nmS (fun σ1 e9 => ?_)
  replace h := bt_app h σ1 e9
  refine Ev.aload_n (pc := 10) dX7_readTowns_10 rfl rfl ?_
  refine Ev.iconst (pc := 11) (v := 1) dX7_readTowns_11 ki_1 ?_
  refine Ev.iconst (pc := 12) (v := 5) dX7_readTowns_12 ki_5 ?_
  obtain ⟨x2, σ3, g4, h⟩ := bd_elim h
  refine Ev.cVi (pc := 13) (k := 21) (av := [vI 1, vI 5]) (rest := []) dX7_readTowns_13 ce_X7_number ml_X7_89 rfl sh_21 cl_X7 sh_sc (Nat.le_of_ble_eq_true rfl) (Nat.le_of_ble_eq_true rfl) (r_X7_number g4) ?_
  refine Ev.istore_n (pc := 16) (lv' := [some (vR 21), some (vR 11), some (vI x2)]) dX7_readTowns_16 rfl (by decide) rfl rfl ?_
  refine Ev.aload_n (pc := 17) dX7_readTowns_17 rfl rfl ?_
  obtain ⟨x5, σ6, g7, h⟩ := bd_elim h
  refine Ev.cVi (pc := 18) (k := 21) (av := []) (rest := []) dX7_readTowns_18 ce_X7_isEnd ml_X7_93 rfl sh_21 cl_X7 sh_sc (Nat.le_of_ble_eq_true rfl) (Nat.le_of_ble_eq_true rfl) (r_X7_isEnd g7) ?_
  by_cases c8 : x5 = 0
  · replace h := (if_pos c8).symm.trans h
    refine Ev.if_eq_t (pc := 21) (tgt := 29) dX7_readTowns_21 rfl c8 ?_
    obtain ⟨h1, h2⟩ := oeq h
    subst h1
    subst h2
    exact Ev.ret_v (pc := 29) dX7_readTowns_29 rfl
  · replace h := (if_neg c8).symm.trans h
    refine Ev.if_eq_f (pc := 21) dX7_readTowns_21 ⟨29, rfl⟩ c8 ?_
    refine Ev.aload_n (pc := 24) dX7_readTowns_24 rfl rfl ?_
    refine Ev.iload_n (pc := 25) dX7_readTowns_25 rfl rfl ?_
    refine Ev.putI (pc := 26) dX7_readTowns_26 pl_X7_51 sh_11 rfl rfl rfl ?_
    refine Ev.nmS (fun σ9 e9 => ?_)
    replace h := bt_app h σ9 e9
    obtain ⟨h1, h2⟩ := oeq h
    subst h1
    subst h2
    exact Ev.ret_v (pc := 29) dX7_readTowns_29 rfl
theorem r_X7_readTowns_21_11 {N : Nat}  {σ : St} {v : Unit} {w : St} (h : o_X7_readTowns_21_11 N  σ = some (v, w)) : Rn md_X7_readTowns 3 [vR 21, vR 11] SH σ (none, SH, w) := Rn.of ce_X7_readTowns.1 (Nat.le_of_ble_eq_true rfl) (e_X7_readTowns_21_11 N  _ _ _ h)
def j_X7_readWinter_21_11_50 (N : Nat) (v2 : Int32) (v3 : Int32) (v4 : Int32) (σ : St) : Option (Unit × St) := bd (o_X7_isEnd N  σ) fun x1 σ2 => if x1 = 0 then (some ((), σ2)) else (bt (st σ2 11 4 v2) fun σ5 => bt (st σ5 11 5 v3) fun σ6 => bt (st σ6 11 6 v4) fun σ7 => some ((), σ7))
def o_X7_readWinter_21_11 (N : Nat)  (σ : St) : Option (Unit × St) := bt (st σ 21 2 ((σ 21 2) + 1)) fun σ1 => bd (o_X7_number N 0 98 σ1) fun x2 σ3 => bd (o_X7_number N 0 98 σ3) fun x5 σ6 => bd (o_X7_number N 2 99 σ6) fun x8 σ9 => if x5 < x8 then (j_X7_readWinter_21_11_50 N x2 x5 x8 σ9) else (bt (t_X7_blame 4 (σ9 21 3) σ9) fun σ12 => j_X7_readWinter_21_11_50 N x2 x5 x8 σ12)
theorem lj_X7_readWinter_21_11_50 (N : Nat) (v2 : Int32) (v3 : Int32) (v4 : Int32) (σ : St) (v : Unit) (w : St) (h : j_X7_readWinter_21_11_50 N v2 v3 v4 σ = some (v, w)) : Ev md_X7_readWinter 3 50 [some (vR 21), some (vR 11), some (vI v2), some (vI v3), some (vI v4)] [] SH σ (none, SH, w) := by
  unfold j_X7_readWinter_21_11_50 at h
  refine Ev.aload_n (pc := 50) dX7_readWinter_50 rfl rfl ?_
  obtain ⟨x1, σ2, g3, h⟩ := bd_elim h
  refine Ev.cVi (pc := 51) (k := 21) (av := []) (rest := []) dX7_readWinter_51 ce_X7_isEnd ml_X7_93 rfl sh_21 cl_X7 sh_sc (Nat.le_of_ble_eq_true rfl) (Nat.le_of_ble_eq_true rfl) (r_X7_isEnd g3) ?_
  by_cases c4 : x1 = 0
  · replace h := (if_pos c4).symm.trans h
    refine Ev.if_eq_t (pc := 54) (tgt := 73) dX7_readWinter_54 rfl c4 ?_
    obtain ⟨h1, h2⟩ := oeq h
    subst h1
    subst h2
    exact Ev.ret_v (pc := 73) dX7_readWinter_73 rfl
  · replace h := (if_neg c4).symm.trans h
    refine Ev.if_eq_f (pc := 54) dX7_readWinter_54 ⟨73, rfl⟩ c4 ?_
    refine Ev.aload_n (pc := 57) dX7_readWinter_57 rfl rfl ?_
    refine Ev.iload_n (pc := 58) dX7_readWinter_58 rfl rfl ?_
    refine Ev.putI (pc := 59) dX7_readWinter_59 pl_X7_127 sh_11 rfl rfl rfl ?_
    refine Ev.nmS (fun σ5 e9 => ?_)
    replace h := bt_app h σ5 e9
    refine Ev.aload_n (pc := 62) dX7_readWinter_62 rfl rfl ?_
    refine Ev.iload_n (pc := 63) dX7_readWinter_63 rfl rfl ?_
    refine Ev.putI (pc := 64) dX7_readWinter_64 pl_X7_130 sh_11 rfl rfl rfl ?_
    refine Ev.nmS (fun σ6 e9 => ?_)
    replace h := bt_app h σ6 e9
    refine Ev.aload_n (pc := 67) dX7_readWinter_67 rfl rfl ?_
    refine Ev.iload (pc := 68) dX7_readWinter_68 rfl ?_
    refine Ev.putI (pc := 70) dX7_readWinter_70 pl_X7_86 sh_11 rfl rfl rfl ?_
    refine Ev.nmS (fun σ7 e9 => ?_)
    replace h := bt_app h σ7 e9
    obtain ⟨h1, h2⟩ := oeq h
    subst h1
    subst h2
    exact Ev.ret_v (pc := 73) dX7_readWinter_73 rfl
theorem e_X7_readWinter_21_11 (N : Nat)  (σ : St) (v : Unit) (w : St) (h : o_X7_readWinter_21_11 N  σ = some (v, w)) : Ev md_X7_readWinter 3 0 (lvE [vR 21, vR 11] 5) [] SH σ (none, SH, w) := by
  show Ev md_X7_readWinter 3 0 [some (vR 21), some (vR 11), none, none, none] [] SH σ (none, SH, w)
  unfold o_X7_readWinter_21_11 at h
  refine Ev.aload_n (pc := 0) dX7_readWinter_0 rfl rfl ?_
  refine Ev.dup (pc := 1) dX7_readWinter_1 rfl ?_
  refine Ev.getI (pc := 2) dX7_readWinter_2 fl_X7_26 sh_21 rfl ?_
  refine Ev.iconst (pc := 5) (v := 1) dX7_readWinter_5 ki_1 ?_
  refine Ev.iadd (pc := 6) dX7_readWinter_6 ?_
  refine Ev.putI (pc := 7) dX7_readWinter_7 pl_X7_26 sh_21 rfl rfl rfl ?_
  refine Ev.nmS (fun σ1 e9 => ?_)
  replace h := bt_app h σ1 e9
  refine Ev.aload_n (pc := 10) dX7_readWinter_10 rfl rfl ?_
  refine Ev.iconst (pc := 11) (v := 0) dX7_readWinter_11 ki_0 ?_
  refine Ev.bipush (pc := 12) (v := 98) dX7_readWinter_12 kb_98 ?_
  obtain ⟨x2, σ3, g4, h⟩ := bd_elim h
  refine Ev.cVi (pc := 14) (k := 21) (av := [vI 0, vI 98]) (rest := []) dX7_readWinter_14 ce_X7_number ml_X7_89 rfl sh_21 cl_X7 sh_sc (Nat.le_of_ble_eq_true rfl) (Nat.le_of_ble_eq_true rfl) (r_X7_number g4) ?_
  refine Ev.istore_n (pc := 17) (lv' := [some (vR 21), some (vR 11), some (vI x2), none, none]) dX7_readWinter_17 rfl (by decide) rfl rfl ?_
  refine Ev.aload_n (pc := 18) dX7_readWinter_18 rfl rfl ?_
  refine Ev.iconst (pc := 19) (v := 0) dX7_readWinter_19 ki_0 ?_
  refine Ev.bipush (pc := 20) (v := 98) dX7_readWinter_20 kb_98 ?_
  obtain ⟨x5, σ6, g7, h⟩ := bd_elim h
  refine Ev.cVi (pc := 22) (k := 21) (av := [vI 0, vI 98]) (rest := []) dX7_readWinter_22 ce_X7_number ml_X7_89 rfl sh_21 cl_X7 sh_sc (Nat.le_of_ble_eq_true rfl) (Nat.le_of_ble_eq_true rfl) (r_X7_number g7) ?_
  refine Ev.istore_n (pc := 25) (lv' := [some (vR 21), some (vR 11), some (vI x2), some (vI x5), none]) dX7_readWinter_25 rfl (by decide) rfl rfl ?_
  refine Ev.aload_n (pc := 26) dX7_readWinter_26 rfl rfl ?_
  refine Ev.iconst (pc := 27) (v := 2) dX7_readWinter_27 ki_2 ?_
  refine Ev.bipush (pc := 28) (v := 99) dX7_readWinter_28 kb_99 ?_
  obtain ⟨x8, σ9, g10, h⟩ := bd_elim h
  refine Ev.cVi (pc := 30) (k := 21) (av := [vI 2, vI 99]) (rest := []) dX7_readWinter_30 ce_X7_number ml_X7_89 rfl sh_21 cl_X7 sh_sc (Nat.le_of_ble_eq_true rfl) (Nat.le_of_ble_eq_true rfl) (r_X7_number g10) ?_
  refine Ev.istore (pc := 33) (lv' := [some (vR 21), some (vR 11), some (vI x2), some (vI x5), some (vI x8)]) dX7_readWinter_33 (by decide) rfl rfl ?_
  refine Ev.iload_n (pc := 35) dX7_readWinter_35 rfl rfl ?_
  refine Ev.iload (pc := 36) dX7_readWinter_36 rfl ?_
  by_cases c11 : x5 < x8
  · replace h := (if_pos c11).symm.trans h
    refine Ev.icmp_lt_t (pc := 38) (tgt := 50) dX7_readWinter_38 rfl c11 ?_
    exact Ev.weak2 (lj_X7_readWinter_21_11_50 N _ _ _ _ _ _ h) (lsubS (lsubS (lsubS (lsubS (lsubS lsubE)))))
  · replace h := (if_neg c11).symm.trans h
    refine Ev.icmp_lt_f (pc := 38) dX7_readWinter_38 ⟨50, rfl⟩ c11 ?_
    refine Ev.aload_n (pc := 41) dX7_readWinter_41 rfl rfl ?_
    refine Ev.iconst (pc := 42) (v := 4) dX7_readWinter_42 ki_4 ?_
    refine Ev.aload_n (pc := 43) dX7_readWinter_43 rfl rfl ?_
    refine Ev.getI (pc := 44) dX7_readWinter_44 fl_X7_97 sh_21 rfl ?_
    refine Ev.cVv (pc := 47) (k := 21) (av := [vI 4, vI (σ9 21 3)]) (rest := []) dX7_readWinter_47 ce_X7_blame ml_X7_54 rfl sh_21 cl_X7 sh_sc (Nat.le_of_ble_eq_true rfl) (Nat.le_of_ble_eq_true rfl) (r_X7_blame _ _ _) ?_
    refine Ev.nmS (fun σ12 e9 => ?_)
    replace h := bt_app h σ12 e9
    exact Ev.weak2 (lj_X7_readWinter_21_11_50 N _ _ _ _ _ _ h) (lsubS (lsubS (lsubS (lsubS (lsubS lsubE)))))
theorem r_X7_readWinter_21_11 {N : Nat}  {σ : St} {v : Unit} {w : St} (h : o_X7_readWinter_21_11 N  σ = some (v, w)) : Rn md_X7_readWinter 3 [vR 21, vR 11] SH σ (none, SH, w) := Rn.of ce_X7_readWinter.1 (Nat.le_of_ble_eq_true rfl) (e_X7_readWinter_21_11 N  _ _ _ h)
def j_X7_readClause_21_11_35 (N : Nat) (v2 : Int32) (σ : St) : Option (Unit × St) := if (p_X7_isOneTooMany_21_11 v2 σ) = 0 then (if v2 = 107 then (bd (o_X7_readKeeper_21_11 N  σ) fun u3 σ4 => some ((), σ4)) else if v2 = 112 then (bd (o_X7_readPromise_21_11 N  σ) fun u7 σ8 => some ((), σ8)) else if v2 = 114 then (bd (o_X7_readRoad_21_11 N  σ) fun u11 σ12 => some ((), σ12)) else if v2 = 116 then (bd (o_X7_readTowns_21_11 N  σ) fun u15 σ16 => some ((), σ16)) else if v2 = 119 then (bd (o_X7_readWinter_21_11 N  σ) fun u19 σ20 => some ((), σ20)) else (bt (t_X7_blame 1 (σ 21 2) σ) fun σ22 => some ((), σ22))) else (bt (t_X7_blame 3 (σ 21 2) σ) fun σ23 => some ((), σ23))
def o_X7_readClause_21_11 (N : Nat)  (σ : St) : Option (Unit × St) := bt (at_ σ 22 250 (σ 21 2)) fun x1 => if (σ 11 0) = 0 then (if x1 = 116 then (j_X7_readClause_21_11_35 N x1 σ) else (bt (t_X7_blame 1 (σ 21 2) σ) fun σ4 => some ((), σ4))) else (j_X7_readClause_21_11_35 N x1 σ)
theorem lj_X7_readClause_21_11_35 (N : Nat) (v2 : Int32) (σ : St) (v : Unit) (w : St) (h : j_X7_readClause_21_11_35 N v2 σ = some (v, w)) : Ev md_X7_readClause 4 35 [some (vR 21), some (vR 11), some (vI v2)] [] SH σ (none, SH, w) := by
  unfold j_X7_readClause_21_11_35 at h
  refine Ev.aload_n (pc := 35) dX7_readClause_35 rfl rfl ?_
  refine Ev.iload_n (pc := 36) dX7_readClause_36 rfl rfl ?_
  refine Ev.aload_n (pc := 37) dX7_readClause_37 rfl rfl ?_
  refine Ev.cVi (pc := 38) (k := 21) (av := [vI v2, vR 11]) (rest := []) dX7_readClause_38 ce_X7_isOneTooMany ml_X7_58 rfl sh_21 cl_X7 sh_sc (Nat.le_of_ble_eq_true rfl) (Nat.le_of_ble_eq_true rfl) (r_X7_isOneTooMany_21_11 _ _) ?_
  by_cases c1 : (p_X7_isOneTooMany_21_11 v2 σ) = 0
  · replace h := (if_pos c1).symm.trans h
    refine Ev.if_eq_t (pc := 41) (tgt := 54) dX7_readClause_41 rfl c1 ?_
    refine Ev.iload_n (pc := 54) dX7_readClause_54 rfl rfl ?_
    by_cases c2 : v2 = 107
    · replace h := (if_pos c2).symm.trans h
      refine Ev.swC (pc := 55) (c := 107) (tgt := 136) dX7_readClause_55 c2 (by decide) (by decide) rfl rfl ?_
      refine Ev.aload_n (pc := 136) dX7_readClause_136 rfl rfl ?_
      refine Ev.aload_n (pc := 137) dX7_readClause_137 rfl rfl ?_
      obtain ⟨u3, σ4, g5, h⟩ := bd_elim h
      refine Ev.cVv (pc := 138) (k := 21) (av := [vR 11]) (rest := []) dX7_readClause_138 ce_X7_readKeeper ml_X7_68 rfl sh_21 cl_X7 sh_sc (Nat.le_of_ble_eq_true rfl) (Nat.le_of_ble_eq_true rfl) (r_X7_readKeeper_21_11 g5) ?_
      refine Ev.goto (pc := 141) (tgt := 169) dX7_readClause_141 rfl ?_
      obtain ⟨h1, h2⟩ := oeq h
      subst h1
      subst h2
      exact Ev.ret_v (pc := 169) dX7_readClause_169 rfl
    replace h := (if_neg c2).symm.trans h
    by_cases c6 : v2 = 112
    · replace h := (if_pos c6).symm.trans h
      refine Ev.swC (pc := 55) (c := 112) (tgt := 144) dX7_readClause_55 c6 (by decide) (by decide) rfl rfl ?_
      refine Ev.aload_n (pc := 144) dX7_readClause_144 rfl rfl ?_
      refine Ev.aload_n (pc := 145) dX7_readClause_145 rfl rfl ?_
      obtain ⟨u7, σ8, g9, h⟩ := bd_elim h
      refine Ev.cVv (pc := 146) (k := 21) (av := [vR 11]) (rest := []) dX7_readClause_146 ce_X7_readPromise ml_X7_71 rfl sh_21 cl_X7 sh_sc (Nat.le_of_ble_eq_true rfl) (Nat.le_of_ble_eq_true rfl) (r_X7_readPromise_21_11 g9) ?_
      refine Ev.goto (pc := 149) (tgt := 169) dX7_readClause_149 rfl ?_
      obtain ⟨h1, h2⟩ := oeq h
      subst h1
      subst h2
      exact Ev.ret_v (pc := 169) dX7_readClause_169 rfl
    replace h := (if_neg c6).symm.trans h
    by_cases c10 : v2 = 114
    · replace h := (if_pos c10).symm.trans h
      refine Ev.swC (pc := 55) (c := 114) (tgt := 128) dX7_readClause_55 c10 (by decide) (by decide) rfl rfl ?_
      refine Ev.aload_n (pc := 128) dX7_readClause_128 rfl rfl ?_
      refine Ev.aload_n (pc := 129) dX7_readClause_129 rfl rfl ?_
      obtain ⟨u11, σ12, g13, h⟩ := bd_elim h
      refine Ev.cVv (pc := 130) (k := 21) (av := [vR 11]) (rest := []) dX7_readClause_130 ce_X7_readRoad ml_X7_65 rfl sh_21 cl_X7 sh_sc (Nat.le_of_ble_eq_true rfl) (Nat.le_of_ble_eq_true rfl) (r_X7_readRoad_21_11 g13) ?_
      refine Ev.goto (pc := 133) (tgt := 169) dX7_readClause_133 rfl ?_
      obtain ⟨h1, h2⟩ := oeq h
      subst h1
      subst h2
      exact Ev.ret_v (pc := 169) dX7_readClause_169 rfl
    replace h := (if_neg c10).symm.trans h
    by_cases c14 : v2 = 116
    · replace h := (if_pos c14).symm.trans h
      refine Ev.swC (pc := 55) (c := 116) (tgt := 120) dX7_readClause_55 c14 (by decide) (by decide) rfl rfl ?_
      refine Ev.aload_n (pc := 120) dX7_readClause_120 rfl rfl ?_
      refine Ev.aload_n (pc := 121) dX7_readClause_121 rfl rfl ?_
      obtain ⟨u15, σ16, g17, h⟩ := bd_elim h
      refine Ev.cVv (pc := 122) (k := 21) (av := [vR 11]) (rest := []) dX7_readClause_122 ce_X7_readTowns ml_X7_62 rfl sh_21 cl_X7 sh_sc (Nat.le_of_ble_eq_true rfl) (Nat.le_of_ble_eq_true rfl) (r_X7_readTowns_21_11 g17) ?_
      refine Ev.goto (pc := 125) (tgt := 169) dX7_readClause_125 rfl ?_
      obtain ⟨h1, h2⟩ := oeq h
      subst h1
      subst h2
      exact Ev.ret_v (pc := 169) dX7_readClause_169 rfl
    replace h := (if_neg c14).symm.trans h
    by_cases c18 : v2 = 119
    · replace h := (if_pos c18).symm.trans h
      refine Ev.swC (pc := 55) (c := 119) (tgt := 152) dX7_readClause_55 c18 (by decide) (by decide) rfl rfl ?_
      refine Ev.aload_n (pc := 152) dX7_readClause_152 rfl rfl ?_
      refine Ev.aload_n (pc := 153) dX7_readClause_153 rfl rfl ?_
      obtain ⟨u19, σ20, g21, h⟩ := bd_elim h
      refine Ev.cVv (pc := 154) (k := 21) (av := [vR 11]) (rest := []) dX7_readClause_154 ce_X7_readWinter ml_X7_74 rfl sh_21 cl_X7 sh_sc (Nat.le_of_ble_eq_true rfl) (Nat.le_of_ble_eq_true rfl) (r_X7_readWinter_21_11 g21) ?_
      refine Ev.goto (pc := 157) (tgt := 169) dX7_readClause_157 rfl ?_
      obtain ⟨h1, h2⟩ := oeq h
      subst h1
      subst h2
      exact Ev.ret_v (pc := 169) dX7_readClause_169 rfl
    replace h := (if_neg c18).symm.trans h
    refine Ev.swD (pc := 55) (tgt := 160) (tl := [107, 112, 114, 116, 119]) dX7_readClause_55 (not_mem_cons9 (neI c2 rfl) (not_mem_cons9 (neI c6 rfl) (not_mem_cons9 (neI c10 rfl) (not_mem_cons9 (neI c14 rfl) (not_mem_cons9 (neI c18 rfl) (not_mem_nil9)))))) rfl rfl rfl ?_
    refine Ev.aload_n (pc := 160) dX7_readClause_160 rfl rfl ?_
    refine Ev.iconst (pc := 161) (v := 1) dX7_readClause_161 ki_1 ?_
    refine Ev.aload_n (pc := 162) dX7_readClause_162 rfl rfl ?_
    refine Ev.getI (pc := 163) dX7_readClause_163 fl_X7_26 sh_21 rfl ?_
    refine Ev.cVv (pc := 166) (k := 21) (av := [vI 1, vI (σ 21 2)]) (rest := []) dX7_readClause_166 ce_X7_blame ml_X7_54 rfl sh_21 cl_X7 sh_sc (Nat.le_of_ble_eq_true rfl) (Nat.le_of_ble_eq_true rfl) (r_X7_blame _ _ _) ?_
    refine Ev.nmS (fun σ22 e9 => ?_)
    replace h := bt_app h σ22 e9
    obtain ⟨h1, h2⟩ := oeq h
    subst h1
    subst h2
    exact Ev.ret_v (pc := 169) dX7_readClause_169 rfl
  · replace h := (if_neg c1).symm.trans h
    refine Ev.if_eq_f (pc := 41) dX7_readClause_41 ⟨54, rfl⟩ c1 ?_
    refine Ev.aload_n (pc := 44) dX7_readClause_44 rfl rfl ?_
    refine Ev.iconst (pc := 45) (v := 3) dX7_readClause_45 ki_3 ?_
    refine Ev.aload_n (pc := 46) dX7_readClause_46 rfl rfl ?_
    refine Ev.getI (pc := 47) dX7_readClause_47 fl_X7_26 sh_21 rfl ?_
    refine Ev.cVv (pc := 50) (k := 21) (av := [vI 3, vI (σ 21 2)]) (rest := []) dX7_readClause_50 ce_X7_blame ml_X7_54 rfl sh_21 cl_X7 sh_sc (Nat.le_of_ble_eq_true rfl) (Nat.le_of_ble_eq_true rfl) (r_X7_blame _ _ _) ?_
    refine Ev.nmS (fun σ23 e9 => ?_)
    replace h := bt_app h σ23 e9
    obtain ⟨h1, h2⟩ := oeq h
    subst h1
    subst h2
    exact Ev.ret_v (pc := 53) dX7_readClause_53 rfl
theorem e_X7_readClause_21_11 (N : Nat)  (σ : St) (v : Unit) (w : St) (h : o_X7_readClause_21_11 N  σ = some (v, w)) : Ev md_X7_readClause 4 0 (lvE [vR 21, vR 11] 3) [] SH σ (none, SH, w) := by
  show Ev md_X7_readClause 4 0 [some (vR 21), some (vR 11), none] [] SH σ (none, SH, w)
  unfold o_X7_readClause_21_11 at h
  refine Ev.aload_n (pc := 0) dX7_readClause_0 rfl rfl ?_
  refine Ev.getR (pc := 1) dX7_readClause_1 fl_X7_9 sh_21 rfl ?_
  refine Ev.aload_n (pc := 4) dX7_readClause_4 rfl rfl ?_
  refine Ev.getI (pc := 5) dX7_readClause_5 fl_X7_26 sh_21 rfl ?_
  refine Ev.cTi (pc := 8) (av := [vR 22, vI (σ 21 2)]) (rest := []) dX7_readClause_8 ce_X9_at ml_X7_47 rfl sh_sc (Nat.le_of_ble_eq_true rfl) (Nat.le_of_ble_eq_true rfl) (r_at sh_22 (by decide) _ _) ?_
  refine Ev.nmI (fun x1 e9 => ?_)
  replace h := bt_app h x1 e9
  refine Ev.istore_n (pc := 11) (lv' := [some (vR 21), some (vR 11), some (vI x1)]) dX7_readClause_11 rfl (by decide) rfl rfl ?_
  refine Ev.aload_n (pc := 12) dX7_readClause_12 rfl rfl ?_
  refine Ev.getI (pc := 13) dX7_readClause_13 fl_X7_51 sh_11 rfl ?_
  by_cases c2 : (σ 11 0) = 0
  · replace h := (if_pos c2).symm.trans h
    refine Ev.if_ne_f (pc := 16) dX7_readClause_16 ⟨35, rfl⟩ c2 ?_
    refine Ev.iload_n (pc := 19) dX7_readClause_19 rfl rfl ?_
    refine Ev.bipush (pc := 20) (v := 116) dX7_readClause_20 kb_116 ?_
    by_cases c3 : x1 = 116
    · replace h := (if_pos c3).symm.trans h
      refine Ev.icmp_eq_t (pc := 22) (tgt := 35) dX7_readClause_22 rfl c3 ?_
      exact Ev.weak2 (lj_X7_readClause_21_11_35 N _ _ _ _ h) (lsubS (lsubS (lsubS lsubE)))
    · replace h := (if_neg c3).symm.trans h
      refine Ev.icmp_eq_f (pc := 22) dX7_readClause_22 ⟨35, rfl⟩ c3 ?_
      refine Ev.aload_n (pc := 25) dX7_readClause_25 rfl rfl ?_
      refine Ev.iconst (pc := 26) (v := 1) dX7_readClause_26 ki_1 ?_
      refine Ev.aload_n (pc := 27) dX7_readClause_27 rfl rfl ?_
      refine Ev.getI (pc := 28) dX7_readClause_28 fl_X7_26 sh_21 rfl ?_
      refine Ev.cVv (pc := 31) (k := 21) (av := [vI 1, vI (σ 21 2)]) (rest := []) dX7_readClause_31 ce_X7_blame ml_X7_54 rfl sh_21 cl_X7 sh_sc (Nat.le_of_ble_eq_true rfl) (Nat.le_of_ble_eq_true rfl) (r_X7_blame _ _ _) ?_
      refine Ev.nmS (fun σ4 e9 => ?_)
      replace h := bt_app h σ4 e9
      obtain ⟨h1, h2⟩ := oeq h
      subst h1
      subst h2
      exact Ev.ret_v (pc := 34) dX7_readClause_34 rfl
  · replace h := (if_neg c2).symm.trans h
    refine Ev.if_ne_t (pc := 16) (tgt := 35) dX7_readClause_16 rfl c2 ?_
    exact Ev.weak2 (lj_X7_readClause_21_11_35 N _ _ _ _ h) (lsubS (lsubS (lsubS lsubE)))
theorem r_X7_readClause_21_11 {N : Nat}  {σ : St} {v : Unit} {w : St} (h : o_X7_readClause_21_11 N  σ = some (v, w)) : Rn md_X7_readClause 4 [vR 21, vR 11] SH σ (none, SH, w) := Rn.of ce_X7_readClause.1 (Nat.le_of_ble_eq_true rfl) (e_X7_readClause_21_11 N  _ _ _ h)
