def p_X7_isFull  (σ : St) : Int32 := if (σ 21 1) < 250 then 0 else 1
theorem e_X7_isFull  (σ : St) (v : Int32) (h : p_X7_isFull  σ = v) : Ev md_X7_isFull 0 0 (lvE [vR 21] 1) [] SH σ (some (vI v), SH, σ) := by
  show Ev md_X7_isFull 0 0 [some (vR 21)] [] SH σ (some (vI v), SH, σ)
  unfold p_X7_isFull at h
  refine Ev.aload_n (pc := 0) dX7_isFull_0 rfl rfl ?_
  refine Ev.getI (pc := 1) dX7_isFull_1 fl_X7_19 sh_21 rfl ?_
  refine Ev.sipush (pc := 4) (v := 250) dX7_isFull_4 ks_250 ?_
  by_cases c1 : (σ 21 1) < 250
  · replace h := (if_pos c1).symm.trans h
    refine Ev.icmp_lt_t (pc := 7) (tgt := 14) dX7_isFull_7 rfl c1 ?_
    refine Ev.iconst (pc := 14) (v := 0) dX7_isFull_14 ki_0 ?_
    subst h
    exact Ev.ret_i (pc := 15) dX7_isFull_15 rfl nb_0
  · replace h := (if_neg c1).symm.trans h
    refine Ev.icmp_lt_f (pc := 7) dX7_isFull_7 ⟨14, rfl⟩ c1 ?_
    refine Ev.iconst (pc := 10) (v := 1) dX7_isFull_10 ki_1 ?_
    refine Ev.goto (pc := 11) (tgt := 15) dX7_isFull_11 rfl ?_
    subst h
    exact Ev.ret_i (pc := 15) dX7_isFull_15 rfl nb_1
theorem r_X7_isFull  (σ : St) : Rn md_X7_isFull 0 [vR 21] SH σ (some (vI (p_X7_isFull  σ)), SH, σ) := Rn.of ce_X7_isFull.1 (Nat.le_of_ble_eq_true rfl) (e_X7_isFull  _ _ rfl)
def t_X7_add (a1 : Int32) (σ : St) : Int32 × St := bt (put_ σ 22 250 (σ 21 1) a1) fun σ1 => bt (st σ1 21 1 ((σ1 21 1) + 1)) fun σ2 => ((σ2 21 1), σ2)
theorem e_X7_add (a1 : Int32) (σ : St) (q : Int32 × St) (h : t_X7_add a1 σ = q) : Ev md_X7_add 1 0 (lvE [vR 21, vI a1] 2) [] SH σ (some (vI q.1), SH, q.2) := by
  show Ev md_X7_add 1 0 [some (vR 21), some (vI a1)] [] SH σ (some (vI q.1), SH, q.2)
  unfold t_X7_add at h
  refine Ev.aload_n (pc := 0) dX7_add_0 rfl rfl ?_
  refine Ev.getR (pc := 1) dX7_add_1 fl_X7_9 sh_21 rfl ?_
  refine Ev.aload_n (pc := 4) dX7_add_4 rfl rfl ?_
  refine Ev.getI (pc := 5) dX7_add_5 fl_X7_19 sh_21 rfl ?_
  refine Ev.iload_n (pc := 8) dX7_add_8 rfl rfl ?_
  refine Ev.cTv (pc := 9) (av := [vR 22, vI (σ 21 1), vI a1]) (rest := []) dX7_add_9 ce_X9_put ml_X7_22 rfl sh_sc (Nat.le_of_ble_eq_true rfl) (Nat.le_of_ble_eq_true rfl) (r_put sh_22 (by decide) _ _ _) ?_
  refine Ev.nmS (fun σ1 e9 => ?_)
  replace h := bt_app h σ1 e9
  refine Ev.aload_n (pc := 12) dX7_add_12 rfl rfl ?_
  refine Ev.dup (pc := 13) dX7_add_13 rfl ?_
  refine Ev.getI (pc := 14) dX7_add_14 fl_X7_19 sh_21 rfl ?_
  refine Ev.iconst (pc := 17) (v := 1) dX7_add_17 ki_1 ?_
  refine Ev.iadd (pc := 18) dX7_add_18 ?_
  refine Ev.putI (pc := 19) dX7_add_19 pl_X7_19 sh_21 rfl rfl rfl ?_
  refine Ev.nmS (fun σ2 e9 => ?_)
  replace h := bt_app h σ2 e9
  refine Ev.aload_n (pc := 22) dX7_add_22 rfl rfl ?_
  refine Ev.getI (pc := 23) dX7_add_23 fl_X7_19 sh_21 rfl ?_
  subst h
  exact Ev.ret_i (pc := 26) dX7_add_26 rfl rfl
theorem r_X7_add (a1 : Int32) (σ : St) : Rn md_X7_add 1 [vR 21, vI a1] SH σ (some (vI (t_X7_add a1 σ).1), SH, (t_X7_add a1 σ).2) := Rn.of ce_X7_add.1 (Nat.le_of_ble_eq_true rfl) (e_X7_add _ _ _ rfl)
def t_X9_feed (a1 : Int32) (σ : St) : Int32 × St := if a1 < 0 then (((-1000000002), σ)) else (if a1 ≤ 255 then (if (p_X7_isFull σ) = 0 then (bt (t_X7_add a1 σ) fun q4 => (q4.1, q4.2)) else (((-1000000004), σ))) else (((-1000000002), σ)))
theorem e_X9_feed (a1 : Int32) (σ : St) (q : Int32 × St) (h : t_X9_feed a1 σ = q) : Ev md_X9_feed 2 0 (lvE [vR 0, vI a1] 2) [] SH σ (some (vI q.1), SH, q.2) := by
  show Ev md_X9_feed 2 0 [some (vR 0), some (vI a1)] [] SH σ (some (vI q.1), SH, q.2)
  unfold t_X9_feed at h
  refine Ev.iload_n (pc := 0) dX9_feed_0 rfl rfl ?_
  by_cases c1 : a1 < 0
  · replace h := (if_pos c1).symm.trans h
    refine Ev.if_lt_t (pc := 1) (tgt := 11) dX9_feed_1 rfl c1 ?_
    refine Ev.ldc (pc := 11) dX9_feed_11 kc_X9_81 ?_
    subst h
    exact Ev.ret_i (pc := 13) dX9_feed_13 rfl rfl
  · replace h := (if_neg c1).symm.trans h
    refine Ev.if_lt_f (pc := 1) dX9_feed_1 ⟨11, rfl⟩ c1 ?_
    refine Ev.iload_n (pc := 4) dX9_feed_4 rfl rfl ?_
    refine Ev.sipush (pc := 5) (v := 255) dX9_feed_5 ks_255 ?_
    by_cases c2 : a1 ≤ 255
    · replace h := (if_pos c2).symm.trans h
      refine Ev.icmp_le_t (pc := 8) (tgt := 14) dX9_feed_8 rfl c2 ?_
      refine Ev.aload_n (pc := 14) dX9_feed_14 rfl rfl ?_
      refine Ev.getR (pc := 15) dX9_feed_15 fl_X9_22 sh_0 rfl ?_
      refine Ev.cVi (pc := 18) (k := 21) (av := []) (rest := []) dX9_feed_18 ce_X7_isFull ml_X9_82 rfl sh_21 cl_X7 sh_sc (Nat.le_of_ble_eq_true rfl) (Nat.le_of_ble_eq_true rfl) (r_X7_isFull  _) ?_
      by_cases c3 : (p_X7_isFull σ) = 0
      · replace h := (if_pos c3).symm.trans h
        refine Ev.if_eq_t (pc := 21) (tgt := 29) dX9_feed_21 rfl c3 ?_
        refine Ev.aload_n (pc := 29) dX9_feed_29 rfl rfl ?_
        refine Ev.getR (pc := 30) dX9_feed_30 fl_X9_22 sh_0 rfl ?_
        refine Ev.iload_n (pc := 33) dX9_feed_33 rfl rfl ?_
        refine Ev.cVi (pc := 34) (k := 21) (av := [vI a1]) (rest := []) dX9_feed_34 ce_X7_add ml_X9_87 rfl sh_21 cl_X7 sh_sc (Nat.le_of_ble_eq_true rfl) (Nat.le_of_ble_eq_true rfl) (r_X7_add _ _) ?_
        refine Ev.nmQ (fun q4 e9 => ?_)
        replace h := bt_app h q4 e9
        subst h
        exact Ev.ret_i (pc := 37) dX9_feed_37 rfl rfl
      · replace h := (if_neg c3).symm.trans h
        refine Ev.if_eq_f (pc := 21) dX9_feed_21 ⟨29, rfl⟩ c3 ?_
        refine Ev.ldc (pc := 24) dX9_feed_24 kc_X9_86 ?_
        refine Ev.goto (pc := 26) (tgt := 37) dX9_feed_26 rfl ?_
        subst h
        exact Ev.ret_i (pc := 37) dX9_feed_37 rfl rfl
    · replace h := (if_neg c2).symm.trans h
      refine Ev.icmp_le_f (pc := 8) dX9_feed_8 ⟨14, rfl⟩ c2 ?_
      refine Ev.ldc (pc := 11) dX9_feed_11 kc_X9_81 ?_
      subst h
      exact Ev.ret_i (pc := 13) dX9_feed_13 rfl rfl
theorem r_X9_feed (a1 : Int32) (σ : St) : Rn md_X9_feed 2 [vR 0, vI a1] SH σ (some (vI (t_X9_feed a1 σ).1), SH, (t_X9_feed a1 σ).2) := Rn.of ce_X9_feed.1 (Nat.le_of_ble_eq_true rfl) (e_X9_feed _ _ _ rfl)
def j_X10_in_17  (σ : St) : Int32 := 0
def p_X10_in (a0 : Int64) (a2 : Int64) (a4 : Int64) (σ : St) : Int32 := if (lg_cmp a0 a2) < 0 then (j_X10_in_17 σ) else (if (0 : Int32) < (lg_cmp a0 a4) then (j_X10_in_17 σ) else 1)
theorem lj_X10_in_17  (σ : St) (v : Int32) (h : j_X10_in_17  σ = v) : Ev md_X10_in 0 17 [none, none, none, none, none, none] [] SH σ (some (vI v), SH, σ) := by
  unfold j_X10_in_17 at h
  refine Ev.iconst (pc := 17) (v := 0) dX10_in_17 ki_0 ?_
  subst h
  exact Ev.ret_i (pc := 18) dX10_in_18 rfl nb_0
theorem e_X10_in (a0 : Int64) (a2 : Int64) (a4 : Int64) (σ : St) (v : Int32) (h : p_X10_in a0 a2 a4 σ = v) : Ev md_X10_in 0 0 (lvE [vL a0, vL a2, vL a4] 6) [] SH σ (some (vI v), SH, σ) := by
  show Ev md_X10_in 0 0 [some (vL a0), none, some (vL a2), none, some (vL a4), none] [] SH σ (some (vI v), SH, σ)
  unfold p_X10_in at h
  refine Ev.lload_n (pc := 0) dX10_in_0 rfl rfl ?_
  refine Ev.lload_n (pc := 1) dX10_in_1 rfl rfl ?_
  refine Ev.lcmp (pc := 2) dX10_in_2 ?_
  by_cases c1 : (lg_cmp a0 a2) < 0
  · replace h := (if_pos c1).symm.trans h
    refine Ev.if_lt_t (pc := 3) (tgt := 17) dX10_in_3 rfl c1 ?_
    exact Ev.weak2 (lj_X10_in_17 _ _ h) (lsubN (lsubN (lsubN (lsubN (lsubN (lsubN lsubE))))))
  · replace h := (if_neg c1).symm.trans h
    refine Ev.if_lt_f (pc := 3) dX10_in_3 ⟨17, rfl⟩ c1 ?_
    refine Ev.lload_n (pc := 6) dX10_in_6 rfl rfl ?_
    refine Ev.lload (pc := 7) dX10_in_7 rfl ?_
    refine Ev.lcmp (pc := 9) dX10_in_9 ?_
    by_cases c2 : (0 : Int32) < (lg_cmp a0 a4)
    · replace h := (if_pos c2).symm.trans h
      refine Ev.if_gt_t (pc := 10) (tgt := 17) dX10_in_10 rfl c2 ?_
      exact Ev.weak2 (lj_X10_in_17 _ _ h) (lsubN (lsubN (lsubN (lsubN (lsubN (lsubN lsubE))))))
    · replace h := (if_neg c2).symm.trans h
      refine Ev.if_gt_f (pc := 10) dX10_in_10 ⟨17, rfl⟩ c2 ?_
      refine Ev.iconst (pc := 13) (v := 1) dX10_in_13 ki_1 ?_
      refine Ev.goto (pc := 14) (tgt := 18) dX10_in_14 rfl ?_
      subst h
      exact Ev.ret_i (pc := 18) dX10_in_18 rfl nb_1
theorem r_X10_in (a0 : Int64) (a2 : Int64) (a4 : Int64) (σ : St) : Rn md_X10_in 0 [vL a0, vL a2, vL a4] SH σ (some (vI (p_X10_in a0 a2 a4 σ)), SH, σ) := Rn.of ce_X10_in.1 (Nat.le_of_ble_eq_true rfl) (e_X10_in _ _ _ _ _ rfl)
def o_X10_feed (N : Nat) (a1 : Int32) (σ : St) : Option (Int32 × St) := if (p_X10_in a1.toInt64 0 255 σ) = 0 then (some ((-1000000002), σ)) else (if (σ 79 23) = 250 then (some ((-1000000004), σ)) else (ckA (σ 79 23) 250 (bt (st σ 93 (σ 79 23).toNatClampNeg a1) fun σ4 => bt (st σ4 79 23 ((σ4 79 23) + 1)) fun σ5 => some ((σ5 79 23), σ5))))
theorem e_X10_feed (N : Nat) (a1 : Int32) (σ : St) (v : Int32) (w : St) (h : o_X10_feed N a1 σ = some (v, w)) : Ev md_X10_feed 1 0 (lvE [vR 79, vI a1] 2) [] SH σ (some (vI v), SH, w) := by
  show Ev md_X10_feed 1 0 [some (vR 79), some (vI a1)] [] SH σ (some (vI v), SH, w)
  unfold o_X10_feed at h
  refine Ev.iload_n (pc := 0) dX10_feed_0 rfl rfl ?_
  refine Ev.i2l (pc := 1) dX10_feed_1 ?_
  refine Ev.lconst (pc := 2) (v := 0) dX10_feed_2 kL_0 ?_
  refine Ev.ldc2 (pc := 3) dX10_feed_3 kl_X10_87 ?_
  refine Ev.cTi (pc := 6) (av := [vL a1.toInt64, vL 0, vL 255]) (rest := []) dX10_feed_6 ce_X10_in ml_X10_89 rfl sh_sc (Nat.le_of_ble_eq_true rfl) (Nat.le_of_ble_eq_true rfl) (r_X10_in _ _ _ _) ?_
  by_cases c1 : (p_X10_in a1.toInt64 0 255 σ) = 0
  · replace h := (if_pos c1).symm.trans h
    refine Ev.if_ne_f (pc := 9) dX10_feed_9 ⟨15, rfl⟩ c1 ?_
    refine Ev.ldc (pc := 12) dX10_feed_12 kc_X10_93 ?_
    obtain ⟨h1, h2⟩ := oeq h
    subst h1
    subst h2
    exact Ev.ret_i (pc := 14) dX10_feed_14 rfl rfl
  · replace h := (if_neg c1).symm.trans h
    refine Ev.if_ne_t (pc := 9) (tgt := 15) dX10_feed_9 rfl c1 ?_
    refine Ev.aload_n (pc := 15) dX10_feed_15 rfl rfl ?_
    refine Ev.getI (pc := 16) dX10_feed_16 fl_X10_94 sh_79 rfl ?_
    refine Ev.sipush (pc := 19) (v := 250) dX10_feed_19 ks_250 ?_
    by_cases c2 : (σ 79 23) = 250
    · replace h := (if_pos c2).symm.trans h
      refine Ev.icmp_ne_f (pc := 22) dX10_feed_22 ⟨28, rfl⟩ c2 ?_
      refine Ev.ldc (pc := 25) dX10_feed_25 kc_X10_97 ?_
      obtain ⟨h1, h2⟩ := oeq h
      subst h1
      subst h2
      exact Ev.ret_i (pc := 27) dX10_feed_27 rfl rfl
    · replace h := (if_neg c2).symm.trans h
      refine Ev.icmp_ne_t (pc := 22) (tgt := 28) dX10_feed_22 rfl c2 ?_
      refine Ev.aload_n (pc := 28) dX10_feed_28 rfl rfl ?_
      refine Ev.getR (pc := 29) dX10_feed_29 fl_X10_50 sh_79 rfl ?_
      refine Ev.aload_n (pc := 32) dX10_feed_32 rfl rfl ?_
      refine Ev.getI (pc := 33) dX10_feed_33 fl_X10_94 sh_79 rfl ?_
      refine Ev.iload_n (pc := 36) dX10_feed_36 rfl rfl ?_
      obtain ⟨c3, h⟩ := ckA_elim h
      refine Ev.iast (pc := 37) dX10_feed_37 sh_93 c3 ?_
      refine Ev.nmS (fun σ4 e9 => ?_)
      replace h := bt_app h σ4 e9
      refine Ev.aload_n (pc := 38) dX10_feed_38 rfl rfl ?_
      refine Ev.dup (pc := 39) dX10_feed_39 rfl ?_
      refine Ev.getI (pc := 40) dX10_feed_40 fl_X10_94 sh_79 rfl ?_
      refine Ev.iconst (pc := 43) (v := 1) dX10_feed_43 ki_1 ?_
      refine Ev.iadd (pc := 44) dX10_feed_44 ?_
      refine Ev.putI (pc := 45) dX10_feed_45 pl_X10_94 sh_79 rfl rfl rfl ?_
      refine Ev.nmS (fun σ5 e9 => ?_)
      replace h := bt_app h σ5 e9
      refine Ev.aload_n (pc := 48) dX10_feed_48 rfl rfl ?_
      refine Ev.getI (pc := 49) dX10_feed_49 fl_X10_94 sh_79 rfl ?_
      obtain ⟨h1, h2⟩ := oeq h
      subst h1
      subst h2
      exact Ev.ret_i (pc := 52) dX10_feed_52 rfl rfl
theorem r_X10_feed {N : Nat} {a1 : Int32} {σ : St} {v : Int32} {w : St} (h : o_X10_feed N a1 σ = some (v, w)) : Rn md_X10_feed 1 [vR 79, vI a1] SH σ (some (vI v), SH, w) := Rn.of ce_X10_feed.1 (Nat.le_of_ble_eq_true rfl) (e_X10_feed N _ _ _ _ h)
def j_X5_clear_11_65 (N : Nat) (K_37 : Int32 → St → Option (Unit × St)) (v1 : Int32) (s1 : Int32) (s2 : Int32) (σ : St) : Option (Unit × St) := ckA s1 25 (bt (st σ 20 s1.toNatClampNeg s2) fun σ2 => bt (v1 + 1) fun x3 => K_37 x3 σ2)
def l_X5_clear_11_37 (N : Nat) : Nat → Int32 → St → Option (Unit × St)
  | 0, _, _ => none
  | n + 1, v1, σ => if (25 : Int32) ≤ v1 then (some ((), σ)) else (if (v1 / 5) = (v1 - v1 / 5 * 5) then (j_X5_clear_11_65 N (l_X5_clear_11_37 N n) v1 v1 0 σ) else (j_X5_clear_11_65 N (l_X5_clear_11_37 N n) v1 v1 (-1) σ))
def o_X5_clear_11 (N : Nat)  (σ : St) : Option (Unit × St) := bt (st σ 11 0 0) fun σ1 => bt (st σ1 11 1 0) fun σ2 => bt (st σ2 11 2 0) fun σ3 => bt (st σ3 11 3 0) fun σ4 => bt (st σ4 11 4 0) fun σ5 => bt (st σ5 11 5 0) fun σ6 => bt (st σ6 11 6 0) fun σ7 => l_X5_clear_11_37 N N 0 σ7
theorem lj_X5_clear_11_65 (N : Nat) (K_37 : Int32 → St → Option (Unit × St)) (hK_37 : ∀ (v1 : Int32) (σ : St) (v : Unit) (w : St), K_37 v1 σ = some (v, w) → Ev md_X5_clear 0 37 [some (vR 11), some (vI v1)] [] SH σ (none, SH, w)) (v1 : Int32) (s1 : Int32) (s2 : Int32) (σ : St) (v : Unit) (w : St) (h : j_X5_clear_11_65 N K_37 v1 s1 s2 σ = some (v, w)) : Ev md_X5_clear 0 65 [some (vR 11), some (vI v1)] [vI s2, vI s1, vR 20] SH σ (none, SH, w) := by
  unfold j_X5_clear_11_65 at h
  obtain ⟨c1, h⟩ := ckA_elim h
  refine Ev.iast (pc := 65) dX5_clear_65 sh_20 c1 ?_
  refine Ev.nmS (fun σ2 e9 => ?_)
  replace h := bt_app h σ2 e9
  obtain ⟨x3, e_x3, h⟩ := bt_elim h
  refine Ev.iinc (pc := 66) (v := x3) (lv' := [some (vR 11), some (vI x3)]) dX5_clear_66 rfl (by rw [ki_1, e_x3]) (lt9 rfl) rfl rfl ?_
  refine Ev.goto (pc := 69) (tgt := 37) dX5_clear_69 rfl ?_
  exact Ev.weak2 (hK_37 _ _ _ _ h) (lsubS (lsubS lsubE))
theorem ll_X5_clear_11_37 (N : Nat) : ∀ (n : Nat) (v1 : Int32) (σ : St) (v : Unit) (w : St), l_X5_clear_11_37 N n v1 σ = some (v, w) → Ev md_X5_clear 0 37 [some (vR 11), some (vI v1)] [] SH σ (none, SH, w) := by
  intro n
  induction n with
  | zero =>
    intro v1 σ v w h
    rw [l_X5_clear_11_37] at h
    cases h
  | succ n ih =>
    intro v1 σ v w h
    rw [l_X5_clear_11_37] at h
    refine Ev.iload_n (pc := 37) dX5_clear_37 rfl rfl ?_
    refine Ev.aload_n (pc := 38) dX5_clear_38 rfl rfl ?_
    refine Ev.getR (pc := 39) dX5_clear_39 fl_X5_36 sh_11 rfl ?_
    refine Ev.alen (pc := 42) (v := 25) dX5_clear_42 sh_20 kn_25 ?_
    by_cases c1 : (25 : Int32) ≤ v1
    · replace h := (if_pos c1).symm.trans h
      refine Ev.icmp_ge_t (pc := 43) (tgt := 72) dX5_clear_43 rfl c1 ?_
      obtain ⟨h1, h2⟩ := oeq h
      subst h1
      subst h2
      exact Ev.ret_v (pc := 72) dX5_clear_72 rfl
    · replace h := (if_neg c1).symm.trans h
      refine Ev.icmp_ge_f (pc := 43) dX5_clear_43 ⟨72, rfl⟩ c1 ?_
      refine Ev.aload_n (pc := 46) dX5_clear_46 rfl rfl ?_
      refine Ev.getR (pc := 47) dX5_clear_47 fl_X5_36 sh_11 rfl ?_
      refine Ev.iload_n (pc := 50) dX5_clear_50 rfl rfl ?_
      refine Ev.iload_n (pc := 51) dX5_clear_51 rfl rfl ?_
      refine Ev.iconst (pc := 52) (v := 5) dX5_clear_52 ki_5 ?_
      refine Ev.idiv (pc := 53) dX5_clear_53 (by decide) ?_
      refine Ev.iload_n (pc := 54) dX5_clear_54 rfl rfl ?_
      refine Ev.iconst (pc := 55) (v := 5) dX5_clear_55 ki_5 ?_
      refine Ev.irem (pc := 56) dX5_clear_56 (by decide) ?_
      by_cases c2 : (v1 / 5) = (v1 - v1 / 5 * 5)
      · replace h := (if_pos c2).symm.trans h
        refine Ev.icmp_ne_f (pc := 57) dX5_clear_57 ⟨64, rfl⟩ c2 ?_
        refine Ev.iconst (pc := 60) (v := 0) dX5_clear_60 ki_0 ?_
        refine Ev.goto (pc := 61) (tgt := 65) dX5_clear_61 rfl ?_
        exact Ev.weak2 (lj_X5_clear_11_65 N (l_X5_clear_11_37 N n) ih _ _ _ _ _ _ h) (lsubS (lsubS lsubE))
      · replace h := (if_neg c2).symm.trans h
        refine Ev.icmp_ne_t (pc := 57) (tgt := 64) dX5_clear_57 rfl c2 ?_
        refine Ev.iconst (pc := 64) (v := (-1)) dX5_clear_64 ki_m1 ?_
        exact Ev.weak2 (lj_X5_clear_11_65 N (l_X5_clear_11_37 N n) ih _ _ _ _ _ _ h) (lsubS (lsubS lsubE))
theorem e_X5_clear_11 (N : Nat)  (σ : St) (v : Unit) (w : St) (h : o_X5_clear_11 N  σ = some (v, w)) : Ev md_X5_clear 0 0 (lvE [vR 11] 2) [] SH σ (none, SH, w) := by
  show Ev md_X5_clear 0 0 [some (vR 11), none] [] SH σ (none, SH, w)
  unfold o_X5_clear_11 at h
  refine Ev.aload_n (pc := 0) dX5_clear_0 rfl rfl ?_
  refine Ev.iconst (pc := 1) (v := 0) dX5_clear_1 ki_0 ?_
  refine Ev.putI (pc := 2) dX5_clear_2 pl_X5_39 sh_11 rfl rfl rfl ?_
  refine Ev.nmS (fun σ1 e9 => ?_)
  replace h := bt_app h σ1 e9
  refine Ev.aload_n (pc := 5) dX5_clear_5 rfl rfl ?_
  refine Ev.iconst (pc := 6) (v := 0) dX5_clear_6 ki_0 ?_
  refine Ev.putI (pc := 7) dX5_clear_7 pl_X5_43 sh_11 rfl rfl rfl ?_
  refine Ev.nmS (fun σ2 e9 => ?_)
  replace h := bt_app h σ2 e9
  refine Ev.aload_n (pc := 10) dX5_clear_10 rfl rfl ?_
  refine Ev.iconst (pc := 11) (v := 0) dX5_clear_11 ki_0 ?_
  refine Ev.putI (pc := 12) dX5_clear_12 pl_X5_46 sh_11 rfl rfl rfl ?_
  refine Ev.nmS (fun σ3 e9 => ?_)
  replace h := bt_app h σ3 e9
  refine Ev.aload_n (pc := 15) dX5_clear_15 rfl rfl ?_
  refine Ev.iconst (pc := 16) (v := 0) dX5_clear_16 ki_0 ?_
  refine Ev.putI (pc := 17) dX5_clear_17 pl_X5_49 sh_11 rfl rfl rfl ?_
  refine Ev.nmS (fun σ4 e9 => ?_)
  replace h := bt_app h σ4 e9
  refine Ev.aload_n (pc := 20) dX5_clear_20 rfl rfl ?_
  refine Ev.iconst (pc := 21) (v := 0) dX5_clear_21 ki_0 ?_
  refine Ev.putI (pc := 22) dX5_clear_22 pl_X5_52 sh_11 rfl rfl rfl ?_
  refine Ev.nmS (fun σ5 e9 => ?_)
  replace h := bt_app h σ5 e9
  refine Ev.aload_n (pc := 25) dX5_clear_25 rfl rfl ?_
  refine Ev.iconst (pc := 26) (v := 0) dX5_clear_26 ki_0 ?_
  refine Ev.putI (pc := 27) dX5_clear_27 pl_X5_55 sh_11 rfl rfl rfl ?_
  refine Ev.nmS (fun σ6 e9 => ?_)
  replace h := bt_app h σ6 e9
  refine Ev.aload_n (pc := 30) dX5_clear_30 rfl rfl ?_
  refine Ev.iconst (pc := 31) (v := 0) dX5_clear_31 ki_0 ?_
  refine Ev.putI (pc := 32) dX5_clear_32 pl_X5_58 sh_11 rfl rfl rfl ?_
  refine Ev.nmS (fun σ7 e9 => ?_)
  replace h := bt_app h σ7 e9
  refine Ev.iconst (pc := 35) (v := 0) dX5_clear_35 ki_0 ?_
  refine Ev.istore_n (pc := 36) (lv' := [some (vR 11), some (vI 0)]) dX5_clear_36 rfl (lt9 rfl) rfl rfl ?_
  exact Ev.weak2 (ll_X5_clear_11_37 N N _ _ _ _ h) (lsubS (lsubS lsubE))
theorem r_X5_clear_11 {N : Nat}  {σ : St} {v : Unit} {w : St} (h : o_X5_clear_11 N  σ = some (v, w)) : Rn md_X5_clear 0 [vR 11] SH σ (none, SH, w) := Rn.of ce_X5_clear.1 (Nat.le_of_ble_eq_true rfl) (e_X5_clear_11 N  _ _ _ h)
def l_X7_skipBlanks_0 (N : Nat) : Nat → St → Option (Unit × St)
  | 0, _ => none
  | n + 1, σ => if (σ 21 1) ≤ (σ 21 2) then (some ((), σ)) else (if (at_ σ 22 250 (σ 21 2)) = 32 then (bt (st σ 21 2 ((σ 21 2) + 1)) fun σ3 => l_X7_skipBlanks_0 N n σ3) else (some ((), σ)))
def o_X7_skipBlanks (N : Nat)  (σ : St) : Option (Unit × St) := l_X7_skipBlanks_0 N N σ
theorem ll_X7_skipBlanks_0 (N : Nat) : ∀ (n : Nat)  (σ : St) (v : Unit) (w : St), l_X7_skipBlanks_0 N n  σ = some (v, w) → Ev md_X7_skipBlanks 1 0 [some (vR 21)] [] SH σ (none, SH, w) := by
  intro n
  induction n with
  | zero =>
    intro  σ v w h
    rw [l_X7_skipBlanks_0] at h
    cases h
  | succ n ih =>
    intro  σ v w h
    rw [l_X7_skipBlanks_0] at h
    refine Ev.aload_n (pc := 0) dX7_skipBlanks_0 rfl rfl ?_
    refine Ev.getI (pc := 1) dX7_skipBlanks_1 fl_X7_26 sh_21 rfl ?_
    refine Ev.aload_n (pc := 4) dX7_skipBlanks_4 rfl rfl ?_
    refine Ev.getI (pc := 5) dX7_skipBlanks_5 fl_X7_19 sh_21 rfl ?_
    by_cases c1 : (σ 21 1) ≤ (σ 21 2)
    · replace h := (if_pos c1).symm.trans h
      refine Ev.icmp_ge_t (pc := 8) (tgt := 40) dX7_skipBlanks_8 rfl c1 ?_
      obtain ⟨h1, h2⟩ := oeq h
      subst h1
      subst h2
      exact Ev.ret_v (pc := 40) dX7_skipBlanks_40 rfl
    · replace h := (if_neg c1).symm.trans h
      refine Ev.icmp_ge_f (pc := 8) dX7_skipBlanks_8 ⟨40, rfl⟩ c1 ?_
      refine Ev.aload_n (pc := 11) dX7_skipBlanks_11 rfl rfl ?_
      refine Ev.getR (pc := 12) dX7_skipBlanks_12 fl_X7_9 sh_21 rfl ?_
      refine Ev.aload_n (pc := 15) dX7_skipBlanks_15 rfl rfl ?_
      refine Ev.getI (pc := 16) dX7_skipBlanks_16 fl_X7_26 sh_21 rfl ?_
      refine Ev.cTi (pc := 19) (av := [vR 22, vI (σ 21 2)]) (rest := []) dX7_skipBlanks_19 ce_X9_at ml_X7_47 rfl sh_sc (Nat.le_of_ble_eq_true rfl) (Nat.le_of_ble_eq_true rfl) (r_at sh_22 (by decide) _ _) ?_
      refine Ev.bipush (pc := 22) (v := 32) dX7_skipBlanks_22 kb_32 ?_
      by_cases c2 : (at_ σ 22 250 (σ 21 2)) = 32
      · replace h := (if_pos c2).symm.trans h
        refine Ev.icmp_ne_f (pc := 24) dX7_skipBlanks_24 ⟨40, rfl⟩ c2 ?_
        refine Ev.aload_n (pc := 27) dX7_skipBlanks_27 rfl rfl ?_
        refine Ev.dup (pc := 28) dX7_skipBlanks_28 rfl ?_
        refine Ev.getI (pc := 29) dX7_skipBlanks_29 fl_X7_26 sh_21 rfl ?_
        refine Ev.iconst (pc := 32) (v := 1) dX7_skipBlanks_32 ki_1 ?_
        refine Ev.iadd (pc := 33) dX7_skipBlanks_33 ?_
        refine Ev.putI (pc := 34) dX7_skipBlanks_34 pl_X7_26 sh_21 rfl rfl rfl ?_
        refine Ev.nmS (fun σ3 e9 => ?_)
        replace h := bt_app h σ3 e9
        refine Ev.goto (pc := 37) (tgt := 0) dX7_skipBlanks_37 rfl ?_
        exact Ev.weak2 (ih  _ _ _ h) (lsubS lsubE)
      · replace h := (if_neg c2).symm.trans h
        refine Ev.icmp_ne_t (pc := 24) (tgt := 40) dX7_skipBlanks_24 rfl c2 ?_
        obtain ⟨h1, h2⟩ := oeq h
        subst h1
        subst h2
        exact Ev.ret_v (pc := 40) dX7_skipBlanks_40 rfl
theorem e_X7_skipBlanks (N : Nat)  (σ : St) (v : Unit) (w : St) (h : o_X7_skipBlanks N  σ = some (v, w)) : Ev md_X7_skipBlanks 1 0 (lvE [vR 21] 1) [] SH σ (none, SH, w) := by
  show Ev md_X7_skipBlanks 1 0 [some (vR 21)] [] SH σ (none, SH, w)
  unfold o_X7_skipBlanks at h
  exact Ev.weak2 (ll_X7_skipBlanks_0 N N _ _ _ h) (lsubS lsubE)
theorem r_X7_skipBlanks {N : Nat}  {σ : St} {v : Unit} {w : St} (h : o_X7_skipBlanks N  σ = some (v, w)) : Rn md_X7_skipBlanks 1 [vR 21] SH σ (none, SH, w) := Rn.of ce_X7_skipBlanks.1 (Nat.le_of_ble_eq_true rfl) (e_X7_skipBlanks N  _ _ _ h)
def t_X7_blame (a1 : Int32) (a2 : Int32) (σ : St) : St := if (σ 21 4) = 0 then (bt (st σ 21 4 a1) fun σ2 => bt (st σ2 21 5 a2) fun σ3 => σ3) else σ
theorem e_X7_blame (a1 : Int32) (a2 : Int32) (σ : St) (q : St) (h : t_X7_blame a1 a2 σ = q) : Ev md_X7_blame 0 0 (lvE [vR 21, vI a1, vI a2] 3) [] SH σ (none, SH, q) := by
  show Ev md_X7_blame 0 0 [some (vR 21), some (vI a1), some (vI a2)] [] SH σ (none, SH, q)
  unfold t_X7_blame at h
  refine Ev.aload_n (pc := 0) dX7_blame_0 rfl rfl ?_
  refine Ev.getI (pc := 1) dX7_blame_1 fl_X7_29 sh_21 rfl ?_
  by_cases c1 : (σ 21 4) = 0
  · replace h := (if_pos c1).symm.trans h
    refine Ev.if_ne_f (pc := 4) dX7_blame_4 ⟨17, rfl⟩ c1 ?_
    refine Ev.aload_n (pc := 7) dX7_blame_7 rfl rfl ?_
    refine Ev.iload_n (pc := 8) dX7_blame_8 rfl rfl ?_
    refine Ev.putI (pc := 9) dX7_blame_9 pl_X7_29 sh_21 rfl rfl rfl ?_
    refine Ev.nmS (fun σ2 e9 => ?_)
    replace h := bt_app h σ2 e9
    refine Ev.aload_n (pc := 12) dX7_blame_12 rfl rfl ?_
    refine Ev.iload_n (pc := 13) dX7_blame_13 rfl rfl ?_
    refine Ev.putI (pc := 14) dX7_blame_14 pl_X7_15 sh_21 rfl rfl rfl ?_
    refine Ev.nmS (fun σ3 e9 => ?_)
    replace h := bt_app h σ3 e9
    subst h
    exact Ev.ret_v (pc := 17) dX7_blame_17 rfl
  · replace h := (if_neg c1).symm.trans h
    refine Ev.if_ne_t (pc := 4) (tgt := 17) dX7_blame_4 rfl c1 ?_
    subst h
    exact Ev.ret_v (pc := 17) dX7_blame_17 rfl
theorem r_X7_blame (a1 : Int32) (a2 : Int32) (σ : St) : Rn md_X7_blame 0 [vR 21, vI a1, vI a2] SH σ (none, SH, t_X7_blame a1 a2 σ) := Rn.of ce_X7_blame.1 (Nat.le_of_ble_eq_true rfl) (e_X7_blame _ _ _ _ rfl)
def p_X7_isOneTooMany_21_11 (a1 : Int32) (σ : St) : Int32 := if a1 = 107 then (if (σ 11 2) < 3 then 0 else 1) else if a1 = 112 then (if (σ 11 3) < 7 then 0 else 1) else if a1 = 114 then (if (σ 11 1) < 8 then 0 else 1) else if a1 = 116 then (if (σ 11 0) ≤ 0 then 0 else 1) else if a1 = 119 then (if (σ 11 6) ≤ 0 then 0 else 1) else 0
theorem e_X7_isOneTooMany_21_11 (a1 : Int32) (σ : St) (v : Int32) (h : p_X7_isOneTooMany_21_11 a1 σ = v) : Ev md_X7_isOneTooMany 0 0 (lvE [vR 21, vI a1, vR 11] 3) [] SH σ (some (vI v), SH, σ) := by
  show Ev md_X7_isOneTooMany 0 0 [some (vR 21), some (vI a1), some (vR 11)] [] SH σ (some (vI v), SH, σ)
  unfold p_X7_isOneTooMany_21_11 at h
  refine Ev.iload_n (pc := 0) dX7_isOneTooMany_0 rfl rfl ?_
  by_cases c1 : a1 = 107
  · replace h := (if_pos c1).symm.trans h
    refine Ev.swC (pc := 1) (c := 107) (tgt := 96) dX7_isOneTooMany_1 c1 (by decide) (by decide) rfl rfl ?_
    refine Ev.aload_n (pc := 96) dX7_isOneTooMany_96 rfl rfl ?_
    refine Ev.getI (pc := 97) dX7_isOneTooMany_97 fl_X7_80 sh_11 rfl ?_
    refine Ev.iconst (pc := 100) (v := 3) dX7_isOneTooMany_100 ki_3 ?_
    by_cases c2 : (σ 11 2) < 3
    · replace h := (if_pos c2).symm.trans h
      refine Ev.icmp_lt_t (pc := 101) (tgt := 108) dX7_isOneTooMany_101 rfl c2 ?_
      refine Ev.iconst (pc := 108) (v := 0) dX7_isOneTooMany_108 ki_0 ?_
      subst h
      exact Ev.ret_i (pc := 109) dX7_isOneTooMany_109 rfl nb_0
    · replace h := (if_neg c2).symm.trans h
      refine Ev.icmp_lt_f (pc := 101) dX7_isOneTooMany_101 ⟨108, rfl⟩ c2 ?_
      refine Ev.iconst (pc := 104) (v := 1) dX7_isOneTooMany_104 ki_1 ?_
      refine Ev.goto (pc := 105) (tgt := 109) dX7_isOneTooMany_105 rfl ?_
      subst h
      exact Ev.ret_i (pc := 109) dX7_isOneTooMany_109 rfl nb_1
  replace h := (if_neg c1).symm.trans h
  by_cases c3 : a1 = 112
  · replace h := (if_pos c3).symm.trans h
    refine Ev.swC (pc := 1) (c := 112) (tgt := 110) dX7_isOneTooMany_1 c3 (by decide) (by decide) rfl rfl ?_
    refine Ev.aload_n (pc := 110) dX7_isOneTooMany_110 rfl rfl ?_
    refine Ev.getI (pc := 111) dX7_isOneTooMany_111 fl_X7_83 sh_11 rfl ?_
    refine Ev.bipush (pc := 114) (v := 7) dX7_isOneTooMany_114 kb_7 ?_
    by_cases c4 : (σ 11 3) < 7
    · replace h := (if_pos c4).symm.trans h
      refine Ev.icmp_lt_t (pc := 116) (tgt := 123) dX7_isOneTooMany_116 rfl c4 ?_
      refine Ev.iconst (pc := 123) (v := 0) dX7_isOneTooMany_123 ki_0 ?_
      subst h
      exact Ev.ret_i (pc := 124) dX7_isOneTooMany_124 rfl nb_0
    · replace h := (if_neg c4).symm.trans h
      refine Ev.icmp_lt_f (pc := 116) dX7_isOneTooMany_116 ⟨123, rfl⟩ c4 ?_
      refine Ev.iconst (pc := 119) (v := 1) dX7_isOneTooMany_119 ki_1 ?_
      refine Ev.goto (pc := 120) (tgt := 124) dX7_isOneTooMany_120 rfl ?_
      subst h
      exact Ev.ret_i (pc := 124) dX7_isOneTooMany_124 rfl nb_1
  replace h := (if_neg c3).symm.trans h
  by_cases c5 : a1 = 114
  · replace h := (if_pos c5).symm.trans h
    refine Ev.swC (pc := 1) (c := 114) (tgt := 81) dX7_isOneTooMany_1 c5 (by decide) (by decide) rfl rfl ?_
    refine Ev.aload_n (pc := 81) dX7_isOneTooMany_81 rfl rfl ?_
    refine Ev.getI (pc := 82) dX7_isOneTooMany_82 fl_X7_77 sh_11 rfl ?_
    refine Ev.bipush (pc := 85) (v := 8) dX7_isOneTooMany_85 kb_8 ?_
    by_cases c6 : (σ 11 1) < 8
    · replace h := (if_pos c6).symm.trans h
      refine Ev.icmp_lt_t (pc := 87) (tgt := 94) dX7_isOneTooMany_87 rfl c6 ?_
      refine Ev.iconst (pc := 94) (v := 0) dX7_isOneTooMany_94 ki_0 ?_
      subst h
      exact Ev.ret_i (pc := 95) dX7_isOneTooMany_95 rfl nb_0
    · replace h := (if_neg c6).symm.trans h
      refine Ev.icmp_lt_f (pc := 87) dX7_isOneTooMany_87 ⟨94, rfl⟩ c6 ?_
      refine Ev.iconst (pc := 90) (v := 1) dX7_isOneTooMany_90 ki_1 ?_
      refine Ev.goto (pc := 91) (tgt := 95) dX7_isOneTooMany_91 rfl ?_
      subst h
      exact Ev.ret_i (pc := 95) dX7_isOneTooMany_95 rfl nb_1
  replace h := (if_neg c5).symm.trans h
  by_cases c7 : a1 = 116
  · replace h := (if_pos c7).symm.trans h
    refine Ev.swC (pc := 1) (c := 116) (tgt := 68) dX7_isOneTooMany_1 c7 (by decide) (by decide) rfl rfl ?_
    refine Ev.aload_n (pc := 68) dX7_isOneTooMany_68 rfl rfl ?_
    refine Ev.getI (pc := 69) dX7_isOneTooMany_69 fl_X7_51 sh_11 rfl ?_
    by_cases c8 : (σ 11 0) ≤ 0
    · replace h := (if_pos c8).symm.trans h
      refine Ev.if_le_t (pc := 72) (tgt := 79) dX7_isOneTooMany_72 rfl c8 ?_
      refine Ev.iconst (pc := 79) (v := 0) dX7_isOneTooMany_79 ki_0 ?_
      subst h
      exact Ev.ret_i (pc := 80) dX7_isOneTooMany_80 rfl nb_0
    · replace h := (if_neg c8).symm.trans h
      refine Ev.if_le_f (pc := 72) dX7_isOneTooMany_72 ⟨79, rfl⟩ c8 ?_
      refine Ev.iconst (pc := 75) (v := 1) dX7_isOneTooMany_75 ki_1 ?_
      refine Ev.goto (pc := 76) (tgt := 80) dX7_isOneTooMany_76 rfl ?_
      subst h
      exact Ev.ret_i (pc := 80) dX7_isOneTooMany_80 rfl nb_1
  replace h := (if_neg c7).symm.trans h
  by_cases c9 : a1 = 119
  · replace h := (if_pos c9).symm.trans h
    refine Ev.swC (pc := 1) (c := 119) (tgt := 125) dX7_isOneTooMany_1 c9 (by decide) (by decide) rfl rfl ?_
    refine Ev.aload_n (pc := 125) dX7_isOneTooMany_125 rfl rfl ?_
    refine Ev.getI (pc := 126) dX7_isOneTooMany_126 fl_X7_86 sh_11 rfl ?_
    by_cases c10 : (σ 11 6) ≤ 0
    · replace h := (if_pos c10).symm.trans h
      refine Ev.if_le_t (pc := 129) (tgt := 136) dX7_isOneTooMany_129 rfl c10 ?_
      refine Ev.iconst (pc := 136) (v := 0) dX7_isOneTooMany_136 ki_0 ?_
      subst h
      exact Ev.ret_i (pc := 137) dX7_isOneTooMany_137 rfl nb_0
    · replace h := (if_neg c10).symm.trans h
      refine Ev.if_le_f (pc := 129) dX7_isOneTooMany_129 ⟨136, rfl⟩ c10 ?_
      refine Ev.iconst (pc := 132) (v := 1) dX7_isOneTooMany_132 ki_1 ?_
      refine Ev.goto (pc := 133) (tgt := 137) dX7_isOneTooMany_133 rfl ?_
      subst h
      exact Ev.ret_i (pc := 137) dX7_isOneTooMany_137 rfl nb_1
  replace h := (if_neg c9).symm.trans h
  refine Ev.swD (pc := 1) (tgt := 138) (tl := [107, 112, 114, 116, 119]) dX7_isOneTooMany_1 (not_mem_cons9 (neI c1 rfl) (not_mem_cons9 (neI c3 rfl) (not_mem_cons9 (neI c5 rfl) (not_mem_cons9 (neI c7 rfl) (not_mem_cons9 (neI c9 rfl) (not_mem_nil9)))))) rfl rfl rfl ?_
  refine Ev.iconst (pc := 138) (v := 0) dX7_isOneTooMany_138 ki_0 ?_
  subst h
  exact Ev.ret_i (pc := 139) dX7_isOneTooMany_139 rfl nb_0
theorem r_X7_isOneTooMany_21_11 (a1 : Int32) (σ : St) : Rn md_X7_isOneTooMany 0 [vR 21, vI a1, vR 11] SH σ (some (vI (p_X7_isOneTooMany_21_11 a1 σ)), SH, σ) := Rn.of ce_X7_isOneTooMany.1 (Nat.le_of_ble_eq_true rfl) (e_X7_isOneTooMany_21_11 _ _ _ rfl)
def j_X7_isFigure_16  (σ : St) : Int32 := 0
def p_X7_isFigure (a0 : Int32) (σ : St) : Int32 := if a0 < 48 then (j_X7_isFigure_16 σ) else (if (57 : Int32) < a0 then (j_X7_isFigure_16 σ) else 1)
theorem lj_X7_isFigure_16  (σ : St) (v : Int32) (h : j_X7_isFigure_16  σ = v) : Ev md_X7_isFigure 0 16 [none] [] SH σ (some (vI v), SH, σ) := by
  unfold j_X7_isFigure_16 at h
  refine Ev.iconst (pc := 16) (v := 0) dX7_isFigure_16 ki_0 ?_
  subst h
  exact Ev.ret_i (pc := 17) dX7_isFigure_17 rfl nb_0
theorem e_X7_isFigure (a0 : Int32) (σ : St) (v : Int32) (h : p_X7_isFigure a0 σ = v) : Ev md_X7_isFigure 0 0 (lvE [vI a0] 1) [] SH σ (some (vI v), SH, σ) := by
  show Ev md_X7_isFigure 0 0 [some (vI a0)] [] SH σ (some (vI v), SH, σ)
  unfold p_X7_isFigure at h
  refine Ev.iload_n (pc := 0) dX7_isFigure_0 rfl rfl ?_
  refine Ev.bipush (pc := 1) (v := 48) dX7_isFigure_1 kb_48 ?_
  by_cases c1 : a0 < 48
  · replace h := (if_pos c1).symm.trans h
    refine Ev.icmp_lt_t (pc := 3) (tgt := 16) dX7_isFigure_3 rfl c1 ?_
    exact Ev.weak2 (lj_X7_isFigure_16 _ _ h) (lsubN lsubE)
  · replace h := (if_neg c1).symm.trans h
    refine Ev.icmp_lt_f (pc := 3) dX7_isFigure_3 ⟨16, rfl⟩ c1 ?_
    refine Ev.iload_n (pc := 6) dX7_isFigure_6 rfl rfl ?_
    refine Ev.bipush (pc := 7) (v := 57) dX7_isFigure_7 kb_57 ?_
    by_cases c2 : (57 : Int32) < a0
    · replace h := (if_pos c2).symm.trans h
      refine Ev.icmp_gt_t (pc := 9) (tgt := 16) dX7_isFigure_9 rfl c2 ?_
      exact Ev.weak2 (lj_X7_isFigure_16 _ _ h) (lsubN lsubE)
    · replace h := (if_neg c2).symm.trans h
      refine Ev.icmp_gt_f (pc := 9) dX7_isFigure_9 ⟨16, rfl⟩ c2 ?_
      refine Ev.iconst (pc := 12) (v := 1) dX7_isFigure_12 ki_1 ?_
      refine Ev.goto (pc := 13) (tgt := 17) dX7_isFigure_13 rfl ?_
      subst h
      exact Ev.ret_i (pc := 17) dX7_isFigure_17 rfl nb_1
theorem r_X7_isFigure (a0 : Int32) (σ : St) : Rn md_X7_isFigure 0 [vI a0] SH σ (some (vI (p_X7_isFigure a0 σ)), SH, σ) := Rn.of ce_X7_isFigure.1 (Nat.le_of_ble_eq_true rfl) (e_X7_isFigure _ _ _ rfl)
def p_J9_min_7cf53 (a0 : Int32) (a1 : Int32) (σ : St) : Int32 := if a1 < a0 then a1 else a0
theorem e_J9_min_7cf53 (a0 : Int32) (a1 : Int32) (σ : St) (v : Int32) (h : p_J9_min_7cf53 a0 a1 σ = v) : Ev md_J9_min_7cf53 0 0 (lvE [vI a0, vI a1] 2) [] SH σ (some (vI v), SH, σ) := by
  show Ev md_J9_min_7cf53 0 0 [some (vI a0), some (vI a1)] [] SH σ (some (vI v), SH, σ)
  unfold p_J9_min_7cf53 at h
  refine Ev.iload_n (pc := 0) dJ9_min_7cf53_0 rfl rfl ?_
  refine Ev.iload_n (pc := 1) dJ9_min_7cf53_1 rfl rfl ?_
  by_cases c1 : a1 < a0
  · replace h := (if_pos c1).symm.trans h
    refine Ev.icmp_gt_t (pc := 2) (tgt := 9) dJ9_min_7cf53_2 rfl c1 ?_
    refine Ev.iload_n (pc := 9) dJ9_min_7cf53_9 rfl rfl ?_
    subst h
    exact Ev.ret_i (pc := 10) dJ9_min_7cf53_10 rfl rfl
  · replace h := (if_neg c1).symm.trans h
    refine Ev.icmp_gt_f (pc := 2) dJ9_min_7cf53_2 ⟨9, rfl⟩ c1 ?_
    refine Ev.iload_n (pc := 5) dJ9_min_7cf53_5 rfl rfl ?_
    refine Ev.goto (pc := 6) (tgt := 10) dJ9_min_7cf53_6 rfl ?_
    subst h
    exact Ev.ret_i (pc := 10) dJ9_min_7cf53_10 rfl rfl
theorem r_J9_min_7cf53 (a0 : Int32) (a1 : Int32) (σ : St) : Rn md_J9_min_7cf53 0 [vI a0, vI a1] SH σ (some (vI (p_J9_min_7cf53 a0 a1 σ)), SH, σ) := Rn.of ce_J9_min_7cf53.1 (Nat.le_of_ble_eq_true rfl) (e_J9_min_7cf53 _ _ _ _ rfl)
def j_X7_number_136 (N : Nat) (v3 : Int32) (σ : St) : Option (Int32 × St) := bt (t_X7_blame 2 (σ 21 3) σ) fun σ1 => some (v3, σ1)
def j_X7_number_90 (N : Nat) (v1 : Int32) (v2 : Int32) (v3 : Int32) (σ : St) : Option (Int32 × St) := if (σ 21 2) = (σ 21 3) then (bt (t_X7_blame 1 (σ 21 3) σ) fun σ5 => some (v3, σ5)) else (if (3 : Int32) < ((σ 21 2) - (σ 21 3)) then (j_X7_number_136 N v3 σ) else (if v3 < v1 then (j_X7_number_136 N v3 σ) else (if v3 ≤ v2 then (some (v3, σ)) else (j_X7_number_136 N v3 σ))))
def l_X7_number_23 (N : Nat) : Nat → Int32 → Int32 → Int32 → St → Option (Int32 × St)
  | 0, _, _, _, _ => none
  | n + 1, v1, v2, v3, σ => if (σ 21 1) ≤ (σ 21 2) then (j_X7_number_90 N v1 v2 v3 σ) else (if (p_X7_isFigure (at_ σ 22 250 (σ 21 2)) σ) = 0 then (j_X7_number_90 N v1 v2 v3 σ) else (bt ((((p_J9_min_7cf53 v3 1000 σ) * 10) + (at_ σ 22 250 (σ 21 2))) - 48) fun x3 => bt (st σ 21 2 ((σ 21 2) + 1)) fun σ4 => l_X7_number_23 N n v1 v2 x3 σ4))
def o_X7_number (N : Nat) (a1 : Int32) (a2 : Int32) (σ : St) : Option (Int32 × St) := if (σ 21 4) = 0 then (bd (o_X7_skipBlanks N  σ) fun u2 σ3 => bt (st σ3 21 3 (σ3 21 2)) fun σ5 => l_X7_number_23 N N a1 a2 0 σ5) else (some ((-1), σ))
theorem lj_X7_number_136 (N : Nat) (v3 : Int32) (σ : St) (v : Int32) (w : St) (h : j_X7_number_136 N v3 σ = some (v, w)) : Ev md_X7_number 2 136 [some (vR 21), none, none, some (vI v3)] [] SH σ (some (vI v), SH, w) := by
  unfold j_X7_number_136 at h
  refine Ev.aload_n (pc := 136) dX7_number_136 rfl rfl ?_
  refine Ev.iconst (pc := 137) (v := 2) dX7_number_137 ki_2 ?_
  refine Ev.aload_n (pc := 138) dX7_number_138 rfl rfl ?_
  refine Ev.getI (pc := 139) dX7_number_139 fl_X7_97 sh_21 rfl ?_
  refine Ev.cVv (pc := 142) (k := 21) (av := [vI 2, vI (σ 21 3)]) (rest := []) dX7_number_142 ce_X7_blame ml_X7_54 rfl sh_21 cl_X7 sh_sc (Nat.le_of_ble_eq_true rfl) (Nat.le_of_ble_eq_true rfl) (r_X7_blame _ _ _) ?_
  refine Ev.nmS (fun σ1 e9 => ?_)
  replace h := bt_app h σ1 e9
  refine Ev.iload_n (pc := 145) dX7_number_145 rfl rfl ?_
  obtain ⟨h1, h2⟩ := oeq h
  subst h1
  subst h2
  exact Ev.ret_i (pc := 146) dX7_number_146 rfl rfl
theorem lj_X7_number_90 (N : Nat) (v1 : Int32) (v2 : Int32) (v3 : Int32) (σ : St) (v : Int32) (w : St) (h : j_X7_number_90 N v1 v2 v3 σ = some (v, w)) : Ev md_X7_number 2 90 [some (vR 21), some (vI v1), some (vI v2), some (vI v3)] [] SH σ (some (vI v), SH, w) := by
  unfold j_X7_number_90 at h
  refine Ev.aload_n (pc := 90) dX7_number_90 rfl rfl ?_
  refine Ev.getI (pc := 91) dX7_number_91 fl_X7_26 sh_21 rfl ?_
  refine Ev.aload_n (pc := 94) dX7_number_94 rfl rfl ?_
  refine Ev.getI (pc := 95) dX7_number_95 fl_X7_97 sh_21 rfl ?_
  by_cases c1 : (σ 21 2) = (σ 21 3)
  · replace h := (if_pos c1).symm.trans h
    refine Ev.icmp_ne_f (pc := 98) dX7_number_98 ⟨113, rfl⟩ c1 ?_
    refine Ev.aload_n (pc := 101) dX7_number_101 rfl rfl ?_
    refine Ev.iconst (pc := 102) (v := 1) dX7_number_102 ki_1 ?_
    refine Ev.aload_n (pc := 103) dX7_number_103 rfl rfl ?_
    refine Ev.getI (pc := 104) dX7_number_104 fl_X7_97 sh_21 rfl ?_
    refine Ev.cVv (pc := 107) (k := 21) (av := [vI 1, vI (σ 21 3)]) (rest := []) dX7_number_107 ce_X7_blame ml_X7_54 rfl sh_21 cl_X7 sh_sc (Nat.le_of_ble_eq_true rfl) (Nat.le_of_ble_eq_true rfl) (r_X7_blame _ _ _) ?_
    refine Ev.nmS (fun σ5 e9 => ?_)
    replace h := bt_app h σ5 e9
    refine Ev.goto (pc := 110) (tgt := 145) dX7_number_110 rfl ?_
    refine Ev.iload_n (pc := 145) dX7_number_145 rfl rfl ?_
    obtain ⟨h1, h2⟩ := oeq h
    subst h1
    subst h2
    exact Ev.ret_i (pc := 146) dX7_number_146 rfl rfl
  · replace h := (if_neg c1).symm.trans h
    refine Ev.icmp_ne_t (pc := 98) (tgt := 113) dX7_number_98 rfl c1 ?_
    refine Ev.aload_n (pc := 113) dX7_number_113 rfl rfl ?_
    refine Ev.getI (pc := 114) dX7_number_114 fl_X7_26 sh_21 rfl ?_
    refine Ev.aload_n (pc := 117) dX7_number_117 rfl rfl ?_
    refine Ev.getI (pc := 118) dX7_number_118 fl_X7_97 sh_21 rfl ?_
    refine Ev.isub (pc := 121) dX7_number_121 ?_
    refine Ev.iconst (pc := 122) (v := 3) dX7_number_122 ki_3 ?_
    by_cases c2 : (3 : Int32) < ((σ 21 2) - (σ 21 3))
    · replace h := (if_pos c2).symm.trans h
      refine Ev.icmp_gt_t (pc := 123) (tgt := 136) dX7_number_123 rfl c2 ?_
      exact Ev.weak2 (lj_X7_number_136 N _ _ _ _ h) (lsubS (lsubN (lsubN (lsubS lsubE))))
    · replace h := (if_neg c2).symm.trans h
      refine Ev.icmp_gt_f (pc := 123) dX7_number_123 ⟨136, rfl⟩ c2 ?_
      refine Ev.iload_n (pc := 126) dX7_number_126 rfl rfl ?_
      refine Ev.iload_n (pc := 127) dX7_number_127 rfl rfl ?_
      by_cases c3 : v3 < v1
      · replace h := (if_pos c3).symm.trans h
        refine Ev.icmp_lt_t (pc := 128) (tgt := 136) dX7_number_128 rfl c3 ?_
        exact Ev.weak2 (lj_X7_number_136 N _ _ _ _ h) (lsubS (lsubN (lsubN (lsubS lsubE))))
      · replace h := (if_neg c3).symm.trans h
        refine Ev.icmp_lt_f (pc := 128) dX7_number_128 ⟨136, rfl⟩ c3 ?_
        refine Ev.iload_n (pc := 131) dX7_number_131 rfl rfl ?_
        refine Ev.iload_n (pc := 132) dX7_number_132 rfl rfl ?_
        by_cases c4 : v3 ≤ v2
        · replace h := (if_pos c4).symm.trans h
          refine Ev.icmp_le_t (pc := 133) (tgt := 145) dX7_number_133 rfl c4 ?_
          refine Ev.iload_n (pc := 145) dX7_number_145 rfl rfl ?_
          obtain ⟨h1, h2⟩ := oeq h
          subst h1
          subst h2
          exact Ev.ret_i (pc := 146) dX7_number_146 rfl rfl
        · replace h := (if_neg c4).symm.trans h
          refine Ev.icmp_le_f (pc := 133) dX7_number_133 ⟨145, rfl⟩ c4 ?_
          exact Ev.weak2 (lj_X7_number_136 N _ _ _ _ h) (lsubS (lsubN (lsubN (lsubS lsubE))))
theorem ll_X7_number_23 (N : Nat) : ∀ (n : Nat) (v1 : Int32) (v2 : Int32) (v3 : Int32) (σ : St) (v : Int32) (w : St), l_X7_number_23 N n v1 v2 v3 σ = some (v, w) → Ev md_X7_number 2 23 [some (vR 21), some (vI v1), some (vI v2), some (vI v3)] [] SH σ (some (vI v), SH, w) := by
  intro n
  induction n with
  | zero =>
    intro v1 v2 v3 σ v w h
    rw [l_X7_number_23] at h
    cases h
  | succ n ih =>
    intro v1 v2 v3 σ v w h
    rw [l_X7_number_23] at h
    refine Ev.aload_n (pc := 23) dX7_number_23 rfl rfl ?_
    refine Ev.getI (pc := 24) dX7_number_24 fl_X7_26 sh_21 rfl ?_
    refine Ev.aload_n (pc := 27) dX7_number_27 rfl rfl ?_
    refine Ev.getI (pc := 28) dX7_number_28 fl_X7_19 sh_21 rfl ?_
    by_cases c1 : (σ 21 1) ≤ (σ 21 2)
    · replace h := (if_pos c1).symm.trans h
      refine Ev.icmp_ge_t (pc := 31) (tgt := 90) dX7_number_31 rfl c1 ?_
      exact Ev.weak2 (lj_X7_number_90 N _ _ _ _ _ _ h) (lsubS (lsubS (lsubS (lsubS lsubE))))
    · replace h := (if_neg c1).symm.trans h
      refine Ev.icmp_ge_f (pc := 31) dX7_number_31 ⟨90, rfl⟩ c1 ?_
      refine Ev.aload_n (pc := 34) dX7_number_34 rfl rfl ?_
      refine Ev.getR (pc := 35) dX7_number_35 fl_X7_9 sh_21 rfl ?_
      refine Ev.aload_n (pc := 38) dX7_number_38 rfl rfl ?_
      refine Ev.getI (pc := 39) dX7_number_39 fl_X7_26 sh_21 rfl ?_
      refine Ev.cTi (pc := 42) (av := [vR 22, vI (σ 21 2)]) (rest := []) dX7_number_42 ce_X9_at ml_X7_47 rfl sh_sc (Nat.le_of_ble_eq_true rfl) (Nat.le_of_ble_eq_true rfl) (r_at sh_22 (by decide) _ _) ?_
      refine Ev.cTi (pc := 45) (av := [vI (at_ σ 22 250 (σ 21 2))]) (rest := []) dX7_number_45 ce_X7_isFigure ml_X7_133 rfl sh_sc (Nat.le_of_ble_eq_true rfl) (Nat.le_of_ble_eq_true rfl) (r_X7_isFigure _ _) ?_
      by_cases c2 : (p_X7_isFigure (at_ σ 22 250 (σ 21 2)) σ) = 0
      · replace h := (if_pos c2).symm.trans h
        refine Ev.if_eq_t (pc := 48) (tgt := 90) dX7_number_48 rfl c2 ?_
        exact Ev.weak2 (lj_X7_number_90 N _ _ _ _ _ _ h) (lsubS (lsubS (lsubS (lsubS lsubE))))
      · replace h := (if_neg c2).symm.trans h
        refine Ev.if_eq_f (pc := 48) dX7_number_48 ⟨90, rfl⟩ c2 ?_
        refine Ev.iload_n (pc := 51) dX7_number_51 rfl rfl ?_
        refine Ev.sipush (pc := 52) (v := 1000) dX7_number_52 ks_1000 ?_
        refine Ev.cTi (pc := 55) (av := [vI v3, vI 1000]) (rest := []) dX7_number_55 ce_J9_min_7cf53 ml_X7_137 rfl sh_sc (Nat.le_of_ble_eq_true rfl) (Nat.le_of_ble_eq_true rfl) (r_J9_min_7cf53 _ _ _) ?_
        refine Ev.bipush (pc := 58) (v := 10) dX7_number_58 kb_10 ?_
        refine Ev.imul (pc := 60) dX7_number_60 ?_
        refine Ev.aload_n (pc := 61) dX7_number_61 rfl rfl ?_
        refine Ev.getR (pc := 62) dX7_number_62 fl_X7_9 sh_21 rfl ?_
        refine Ev.aload_n (pc := 65) dX7_number_65 rfl rfl ?_
        refine Ev.getI (pc := 66) dX7_number_66 fl_X7_26 sh_21 rfl ?_
        refine Ev.cTi (pc := 69) (av := [vR 22, vI (σ 21 2)]) (rest := [vI ((p_J9_min_7cf53 v3 1000 σ) * 10)]) dX7_number_69 ce_X9_at ml_X7_47 rfl sh_sc (Nat.le_of_ble_eq_true rfl) (Nat.le_of_ble_eq_true rfl) (r_at sh_22 (by decide) _ _) ?_
        refine Ev.iadd (pc := 72) dX7_number_72 ?_
        refine Ev.bipush (pc := 73) (v := 48) dX7_number_73 kb_48 ?_
        refine Ev.isub (pc := 75) dX7_number_75 ?_
        refine Ev.nmI (fun x3 e9 => ?_)
        replace h := bt_app h x3 e9
        refine Ev.istore_n (pc := 76) (lv' := [some (vR 21), some (vI v1), some (vI v2), some (vI x3)]) dX7_number_76 rfl (lt9 rfl) rfl rfl ?_
        refine Ev.aload_n (pc := 77) dX7_number_77 rfl rfl ?_
        refine Ev.dup (pc := 78) dX7_number_78 rfl ?_
        refine Ev.getI (pc := 79) dX7_number_79 fl_X7_26 sh_21 rfl ?_
        refine Ev.iconst (pc := 82) (v := 1) dX7_number_82 ki_1 ?_
        refine Ev.iadd (pc := 83) dX7_number_83 ?_
        refine Ev.putI (pc := 84) dX7_number_84 pl_X7_26 sh_21 rfl rfl rfl ?_
        refine Ev.nmS (fun σ4 e9 => ?_)
        replace h := bt_app h σ4 e9
        refine Ev.goto (pc := 87) (tgt := 23) dX7_number_87 rfl ?_
        exact Ev.weak2 (ih _ _ _ _ _ _ h) (lsubS (lsubS (lsubS (lsubS lsubE))))
theorem e_X7_number (N : Nat) (a1 : Int32) (a2 : Int32) (σ : St) (v : Int32) (w : St) (h : o_X7_number N a1 a2 σ = some (v, w)) : Ev md_X7_number 2 0 (lvE [vR 21, vI a1, vI a2] 4) [] SH σ (some (vI v), SH, w) := by
  show Ev md_X7_number 2 0 [some (vR 21), some (vI a1), some (vI a2), none] [] SH σ (some (vI v), SH, w)
  unfold o_X7_number at h
  refine Ev.aload_n (pc := 0) dX7_number_0 rfl rfl ?_
  refine Ev.getI (pc := 1) dX7_number_1 fl_X7_29 sh_21 rfl ?_
  by_cases c1 : (σ 21 4) = 0
  · replace h := (if_pos c1).symm.trans h
    refine Ev.if_eq_t (pc := 4) (tgt := 9) dX7_number_4 rfl c1 ?_
    refine Ev.aload_n (pc := 9) dX7_number_9 rfl rfl ?_
    obtain ⟨u2, σ3, g4, h⟩ := bd_elim h
    refine Ev.cVv (pc := 10) (k := 21) (av := []) (rest := []) dX7_number_10 ce_X7_skipBlanks ml_X7_37 rfl sh_21 cl_X7 sh_sc (Nat.le_of_ble_eq_true rfl) (Nat.le_of_ble_eq_true rfl) (r_X7_skipBlanks g4) ?_
    refine Ev.aload_n (pc := 13) dX7_number_13 rfl rfl ?_
    refine Ev.aload_n (pc := 14) dX7_number_14 rfl rfl ?_
    refine Ev.getI (pc := 15) dX7_number_15 fl_X7_26 sh_21 rfl ?_
    refine Ev.putI (pc := 18) dX7_number_18 pl_X7_97 sh_21 rfl rfl rfl ?_
    refine Ev.nmS (fun σ5 e9 => ?_)
    replace h := bt_app h σ5 e9
    refine Ev.iconst (pc := 21) (v := 0) dX7_number_21 ki_0 ?_
    refine Ev.istore_n (pc := 22) (lv' := [some (vR 21), some (vI a1), some (vI a2), some (vI 0)]) dX7_number_22 rfl (lt9 rfl) rfl rfl ?_
    exact Ev.weak2 (ll_X7_number_23 N N _ _ _ _ _ _ h) (lsubS (lsubS (lsubS (lsubS lsubE))))
  · replace h := (if_neg c1).symm.trans h
    refine Ev.if_eq_f (pc := 4) dX7_number_4 ⟨9, rfl⟩ c1 ?_
    refine Ev.iconst (pc := 7) (v := (-1)) dX7_number_7 ki_m1 ?_
    obtain ⟨h1, h2⟩ := oeq h
    subst h1
    subst h2
    exact Ev.ret_i (pc := 8) dX7_number_8 rfl rfl
theorem r_X7_number {N : Nat} {a1 : Int32} {a2 : Int32} {σ : St} {v : Int32} {w : St} (h : o_X7_number N a1 a2 σ = some (v, w)) : Rn md_X7_number 2 [vR 21, vI a1, vI a2] SH σ (some (vI v), SH, w) := Rn.of ce_X7_number.1 (Nat.le_of_ble_eq_true rfl) (e_X7_number N _ _ _ _ _ h)
def j_X7_isEnd_40 (N : Nat)  (σ : St) : Option (Int32 × St) := bt (t_X7_blame 1 (σ 21 2) σ) fun σ1 => some (0, σ1)
def o_X7_isEnd (N : Nat)  (σ : St) : Option (Int32 × St) := if (σ 21 4) = 0 then (bd (o_X7_skipBlanks N  σ) fun u2 σ3 => if (σ3 21 1) ≤ (σ3 21 2) then (j_X7_isEnd_40 N σ3) else (if (at_ σ3 22 250 (σ3 21 2)) = 59 then (bt (st σ3 21 2 ((σ3 21 2) + 1)) fun σ7 => some (1, σ7)) else (j_X7_isEnd_40 N σ3))) else (some (0, σ))
theorem lj_X7_isEnd_40 (N : Nat)  (σ : St) (v : Int32) (w : St) (h : j_X7_isEnd_40 N  σ = some (v, w)) : Ev md_X7_isEnd 2 40 [some (vR 21)] [] SH σ (some (vI v), SH, w) := by
  unfold j_X7_isEnd_40 at h
  refine Ev.aload_n (pc := 40) dX7_isEnd_40 rfl rfl ?_
  refine Ev.iconst (pc := 41) (v := 1) dX7_isEnd_41 ki_1 ?_
  refine Ev.aload_n (pc := 42) dX7_isEnd_42 rfl rfl ?_
  refine Ev.getI (pc := 43) dX7_isEnd_43 fl_X7_26 sh_21 rfl ?_
  refine Ev.cVv (pc := 46) (k := 21) (av := [vI 1, vI (σ 21 2)]) (rest := []) dX7_isEnd_46 ce_X7_blame ml_X7_54 rfl sh_21 cl_X7 sh_sc (Nat.le_of_ble_eq_true rfl) (Nat.le_of_ble_eq_true rfl) (r_X7_blame _ _ _) ?_
  refine Ev.nmS (fun σ1 e9 => ?_)
  replace h := bt_app h σ1 e9
  refine Ev.iconst (pc := 49) (v := 0) dX7_isEnd_49 ki_0 ?_
  obtain ⟨h1, h2⟩ := oeq h
  subst h1
  subst h2
  exact Ev.ret_i (pc := 50) dX7_isEnd_50 rfl nb_0
theorem e_X7_isEnd (N : Nat)  (σ : St) (v : Int32) (w : St) (h : o_X7_isEnd N  σ = some (v, w)) : Ev md_X7_isEnd 2 0 (lvE [vR 21] 1) [] SH σ (some (vI v), SH, w) := by
  show Ev md_X7_isEnd 2 0 [some (vR 21)] [] SH σ (some (vI v), SH, w)
  unfold o_X7_isEnd at h
  refine Ev.aload_n (pc := 0) dX7_isEnd_0 rfl rfl ?_
  refine Ev.getI (pc := 1) dX7_isEnd_1 fl_X7_29 sh_21 rfl ?_
  by_cases c1 : (σ 21 4) = 0
  · replace h := (if_pos c1).symm.trans h
    refine Ev.if_eq_t (pc := 4) (tgt := 9) dX7_isEnd_4 rfl c1 ?_
    refine Ev.aload_n (pc := 9) dX7_isEnd_9 rfl rfl ?_
    obtain ⟨u2, σ3, g4, h⟩ := bd_elim h
    refine Ev.cVv (pc := 10) (k := 21) (av := []) (rest := []) dX7_isEnd_10 ce_X7_skipBlanks ml_X7_37 rfl sh_21 cl_X7 sh_sc (Nat.le_of_ble_eq_true rfl) (Nat.le_of_ble_eq_true rfl) (r_X7_skipBlanks g4) ?_
    refine Ev.aload_n (pc := 13) dX7_isEnd_13 rfl rfl ?_
    refine Ev.getI (pc := 14) dX7_isEnd_14 fl_X7_26 sh_21 rfl ?_
    refine Ev.aload_n (pc := 17) dX7_isEnd_17 rfl rfl ?_
    refine Ev.getI (pc := 18) dX7_isEnd_18 fl_X7_19 sh_21 rfl ?_
    by_cases c5 : (σ3 21 1) ≤ (σ3 21 2)
    · replace h := (if_pos c5).symm.trans h
      refine Ev.icmp_ge_t (pc := 21) (tgt := 40) dX7_isEnd_21 rfl c5 ?_
      exact Ev.weak2 (lj_X7_isEnd_40 N _ _ _ h) (lsubS lsubE)
    · replace h := (if_neg c5).symm.trans h
      refine Ev.icmp_ge_f (pc := 21) dX7_isEnd_21 ⟨40, rfl⟩ c5 ?_
      refine Ev.aload_n (pc := 24) dX7_isEnd_24 rfl rfl ?_
      refine Ev.getR (pc := 25) dX7_isEnd_25 fl_X7_9 sh_21 rfl ?_
      refine Ev.aload_n (pc := 28) dX7_isEnd_28 rfl rfl ?_
      refine Ev.getI (pc := 29) dX7_isEnd_29 fl_X7_26 sh_21 rfl ?_
      refine Ev.cTi (pc := 32) (av := [vR 22, vI (σ3 21 2)]) (rest := []) dX7_isEnd_32 ce_X9_at ml_X7_47 rfl sh_sc (Nat.le_of_ble_eq_true rfl) (Nat.le_of_ble_eq_true rfl) (r_at sh_22 (by decide) _ _) ?_
      refine Ev.bipush (pc := 35) (v := 59) dX7_isEnd_35 kb_59 ?_
      by_cases c6 : (at_ σ3 22 250 (σ3 21 2)) = 59
      · replace h := (if_pos c6).symm.trans h
        refine Ev.icmp_eq_t (pc := 37) (tgt := 51) dX7_isEnd_37 rfl c6 ?_
        refine Ev.aload_n (pc := 51) dX7_isEnd_51 rfl rfl ?_
        refine Ev.dup (pc := 52) dX7_isEnd_52 rfl ?_
        refine Ev.getI (pc := 53) dX7_isEnd_53 fl_X7_26 sh_21 rfl ?_
        refine Ev.iconst (pc := 56) (v := 1) dX7_isEnd_56 ki_1 ?_
        refine Ev.iadd (pc := 57) dX7_isEnd_57 ?_
        refine Ev.putI (pc := 58) dX7_isEnd_58 pl_X7_26 sh_21 rfl rfl rfl ?_
        refine Ev.nmS (fun σ7 e9 => ?_)
        replace h := bt_app h σ7 e9
        refine Ev.iconst (pc := 61) (v := 1) dX7_isEnd_61 ki_1 ?_
        obtain ⟨h1, h2⟩ := oeq h
        subst h1
        subst h2
        exact Ev.ret_i (pc := 62) dX7_isEnd_62 rfl nb_1
      · replace h := (if_neg c6).symm.trans h
        refine Ev.icmp_eq_f (pc := 37) dX7_isEnd_37 ⟨51, rfl⟩ c6 ?_
        exact Ev.weak2 (lj_X7_isEnd_40 N _ _ _ h) (lsubS lsubE)
  · replace h := (if_neg c1).symm.trans h
    refine Ev.if_eq_f (pc := 4) dX7_isEnd_4 ⟨9, rfl⟩ c1 ?_
    refine Ev.iconst (pc := 7) (v := 0) dX7_isEnd_7 ki_0 ?_
    obtain ⟨h1, h2⟩ := oeq h
    subst h1
    subst h2
    exact Ev.ret_i (pc := 8) dX7_isEnd_8 rfl nb_0
theorem r_X7_isEnd {N : Nat}  {σ : St} {v : Int32} {w : St} (h : o_X7_isEnd N  σ = some (v, w)) : Rn md_X7_isEnd 2 [vR 21] SH σ (some (vI v), SH, w) := Rn.of ce_X7_isEnd.1 (Nat.le_of_ble_eq_true rfl) (e_X7_isEnd N  _ _ _ h)
def o_X7_readKeeper_21_11 (N : Nat)  (σ : St) : Option (Unit × St) := bt (st σ 21 2 ((σ 21 2) + 1)) fun σ1 => bd (o_X7_number N 0 ((σ1 11 0) - 1) σ1) fun x2 σ3 => bd (o_X7_number N 0 2 σ3) fun x5 σ6 => bd (o_X7_isEnd N  σ6) fun x8 σ9 => if x8 = 0 then (some ((), σ9)) else (bt (put_ σ9 12 3 (σ9 11 2) x2) fun σ12 => bt (put_ σ12 13 3 (σ12 11 2) x5) fun σ13 => bt (st σ13 11 2 ((σ13 11 2) + 1)) fun σ14 => some ((), σ14))
theorem e_X7_readKeeper_21_11 (N : Nat)  (σ : St) (v : Unit) (w : St) (h : o_X7_readKeeper_21_11 N  σ = some (v, w)) : Ev md_X7_readKeeper 3 0 (lvE [vR 21, vR 11] 4) [] SH σ (none, SH, w) := by
  show Ev md_X7_readKeeper 3 0 [some (vR 21), some (vR 11), none, none] [] SH σ (none, SH, w)
  unfold o_X7_readKeeper_21_11 at h
  refine Ev.aload_n (pc := 0) dX7_readKeeper_0 rfl rfl ?_
  refine Ev.dup (pc := 1) dX7_readKeeper_1 rfl ?_
  refine Ev.getI (pc := 2) dX7_readKeeper_2 fl_X7_26 sh_21 rfl ?_
  refine Ev.iconst (pc := 5) (v := 1) dX7_readKeeper_5 ki_1 ?_
  refine Ev.iadd (pc := 6) dX7_readKeeper_6 ?_
  refine Ev.putI (pc := 7) dX7_readKeeper_7 pl_X7_26 sh_21 rfl rfl rfl ?_
  refine Ev.nmS (fun σ1 e9 => ?_)
  replace h := bt_app h σ1 e9
  refine Ev.aload_n (pc := 10) dX7_readKeeper_10 rfl rfl ?_
  refine Ev.iconst (pc := 11) (v := 0) dX7_readKeeper_11 ki_0 ?_
  refine Ev.aload_n (pc := 12) dX7_readKeeper_12 rfl rfl ?_
  refine Ev.getI (pc := 13) dX7_readKeeper_13 fl_X7_51 sh_11 rfl ?_
  refine Ev.iconst (pc := 16) (v := 1) dX7_readKeeper_16 ki_1 ?_
  refine Ev.isub (pc := 17) dX7_readKeeper_17 ?_
  obtain ⟨x2, σ3, g4, h⟩ := bd_elim h
  refine Ev.cVi (pc := 18) (k := 21) (av := [vI 0, vI ((σ1 11 0) - 1)]) (rest := []) dX7_readKeeper_18 ce_X7_number ml_X7_89 rfl sh_21 cl_X7 sh_sc (Nat.le_of_ble_eq_true rfl) (Nat.le_of_ble_eq_true rfl) (r_X7_number g4) ?_
  refine Ev.istore_n (pc := 21) (lv' := [some (vR 21), some (vR 11), some (vI x2), none]) dX7_readKeeper_21 rfl (lt9 rfl) rfl rfl ?_
  refine Ev.aload_n (pc := 22) dX7_readKeeper_22 rfl rfl ?_
  refine Ev.iconst (pc := 23) (v := 0) dX7_readKeeper_23 ki_0 ?_
  refine Ev.iconst (pc := 24) (v := 2) dX7_readKeeper_24 ki_2 ?_
  obtain ⟨x5, σ6, g7, h⟩ := bd_elim h
  refine Ev.cVi (pc := 25) (k := 21) (av := [vI 0, vI 2]) (rest := []) dX7_readKeeper_25 ce_X7_number ml_X7_89 rfl sh_21 cl_X7 sh_sc (Nat.le_of_ble_eq_true rfl) (Nat.le_of_ble_eq_true rfl) (r_X7_number g7) ?_
  refine Ev.istore_n (pc := 28) (lv' := [some (vR 21), some (vR 11), some (vI x2), some (vI x5)]) dX7_readKeeper_28 rfl (lt9 rfl) rfl rfl ?_
  refine Ev.aload_n (pc := 29) dX7_readKeeper_29 rfl rfl ?_
  obtain ⟨x8, σ9, g10, h⟩ := bd_elim h
  refine Ev.cVi (pc := 30) (k := 21) (av := []) (rest := []) dX7_readKeeper_30 ce_X7_isEnd ml_X7_93 rfl sh_21 cl_X7 sh_sc (Nat.le_of_ble_eq_true rfl) (Nat.le_of_ble_eq_true rfl) (r_X7_isEnd g10) ?_
  by_cases c11 : x8 = 0
  · replace h := (if_pos c11).symm.trans h
    refine Ev.if_eq_t (pc := 33) (tgt := 70) dX7_readKeeper_33 rfl c11 ?_
    obtain ⟨h1, h2⟩ := oeq h
    subst h1
    subst h2
    exact Ev.ret_v (pc := 70) dX7_readKeeper_70 rfl
  · replace h := (if_neg c11).symm.trans h
    refine Ev.if_eq_f (pc := 33) dX7_readKeeper_33 ⟨70, rfl⟩ c11 ?_
    refine Ev.aload_n (pc := 36) dX7_readKeeper_36 rfl rfl ?_
    refine Ev.getR (pc := 37) dX7_readKeeper_37 fl_X7_104 sh_11 rfl ?_
    refine Ev.aload_n (pc := 40) dX7_readKeeper_40 rfl rfl ?_
    refine Ev.getI (pc := 41) dX7_readKeeper_41 fl_X7_80 sh_11 rfl ?_
    refine Ev.iload_n (pc := 44) dX7_readKeeper_44 rfl rfl ?_
    refine Ev.cTv (pc := 45) (av := [vR 12, vI (σ9 11 2), vI x2]) (rest := []) dX7_readKeeper_45 ce_X9_put ml_X7_22 rfl sh_sc (Nat.le_of_ble_eq_true rfl) (Nat.le_of_ble_eq_true rfl) (r_put sh_12 (by decide) _ _ _) ?_
    refine Ev.nmS (fun σ12 e9 => ?_)
    replace h := bt_app h σ12 e9
    refine Ev.aload_n (pc := 48) dX7_readKeeper_48 rfl rfl ?_
    refine Ev.getR (pc := 49) dX7_readKeeper_49 fl_X7_107 sh_11 rfl ?_
    refine Ev.aload_n (pc := 52) dX7_readKeeper_52 rfl rfl ?_
    refine Ev.getI (pc := 53) dX7_readKeeper_53 fl_X7_80 sh_11 rfl ?_
    refine Ev.iload_n (pc := 56) dX7_readKeeper_56 rfl rfl ?_
    refine Ev.cTv (pc := 57) (av := [vR 13, vI (σ12 11 2), vI x5]) (rest := []) dX7_readKeeper_57 ce_X9_put ml_X7_22 rfl sh_sc (Nat.le_of_ble_eq_true rfl) (Nat.le_of_ble_eq_true rfl) (r_put sh_13 (by decide) _ _ _) ?_
    refine Ev.nmS (fun σ13 e9 => ?_)
    replace h := bt_app h σ13 e9
    refine Ev.aload_n (pc := 60) dX7_readKeeper_60 rfl rfl ?_
    refine Ev.dup (pc := 61) dX7_readKeeper_61 rfl ?_
    refine Ev.getI (pc := 62) dX7_readKeeper_62 fl_X7_80 sh_11 rfl ?_
    refine Ev.iconst (pc := 65) (v := 1) dX7_readKeeper_65 ki_1 ?_
    refine Ev.iadd (pc := 66) dX7_readKeeper_66 ?_
    refine Ev.putI (pc := 67) dX7_readKeeper_67 pl_X7_80 sh_11 rfl rfl rfl ?_
    refine Ev.nmS (fun σ14 e9 => ?_)
    replace h := bt_app h σ14 e9
    obtain ⟨h1, h2⟩ := oeq h
    subst h1
    subst h2
    exact Ev.ret_v (pc := 70) dX7_readKeeper_70 rfl
theorem r_X7_readKeeper_21_11 {N : Nat}  {σ : St} {v : Unit} {w : St} (h : o_X7_readKeeper_21_11 N  σ = some (v, w)) : Rn md_X7_readKeeper 3 [vR 21, vR 11] SH σ (none, SH, w) := Rn.of ce_X7_readKeeper.1 (Nat.le_of_ble_eq_true rfl) (e_X7_readKeeper_21_11 N  _ _ _ h)
def j_X7_readPromise_21_11_180 (N : Nat) (s1 : Int32) (s2 : Int32) (σ : St) : Option (Unit × St) := bt (put_ σ 19 7 s1 s2) fun σ1 => bt (st σ1 11 3 ((σ1 11 3) + 1)) fun σ2 => some ((), σ2)
def j_X7_readPromise_21_11_95 (N : Nat) (v2 : Int32) (v3 : Int32) (v4 : Int32) (v5 : Int32) (v6 : Int32) (v7 : Int32) (σ : St) : Option (Unit × St) := bd (o_X7_isEnd N  σ) fun x1 σ2 => if x1 = 0 then (some ((), σ2)) else (bt (σ2 11 3) fun x5 => bt (put_ σ2 14 7 x5 v2) fun σ6 => bt (put_ σ6 15 7 x5 v3) fun σ7 => bt (put_ σ7 16 7 x5 v4) fun σ8 => bt (put_ σ8 17 7 x5 v5) fun σ9 => bt (put_ σ9 18 7 x5 v6) fun σ10 => if v7 = 9 then (j_X7_readPromise_21_11_180 N x5 (-1) σ10) else (j_X7_readPromise_21_11_180 N x5 v7 σ10))
def o_X7_readPromise_21_11 (N : Nat)  (σ : St) : Option (Unit × St) := bt (st σ 21 2 ((σ 21 2) + 1)) fun σ1 => bd (o_X7_number N 0 ((σ1 11 2) - 1) σ1) fun x2 σ3 => bd (o_X7_number N 0 ((σ3 11 0) - 1) σ3) fun x5 σ6 => bd (o_X7_number N 1 60 σ6) fun x8 σ9 => bd (o_X7_number N 0 9 σ9) fun x11 σ12 => bd (o_X7_number N 1 9 σ12) fun x14 σ15 => bd (o_X7_number N 0 9 σ15) fun x17 σ18 => if x17 = 9 then (j_X7_readPromise_21_11_95 N x2 x5 x8 x11 x14 x17 σ18) else (if x17 < (σ18 11 3) then (j_X7_readPromise_21_11_95 N x2 x5 x8 x11 x14 x17 σ18) else (bt (t_X7_blame 2 (σ18 21 3) σ18) fun σ22 => j_X7_readPromise_21_11_95 N x2 x5 x8 x11 x14 x17 σ22))
theorem lj_X7_readPromise_21_11_180 (N : Nat) (s1 : Int32) (s2 : Int32) (σ : St) (v : Unit) (w : St) (h : j_X7_readPromise_21_11_180 N s1 s2 σ = some (v, w)) : Ev md_X7_readPromise 3 180 [none, some (vR 11), none, none, none, none, none, none, none] [vI s2, vI s1, vR 19] SH σ (none, SH, w) := by
  unfold j_X7_readPromise_21_11_180 at h
  refine Ev.cTv (pc := 180) (av := [vR 19, vI s1, vI s2]) (rest := []) dX7_readPromise_180 ce_X9_put ml_X7_22 rfl sh_sc (Nat.le_of_ble_eq_true rfl) (Nat.le_of_ble_eq_true rfl) (r_put sh_19 (by decide) _ _ _) ?_
  refine Ev.nmS (fun σ1 e9 => ?_)
  replace h := bt_app h σ1 e9
  refine Ev.aload_n (pc := 183) dX7_readPromise_183 rfl rfl ?_
  refine Ev.dup (pc := 184) dX7_readPromise_184 rfl ?_
  refine Ev.getI (pc := 185) dX7_readPromise_185 fl_X7_83 sh_11 rfl ?_
  refine Ev.iconst (pc := 188) (v := 1) dX7_readPromise_188 ki_1 ?_
  refine Ev.iadd (pc := 189) dX7_readPromise_189 ?_
  refine Ev.putI (pc := 190) dX7_readPromise_190 pl_X7_83 sh_11 rfl rfl rfl ?_
  refine Ev.nmS (fun σ2 e9 => ?_)
  replace h := bt_app h σ2 e9
  obtain ⟨h1, h2⟩ := oeq h
  subst h1
  subst h2
  exact Ev.ret_v (pc := 193) dX7_readPromise_193 rfl
theorem lj_X7_readPromise_21_11_95 (N : Nat) (v2 : Int32) (v3 : Int32) (v4 : Int32) (v5 : Int32) (v6 : Int32) (v7 : Int32) (σ : St) (v : Unit) (w : St) (h : j_X7_readPromise_21_11_95 N v2 v3 v4 v5 v6 v7 σ = some (v, w)) : Ev md_X7_readPromise 3 95 [some (vR 21), some (vR 11), some (vI v2), some (vI v3), some (vI v4), some (vI v5), some (vI v6), some (vI v7), none] [] SH σ (none, SH, w) := by
  unfold j_X7_readPromise_21_11_95 at h
  refine Ev.aload_n (pc := 95) dX7_readPromise_95 rfl rfl ?_
  obtain ⟨x1, σ2, g3, h⟩ := bd_elim h
  refine Ev.cVi (pc := 96) (k := 21) (av := []) (rest := []) dX7_readPromise_96 ce_X7_isEnd ml_X7_93 rfl sh_21 cl_X7 sh_sc (Nat.le_of_ble_eq_true rfl) (Nat.le_of_ble_eq_true rfl) (r_X7_isEnd g3) ?_
  by_cases c4 : x1 = 0
  · replace h := (if_pos c4).symm.trans h
    refine Ev.if_eq_t (pc := 99) (tgt := 193) dX7_readPromise_99 rfl c4 ?_
    obtain ⟨h1, h2⟩ := oeq h
    subst h1
    subst h2
    exact Ev.ret_v (pc := 193) dX7_readPromise_193 rfl
  · replace h := (if_neg c4).symm.trans h
    refine Ev.if_eq_f (pc := 99) dX7_readPromise_99 ⟨193, rfl⟩ c4 ?_
    refine Ev.aload_n (pc := 102) dX7_readPromise_102 rfl rfl ?_
    refine Ev.getI (pc := 103) dX7_readPromise_103 fl_X7_83 sh_11 rfl ?_
    refine Ev.nmI (fun x5 e9 => ?_)
    replace h := bt_app h x5 e9
    refine Ev.istore (pc := 106) (lv' := [some (vR 21), some (vR 11), some (vI v2), some (vI v3), some (vI v4), some (vI v5), some (vI v6), some (vI v7), some (vI x5)]) dX7_readPromise_106 (lt9 rfl) rfl rfl ?_
    refine Ev.aload_n (pc := 108) dX7_readPromise_108 rfl rfl ?_
    refine Ev.getR (pc := 109) dX7_readPromise_109 fl_X7_110 sh_11 rfl ?_
    refine Ev.iload (pc := 112) dX7_readPromise_112 rfl ?_
    refine Ev.iload_n (pc := 114) dX7_readPromise_114 rfl rfl ?_
    refine Ev.cTv (pc := 115) (av := [vR 14, vI x5, vI v2]) (rest := []) dX7_readPromise_115 ce_X9_put ml_X7_22 rfl sh_sc (Nat.le_of_ble_eq_true rfl) (Nat.le_of_ble_eq_true rfl) (r_put sh_14 (by decide) _ _ _) ?_
    refine Ev.nmS (fun σ6 e9 => ?_)
    replace h := bt_app h σ6 e9
    refine Ev.aload_n (pc := 118) dX7_readPromise_118 rfl rfl ?_
    refine Ev.getR (pc := 119) dX7_readPromise_119 fl_X7_113 sh_11 rfl ?_
    refine Ev.iload (pc := 122) dX7_readPromise_122 rfl ?_
    refine Ev.iload_n (pc := 124) dX7_readPromise_124 rfl rfl ?_
    refine Ev.cTv (pc := 125) (av := [vR 15, vI x5, vI v3]) (rest := []) dX7_readPromise_125 ce_X9_put ml_X7_22 rfl sh_sc (Nat.le_of_ble_eq_true rfl) (Nat.le_of_ble_eq_true rfl) (r_put sh_15 (by decide) _ _ _) ?_
    refine Ev.nmS (fun σ7 e9 => ?_)
    replace h := bt_app h σ7 e9
    refine Ev.aload_n (pc := 128) dX7_readPromise_128 rfl rfl ?_
    refine Ev.getR (pc := 129) dX7_readPromise_129 fl_X7_115 sh_11 rfl ?_
    refine Ev.iload (pc := 132) dX7_readPromise_132 rfl ?_
    refine Ev.iload (pc := 134) dX7_readPromise_134 rfl ?_
    refine Ev.cTv (pc := 136) (av := [vR 16, vI x5, vI v4]) (rest := []) dX7_readPromise_136 ce_X9_put ml_X7_22 rfl sh_sc (Nat.le_of_ble_eq_true rfl) (Nat.le_of_ble_eq_true rfl) (r_put sh_16 (by decide) _ _ _) ?_
    refine Ev.nmS (fun σ8 e9 => ?_)
    replace h := bt_app h σ8 e9
    refine Ev.aload_n (pc := 139) dX7_readPromise_139 rfl rfl ?_
    refine Ev.getR (pc := 140) dX7_readPromise_140 fl_X7_118 sh_11 rfl ?_
    refine Ev.iload (pc := 143) dX7_readPromise_143 rfl ?_
    refine Ev.iload (pc := 145) dX7_readPromise_145 rfl ?_
    refine Ev.cTv (pc := 147) (av := [vR 17, vI x5, vI v5]) (rest := []) dX7_readPromise_147 ce_X9_put ml_X7_22 rfl sh_sc (Nat.le_of_ble_eq_true rfl) (Nat.le_of_ble_eq_true rfl) (r_put sh_17 (by decide) _ _ _) ?_
    refine Ev.nmS (fun σ9 e9 => ?_)
    replace h := bt_app h σ9 e9
    refine Ev.aload_n (pc := 150) dX7_readPromise_150 rfl rfl ?_
    refine Ev.getR (pc := 151) dX7_readPromise_151 fl_X7_121 sh_11 rfl ?_
    refine Ev.iload (pc := 154) dX7_readPromise_154 rfl ?_
    refine Ev.iload (pc := 156) dX7_readPromise_156 rfl ?_
    refine Ev.cTv (pc := 158) (av := [vR 18, vI x5, vI v6]) (rest := []) dX7_readPromise_158 ce_X9_put ml_X7_22 rfl sh_sc (Nat.le_of_ble_eq_true rfl) (Nat.le_of_ble_eq_true rfl) (r_put sh_18 (by decide) _ _ _) ?_
    refine Ev.nmS (fun σ10 e9 => ?_)
    replace h := bt_app h σ10 e9
    refine Ev.aload_n (pc := 161) dX7_readPromise_161 rfl rfl ?_
    refine Ev.getR (pc := 162) dX7_readPromise_162 fl_X7_124 sh_11 rfl ?_
    refine Ev.iload (pc := 165) dX7_readPromise_165 rfl ?_
    refine Ev.iload (pc := 167) dX7_readPromise_167 rfl ?_
    refine Ev.bipush (pc := 169) (v := 9) dX7_readPromise_169 kb_9 ?_
    by_cases c11 : v7 = 9
    · replace h := (if_pos c11).symm.trans h
      refine Ev.icmp_ne_f (pc := 171) dX7_readPromise_171 ⟨178, rfl⟩ c11 ?_
      refine Ev.iconst (pc := 174) (v := (-1)) dX7_readPromise_174 ki_m1 ?_
      refine Ev.goto (pc := 175) (tgt := 180) dX7_readPromise_175 rfl ?_
      exact Ev.weak2 (lj_X7_readPromise_21_11_180 N _ _ _ _ _ h) (lsubN (lsubS (lsubN (lsubN (lsubN (lsubN (lsubN (lsubN (lsubN lsubE)))))))))
    · replace h := (if_neg c11).symm.trans h
      refine Ev.icmp_ne_t (pc := 171) (tgt := 178) dX7_readPromise_171 rfl c11 ?_
      refine Ev.iload (pc := 178) dX7_readPromise_178 rfl ?_
      exact Ev.weak2 (lj_X7_readPromise_21_11_180 N _ _ _ _ _ h) (lsubN (lsubS (lsubN (lsubN (lsubN (lsubN (lsubN (lsubN (lsubN lsubE)))))))))
theorem e_X7_readPromise_21_11 (N : Nat)  (σ : St) (v : Unit) (w : St) (h : o_X7_readPromise_21_11 N  σ = some (v, w)) : Ev md_X7_readPromise 3 0 (lvE [vR 21, vR 11] 9) [] SH σ (none, SH, w) := by
  show Ev md_X7_readPromise 3 0 [some (vR 21), some (vR 11), none, none, none, none, none, none, none] [] SH σ (none, SH, w)
  unfold o_X7_readPromise_21_11 at h
  refine Ev.aload_n (pc := 0) dX7_readPromise_0 rfl rfl ?_
  refine Ev.dup (pc := 1) dX7_readPromise_1 rfl ?_
  refine Ev.getI (pc := 2) dX7_readPromise_2 fl_X7_26 sh_21 rfl ?_
  refine Ev.iconst (pc := 5) (v := 1) dX7_readPromise_5 ki_1 ?_
  refine Ev.iadd (pc := 6) dX7_readPromise_6 ?_
  refine Ev.putI (pc := 7) dX7_readPromise_7 pl_X7_26 sh_21 rfl rfl rfl ?_
  refine Ev.nmS (fun σ1 e9 => ?_)
  replace h := bt_app h σ1 e9
  refine Ev.aload_n (pc := 10) dX7_readPromise_10 rfl rfl ?_
  refine Ev.iconst (pc := 11) (v := 0) dX7_readPromise_11 ki_0 ?_
  refine Ev.aload_n (pc := 12) dX7_readPromise_12 rfl rfl ?_
  refine Ev.getI (pc := 13) dX7_readPromise_13 fl_X7_80 sh_11 rfl ?_
  refine Ev.iconst (pc := 16) (v := 1) dX7_readPromise_16 ki_1 ?_
  refine Ev.isub (pc := 17) dX7_readPromise_17 ?_
  obtain ⟨x2, σ3, g4, h⟩ := bd_elim h
  refine Ev.cVi (pc := 18) (k := 21) (av := [vI 0, vI ((σ1 11 2) - 1)]) (rest := []) dX7_readPromise_18 ce_X7_number ml_X7_89 rfl sh_21 cl_X7 sh_sc (Nat.le_of_ble_eq_true rfl) (Nat.le_of_ble_eq_true rfl) (r_X7_number g4) ?_
  refine Ev.istore_n (pc := 21) (lv' := [some (vR 21), some (vR 11), some (vI x2), none, none, none, none, none, none]) dX7_readPromise_21 rfl (lt9 rfl) rfl rfl ?_
  refine Ev.aload_n (pc := 22) dX7_readPromise_22 rfl rfl ?_
  refine Ev.iconst (pc := 23) (v := 0) dX7_readPromise_23 ki_0 ?_
  refine Ev.aload_n (pc := 24) dX7_readPromise_24 rfl rfl ?_
  refine Ev.getI (pc := 25) dX7_readPromise_25 fl_X7_51 sh_11 rfl ?_
  refine Ev.iconst (pc := 28) (v := 1) dX7_readPromise_28 ki_1 ?_
  refine Ev.isub (pc := 29) dX7_readPromise_29 ?_
  obtain ⟨x5, σ6, g7, h⟩ := bd_elim h
  refine Ev.cVi (pc := 30) (k := 21) (av := [vI 0, vI ((σ3 11 0) - 1)]) (rest := []) dX7_readPromise_30 ce_X7_number ml_X7_89 rfl sh_21 cl_X7 sh_sc (Nat.le_of_ble_eq_true rfl) (Nat.le_of_ble_eq_true rfl) (r_X7_number g7) ?_
  refine Ev.istore_n (pc := 33) (lv' := [some (vR 21), some (vR 11), some (vI x2), some (vI x5), none, none, none, none, none]) dX7_readPromise_33 rfl (lt9 rfl) rfl rfl ?_
  refine Ev.aload_n (pc := 34) dX7_readPromise_34 rfl rfl ?_
  refine Ev.iconst (pc := 35) (v := 1) dX7_readPromise_35 ki_1 ?_
  refine Ev.bipush (pc := 36) (v := 60) dX7_readPromise_36 kb_60 ?_
  obtain ⟨x8, σ9, g10, h⟩ := bd_elim h
  refine Ev.cVi (pc := 38) (k := 21) (av := [vI 1, vI 60]) (rest := []) dX7_readPromise_38 ce_X7_number ml_X7_89 rfl sh_21 cl_X7 sh_sc (Nat.le_of_ble_eq_true rfl) (Nat.le_of_ble_eq_true rfl) (r_X7_number g10) ?_
  refine Ev.istore (pc := 41) (lv' := [some (vR 21), some (vR 11), some (vI x2), some (vI x5), some (vI x8), none, none, none, none]) dX7_readPromise_41 (lt9 rfl) rfl rfl ?_
  refine Ev.aload_n (pc := 43) dX7_readPromise_43 rfl rfl ?_
  refine Ev.iconst (pc := 44) (v := 0) dX7_readPromise_44 ki_0 ?_
  refine Ev.bipush (pc := 45) (v := 9) dX7_readPromise_45 kb_9 ?_
  obtain ⟨x11, σ12, g13, h⟩ := bd_elim h
  refine Ev.cVi (pc := 47) (k := 21) (av := [vI 0, vI 9]) (rest := []) dX7_readPromise_47 ce_X7_number ml_X7_89 rfl sh_21 cl_X7 sh_sc (Nat.le_of_ble_eq_true rfl) (Nat.le_of_ble_eq_true rfl) (r_X7_number g13) ?_
  refine Ev.istore (pc := 50) (lv' := [some (vR 21), some (vR 11), some (vI x2), some (vI x5), some (vI x8), some (vI x11), none, none, none]) dX7_readPromise_50 (lt9 rfl) rfl rfl ?_
  refine Ev.aload_n (pc := 52) dX7_readPromise_52 rfl rfl ?_
  refine Ev.iconst (pc := 53) (v := 1) dX7_readPromise_53 ki_1 ?_
  refine Ev.bipush (pc := 54) (v := 9) dX7_readPromise_54 kb_9 ?_
  obtain ⟨x14, σ15, g16, h⟩ := bd_elim h
  refine Ev.cVi (pc := 56) (k := 21) (av := [vI 1, vI 9]) (rest := []) dX7_readPromise_56 ce_X7_number ml_X7_89 rfl sh_21 cl_X7 sh_sc (Nat.le_of_ble_eq_true rfl) (Nat.le_of_ble_eq_true rfl) (r_X7_number g16) ?_
  refine Ev.istore (pc := 59) (lv' := [some (vR 21), some (vR 11), some (vI x2), some (vI x5), some (vI x8), some (vI x11), some (vI x14), none, none]) dX7_readPromise_59 (lt9 rfl) rfl rfl ?_
  refine Ev.aload_n (pc := 61) dX7_readPromise_61 rfl rfl ?_
  refine Ev.iconst (pc := 62) (v := 0) dX7_readPromise_62 ki_0 ?_
  refine Ev.bipush (pc := 63) (v := 9) dX7_readPromise_63 kb_9 ?_
  obtain ⟨x17, σ18, g19, h⟩ := bd_elim h
  refine Ev.cVi (pc := 65) (k := 21) (av := [vI 0, vI 9]) (rest := []) dX7_readPromise_65 ce_X7_number ml_X7_89 rfl sh_21 cl_X7 sh_sc (Nat.le_of_ble_eq_true rfl) (Nat.le_of_ble_eq_true rfl) (r_X7_number g19) ?_
  refine Ev.istore (pc := 68) (lv' := [some (vR 21), some (vR 11), some (vI x2), some (vI x5), some (vI x8), some (vI x11), some (vI x14), some (vI x17), none]) dX7_readPromise_68 (lt9 rfl) rfl rfl ?_
  refine Ev.iload (pc := 70) dX7_readPromise_70 rfl ?_
  refine Ev.bipush (pc := 72) (v := 9) dX7_readPromise_72 kb_9 ?_
  by_cases c20 : x17 = 9
  · replace h := (if_pos c20).symm.trans h
    refine Ev.icmp_eq_t (pc := 74) (tgt := 95) dX7_readPromise_74 rfl c20 ?_
    exact Ev.weak2 (lj_X7_readPromise_21_11_95 N _ _ _ _ _ _ _ _ _ h) (lsubS (lsubS (lsubS (lsubS (lsubS (lsubS (lsubS (lsubS (lsubN lsubE)))))))))
  · replace h := (if_neg c20).symm.trans h
    refine Ev.icmp_eq_f (pc := 74) dX7_readPromise_74 ⟨95, rfl⟩ c20 ?_
    refine Ev.iload (pc := 77) dX7_readPromise_77 rfl ?_
    refine Ev.aload_n (pc := 79) dX7_readPromise_79 rfl rfl ?_
    refine Ev.getI (pc := 80) dX7_readPromise_80 fl_X7_83 sh_11 rfl ?_
    by_cases c21 : x17 < (σ18 11 3)
    · replace h := (if_pos c21).symm.trans h
      refine Ev.icmp_lt_t (pc := 83) (tgt := 95) dX7_readPromise_83 rfl c21 ?_
      exact Ev.weak2 (lj_X7_readPromise_21_11_95 N _ _ _ _ _ _ _ _ _ h) (lsubS (lsubS (lsubS (lsubS (lsubS (lsubS (lsubS (lsubS (lsubN lsubE)))))))))
    · replace h := (if_neg c21).symm.trans h
      refine Ev.icmp_lt_f (pc := 83) dX7_readPromise_83 ⟨95, rfl⟩ c21 ?_
      refine Ev.aload_n (pc := 86) dX7_readPromise_86 rfl rfl ?_
      refine Ev.iconst (pc := 87) (v := 2) dX7_readPromise_87 ki_2 ?_
      refine Ev.aload_n (pc := 88) dX7_readPromise_88 rfl rfl ?_
      refine Ev.getI (pc := 89) dX7_readPromise_89 fl_X7_97 sh_21 rfl ?_
      refine Ev.cVv (pc := 92) (k := 21) (av := [vI 2, vI (σ18 21 3)]) (rest := []) dX7_readPromise_92 ce_X7_blame ml_X7_54 rfl sh_21 cl_X7 sh_sc (Nat.le_of_ble_eq_true rfl) (Nat.le_of_ble_eq_true rfl) (r_X7_blame _ _ _) ?_
      refine Ev.nmS (fun σ22 e9 => ?_)
      replace h := bt_app h σ22 e9
      exact Ev.weak2 (lj_X7_readPromise_21_11_95 N _ _ _ _ _ _ _ _ _ h) (lsubS (lsubS (lsubS (lsubS (lsubS (lsubS (lsubS (lsubS (lsubN lsubE)))))))))
theorem r_X7_readPromise_21_11 {N : Nat}  {σ : St} {v : Unit} {w : St} (h : o_X7_readPromise_21_11 N  σ = some (v, w)) : Rn md_X7_readPromise 3 [vR 21, vR 11] SH σ (none, SH, w) := Rn.of ce_X7_readPromise.1 (Nat.le_of_ble_eq_true rfl) (e_X7_readPromise_21_11 N  _ _ _ h)
def j_X5_shorten_11_26 (v1 : Int32) (v2 : Int32) (v3 : Int32) (σ : St) : St := bt (put_ σ 20 25 ((v1 * 5) + v2) v3) fun σ1 => σ1
def t_X5_shorten_11 (a1 : Int32) (a2 : Int32) (a3 : Int32) (σ : St) : St := bt (at_ σ 20 25 ((a1 * 5) + a2)) fun x1 => if x1 = (-1) then (j_X5_shorten_11_26 a1 a2 a3 σ) else (if x1 ≤ a3 then σ else (j_X5_shorten_11_26 a1 a2 a3 σ))
theorem lj_X5_shorten_11_26 (v1 : Int32) (v2 : Int32) (v3 : Int32) (σ : St) (q : St) (h : j_X5_shorten_11_26 v1 v2 v3 σ = q) : Ev md_X5_shorten 1 26 [some (vR 11), some (vI v1), some (vI v2), some (vI v3), none] [] SH σ (none, SH, q) := by
  unfold j_X5_shorten_11_26 at h
  refine Ev.aload_n (pc := 26) dX5_shorten_26 rfl rfl ?_
  refine Ev.getR (pc := 27) dX5_shorten_27 fl_X5_36 sh_11 rfl ?_
  refine Ev.iload_n (pc := 30) dX5_shorten_30 rfl rfl ?_
  refine Ev.iconst (pc := 31) (v := 5) dX5_shorten_31 ki_5 ?_
  refine Ev.imul (pc := 32) dX5_shorten_32 ?_
  refine Ev.iload_n (pc := 33) dX5_shorten_33 rfl rfl ?_
  refine Ev.iadd (pc := 34) dX5_shorten_34 ?_
  refine Ev.iload_n (pc := 35) dX5_shorten_35 rfl rfl ?_
  refine Ev.cTv (pc := 36) (av := [vR 20, vI ((v1 * 5) + v2), vI v3]) (rest := []) dX5_shorten_36 ce_X9_put ml_X5_69 rfl sh_sc (Nat.le_of_ble_eq_true rfl) (Nat.le_of_ble_eq_true rfl) (r_put sh_20 (by decide) _ _ _) ?_
  refine Ev.nmS (fun σ1 e9 => ?_)
  replace h := bt_app h σ1 e9
  subst h
  exact Ev.ret_v (pc := 39) dX5_shorten_39 rfl
theorem e_X5_shorten_11 (a1 : Int32) (a2 : Int32) (a3 : Int32) (σ : St) (q : St) (h : t_X5_shorten_11 a1 a2 a3 σ = q) : Ev md_X5_shorten 1 0 (lvE [vR 11, vI a1, vI a2, vI a3] 5) [] SH σ (none, SH, q) := by
  show Ev md_X5_shorten 1 0 [some (vR 11), some (vI a1), some (vI a2), some (vI a3), none] [] SH σ (none, SH, q)
  unfold t_X5_shorten_11 at h
  refine Ev.aload_n (pc := 0) dX5_shorten_0 rfl rfl ?_
  refine Ev.getR (pc := 1) dX5_shorten_1 fl_X5_36 sh_11 rfl ?_
  refine Ev.iload_n (pc := 4) dX5_shorten_4 rfl rfl ?_
  refine Ev.iconst (pc := 5) (v := 5) dX5_shorten_5 ki_5 ?_
  refine Ev.imul (pc := 6) dX5_shorten_6 ?_
  refine Ev.iload_n (pc := 7) dX5_shorten_7 rfl rfl ?_
  refine Ev.iadd (pc := 8) dX5_shorten_8 ?_
  refine Ev.cTi (pc := 9) (av := [vR 20, vI ((a1 * 5) + a2)]) (rest := []) dX5_shorten_9 ce_X9_at ml_X5_65 rfl sh_sc (Nat.le_of_ble_eq_true rfl) (Nat.le_of_ble_eq_true rfl) (r_at sh_20 (by decide) _ _) ?_
  refine Ev.nmI (fun x1 e9 => ?_)
  replace h := bt_app h x1 e9
  refine Ev.istore (pc := 12) (lv' := [some (vR 11), some (vI a1), some (vI a2), some (vI a3), some (vI x1)]) dX5_shorten_12 (lt9 rfl) rfl rfl ?_
  refine Ev.iload (pc := 14) dX5_shorten_14 rfl ?_
  refine Ev.iconst (pc := 16) (v := (-1)) dX5_shorten_16 ki_m1 ?_
  by_cases c2 : x1 = (-1)
  · replace h := (if_pos c2).symm.trans h
    refine Ev.icmp_eq_t (pc := 17) (tgt := 26) dX5_shorten_17 rfl c2 ?_
    exact Ev.weak2 (lj_X5_shorten_11_26 _ _ _ _ _ h) (lsubS (lsubS (lsubS (lsubS (lsubN lsubE)))))
  · replace h := (if_neg c2).symm.trans h
    refine Ev.icmp_eq_f (pc := 17) dX5_shorten_17 ⟨26, rfl⟩ c2 ?_
    refine Ev.iload_n (pc := 20) dX5_shorten_20 rfl rfl ?_
    refine Ev.iload (pc := 21) dX5_shorten_21 rfl ?_
    by_cases c3 : x1 ≤ a3
    · replace h := (if_pos c3).symm.trans h
      refine Ev.icmp_ge_t (pc := 23) (tgt := 39) dX5_shorten_23 rfl c3 ?_
      subst h
      exact Ev.ret_v (pc := 39) dX5_shorten_39 rfl
    · replace h := (if_neg c3).symm.trans h
      refine Ev.icmp_ge_f (pc := 23) dX5_shorten_23 ⟨39, rfl⟩ c3 ?_
      exact Ev.weak2 (lj_X5_shorten_11_26 _ _ _ _ _ h) (lsubS (lsubS (lsubS (lsubS (lsubN lsubE)))))
theorem r_X5_shorten_11 (a1 : Int32) (a2 : Int32) (a3 : Int32) (σ : St) : Rn md_X5_shorten 1 [vR 11, vI a1, vI a2, vI a3] SH σ (none, SH, t_X5_shorten_11 a1 a2 a3 σ) := Rn.of ce_X5_shorten.1 (Nat.le_of_ble_eq_true rfl) (e_X5_shorten_11 _ _ _ _ _ rfl)
def t_X5_addRoad_11 (a1 : Int32) (a2 : Int32) (a3 : Int32) (σ : St) : St := bt (st σ 11 1 ((σ 11 1) + 1)) fun σ1 => bt (t_X5_shorten_11 a1 a2 a3 σ1) fun σ2 => bt (t_X5_shorten_11 a2 a1 a3 σ2) fun σ3 => σ3
theorem e_X5_addRoad_11 (a1 : Int32) (a2 : Int32) (a3 : Int32) (σ : St) (q : St) (h : t_X5_addRoad_11 a1 a2 a3 σ = q) : Ev md_X5_addRoad 2 0 (lvE [vR 11, vI a1, vI a2, vI a3] 4) [] SH σ (none, SH, q) := by
  show Ev md_X5_addRoad 2 0 [some (vR 11), some (vI a1), some (vI a2), some (vI a3)] [] SH σ (none, SH, q)
  unfold t_X5_addRoad_11 at h
  refine Ev.aload_n (pc := 0) dX5_addRoad_0 rfl rfl ?_
  refine Ev.dup (pc := 1) dX5_addRoad_1 rfl ?_
  refine Ev.getI (pc := 2) dX5_addRoad_2 fl_X5_43 sh_11 rfl ?_
  refine Ev.iconst (pc := 5) (v := 1) dX5_addRoad_5 ki_1 ?_
  refine Ev.iadd (pc := 6) dX5_addRoad_6 ?_
  refine Ev.putI (pc := 7) dX5_addRoad_7 pl_X5_43 sh_11 rfl rfl rfl ?_
  refine Ev.nmS (fun σ1 e9 => ?_)
  replace h := bt_app h σ1 e9
  refine Ev.aload_n (pc := 10) dX5_addRoad_10 rfl rfl ?_
  refine Ev.iload_n (pc := 11) dX5_addRoad_11 rfl rfl ?_
  refine Ev.iload_n (pc := 12) dX5_addRoad_12 rfl rfl ?_
  refine Ev.iload_n (pc := 13) dX5_addRoad_13 rfl rfl ?_
  refine Ev.cVv (pc := 14) (k := 11) (av := [vI a1, vI a2, vI a3]) (rest := []) dX5_addRoad_14 ce_X5_shorten ml_X5_61 rfl sh_11 cl_X5 sh_sc (Nat.le_of_ble_eq_true rfl) (Nat.le_of_ble_eq_true rfl) (r_X5_shorten_11 _ _ _ _) ?_
  refine Ev.nmS (fun σ2 e9 => ?_)
  replace h := bt_app h σ2 e9
  refine Ev.aload_n (pc := 17) dX5_addRoad_17 rfl rfl ?_
  refine Ev.iload_n (pc := 18) dX5_addRoad_18 rfl rfl ?_
  refine Ev.iload_n (pc := 19) dX5_addRoad_19 rfl rfl ?_
  refine Ev.iload_n (pc := 20) dX5_addRoad_20 rfl rfl ?_
  refine Ev.cVv (pc := 21) (k := 11) (av := [vI a2, vI a1, vI a3]) (rest := []) dX5_addRoad_21 ce_X5_shorten ml_X5_61 rfl sh_11 cl_X5 sh_sc (Nat.le_of_ble_eq_true rfl) (Nat.le_of_ble_eq_true rfl) (r_X5_shorten_11 _ _ _ _) ?_
  refine Ev.nmS (fun σ3 e9 => ?_)
  replace h := bt_app h σ3 e9
  subst h
  exact Ev.ret_v (pc := 24) dX5_addRoad_24 rfl
theorem r_X5_addRoad_11 (a1 : Int32) (a2 : Int32) (a3 : Int32) (σ : St) : Rn md_X5_addRoad 2 [vR 11, vI a1, vI a2, vI a3] SH σ (none, SH, t_X5_addRoad_11 a1 a2 a3 σ) := Rn.of ce_X5_addRoad.1 (Nat.le_of_ble_eq_true rfl) (e_X5_addRoad_11 _ _ _ _ _ rfl)
def j_X7_readRoad_21_11_48 (N : Nat) (v2 : Int32) (v3 : Int32) (σ : St) : Option (Unit × St) := bd (o_X7_number N 1 9 σ) fun x1 σ2 => bd (o_X7_isEnd N  σ2) fun x4 σ5 => if x4 = 0 then (some ((), σ5)) else (bt (t_X5_addRoad_11 v2 v3 x1 σ5) fun σ8 => some ((), σ8))
def o_X7_readRoad_21_11 (N : Nat)  (σ : St) : Option (Unit × St) := bt (st σ 21 2 ((σ 21 2) + 1)) fun σ1 => bd (o_X7_number N 0 ((σ1 11 0) - 1) σ1) fun x2 σ3 => bd (o_X7_number N 0 ((σ3 11 0) - 1) σ3) fun x5 σ6 => if x2 = x5 then (bt (t_X7_blame 4 (σ6 21 3) σ6) fun σ9 => j_X7_readRoad_21_11_48 N x2 x5 σ9) else (j_X7_readRoad_21_11_48 N x2 x5 σ6)
theorem lj_X7_readRoad_21_11_48 (N : Nat) (v2 : Int32) (v3 : Int32) (σ : St) (v : Unit) (w : St) (h : j_X7_readRoad_21_11_48 N v2 v3 σ = some (v, w)) : Ev md_X7_readRoad 3 48 [some (vR 21), some (vR 11), some (vI v2), some (vI v3), none] [] SH σ (none, SH, w) := by
  unfold j_X7_readRoad_21_11_48 at h
  refine Ev.aload_n (pc := 48) dX7_readRoad_48 rfl rfl ?_
  refine Ev.iconst (pc := 49) (v := 1) dX7_readRoad_49 ki_1 ?_
  refine Ev.bipush (pc := 50) (v := 9) dX7_readRoad_50 kb_9 ?_
  obtain ⟨x1, σ2, g3, h⟩ := bd_elim h
  refine Ev.cVi (pc := 52) (k := 21) (av := [vI 1, vI 9]) (rest := []) dX7_readRoad_52 ce_X7_number ml_X7_89 rfl sh_21 cl_X7 sh_sc (Nat.le_of_ble_eq_true rfl) (Nat.le_of_ble_eq_true rfl) (r_X7_number g3) ?_
  refine Ev.istore (pc := 55) (lv' := [some (vR 21), some (vR 11), some (vI v2), some (vI v3), some (vI x1)]) dX7_readRoad_55 (lt9 rfl) rfl rfl ?_
  refine Ev.aload_n (pc := 57) dX7_readRoad_57 rfl rfl ?_
  obtain ⟨x4, σ5, g6, h⟩ := bd_elim h
  refine Ev.cVi (pc := 58) (k := 21) (av := []) (rest := []) dX7_readRoad_58 ce_X7_isEnd ml_X7_93 rfl sh_21 cl_X7 sh_sc (Nat.le_of_ble_eq_true rfl) (Nat.le_of_ble_eq_true rfl) (r_X7_isEnd g6) ?_
  by_cases c7 : x4 = 0
  · replace h := (if_pos c7).symm.trans h
    refine Ev.if_eq_t (pc := 61) (tgt := 72) dX7_readRoad_61 rfl c7 ?_
    obtain ⟨h1, h2⟩ := oeq h
    subst h1
    subst h2
    exact Ev.ret_v (pc := 72) dX7_readRoad_72 rfl
  · replace h := (if_neg c7).symm.trans h
    refine Ev.if_eq_f (pc := 61) dX7_readRoad_61 ⟨72, rfl⟩ c7 ?_
    refine Ev.aload_n (pc := 64) dX7_readRoad_64 rfl rfl ?_
    refine Ev.iload_n (pc := 65) dX7_readRoad_65 rfl rfl ?_
    refine Ev.iload_n (pc := 66) dX7_readRoad_66 rfl rfl ?_
    refine Ev.iload (pc := 67) dX7_readRoad_67 rfl ?_
    refine Ev.cVv (pc := 69) (k := 11) (av := [vI v2, vI v3, vI x1]) (rest := []) dX7_readRoad_69 ce_X5_addRoad ml_X7_100 rfl sh_11 cl_X5 sh_sc (Nat.le_of_ble_eq_true rfl) (Nat.le_of_ble_eq_true rfl) (r_X5_addRoad_11 _ _ _ _) ?_
    refine Ev.nmS (fun σ8 e9 => ?_)
    replace h := bt_app h σ8 e9
    obtain ⟨h1, h2⟩ := oeq h
    subst h1
    subst h2
    exact Ev.ret_v (pc := 72) dX7_readRoad_72 rfl
theorem e_X7_readRoad_21_11 (N : Nat)  (σ : St) (v : Unit) (w : St) (h : o_X7_readRoad_21_11 N  σ = some (v, w)) : Ev md_X7_readRoad 3 0 (lvE [vR 21, vR 11] 5) [] SH σ (none, SH, w) := by
  show Ev md_X7_readRoad 3 0 [some (vR 21), some (vR 11), none, none, none] [] SH σ (none, SH, w)
  unfold o_X7_readRoad_21_11 at h
  refine Ev.aload_n (pc := 0) dX7_readRoad_0 rfl rfl ?_
  refine Ev.dup (pc := 1) dX7_readRoad_1 rfl ?_
  refine Ev.getI (pc := 2) dX7_readRoad_2 fl_X7_26 sh_21 rfl ?_
  refine Ev.iconst (pc := 5) (v := 1) dX7_readRoad_5 ki_1 ?_
  refine Ev.iadd (pc := 6) dX7_readRoad_6 ?_
  refine Ev.putI (pc := 7) dX7_readRoad_7 pl_X7_26 sh_21 rfl rfl rfl ?_
  refine Ev.nmS (fun σ1 e9 => ?_)
  replace h := bt_app h σ1 e9
  refine Ev.aload_n (pc := 10) dX7_readRoad_10 rfl rfl ?_
  refine Ev.iconst (pc := 11) (v := 0) dX7_readRoad_11 ki_0 ?_
  refine Ev.aload_n (pc := 12) dX7_readRoad_12 rfl rfl ?_
  refine Ev.getI (pc := 13) dX7_readRoad_13 fl_X7_51 sh_11 rfl ?_
  refine Ev.iconst (pc := 16) (v := 1) dX7_readRoad_16 ki_1 ?_
  refine Ev.isub (pc := 17) dX7_readRoad_17 ?_
  obtain ⟨x2, σ3, g4, h⟩ := bd_elim h
  refine Ev.cVi (pc := 18) (k := 21) (av := [vI 0, vI ((σ1 11 0) - 1)]) (rest := []) dX7_readRoad_18 ce_X7_number ml_X7_89 rfl sh_21 cl_X7 sh_sc (Nat.le_of_ble_eq_true rfl) (Nat.le_of_ble_eq_true rfl) (r_X7_number g4) ?_
  refine Ev.istore_n (pc := 21) (lv' := [some (vR 21), some (vR 11), some (vI x2), none, none]) dX7_readRoad_21 rfl (lt9 rfl) rfl rfl ?_
  refine Ev.aload_n (pc := 22) dX7_readRoad_22 rfl rfl ?_
  refine Ev.iconst (pc := 23) (v := 0) dX7_readRoad_23 ki_0 ?_
  refine Ev.aload_n (pc := 24) dX7_readRoad_24 rfl rfl ?_
  refine Ev.getI (pc := 25) dX7_readRoad_25 fl_X7_51 sh_11 rfl ?_
  refine Ev.iconst (pc := 28) (v := 1) dX7_readRoad_28 ki_1 ?_
  refine Ev.isub (pc := 29) dX7_readRoad_29 ?_
  obtain ⟨x5, σ6, g7, h⟩ := bd_elim h
  refine Ev.cVi (pc := 30) (k := 21) (av := [vI 0, vI ((σ3 11 0) - 1)]) (rest := []) dX7_readRoad_30 ce_X7_number ml_X7_89 rfl sh_21 cl_X7 sh_sc (Nat.le_of_ble_eq_true rfl) (Nat.le_of_ble_eq_true rfl) (r_X7_number g7) ?_
  refine Ev.istore_n (pc := 33) (lv' := [some (vR 21), some (vR 11), some (vI x2), some (vI x5), none]) dX7_readRoad_33 rfl (lt9 rfl) rfl rfl ?_
  refine Ev.iload_n (pc := 34) dX7_readRoad_34 rfl rfl ?_
  refine Ev.iload_n (pc := 35) dX7_readRoad_35 rfl rfl ?_
  by_cases c8 : x2 = x5
  · replace h := (if_pos c8).symm.trans h
    refine Ev.icmp_ne_f (pc := 36) dX7_readRoad_36 ⟨48, rfl⟩ c8 ?_
    refine Ev.aload_n (pc := 39) dX7_readRoad_39 rfl rfl ?_
    refine Ev.iconst (pc := 40) (v := 4) dX7_readRoad_40 ki_4 ?_
    refine Ev.aload_n (pc := 41) dX7_readRoad_41 rfl rfl ?_
    refine Ev.getI (pc := 42) dX7_readRoad_42 fl_X7_97 sh_21 rfl ?_
    refine Ev.cVv (pc := 45) (k := 21) (av := [vI 4, vI (σ6 21 3)]) (rest := []) dX7_readRoad_45 ce_X7_blame ml_X7_54 rfl sh_21 cl_X7 sh_sc (Nat.le_of_ble_eq_true rfl) (Nat.le_of_ble_eq_true rfl) (r_X7_blame _ _ _) ?_
    refine Ev.nmS (fun σ9 e9 => ?_)
    replace h := bt_app h σ9 e9
    exact Ev.weak2 (lj_X7_readRoad_21_11_48 N _ _ _ _ _ h) (lsubS (lsubS (lsubS (lsubS (lsubN lsubE)))))
  · replace h := (if_neg c8).symm.trans h
    refine Ev.icmp_ne_t (pc := 36) (tgt := 48) dX7_readRoad_36 rfl c8 ?_
    exact Ev.weak2 (lj_X7_readRoad_21_11_48 N _ _ _ _ _ h) (lsubS (lsubS (lsubS (lsubS (lsubN lsubE)))))
theorem r_X7_readRoad_21_11 {N : Nat}  {σ : St} {v : Unit} {w : St} (h : o_X7_readRoad_21_11 N  σ = some (v, w)) : Rn md_X7_readRoad 3 [vR 21, vR 11] SH σ (none, SH, w) := Rn.of ce_X7_readRoad.1 (Nat.le_of_ble_eq_true rfl) (e_X7_readRoad_21_11 N  _ _ _ h)
def o_X7_readTowns_21_11 (N : Nat)  (σ : St) : Option (Unit × St) := bt (st σ 21 2 ((σ 21 2) + 1)) fun σ1 => bd (o_X7_number N 1 5 σ1) fun x2 σ3 => bd (o_X7_isEnd N  σ3) fun x5 σ6 => if x5 = 0 then (some ((), σ6)) else (bt (st σ6 11 0 x2) fun σ9 => some ((), σ9))
theorem e_X7_readTowns_21_11 (N : Nat)  (σ : St) (v : Unit) (w : St) (h : o_X7_readTowns_21_11 N  σ = some (v, w)) : Ev md_X7_readTowns 3 0 (lvE [vR 21, vR 11] 3) [] SH σ (none, SH, w) := by
  show Ev md_X7_readTowns 3 0 [some (vR 21), some (vR 11), none] [] SH σ (none, SH, w)
  unfold o_X7_readTowns_21_11 at h
  refine Ev.aload_n (pc := 0) dX7_readTowns_0 rfl rfl ?_
  refine Ev.dup (pc := 1) dX7_readTowns_1 rfl ?_
  refine Ev.getI (pc := 2) dX7_readTowns_2 fl_X7_26 sh_21 rfl ?_
  refine Ev.iconst (pc := 5) (v := 1) dX7_readTowns_5 ki_1 ?_
  refine Ev.iadd (pc := 6) dX7_readTowns_6 ?_
  refine Ev.putI (pc := 7) dX7_readTowns_7 pl_X7_26 sh_21 rfl rfl rfl ?_
  refine Ev.nmS (fun σ1 e9 => ?_)
  replace h := bt_app h σ1 e9
  refine Ev.aload_n (pc := 10) dX7_readTowns_10 rfl rfl ?_
  refine Ev.iconst (pc := 11) (v := 1) dX7_readTowns_11 ki_1 ?_
  refine Ev.iconst (pc := 12) (v := 5) dX7_readTowns_12 ki_5 ?_
  obtain ⟨x2, σ3, g4, h⟩ := bd_elim h
  refine Ev.cVi (pc := 13) (k := 21) (av := [vI 1, vI 5]) (rest := []) dX7_readTowns_13 ce_X7_number ml_X7_89 rfl sh_21 cl_X7 sh_sc (Nat.le_of_ble_eq_true rfl) (Nat.le_of_ble_eq_true rfl) (r_X7_number g4) ?_
  refine Ev.istore_n (pc := 16) (lv' := [some (vR 21), some (vR 11), some (vI x2)]) dX7_readTowns_16 rfl (lt9 rfl) rfl rfl ?_
  refine Ev.aload_n (pc := 17) dX7_readTowns_17 rfl rfl ?_
  obtain ⟨x5, σ6, g7, h⟩ := bd_elim h
  refine Ev.cVi (pc := 18) (k := 21) (av := []) (rest := []) dX7_readTowns_18 ce_X7_isEnd ml_X7_93 rfl sh_21 cl_X7 sh_sc (Nat.le_of_ble_eq_true rfl) (Nat.le_of_ble_eq_true rfl) (r_X7_isEnd g7) ?_
  by_cases c8 : x5 = 0
  · replace h := (if_pos c8).symm.trans h
    refine Ev.if_eq_t (pc := 21) (tgt := 29) dX7_readTowns_21 rfl c8 ?_
    obtain ⟨h1, h2⟩ := oeq h
    subst h1
    subst h2
    exact Ev.ret_v (pc := 29) dX7_readTowns_29 rfl
  · replace h := (if_neg c8).symm.trans h
    refine Ev.if_eq_f (pc := 21) dX7_readTowns_21 ⟨29, rfl⟩ c8 ?_
    refine Ev.aload_n (pc := 24) dX7_readTowns_24 rfl rfl ?_
    refine Ev.iload_n (pc := 25) dX7_readTowns_25 rfl rfl ?_
    refine Ev.putI (pc := 26) dX7_readTowns_26 pl_X7_51 sh_11 rfl rfl rfl ?_
    refine Ev.nmS (fun σ9 e9 => ?_)
    replace h := bt_app h σ9 e9
    obtain ⟨h1, h2⟩ := oeq h
    subst h1
    subst h2
    exact Ev.ret_v (pc := 29) dX7_readTowns_29 rfl
theorem r_X7_readTowns_21_11 {N : Nat}  {σ : St} {v : Unit} {w : St} (h : o_X7_readTowns_21_11 N  σ = some (v, w)) : Rn md_X7_readTowns 3 [vR 21, vR 11] SH σ (none, SH, w) := Rn.of ce_X7_readTowns.1 (Nat.le_of_ble_eq_true rfl) (e_X7_readTowns_21_11 N  _ _ _ h)
def j_X7_readWinter_21_11_50 (N : Nat) (v2 : Int32) (v3 : Int32) (v4 : Int32) (σ : St) : Option (Unit × St) := bd (o_X7_isEnd N  σ) fun x1 σ2 => if x1 = 0 then (some ((), σ2)) else (bt (st σ2 11 4 v2) fun σ5 => bt (st σ5 11 5 v3) fun σ6 => bt (st σ6 11 6 v4) fun σ7 => some ((), σ7))
def o_X7_readWinter_21_11 (N : Nat)  (σ : St) : Option (Unit × St) := bt (st σ 21 2 ((σ 21 2) + 1)) fun σ1 => bd (o_X7_number N 0 98 σ1) fun x2 σ3 => bd (o_X7_number N 0 98 σ3) fun x5 σ6 => bd (o_X7_number N 2 99 σ6) fun x8 σ9 => if x5 < x8 then (j_X7_readWinter_21_11_50 N x2 x5 x8 σ9) else (bt (t_X7_blame 4 (σ9 21 3) σ9) fun σ12 => j_X7_readWinter_21_11_50 N x2 x5 x8 σ12)
theorem lj_X7_readWinter_21_11_50 (N : Nat) (v2 : Int32) (v3 : Int32) (v4 : Int32) (σ : St) (v : Unit) (w : St) (h : j_X7_readWinter_21_11_50 N v2 v3 v4 σ = some (v, w)) : Ev md_X7_readWinter 3 50 [some (vR 21), some (vR 11), some (vI v2), some (vI v3), some (vI v4)] [] SH σ (none, SH, w) := by
  unfold j_X7_readWinter_21_11_50 at h
  refine Ev.aload_n (pc := 50) dX7_readWinter_50 rfl rfl ?_
  obtain ⟨x1, σ2, g3, h⟩ := bd_elim h
  refine Ev.cVi (pc := 51) (k := 21) (av := []) (rest := []) dX7_readWinter_51 ce_X7_isEnd ml_X7_93 rfl sh_21 cl_X7 sh_sc (Nat.le_of_ble_eq_true rfl) (Nat.le_of_ble_eq_true rfl) (r_X7_isEnd g3) ?_
  by_cases c4 : x1 = 0
  · replace h := (if_pos c4).symm.trans h
    refine Ev.if_eq_t (pc := 54) (tgt := 73) dX7_readWinter_54 rfl c4 ?_
    obtain ⟨h1, h2⟩ := oeq h
    subst h1
    subst h2
    exact Ev.ret_v (pc := 73) dX7_readWinter_73 rfl
  · replace h := (if_neg c4).symm.trans h
    refine Ev.if_eq_f (pc := 54) dX7_readWinter_54 ⟨73, rfl⟩ c4 ?_
    refine Ev.aload_n (pc := 57) dX7_readWinter_57 rfl rfl ?_
    refine Ev.iload_n (pc := 58) dX7_readWinter_58 rfl rfl ?_
    refine Ev.putI (pc := 59) dX7_readWinter_59 pl_X7_127 sh_11 rfl rfl rfl ?_
    refine Ev.nmS (fun σ5 e9 => ?_)
    replace h := bt_app h σ5 e9
    refine Ev.aload_n (pc := 62) dX7_readWinter_62 rfl rfl ?_
    refine Ev.iload_n (pc := 63) dX7_readWinter_63 rfl rfl ?_
    refine Ev.putI (pc := 64) dX7_readWinter_64 pl_X7_130 sh_11 rfl rfl rfl ?_
    refine Ev.nmS (fun σ6 e9 => ?_)
    replace h := bt_app h σ6 e9
    refine Ev.aload_n (pc := 67) dX7_readWinter_67 rfl rfl ?_
    refine Ev.iload (pc := 68) dX7_readWinter_68 rfl ?_
    refine Ev.putI (pc := 70) dX7_readWinter_70 pl_X7_86 sh_11 rfl rfl rfl ?_
    refine Ev.nmS (fun σ7 e9 => ?_)
    replace h := bt_app h σ7 e9
    obtain ⟨h1, h2⟩ := oeq h
    subst h1
    subst h2
    exact Ev.ret_v (pc := 73) dX7_readWinter_73 rfl
theorem e_X7_readWinter_21_11 (N : Nat)  (σ : St) (v : Unit) (w : St) (h : o_X7_readWinter_21_11 N  σ = some (v, w)) : Ev md_X7_readWinter 3 0 (lvE [vR 21, vR 11] 5) [] SH σ (none, SH, w) := by
  show Ev md_X7_readWinter 3 0 [some (vR 21), some (vR 11), none, none, none] [] SH σ (none, SH, w)
  unfold o_X7_readWinter_21_11 at h
  refine Ev.aload_n (pc := 0) dX7_readWinter_0 rfl rfl ?_
  refine Ev.dup (pc := 1) dX7_readWinter_1 rfl ?_
  refine Ev.getI (pc := 2) dX7_readWinter_2 fl_X7_26 sh_21 rfl ?_
  refine Ev.iconst (pc := 5) (v := 1) dX7_readWinter_5 ki_1 ?_
  refine Ev.iadd (pc := 6) dX7_readWinter_6 ?_
  refine Ev.putI (pc := 7) dX7_readWinter_7 pl_X7_26 sh_21 rfl rfl rfl ?_
  refine Ev.nmS (fun σ1 e9 => ?_)
  replace h := bt_app h σ1 e9
  refine Ev.aload_n (pc := 10) dX7_readWinter_10 rfl rfl ?_
  refine Ev.iconst (pc := 11) (v := 0) dX7_readWinter_11 ki_0 ?_
  refine Ev.bipush (pc := 12) (v := 98) dX7_readWinter_12 kb_98 ?_
  obtain ⟨x2, σ3, g4, h⟩ := bd_elim h
  refine Ev.cVi (pc := 14) (k := 21) (av := [vI 0, vI 98]) (rest := []) dX7_readWinter_14 ce_X7_number ml_X7_89 rfl sh_21 cl_X7 sh_sc (Nat.le_of_ble_eq_true rfl) (Nat.le_of_ble_eq_true rfl) (r_X7_number g4) ?_
  refine Ev.istore_n (pc := 17) (lv' := [some (vR 21), some (vR 11), some (vI x2), none, none]) dX7_readWinter_17 rfl (lt9 rfl) rfl rfl ?_
  refine Ev.aload_n (pc := 18) dX7_readWinter_18 rfl rfl ?_
  refine Ev.iconst (pc := 19) (v := 0) dX7_readWinter_19 ki_0 ?_
  refine Ev.bipush (pc := 20) (v := 98) dX7_readWinter_20 kb_98 ?_
  obtain ⟨x5, σ6, g7, h⟩ := bd_elim h
  refine Ev.cVi (pc := 22) (k := 21) (av := [vI 0, vI 98]) (rest := []) dX7_readWinter_22 ce_X7_number ml_X7_89 rfl sh_21 cl_X7 sh_sc (Nat.le_of_ble_eq_true rfl) (Nat.le_of_ble_eq_true rfl) (r_X7_number g7) ?_
  refine Ev.istore_n (pc := 25) (lv' := [some (vR 21), some (vR 11), some (vI x2), some (vI x5), none]) dX7_readWinter_25 rfl (lt9 rfl) rfl rfl ?_
  refine Ev.aload_n (pc := 26) dX7_readWinter_26 rfl rfl ?_
  refine Ev.iconst (pc := 27) (v := 2) dX7_readWinter_27 ki_2 ?_
  refine Ev.bipush (pc := 28) (v := 99) dX7_readWinter_28 kb_99 ?_
  obtain ⟨x8, σ9, g10, h⟩ := bd_elim h
  refine Ev.cVi (pc := 30) (k := 21) (av := [vI 2, vI 99]) (rest := []) dX7_readWinter_30 ce_X7_number ml_X7_89 rfl sh_21 cl_X7 sh_sc (Nat.le_of_ble_eq_true rfl) (Nat.le_of_ble_eq_true rfl) (r_X7_number g10) ?_
  refine Ev.istore (pc := 33) (lv' := [some (vR 21), some (vR 11), some (vI x2), some (vI x5), some (vI x8)]) dX7_readWinter_33 (lt9 rfl) rfl rfl ?_
  refine Ev.iload_n (pc := 35) dX7_readWinter_35 rfl rfl ?_
  refine Ev.iload (pc := 36) dX7_readWinter_36 rfl ?_
  by_cases c11 : x5 < x8
  · replace h := (if_pos c11).symm.trans h
    refine Ev.icmp_lt_t (pc := 38) (tgt := 50) dX7_readWinter_38 rfl c11 ?_
    exact Ev.weak2 (lj_X7_readWinter_21_11_50 N _ _ _ _ _ _ h) (lsubS (lsubS (lsubS (lsubS (lsubS lsubE)))))
  · replace h := (if_neg c11).symm.trans h
    refine Ev.icmp_lt_f (pc := 38) dX7_readWinter_38 ⟨50, rfl⟩ c11 ?_
    refine Ev.aload_n (pc := 41) dX7_readWinter_41 rfl rfl ?_
    refine Ev.iconst (pc := 42) (v := 4) dX7_readWinter_42 ki_4 ?_
    refine Ev.aload_n (pc := 43) dX7_readWinter_43 rfl rfl ?_
    refine Ev.getI (pc := 44) dX7_readWinter_44 fl_X7_97 sh_21 rfl ?_
    refine Ev.cVv (pc := 47) (k := 21) (av := [vI 4, vI (σ9 21 3)]) (rest := []) dX7_readWinter_47 ce_X7_blame ml_X7_54 rfl sh_21 cl_X7 sh_sc (Nat.le_of_ble_eq_true rfl) (Nat.le_of_ble_eq_true rfl) (r_X7_blame _ _ _) ?_
    refine Ev.nmS (fun σ12 e9 => ?_)
    replace h := bt_app h σ12 e9
    exact Ev.weak2 (lj_X7_readWinter_21_11_50 N _ _ _ _ _ _ h) (lsubS (lsubS (lsubS (lsubS (lsubS lsubE)))))
theorem r_X7_readWinter_21_11 {N : Nat}  {σ : St} {v : Unit} {w : St} (h : o_X7_readWinter_21_11 N  σ = some (v, w)) : Rn md_X7_readWinter 3 [vR 21, vR 11] SH σ (none, SH, w) := Rn.of ce_X7_readWinter.1 (Nat.le_of_ble_eq_true rfl) (e_X7_readWinter_21_11 N  _ _ _ h)
def j_X7_readClause_21_11_35 (N : Nat) (v2 : Int32) (σ : St) : Option (Unit × St) := if (p_X7_isOneTooMany_21_11 v2 σ) = 0 then (if v2 = 107 then (bd (o_X7_readKeeper_21_11 N  σ) fun u3 σ4 => some ((), σ4)) else if v2 = 112 then (bd (o_X7_readPromise_21_11 N  σ) fun u7 σ8 => some ((), σ8)) else if v2 = 114 then (bd (o_X7_readRoad_21_11 N  σ) fun u11 σ12 => some ((), σ12)) else if v2 = 116 then (bd (o_X7_readTowns_21_11 N  σ) fun u15 σ16 => some ((), σ16)) else if v2 = 119 then (bd (o_X7_readWinter_21_11 N  σ) fun u19 σ20 => some ((), σ20)) else (bt (t_X7_blame 1 (σ 21 2) σ) fun σ22 => some ((), σ22))) else (bt (t_X7_blame 3 (σ 21 2) σ) fun σ23 => some ((), σ23))
def o_X7_readClause_21_11 (N : Nat)  (σ : St) : Option (Unit × St) := bt (at_ σ 22 250 (σ 21 2)) fun x1 => if (σ 11 0) = 0 then (if x1 = 116 then (j_X7_readClause_21_11_35 N x1 σ) else (bt (t_X7_blame 1 (σ 21 2) σ) fun σ4 => some ((), σ4))) else (j_X7_readClause_21_11_35 N x1 σ)
theorem lj_X7_readClause_21_11_35 (N : Nat) (v2 : Int32) (σ : St) (v : Unit) (w : St) (h : j_X7_readClause_21_11_35 N v2 σ = some (v, w)) : Ev md_X7_readClause 4 35 [some (vR 21), some (vR 11), some (vI v2)] [] SH σ (none, SH, w) := by
  unfold j_X7_readClause_21_11_35 at h
  refine Ev.aload_n (pc := 35) dX7_readClause_35 rfl rfl ?_
  refine Ev.iload_n (pc := 36) dX7_readClause_36 rfl rfl ?_
  refine Ev.aload_n (pc := 37) dX7_readClause_37 rfl rfl ?_
  refine Ev.cVi (pc := 38) (k := 21) (av := [vI v2, vR 11]) (rest := []) dX7_readClause_38 ce_X7_isOneTooMany ml_X7_58 rfl sh_21 cl_X7 sh_sc (Nat.le_of_ble_eq_true rfl) (Nat.le_of_ble_eq_true rfl) (r_X7_isOneTooMany_21_11 _ _) ?_
  by_cases c1 : (p_X7_isOneTooMany_21_11 v2 σ) = 0
  · replace h := (if_pos c1).symm.trans h
    refine Ev.if_eq_t (pc := 41) (tgt := 54) dX7_readClause_41 rfl c1 ?_
    refine Ev.iload_n (pc := 54) dX7_readClause_54 rfl rfl ?_
    by_cases c2 : v2 = 107
    · replace h := (if_pos c2).symm.trans h
      refine Ev.swC (pc := 55) (c := 107) (tgt := 136) dX7_readClause_55 c2 (by decide) (by decide) rfl rfl ?_
      refine Ev.aload_n (pc := 136) dX7_readClause_136 rfl rfl ?_
      refine Ev.aload_n (pc := 137) dX7_readClause_137 rfl rfl ?_
      obtain ⟨u3, σ4, g5, h⟩ := bd_elim h
      refine Ev.cVv (pc := 138) (k := 21) (av := [vR 11]) (rest := []) dX7_readClause_138 ce_X7_readKeeper ml_X7_68 rfl sh_21 cl_X7 sh_sc (Nat.le_of_ble_eq_true rfl) (Nat.le_of_ble_eq_true rfl) (r_X7_readKeeper_21_11 g5) ?_
      refine Ev.goto (pc := 141) (tgt := 169) dX7_readClause_141 rfl ?_
      obtain ⟨h1, h2⟩ := oeq h
      subst h1
      subst h2
      exact Ev.ret_v (pc := 169) dX7_readClause_169 rfl
    replace h := (if_neg c2).symm.trans h
    by_cases c6 : v2 = 112
    · replace h := (if_pos c6).symm.trans h
      refine Ev.swC (pc := 55) (c := 112) (tgt := 144) dX7_readClause_55 c6 (by decide) (by decide) rfl rfl ?_
      refine Ev.aload_n (pc := 144) dX7_readClause_144 rfl rfl ?_
      refine Ev.aload_n (pc := 145) dX7_readClause_145 rfl rfl ?_
      obtain ⟨u7, σ8, g9, h⟩ := bd_elim h
      refine Ev.cVv (pc := 146) (k := 21) (av := [vR 11]) (rest := []) dX7_readClause_146 ce_X7_readPromise ml_X7_71 rfl sh_21 cl_X7 sh_sc (Nat.le_of_ble_eq_true rfl) (Nat.le_of_ble_eq_true rfl) (r_X7_readPromise_21_11 g9) ?_
      refine Ev.goto (pc := 149) (tgt := 169) dX7_readClause_149 rfl ?_
      obtain ⟨h1, h2⟩ := oeq h
      subst h1
      subst h2
      exact Ev.ret_v (pc := 169) dX7_readClause_169 rfl
    replace h := (if_neg c6).symm.trans h
    by_cases c10 : v2 = 114
    · replace h := (if_pos c10).symm.trans h
      refine Ev.swC (pc := 55) (c := 114) (tgt := 128) dX7_readClause_55 c10 (by decide) (by decide) rfl rfl ?_
      refine Ev.aload_n (pc := 128) dX7_readClause_128 rfl rfl ?_
      refine Ev.aload_n (pc := 129) dX7_readClause_129 rfl rfl ?_
      obtain ⟨u11, σ12, g13, h⟩ := bd_elim h
      refine Ev.cVv (pc := 130) (k := 21) (av := [vR 11]) (rest := []) dX7_readClause_130 ce_X7_readRoad ml_X7_65 rfl sh_21 cl_X7 sh_sc (Nat.le_of_ble_eq_true rfl) (Nat.le_of_ble_eq_true rfl) (r_X7_readRoad_21_11 g13) ?_
      refine Ev.goto (pc := 133) (tgt := 169) dX7_readClause_133 rfl ?_
      obtain ⟨h1, h2⟩ := oeq h
      subst h1
      subst h2
      exact Ev.ret_v (pc := 169) dX7_readClause_169 rfl
    replace h := (if_neg c10).symm.trans h
    by_cases c14 : v2 = 116
    · replace h := (if_pos c14).symm.trans h
      refine Ev.swC (pc := 55) (c := 116) (tgt := 120) dX7_readClause_55 c14 (by decide) (by decide) rfl rfl ?_
      refine Ev.aload_n (pc := 120) dX7_readClause_120 rfl rfl ?_
      refine Ev.aload_n (pc := 121) dX7_readClause_121 rfl rfl ?_
      obtain ⟨u15, σ16, g17, h⟩ := bd_elim h
      refine Ev.cVv (pc := 122) (k := 21) (av := [vR 11]) (rest := []) dX7_readClause_122 ce_X7_readTowns ml_X7_62 rfl sh_21 cl_X7 sh_sc (Nat.le_of_ble_eq_true rfl) (Nat.le_of_ble_eq_true rfl) (r_X7_readTowns_21_11 g17) ?_
      refine Ev.goto (pc := 125) (tgt := 169) dX7_readClause_125 rfl ?_
      obtain ⟨h1, h2⟩ := oeq h
      subst h1
      subst h2
      exact Ev.ret_v (pc := 169) dX7_readClause_169 rfl
    replace h := (if_neg c14).symm.trans h
    by_cases c18 : v2 = 119
    · replace h := (if_pos c18).symm.trans h
      refine Ev.swC (pc := 55) (c := 119) (tgt := 152) dX7_readClause_55 c18 (by decide) (by decide) rfl rfl ?_
      refine Ev.aload_n (pc := 152) dX7_readClause_152 rfl rfl ?_
      refine Ev.aload_n (pc := 153) dX7_readClause_153 rfl rfl ?_
      obtain ⟨u19, σ20, g21, h⟩ := bd_elim h
      refine Ev.cVv (pc := 154) (k := 21) (av := [vR 11]) (rest := []) dX7_readClause_154 ce_X7_readWinter ml_X7_74 rfl sh_21 cl_X7 sh_sc (Nat.le_of_ble_eq_true rfl) (Nat.le_of_ble_eq_true rfl) (r_X7_readWinter_21_11 g21) ?_
      refine Ev.goto (pc := 157) (tgt := 169) dX7_readClause_157 rfl ?_
      obtain ⟨h1, h2⟩ := oeq h
      subst h1
      subst h2
      exact Ev.ret_v (pc := 169) dX7_readClause_169 rfl
    replace h := (if_neg c18).symm.trans h
    refine Ev.swD (pc := 55) (tgt := 160) (tl := [107, 112, 114, 116, 119]) dX7_readClause_55 (not_mem_cons9 (neI c2 rfl) (not_mem_cons9 (neI c6 rfl) (not_mem_cons9 (neI c10 rfl) (not_mem_cons9 (neI c14 rfl) (not_mem_cons9 (neI c18 rfl) (not_mem_nil9)))))) rfl rfl rfl ?_
    refine Ev.aload_n (pc := 160) dX7_readClause_160 rfl rfl ?_
    refine Ev.iconst (pc := 161) (v := 1) dX7_readClause_161 ki_1 ?_
    refine Ev.aload_n (pc := 162) dX7_readClause_162 rfl rfl ?_
    refine Ev.getI (pc := 163) dX7_readClause_163 fl_X7_26 sh_21 rfl ?_
    refine Ev.cVv (pc := 166) (k := 21) (av := [vI 1, vI (σ 21 2)]) (rest := []) dX7_readClause_166 ce_X7_blame ml_X7_54 rfl sh_21 cl_X7 sh_sc (Nat.le_of_ble_eq_true rfl) (Nat.le_of_ble_eq_true rfl) (r_X7_blame _ _ _) ?_
    refine Ev.nmS (fun σ22 e9 => ?_)
    replace h := bt_app h σ22 e9
    obtain ⟨h1, h2⟩ := oeq h
    subst h1
    subst h2
    exact Ev.ret_v (pc := 169) dX7_readClause_169 rfl
  · replace h := (if_neg c1).symm.trans h
    refine Ev.if_eq_f (pc := 41) dX7_readClause_41 ⟨54, rfl⟩ c1 ?_
    refine Ev.aload_n (pc := 44) dX7_readClause_44 rfl rfl ?_
    refine Ev.iconst (pc := 45) (v := 3) dX7_readClause_45 ki_3 ?_
    refine Ev.aload_n (pc := 46) dX7_readClause_46 rfl rfl ?_
    refine Ev.getI (pc := 47) dX7_readClause_47 fl_X7_26 sh_21 rfl ?_
    refine Ev.cVv (pc := 50) (k := 21) (av := [vI 3, vI (σ 21 2)]) (rest := []) dX7_readClause_50 ce_X7_blame ml_X7_54 rfl sh_21 cl_X7 sh_sc (Nat.le_of_ble_eq_true rfl) (Nat.le_of_ble_eq_true rfl) (r_X7_blame _ _ _) ?_
    refine Ev.nmS (fun σ23 e9 => ?_)
    replace h := bt_app h σ23 e9
    obtain ⟨h1, h2⟩ := oeq h
    subst h1
    subst h2
    exact Ev.ret_v (pc := 53) dX7_readClause_53 rfl
theorem e_X7_readClause_21_11 (N : Nat)  (σ : St) (v : Unit) (w : St) (h : o_X7_readClause_21_11 N  σ = some (v, w)) : Ev md_X7_readClause 4 0 (lvE [vR 21, vR 11] 3) [] SH σ (none, SH, w) := by
  show Ev md_X7_readClause 4 0 [some (vR 21), some (vR 11), none] [] SH σ (none, SH, w)
  unfold o_X7_readClause_21_11 at h
  refine Ev.aload_n (pc := 0) dX7_readClause_0 rfl rfl ?_
  refine Ev.getR (pc := 1) dX7_readClause_1 fl_X7_9 sh_21 rfl ?_
  refine Ev.aload_n (pc := 4) dX7_readClause_4 rfl rfl ?_
  refine Ev.getI (pc := 5) dX7_readClause_5 fl_X7_26 sh_21 rfl ?_
  refine Ev.cTi (pc := 8) (av := [vR 22, vI (σ 21 2)]) (rest := []) dX7_readClause_8 ce_X9_at ml_X7_47 rfl sh_sc (Nat.le_of_ble_eq_true rfl) (Nat.le_of_ble_eq_true rfl) (r_at sh_22 (by decide) _ _) ?_
  refine Ev.nmI (fun x1 e9 => ?_)
  replace h := bt_app h x1 e9
  refine Ev.istore_n (pc := 11) (lv' := [some (vR 21), some (vR 11), some (vI x1)]) dX7_readClause_11 rfl (lt9 rfl) rfl rfl ?_
  refine Ev.aload_n (pc := 12) dX7_readClause_12 rfl rfl ?_
  refine Ev.getI (pc := 13) dX7_readClause_13 fl_X7_51 sh_11 rfl ?_
  by_cases c2 : (σ 11 0) = 0
  · replace h := (if_pos c2).symm.trans h
    refine Ev.if_ne_f (pc := 16) dX7_readClause_16 ⟨35, rfl⟩ c2 ?_
    refine Ev.iload_n (pc := 19) dX7_readClause_19 rfl rfl ?_
    refine Ev.bipush (pc := 20) (v := 116) dX7_readClause_20 kb_116 ?_
    by_cases c3 : x1 = 116
    · replace h := (if_pos c3).symm.trans h
      refine Ev.icmp_eq_t (pc := 22) (tgt := 35) dX7_readClause_22 rfl c3 ?_
      exact Ev.weak2 (lj_X7_readClause_21_11_35 N _ _ _ _ h) (lsubS (lsubS (lsubS lsubE)))
    · replace h := (if_neg c3).symm.trans h
      refine Ev.icmp_eq_f (pc := 22) dX7_readClause_22 ⟨35, rfl⟩ c3 ?_
      refine Ev.aload_n (pc := 25) dX7_readClause_25 rfl rfl ?_
      refine Ev.iconst (pc := 26) (v := 1) dX7_readClause_26 ki_1 ?_
      refine Ev.aload_n (pc := 27) dX7_readClause_27 rfl rfl ?_
      refine Ev.getI (pc := 28) dX7_readClause_28 fl_X7_26 sh_21 rfl ?_
      refine Ev.cVv (pc := 31) (k := 21) (av := [vI 1, vI (σ 21 2)]) (rest := []) dX7_readClause_31 ce_X7_blame ml_X7_54 rfl sh_21 cl_X7 sh_sc (Nat.le_of_ble_eq_true rfl) (Nat.le_of_ble_eq_true rfl) (r_X7_blame _ _ _) ?_
      refine Ev.nmS (fun σ4 e9 => ?_)
      replace h := bt_app h σ4 e9
      obtain ⟨h1, h2⟩ := oeq h
      subst h1
      subst h2
      exact Ev.ret_v (pc := 34) dX7_readClause_34 rfl
  · replace h := (if_neg c2).symm.trans h
    refine Ev.if_ne_t (pc := 16) (tgt := 35) dX7_readClause_16 rfl c2 ?_
    exact Ev.weak2 (lj_X7_readClause_21_11_35 N _ _ _ _ h) (lsubS (lsubS (lsubS lsubE)))
theorem r_X7_readClause_21_11 {N : Nat}  {σ : St} {v : Unit} {w : St} (h : o_X7_readClause_21_11 N  σ = some (v, w)) : Rn md_X7_readClause 4 [vR 21, vR 11] SH σ (none, SH, w) := Rn.of ce_X7_readClause.1 (Nat.le_of_ble_eq_true rfl) (e_X7_readClause_21_11 N  _ _ _ h)
def j_X5_joinRoads_11_72 (N : Nat) (K_2 : Int32 → St → Option (Unit × St)) (K_9 : Int32 → Int32 → St → Option (Unit × St)) (K_16 : Int32 → Int32 → Int32 → St → Option (Unit × St)) (v1 : Int32) (v2 : Int32) (v3 : Int32) (σ : St) : Option (Unit × St) := bt (v3 + 1) fun x1 => K_16 v1 v2 x1 σ
def l_X5_joinRoads_11_16 (N : Nat) (K_2 : Int32 → St → Option (Unit × St)) (K_9 : Int32 → Int32 → St → Option (Unit × St)) : Nat → Int32 → Int32 → Int32 → St → Option (Unit × St)
  | 0, _, _, _, _ => none
  | n + 1, v1, v2, v3, σ => if (5 : Int32) ≤ v3 then (bt (v2 + 1) fun x2 => K_9 v1 x2 σ) else (bt (at_ σ 20 25 ((v2 * 5) + v1)) fun x3 => bt (at_ σ 20 25 ((v1 * 5) + v3)) fun x4 => if x3 = (-1) then (j_X5_joinRoads_11_72 N K_2 K_9 (l_X5_joinRoads_11_16 N K_2 K_9 n) v1 v2 v3 σ) else (if x4 = (-1) then (j_X5_joinRoads_11_72 N K_2 K_9 (l_X5_joinRoads_11_16 N K_2 K_9 n) v1 v2 v3 σ) else (bt (t_X5_shorten_11 v2 v3 (x3 + x4) σ) fun σ7 => j_X5_joinRoads_11_72 N K_2 K_9 (l_X5_joinRoads_11_16 N K_2 K_9 n) v1 v2 v3 σ7)))
def l_X5_joinRoads_11_9 (N : Nat) (K_2 : Int32 → St → Option (Unit × St)) : Nat → Int32 → Int32 → St → Option (Unit × St)
  | 0, _, _, _ => none
  | n + 1, v1, v2, σ => if (5 : Int32) ≤ v2 then (bt (v1 + 1) fun x2 => K_2 x2 σ) else (l_X5_joinRoads_11_16 N K_2 (l_X5_joinRoads_11_9 N K_2 n) N v1 v2 0 σ)
def l_X5_joinRoads_11_2 (N : Nat) : Nat → Int32 → St → Option (Unit × St)
  | 0, _, _ => none
  | n + 1, v1, σ => if (5 : Int32) ≤ v1 then (some ((), σ)) else (l_X5_joinRoads_11_9 N (l_X5_joinRoads_11_2 N n) N v1 0 σ)
def o_X5_joinRoads_11 (N : Nat)  (σ : St) : Option (Unit × St) := l_X5_joinRoads_11_2 N N 0 σ
theorem lj_X5_joinRoads_11_72 (N : Nat) (K_2 : Int32 → St → Option (Unit × St)) (K_9 : Int32 → Int32 → St → Option (Unit × St)) (K_16 : Int32 → Int32 → Int32 → St → Option (Unit × St)) (hK_2 : ∀ (v1 : Int32) (σ : St) (v : Unit) (w : St), K_2 v1 σ = some (v, w) → Ev md_X5_joinRoads 2 2 [some (vR 11), some (vI v1), none, none, none, none] [] SH σ (none, SH, w)) (hK_9 : ∀ (v1 : Int32) (v2 : Int32) (σ : St) (v : Unit) (w : St), K_9 v1 v2 σ = some (v, w) → Ev md_X5_joinRoads 2 9 [some (vR 11), some (vI v1), some (vI v2), none, none, none] [] SH σ (none, SH, w)) (hK_16 : ∀ (v1 : Int32) (v2 : Int32) (v3 : Int32) (σ : St) (v : Unit) (w : St), K_16 v1 v2 v3 σ = some (v, w) → Ev md_X5_joinRoads 2 16 [some (vR 11), some (vI v1), some (vI v2), some (vI v3), none, none] [] SH σ (none, SH, w)) (v1 : Int32) (v2 : Int32) (v3 : Int32) (σ : St) (v : Unit) (w : St) (h : j_X5_joinRoads_11_72 N K_2 K_9 K_16 v1 v2 v3 σ = some (v, w)) : Ev md_X5_joinRoads 2 72 [some (vR 11), some (vI v1), some (vI v2), some (vI v3), none, none] [] SH σ (none, SH, w) := by
  unfold j_X5_joinRoads_11_72 at h
  obtain ⟨x1, e_x1, h⟩ := bt_elim h
  refine Ev.iinc (pc := 72) (v := x1) (lv' := [some (vR 11), some (vI v1), some (vI v2), some (vI x1), none, none]) dX5_joinRoads_72 rfl (by rw [ki_1, e_x1]) (lt9 rfl) rfl rfl ?_
  refine Ev.goto (pc := 75) (tgt := 16) dX5_joinRoads_75 rfl ?_
  exact Ev.weak2 (hK_16 _ _ _ _ _ _ h) (lsubS (lsubS (lsubS (lsubS (lsubN (lsubN lsubE))))))
theorem ll_X5_joinRoads_11_16 (N : Nat) (K_2 : Int32 → St → Option (Unit × St)) (K_9 : Int32 → Int32 → St → Option (Unit × St)) (hK_2 : ∀ (v1 : Int32) (σ : St) (v : Unit) (w : St), K_2 v1 σ = some (v, w) → Ev md_X5_joinRoads 2 2 [some (vR 11), some (vI v1), none, none, none, none] [] SH σ (none, SH, w)) (hK_9 : ∀ (v1 : Int32) (v2 : Int32) (σ : St) (v : Unit) (w : St), K_9 v1 v2 σ = some (v, w) → Ev md_X5_joinRoads 2 9 [some (vR 11), some (vI v1), some (vI v2), none, none, none] [] SH σ (none, SH, w)) : ∀ (n : Nat) (v1 : Int32) (v2 : Int32) (v3 : Int32) (σ : St) (v : Unit) (w : St), l_X5_joinRoads_11_16 N K_2 K_9 n v1 v2 v3 σ = some (v, w) → Ev md_X5_joinRoads 2 16 [some (vR 11), some (vI v1), some (vI v2), some (vI v3), none, none] [] SH σ (none, SH, w) := by
  intro n
  induction n with
  | zero =>
    intro v1 v2 v3 σ v w h
    rw [l_X5_joinRoads_11_16] at h
    cases h
  | succ n ih =>
    intro v1 v2 v3 σ v w h
    rw [l_X5_joinRoads_11_16] at h
    refine Ev.iload_n (pc := 16) dX5_joinRoads_16 rfl rfl ?_
    refine Ev.iconst (pc := 17) (v := 5) dX5_joinRoads_17 ki_5 ?_
    by_cases c1 : (5 : Int32) ≤ v3
    · replace h := (if_pos c1).symm.trans h
      refine Ev.icmp_ge_t (pc := 18) (tgt := 78) dX5_joinRoads_18 rfl c1 ?_
      obtain ⟨x2, e_x2, h⟩ := bt_elim h
      refine Ev.iinc (pc := 78) (v := x2) (lv' := [some (vR 11), some (vI v1), some (vI x2), some (vI v3), none, none]) dX5_joinRoads_78 rfl (by rw [ki_1, e_x2]) (lt9 rfl) rfl rfl ?_
      refine Ev.goto (pc := 81) (tgt := 9) dX5_joinRoads_81 rfl ?_
      exact Ev.weak2 (hK_9 _ _ _ _ _ h) (lsubS (lsubS (lsubS (lsubN (lsubN (lsubN lsubE))))))
    · replace h := (if_neg c1).symm.trans h
      refine Ev.icmp_ge_f (pc := 18) dX5_joinRoads_18 ⟨78, rfl⟩ c1 ?_
      refine Ev.aload_n (pc := 21) dX5_joinRoads_21 rfl rfl ?_
      refine Ev.getR (pc := 22) dX5_joinRoads_22 fl_X5_36 sh_11 rfl ?_
      refine Ev.iload_n (pc := 25) dX5_joinRoads_25 rfl rfl ?_
      refine Ev.iconst (pc := 26) (v := 5) dX5_joinRoads_26 ki_5 ?_
      refine Ev.imul (pc := 27) dX5_joinRoads_27 ?_
      refine Ev.iload_n (pc := 28) dX5_joinRoads_28 rfl rfl ?_
      refine Ev.iadd (pc := 29) dX5_joinRoads_29 ?_
      refine Ev.cTi (pc := 30) (av := [vR 20, vI ((v2 * 5) + v1)]) (rest := []) dX5_joinRoads_30 ce_X9_at ml_X5_65 rfl sh_sc (Nat.le_of_ble_eq_true rfl) (Nat.le_of_ble_eq_true rfl) (r_at sh_20 (by decide) _ _) ?_
      refine Ev.nmI (fun x3 e9 => ?_)
      replace h := bt_app h x3 e9
      refine Ev.istore (pc := 33) (lv' := [some (vR 11), some (vI v1), some (vI v2), some (vI v3), some (vI x3), none]) dX5_joinRoads_33 (lt9 rfl) rfl rfl ?_
      refine Ev.aload_n (pc := 35) dX5_joinRoads_35 rfl rfl ?_
      refine Ev.getR (pc := 36) dX5_joinRoads_36 fl_X5_36 sh_11 rfl ?_
      refine Ev.iload_n (pc := 39) dX5_joinRoads_39 rfl rfl ?_
      refine Ev.iconst (pc := 40) (v := 5) dX5_joinRoads_40 ki_5 ?_
      refine Ev.imul (pc := 41) dX5_joinRoads_41 ?_
      refine Ev.iload_n (pc := 42) dX5_joinRoads_42 rfl rfl ?_
      refine Ev.iadd (pc := 43) dX5_joinRoads_43 ?_
      refine Ev.cTi (pc := 44) (av := [vR 20, vI ((v1 * 5) + v3)]) (rest := []) dX5_joinRoads_44 ce_X9_at ml_X5_65 rfl sh_sc (Nat.le_of_ble_eq_true rfl) (Nat.le_of_ble_eq_true rfl) (r_at sh_20 (by decide) _ _) ?_
      refine Ev.nmI (fun x4 e9 => ?_)
      replace h := bt_app h x4 e9
      refine Ev.istore (pc := 47) (lv' := [some (vR 11), some (vI v1), some (vI v2), some (vI v3), some (vI x3), some (vI x4)]) dX5_joinRoads_47 (lt9 rfl) rfl rfl ?_
      refine Ev.iload (pc := 49) dX5_joinRoads_49 rfl ?_
      refine Ev.iconst (pc := 51) (v := (-1)) dX5_joinRoads_51 ki_m1 ?_
      by_cases c5 : x3 = (-1)
      · replace h := (if_pos c5).symm.trans h
        refine Ev.icmp_eq_t (pc := 52) (tgt := 72) dX5_joinRoads_52 rfl c5 ?_
        exact Ev.weak2 (lj_X5_joinRoads_11_72 N K_2 K_9 (l_X5_joinRoads_11_16 N K_2 K_9 n) hK_2 hK_9 ih _ _ _ _ _ _ h) (lsubS (lsubS (lsubS (lsubS (lsubN (lsubN lsubE))))))
      · replace h := (if_neg c5).symm.trans h
        refine Ev.icmp_eq_f (pc := 52) dX5_joinRoads_52 ⟨72, rfl⟩ c5 ?_
        refine Ev.iload (pc := 55) dX5_joinRoads_55 rfl ?_
        refine Ev.iconst (pc := 57) (v := (-1)) dX5_joinRoads_57 ki_m1 ?_
        by_cases c6 : x4 = (-1)
        · replace h := (if_pos c6).symm.trans h
          refine Ev.icmp_eq_t (pc := 58) (tgt := 72) dX5_joinRoads_58 rfl c6 ?_
          exact Ev.weak2 (lj_X5_joinRoads_11_72 N K_2 K_9 (l_X5_joinRoads_11_16 N K_2 K_9 n) hK_2 hK_9 ih _ _ _ _ _ _ h) (lsubS (lsubS (lsubS (lsubS (lsubN (lsubN lsubE))))))
        · replace h := (if_neg c6).symm.trans h
          refine Ev.icmp_eq_f (pc := 58) dX5_joinRoads_58 ⟨72, rfl⟩ c6 ?_
          refine Ev.aload_n (pc := 61) dX5_joinRoads_61 rfl rfl ?_
          refine Ev.iload_n (pc := 62) dX5_joinRoads_62 rfl rfl ?_
          refine Ev.iload_n (pc := 63) dX5_joinRoads_63 rfl rfl ?_
          refine Ev.iload (pc := 64) dX5_joinRoads_64 rfl ?_
          refine Ev.iload (pc := 66) dX5_joinRoads_66 rfl ?_
          refine Ev.iadd (pc := 68) dX5_joinRoads_68 ?_
          refine Ev.cVv (pc := 69) (k := 11) (av := [vI v2, vI v3, vI (x3 + x4)]) (rest := []) dX5_joinRoads_69 ce_X5_shorten ml_X5_61 rfl sh_11 cl_X5 sh_sc (Nat.le_of_ble_eq_true rfl) (Nat.le_of_ble_eq_true rfl) (r_X5_shorten_11 _ _ _ _) ?_
          refine Ev.nmS (fun σ7 e9 => ?_)
          replace h := bt_app h σ7 e9
          exact Ev.weak2 (lj_X5_joinRoads_11_72 N K_2 K_9 (l_X5_joinRoads_11_16 N K_2 K_9 n) hK_2 hK_9 ih _ _ _ _ _ _ h) (lsubS (lsubS (lsubS (lsubS (lsubN (lsubN lsubE))))))
theorem ll_X5_joinRoads_11_9 (N : Nat) (K_2 : Int32 → St → Option (Unit × St)) (hK_2 : ∀ (v1 : Int32) (σ : St) (v : Unit) (w : St), K_2 v1 σ = some (v, w) → Ev md_X5_joinRoads 2 2 [some (vR 11), some (vI v1), none, none, none, none] [] SH σ (none, SH, w)) : ∀ (n : Nat) (v1 : Int32) (v2 : Int32) (σ : St) (v : Unit) (w : St), l_X5_joinRoads_11_9 N K_2 n v1 v2 σ = some (v, w) → Ev md_X5_joinRoads 2 9 [some (vR 11), some (vI v1), some (vI v2), none, none, none] [] SH σ (none, SH, w) := by
  intro n
  induction n with
  | zero =>
    intro v1 v2 σ v w h
    rw [l_X5_joinRoads_11_9] at h
    cases h
  | succ n ih =>
    intro v1 v2 σ v w h
    rw [l_X5_joinRoads_11_9] at h
    refine Ev.iload_n (pc := 9) dX5_joinRoads_9 rfl rfl ?_
    refine Ev.iconst (pc := 10) (v := 5) dX5_joinRoads_10 ki_5 ?_
    by_cases c1 : (5 : Int32) ≤ v2
    · replace h := (if_pos c1).symm.trans h
      refine Ev.icmp_ge_t (pc := 11) (tgt := 84) dX5_joinRoads_11 rfl c1 ?_
      obtain ⟨x2, e_x2, h⟩ := bt_elim h
      refine Ev.iinc (pc := 84) (v := x2) (lv' := [some (vR 11), some (vI x2), some (vI v2), none, none, none]) dX5_joinRoads_84 rfl (by rw [ki_1, e_x2]) (lt9 rfl) rfl rfl ?_
      refine Ev.goto (pc := 87) (tgt := 2) dX5_joinRoads_87 rfl ?_
      exact Ev.weak2 (hK_2 _ _ _ _ h) (lsubS (lsubS (lsubN (lsubN (lsubN (lsubN lsubE))))))
    · replace h := (if_neg c1).symm.trans h
      refine Ev.icmp_ge_f (pc := 11) dX5_joinRoads_11 ⟨84, rfl⟩ c1 ?_
      refine Ev.iconst (pc := 14) (v := 0) dX5_joinRoads_14 ki_0 ?_
      refine Ev.istore_n (pc := 15) (lv' := [some (vR 11), some (vI v1), some (vI v2), some (vI 0), none, none]) dX5_joinRoads_15 rfl (lt9 rfl) rfl rfl ?_
      exact Ev.weak2 (ll_X5_joinRoads_11_16 N K_2 (l_X5_joinRoads_11_9 N K_2 n) hK_2 ih N _ _ _ _ _ _ h) (lsubS (lsubS (lsubS (lsubS (lsubN (lsubN lsubE))))))
theorem ll_X5_joinRoads_11_2 (N : Nat) : ∀ (n : Nat) (v1 : Int32) (σ : St) (v : Unit) (w : St), l_X5_joinRoads_11_2 N n v1 σ = some (v, w) → Ev md_X5_joinRoads 2 2 [some (vR 11), some (vI v1), none, none, none, none] [] SH σ (none, SH, w) := by
  intro n
  induction n with
  | zero =>
    intro v1 σ v w h
    rw [l_X5_joinRoads_11_2] at h
    cases h
  | succ n ih =>
    intro v1 σ v w h
    rw [l_X5_joinRoads_11_2] at h
    refine Ev.iload_n (pc := 2) dX5_joinRoads_2 rfl rfl ?_
    refine Ev.iconst (pc := 3) (v := 5) dX5_joinRoads_3 ki_5 ?_
    by_cases c1 : (5 : Int32) ≤ v1
    · replace h := (if_pos c1).symm.trans h
      refine Ev.icmp_ge_t (pc := 4) (tgt := 90) dX5_joinRoads_4 rfl c1 ?_
      obtain ⟨h1, h2⟩ := oeq h
      subst h1
      subst h2
      exact Ev.ret_v (pc := 90) dX5_joinRoads_90 rfl
    · replace h := (if_neg c1).symm.trans h
      refine Ev.icmp_ge_f (pc := 4) dX5_joinRoads_4 ⟨90, rfl⟩ c1 ?_
      refine Ev.iconst (pc := 7) (v := 0) dX5_joinRoads_7 ki_0 ?_
      refine Ev.istore_n (pc := 8) (lv' := [some (vR 11), some (vI v1), some (vI 0), none, none, none]) dX5_joinRoads_8 rfl (lt9 rfl) rfl rfl ?_
      exact Ev.weak2 (ll_X5_joinRoads_11_9 N (l_X5_joinRoads_11_2 N n) ih N _ _ _ _ _ h) (lsubS (lsubS (lsubS (lsubN (lsubN (lsubN lsubE))))))
theorem e_X5_joinRoads_11 (N : Nat)  (σ : St) (v : Unit) (w : St) (h : o_X5_joinRoads_11 N  σ = some (v, w)) : Ev md_X5_joinRoads 2 0 (lvE [vR 11] 6) [] SH σ (none, SH, w) := by
  show Ev md_X5_joinRoads 2 0 [some (vR 11), none, none, none, none, none] [] SH σ (none, SH, w)
  unfold o_X5_joinRoads_11 at h
  refine Ev.iconst (pc := 0) (v := 0) dX5_joinRoads_0 ki_0 ?_
  refine Ev.istore_n (pc := 1) (lv' := [some (vR 11), some (vI 0), none, none, none, none]) dX5_joinRoads_1 rfl (lt9 rfl) rfl rfl ?_
  exact Ev.weak2 (ll_X5_joinRoads_11_2 N N _ _ _ _ h) (lsubS (lsubS (lsubN (lsubN (lsubN (lsubN lsubE))))))
theorem r_X5_joinRoads_11 {N : Nat}  {σ : St} {v : Unit} {w : St} (h : o_X5_joinRoads_11 N  σ = some (v, w)) : Rn md_X5_joinRoads 2 [vR 11] SH σ (none, SH, w) := Rn.of ce_X5_joinRoads.1 (Nat.le_of_ble_eq_true rfl) (e_X5_joinRoads_11 N  _ _ _ h)
def j_X7_readInto_21_11_65 (N : Nat)  (σ : St) : Option (Int32 × St) := bd (o_X5_joinRoads_11 N  σ) fun u1 σ2 => some ((σ2 21 4), σ2)
def l_X7_readInto_21_11_25 (N : Nat) : Nat → Int32 → St → Option (Int32 × St)
  | 0, _, _ => none
  | n + 1, v2, σ => if (250 : Int32) ≤ v2 then (j_X7_readInto_21_11_65 N σ) else (if (σ 21 4) = 0 then (if (σ 21 1) ≤ (σ 21 2) then (j_X7_readInto_21_11_65 N σ) else (bd (o_X7_readClause_21_11 N  σ) fun u4 σ5 => bd (o_X7_skipBlanks N  σ5) fun u7 σ8 => bt (v2 + 1) fun x10 => l_X7_readInto_21_11_25 N n x10 σ8)) else (j_X7_readInto_21_11_65 N σ))
def o_X7_readInto_21_11 (N : Nat)  (σ : St) : Option (Int32 × St) := bt (st σ 21 2 0) fun σ1 => bt (st σ1 21 4 0) fun σ2 => bt (st σ2 21 5 (-1)) fun σ3 => bd (o_X5_clear_11 N  σ3) fun u4 σ5 => bd (o_X7_skipBlanks N  σ5) fun u7 σ8 => l_X7_readInto_21_11_25 N N 0 σ8
theorem lj_X7_readInto_21_11_65 (N : Nat)  (σ : St) (v : Int32) (w : St) (h : j_X7_readInto_21_11_65 N  σ = some (v, w)) : Ev md_X7_readInto 5 65 [some (vR 21), some (vR 11), none] [] SH σ (some (vI v), SH, w) := by
  unfold j_X7_readInto_21_11_65 at h
  refine Ev.aload_n (pc := 65) dX7_readInto_65 rfl rfl ?_
  obtain ⟨u1, σ2, g3, h⟩ := bd_elim h
  refine Ev.cVv (pc := 66) (k := 11) (av := []) (rest := []) dX7_readInto_66 ce_X5_joinRoads ml_X7_44 rfl sh_11 cl_X5 sh_sc (Nat.le_of_ble_eq_true rfl) (Nat.le_of_ble_eq_true rfl) (r_X5_joinRoads_11 g3) ?_
  refine Ev.aload_n (pc := 69) dX7_readInto_69 rfl rfl ?_
  refine Ev.getI (pc := 70) dX7_readInto_70 fl_X7_29 sh_21 rfl ?_
  obtain ⟨h1, h2⟩ := oeq h
  subst h1
  subst h2
  exact Ev.ret_i (pc := 73) dX7_readInto_73 rfl rfl
theorem ll_X7_readInto_21_11_25 (N : Nat) : ∀ (n : Nat) (v2 : Int32) (σ : St) (v : Int32) (w : St), l_X7_readInto_21_11_25 N n v2 σ = some (v, w) → Ev md_X7_readInto 5 25 [some (vR 21), some (vR 11), some (vI v2)] [] SH σ (some (vI v), SH, w) := by
  intro n
  induction n with
  | zero =>
    intro v2 σ v w h
    rw [l_X7_readInto_21_11_25] at h
    cases h
  | succ n ih =>
    intro v2 σ v w h
    rw [l_X7_readInto_21_11_25] at h
    refine Ev.iload_n (pc := 25) dX7_readInto_25 rfl rfl ?_
    refine Ev.sipush (pc := 26) (v := 250) dX7_readInto_26 ks_250 ?_
    by_cases c1 : (250 : Int32) ≤ v2
    · replace h := (if_pos c1).symm.trans h
      refine Ev.icmp_ge_t (pc := 29) (tgt := 65) dX7_readInto_29 rfl c1 ?_
      exact Ev.weak2 (lj_X7_readInto_21_11_65 N _ _ _ h) (lsubS (lsubS (lsubN lsubE)))
    · replace h := (if_neg c1).symm.trans h
      refine Ev.icmp_ge_f (pc := 29) dX7_readInto_29 ⟨65, rfl⟩ c1 ?_
      refine Ev.aload_n (pc := 32) dX7_readInto_32 rfl rfl ?_
      refine Ev.getI (pc := 33) dX7_readInto_33 fl_X7_29 sh_21 rfl ?_
      by_cases c2 : (σ 21 4) = 0
      · replace h := (if_pos c2).symm.trans h
        refine Ev.if_ne_f (pc := 36) dX7_readInto_36 ⟨65, rfl⟩ c2 ?_
        refine Ev.aload_n (pc := 39) dX7_readInto_39 rfl rfl ?_
        refine Ev.getI (pc := 40) dX7_readInto_40 fl_X7_26 sh_21 rfl ?_
        refine Ev.aload_n (pc := 43) dX7_readInto_43 rfl rfl ?_
        refine Ev.getI (pc := 44) dX7_readInto_44 fl_X7_19 sh_21 rfl ?_
        by_cases c3 : (σ 21 1) ≤ (σ 21 2)
        · replace h := (if_pos c3).symm.trans h
          refine Ev.icmp_ge_t (pc := 47) (tgt := 65) dX7_readInto_47 rfl c3 ?_
          exact Ev.weak2 (lj_X7_readInto_21_11_65 N _ _ _ h) (lsubS (lsubS (lsubN lsubE)))
        · replace h := (if_neg c3).symm.trans h
          refine Ev.icmp_ge_f (pc := 47) dX7_readInto_47 ⟨65, rfl⟩ c3 ?_
          refine Ev.aload_n (pc := 50) dX7_readInto_50 rfl rfl ?_
          refine Ev.aload_n (pc := 51) dX7_readInto_51 rfl rfl ?_
          obtain ⟨u4, σ5, g6, h⟩ := bd_elim h
          refine Ev.cVv (pc := 52) (k := 21) (av := [vR 11]) (rest := []) dX7_readInto_52 ce_X7_readClause ml_X7_40 rfl sh_21 cl_X7 sh_sc (Nat.le_of_ble_eq_true rfl) (Nat.le_of_ble_eq_true rfl) (r_X7_readClause_21_11 g6) ?_
          refine Ev.aload_n (pc := 55) dX7_readInto_55 rfl rfl ?_
          obtain ⟨u7, σ8, g9, h⟩ := bd_elim h
          refine Ev.cVv (pc := 56) (k := 21) (av := []) (rest := []) dX7_readInto_56 ce_X7_skipBlanks ml_X7_37 rfl sh_21 cl_X7 sh_sc (Nat.le_of_ble_eq_true rfl) (Nat.le_of_ble_eq_true rfl) (r_X7_skipBlanks g9) ?_
          obtain ⟨x10, e_x10, h⟩ := bt_elim h
          refine Ev.iinc (pc := 59) (v := x10) (lv' := [some (vR 21), some (vR 11), some (vI x10)]) dX7_readInto_59 rfl (by rw [ki_1, e_x10]) (lt9 rfl) rfl rfl ?_
          refine Ev.goto (pc := 62) (tgt := 25) dX7_readInto_62 rfl ?_
          exact Ev.weak2 (ih _ _ _ _ h) (lsubS (lsubS (lsubS lsubE)))
      · replace h := (if_neg c2).symm.trans h
        refine Ev.if_ne_t (pc := 36) (tgt := 65) dX7_readInto_36 rfl c2 ?_
        exact Ev.weak2 (lj_X7_readInto_21_11_65 N _ _ _ h) (lsubS (lsubS (lsubN lsubE)))
theorem e_X7_readInto_21_11 (N : Nat)  (σ : St) (v : Int32) (w : St) (h : o_X7_readInto_21_11 N  σ = some (v, w)) : Ev md_X7_readInto 5 0 (lvE [vR 21, vR 11] 3) [] SH σ (some (vI v), SH, w) := by
  show Ev md_X7_readInto 5 0 [some (vR 21), some (vR 11), none] [] SH σ (some (vI v), SH, w)
  unfold o_X7_readInto_21_11 at h
  refine Ev.aload_n (pc := 0) dX7_readInto_0 rfl rfl ?_
  refine Ev.iconst (pc := 1) (v := 0) dX7_readInto_1 ki_0 ?_
  refine Ev.putI (pc := 2) dX7_readInto_2 pl_X7_26 sh_21 rfl rfl rfl ?_
  refine Ev.nmS (fun σ1 e9 => ?_)
  replace h := bt_app h σ1 e9
  refine Ev.aload_n (pc := 5) dX7_readInto_5 rfl rfl ?_
  refine Ev.iconst (pc := 6) (v := 0) dX7_readInto_6 ki_0 ?_
  refine Ev.putI (pc := 7) dX7_readInto_7 pl_X7_29 sh_21 rfl rfl rfl ?_
  refine Ev.nmS (fun σ2 e9 => ?_)
  replace h := bt_app h σ2 e9
  refine Ev.aload_n (pc := 10) dX7_readInto_10 rfl rfl ?_
  refine Ev.iconst (pc := 11) (v := (-1)) dX7_readInto_11 ki_m1 ?_
  refine Ev.putI (pc := 12) dX7_readInto_12 pl_X7_15 sh_21 rfl rfl rfl ?_
  refine Ev.nmS (fun σ3 e9 => ?_)
  replace h := bt_app h σ3 e9
  refine Ev.aload_n (pc := 15) dX7_readInto_15 rfl rfl ?_
  obtain ⟨u4, σ5, g6, h⟩ := bd_elim h
  refine Ev.cVv (pc := 16) (k := 11) (av := []) (rest := []) dX7_readInto_16 ce_X5_clear ml_X7_32 rfl sh_11 cl_X5 sh_sc (Nat.le_of_ble_eq_true rfl) (Nat.le_of_ble_eq_true rfl) (r_X5_clear_11 g6) ?_
  refine Ev.aload_n (pc := 19) dX7_readInto_19 rfl rfl ?_
  obtain ⟨u7, σ8, g9, h⟩ := bd_elim h
  refine Ev.cVv (pc := 20) (k := 21) (av := []) (rest := []) dX7_readInto_20 ce_X7_skipBlanks ml_X7_37 rfl sh_21 cl_X7 sh_sc (Nat.le_of_ble_eq_true rfl) (Nat.le_of_ble_eq_true rfl) (r_X7_skipBlanks g9) ?_
  refine Ev.iconst (pc := 23) (v := 0) dX7_readInto_23 ki_0 ?_
  refine Ev.istore_n (pc := 24) (lv' := [some (vR 21), some (vR 11), some (vI 0)]) dX7_readInto_24 rfl (lt9 rfl) rfl rfl ?_
  exact Ev.weak2 (ll_X7_readInto_21_11_25 N N _ _ _ _ h) (lsubS (lsubS (lsubS lsubE)))
theorem r_X7_readInto_21_11 {N : Nat}  {σ : St} {v : Int32} {w : St} (h : o_X7_readInto_21_11 N  σ = some (v, w)) : Rn md_X7_readInto 5 [vR 21, vR 11] SH σ (some (vI v), SH, w) := Rn.of ce_X7_readInto.1 (Nat.le_of_ble_eq_true rfl) (e_X7_readInto_21_11 N  _ _ _ h)
def j_X5_clear_1_65 (N : Nat) (K_37 : Int32 → St → Option (Unit × St)) (v1 : Int32) (s1 : Int32) (s2 : Int32) (σ : St) : Option (Unit × St) := ckA s1 25 (bt (st σ 10 s1.toNatClampNeg s2) fun σ2 => bt (v1 + 1) fun x3 => K_37 x3 σ2)
def l_X5_clear_1_37 (N : Nat) : Nat → Int32 → St → Option (Unit × St)
  | 0, _, _ => none
  | n + 1, v1, σ => if (25 : Int32) ≤ v1 then (some ((), σ)) else (if (v1 / 5) = (v1 - v1 / 5 * 5) then (j_X5_clear_1_65 N (l_X5_clear_1_37 N n) v1 v1 0 σ) else (j_X5_clear_1_65 N (l_X5_clear_1_37 N n) v1 v1 (-1) σ))
def o_X5_clear_1 (N : Nat)  (σ : St) : Option (Unit × St) := bt (st σ 1 0 0) fun σ1 => bt (st σ1 1 1 0) fun σ2 => bt (st σ2 1 2 0) fun σ3 => bt (st σ3 1 3 0) fun σ4 => bt (st σ4 1 4 0) fun σ5 => bt (st σ5 1 5 0) fun σ6 => bt (st σ6 1 6 0) fun σ7 => l_X5_clear_1_37 N N 0 σ7
theorem lj_X5_clear_1_65 (N : Nat) (K_37 : Int32 → St → Option (Unit × St)) (hK_37 : ∀ (v1 : Int32) (σ : St) (v : Unit) (w : St), K_37 v1 σ = some (v, w) → Ev md_X5_clear 0 37 [some (vR 1), some (vI v1)] [] SH σ (none, SH, w)) (v1 : Int32) (s1 : Int32) (s2 : Int32) (σ : St) (v : Unit) (w : St) (h : j_X5_clear_1_65 N K_37 v1 s1 s2 σ = some (v, w)) : Ev md_X5_clear 0 65 [some (vR 1), some (vI v1)] [vI s2, vI s1, vR 10] SH σ (none, SH, w) := by
  unfold j_X5_clear_1_65 at h
  obtain ⟨c1, h⟩ := ckA_elim h
  refine Ev.iast (pc := 65) dX5_clear_65 sh_10 c1 ?_
  refine Ev.nmS (fun σ2 e9 => ?_)
  replace h := bt_app h σ2 e9
  obtain ⟨x3, e_x3, h⟩ := bt_elim h
  refine Ev.iinc (pc := 66) (v := x3) (lv' := [some (vR 1), some (vI x3)]) dX5_clear_66 rfl (by rw [ki_1, e_x3]) (lt9 rfl) rfl rfl ?_
  refine Ev.goto (pc := 69) (tgt := 37) dX5_clear_69 rfl ?_
  exact Ev.weak2 (hK_37 _ _ _ _ h) (lsubS (lsubS lsubE))
theorem ll_X5_clear_1_37 (N : Nat) : ∀ (n : Nat) (v1 : Int32) (σ : St) (v : Unit) (w : St), l_X5_clear_1_37 N n v1 σ = some (v, w) → Ev md_X5_clear 0 37 [some (vR 1), some (vI v1)] [] SH σ (none, SH, w) := by
  intro n
  induction n with
  | zero =>
    intro v1 σ v w h
    rw [l_X5_clear_1_37] at h
    cases h
  | succ n ih =>
    intro v1 σ v w h
    rw [l_X5_clear_1_37] at h
    refine Ev.iload_n (pc := 37) dX5_clear_37 rfl rfl ?_
    refine Ev.aload_n (pc := 38) dX5_clear_38 rfl rfl ?_
    refine Ev.getR (pc := 39) dX5_clear_39 fl_X5_36 sh_1 rfl ?_
    refine Ev.alen (pc := 42) (v := 25) dX5_clear_42 sh_10 kn_25 ?_
    by_cases c1 : (25 : Int32) ≤ v1
    · replace h := (if_pos c1).symm.trans h
      refine Ev.icmp_ge_t (pc := 43) (tgt := 72) dX5_clear_43 rfl c1 ?_
      obtain ⟨h1, h2⟩ := oeq h
      subst h1
      subst h2
      exact Ev.ret_v (pc := 72) dX5_clear_72 rfl
    · replace h := (if_neg c1).symm.trans h
      refine Ev.icmp_ge_f (pc := 43) dX5_clear_43 ⟨72, rfl⟩ c1 ?_
      refine Ev.aload_n (pc := 46) dX5_clear_46 rfl rfl ?_
      refine Ev.getR (pc := 47) dX5_clear_47 fl_X5_36 sh_1 rfl ?_
      refine Ev.iload_n (pc := 50) dX5_clear_50 rfl rfl ?_
      refine Ev.iload_n (pc := 51) dX5_clear_51 rfl rfl ?_
      refine Ev.iconst (pc := 52) (v := 5) dX5_clear_52 ki_5 ?_
      refine Ev.idiv (pc := 53) dX5_clear_53 (by decide) ?_
      refine Ev.iload_n (pc := 54) dX5_clear_54 rfl rfl ?_
      refine Ev.iconst (pc := 55) (v := 5) dX5_clear_55 ki_5 ?_
      refine Ev.irem (pc := 56) dX5_clear_56 (by decide) ?_
      by_cases c2 : (v1 / 5) = (v1 - v1 / 5 * 5)
      · replace h := (if_pos c2).symm.trans h
        refine Ev.icmp_ne_f (pc := 57) dX5_clear_57 ⟨64, rfl⟩ c2 ?_
        refine Ev.iconst (pc := 60) (v := 0) dX5_clear_60 ki_0 ?_
        refine Ev.goto (pc := 61) (tgt := 65) dX5_clear_61 rfl ?_
        exact Ev.weak2 (lj_X5_clear_1_65 N (l_X5_clear_1_37 N n) ih _ _ _ _ _ _ h) (lsubS (lsubS lsubE))
      · replace h := (if_neg c2).symm.trans h
        refine Ev.icmp_ne_t (pc := 57) (tgt := 64) dX5_clear_57 rfl c2 ?_
        refine Ev.iconst (pc := 64) (v := (-1)) dX5_clear_64 ki_m1 ?_
        exact Ev.weak2 (lj_X5_clear_1_65 N (l_X5_clear_1_37 N n) ih _ _ _ _ _ _ h) (lsubS (lsubS lsubE))
theorem e_X5_clear_1 (N : Nat)  (σ : St) (v : Unit) (w : St) (h : o_X5_clear_1 N  σ = some (v, w)) : Ev md_X5_clear 0 0 (lvE [vR 1] 2) [] SH σ (none, SH, w) := by
  show Ev md_X5_clear 0 0 [some (vR 1), none] [] SH σ (none, SH, w)
  unfold o_X5_clear_1 at h
  refine Ev.aload_n (pc := 0) dX5_clear_0 rfl rfl ?_
  refine Ev.iconst (pc := 1) (v := 0) dX5_clear_1 ki_0 ?_
  refine Ev.putI (pc := 2) dX5_clear_2 pl_X5_39 sh_1 rfl rfl rfl ?_
  refine Ev.nmS (fun σ1 e9 => ?_)
  replace h := bt_app h σ1 e9
  refine Ev.aload_n (pc := 5) dX5_clear_5 rfl rfl ?_
  refine Ev.iconst (pc := 6) (v := 0) dX5_clear_6 ki_0 ?_
  refine Ev.putI (pc := 7) dX5_clear_7 pl_X5_43 sh_1 rfl rfl rfl ?_
  refine Ev.nmS (fun σ2 e9 => ?_)
  replace h := bt_app h σ2 e9
  refine Ev.aload_n (pc := 10) dX5_clear_10 rfl rfl ?_
  refine Ev.iconst (pc := 11) (v := 0) dX5_clear_11 ki_0 ?_
  refine Ev.putI (pc := 12) dX5_clear_12 pl_X5_46 sh_1 rfl rfl rfl ?_
  refine Ev.nmS (fun σ3 e9 => ?_)
  replace h := bt_app h σ3 e9
  refine Ev.aload_n (pc := 15) dX5_clear_15 rfl rfl ?_
  refine Ev.iconst (pc := 16) (v := 0) dX5_clear_16 ki_0 ?_
  refine Ev.putI (pc := 17) dX5_clear_17 pl_X5_49 sh_1 rfl rfl rfl ?_
  refine Ev.nmS (fun σ4 e9 => ?_)
  replace h := bt_app h σ4 e9
  refine Ev.aload_n (pc := 20) dX5_clear_20 rfl rfl ?_
  refine Ev.iconst (pc := 21) (v := 0) dX5_clear_21 ki_0 ?_
  refine Ev.putI (pc := 22) dX5_clear_22 pl_X5_52 sh_1 rfl rfl rfl ?_
  refine Ev.nmS (fun σ5 e9 => ?_)
  replace h := bt_app h σ5 e9
  refine Ev.aload_n (pc := 25) dX5_clear_25 rfl rfl ?_
  refine Ev.iconst (pc := 26) (v := 0) dX5_clear_26 ki_0 ?_
  refine Ev.putI (pc := 27) dX5_clear_27 pl_X5_55 sh_1 rfl rfl rfl ?_
  refine Ev.nmS (fun σ6 e9 => ?_)
  replace h := bt_app h σ6 e9
  refine Ev.aload_n (pc := 30) dX5_clear_30 rfl rfl ?_
  refine Ev.iconst (pc := 31) (v := 0) dX5_clear_31 ki_0 ?_
  refine Ev.putI (pc := 32) dX5_clear_32 pl_X5_58 sh_1 rfl rfl rfl ?_
  refine Ev.nmS (fun σ7 e9 => ?_)
  replace h := bt_app h σ7 e9
  refine Ev.iconst (pc := 35) (v := 0) dX5_clear_35 ki_0 ?_
  refine Ev.istore_n (pc := 36) (lv' := [some (vR 1), some (vI 0)]) dX5_clear_36 rfl (lt9 rfl) rfl rfl ?_
  exact Ev.weak2 (ll_X5_clear_1_37 N N _ _ _ _ h) (lsubS (lsubS lsubE))
theorem r_X5_clear_1 {N : Nat}  {σ : St} {v : Unit} {w : St} (h : o_X5_clear_1 N  σ = some (v, w)) : Rn md_X5_clear 0 [vR 1] SH σ (none, SH, w) := Rn.of ce_X5_clear.1 (Nat.le_of_ble_eq_true rfl) (e_X5_clear_1 N  _ _ _ h)
def p_X7_isOneTooMany_21_1 (a1 : Int32) (σ : St) : Int32 := if a1 = 107 then (if (σ 1 2) < 3 then 0 else 1) else if a1 = 112 then (if (σ 1 3) < 7 then 0 else 1) else if a1 = 114 then (if (σ 1 1) < 8 then 0 else 1) else if a1 = 116 then (if (σ 1 0) ≤ 0 then 0 else 1) else if a1 = 119 then (if (σ 1 6) ≤ 0 then 0 else 1) else 0
theorem e_X7_isOneTooMany_21_1 (a1 : Int32) (σ : St) (v : Int32) (h : p_X7_isOneTooMany_21_1 a1 σ = v) : Ev md_X7_isOneTooMany 0 0 (lvE [vR 21, vI a1, vR 1] 3) [] SH σ (some (vI v), SH, σ) := by
  show Ev md_X7_isOneTooMany 0 0 [some (vR 21), some (vI a1), some (vR 1)] [] SH σ (some (vI v), SH, σ)
  unfold p_X7_isOneTooMany_21_1 at h
  refine Ev.iload_n (pc := 0) dX7_isOneTooMany_0 rfl rfl ?_
  by_cases c1 : a1 = 107
  · replace h := (if_pos c1).symm.trans h
    refine Ev.swC (pc := 1) (c := 107) (tgt := 96) dX7_isOneTooMany_1 c1 (by decide) (by decide) rfl rfl ?_
    refine Ev.aload_n (pc := 96) dX7_isOneTooMany_96 rfl rfl ?_
    refine Ev.getI (pc := 97) dX7_isOneTooMany_97 fl_X7_80 sh_1 rfl ?_
    refine Ev.iconst (pc := 100) (v := 3) dX7_isOneTooMany_100 ki_3 ?_
    by_cases c2 : (σ 1 2) < 3
    · replace h := (if_pos c2).symm.trans h
      refine Ev.icmp_lt_t (pc := 101) (tgt := 108) dX7_isOneTooMany_101 rfl c2 ?_
      refine Ev.iconst (pc := 108) (v := 0) dX7_isOneTooMany_108 ki_0 ?_
      subst h
      exact Ev.ret_i (pc := 109) dX7_isOneTooMany_109 rfl nb_0
    · replace h := (if_neg c2).symm.trans h
      refine Ev.icmp_lt_f (pc := 101) dX7_isOneTooMany_101 ⟨108, rfl⟩ c2 ?_
      refine Ev.iconst (pc := 104) (v := 1) dX7_isOneTooMany_104 ki_1 ?_
      refine Ev.goto (pc := 105) (tgt := 109) dX7_isOneTooMany_105 rfl ?_
      subst h
      exact Ev.ret_i (pc := 109) dX7_isOneTooMany_109 rfl nb_1
  replace h := (if_neg c1).symm.trans h
  by_cases c3 : a1 = 112
  · replace h := (if_pos c3).symm.trans h
    refine Ev.swC (pc := 1) (c := 112) (tgt := 110) dX7_isOneTooMany_1 c3 (by decide) (by decide) rfl rfl ?_
    refine Ev.aload_n (pc := 110) dX7_isOneTooMany_110 rfl rfl ?_
    refine Ev.getI (pc := 111) dX7_isOneTooMany_111 fl_X7_83 sh_1 rfl ?_
    refine Ev.bipush (pc := 114) (v := 7) dX7_isOneTooMany_114 kb_7 ?_
    by_cases c4 : (σ 1 3) < 7
    · replace h := (if_pos c4).symm.trans h
      refine Ev.icmp_lt_t (pc := 116) (tgt := 123) dX7_isOneTooMany_116 rfl c4 ?_
      refine Ev.iconst (pc := 123) (v := 0) dX7_isOneTooMany_123 ki_0 ?_
      subst h
      exact Ev.ret_i (pc := 124) dX7_isOneTooMany_124 rfl nb_0
    · replace h := (if_neg c4).symm.trans h
      refine Ev.icmp_lt_f (pc := 116) dX7_isOneTooMany_116 ⟨123, rfl⟩ c4 ?_
      refine Ev.iconst (pc := 119) (v := 1) dX7_isOneTooMany_119 ki_1 ?_
      refine Ev.goto (pc := 120) (tgt := 124) dX7_isOneTooMany_120 rfl ?_
      subst h
      exact Ev.ret_i (pc := 124) dX7_isOneTooMany_124 rfl nb_1
  replace h := (if_neg c3).symm.trans h
  by_cases c5 : a1 = 114
  · replace h := (if_pos c5).symm.trans h
    refine Ev.swC (pc := 1) (c := 114) (tgt := 81) dX7_isOneTooMany_1 c5 (by decide) (by decide) rfl rfl ?_
    refine Ev.aload_n (pc := 81) dX7_isOneTooMany_81 rfl rfl ?_
    refine Ev.getI (pc := 82) dX7_isOneTooMany_82 fl_X7_77 sh_1 rfl ?_
    refine Ev.bipush (pc := 85) (v := 8) dX7_isOneTooMany_85 kb_8 ?_
    by_cases c6 : (σ 1 1) < 8
    · replace h := (if_pos c6).symm.trans h
      refine Ev.icmp_lt_t (pc := 87) (tgt := 94) dX7_isOneTooMany_87 rfl c6 ?_
      refine Ev.iconst (pc := 94) (v := 0) dX7_isOneTooMany_94 ki_0 ?_
      subst h
      exact Ev.ret_i (pc := 95) dX7_isOneTooMany_95 rfl nb_0
    · replace h := (if_neg c6).symm.trans h
      refine Ev.icmp_lt_f (pc := 87) dX7_isOneTooMany_87 ⟨94, rfl⟩ c6 ?_
      refine Ev.iconst (pc := 90) (v := 1) dX7_isOneTooMany_90 ki_1 ?_
      refine Ev.goto (pc := 91) (tgt := 95) dX7_isOneTooMany_91 rfl ?_
      subst h
      exact Ev.ret_i (pc := 95) dX7_isOneTooMany_95 rfl nb_1
  replace h := (if_neg c5).symm.trans h
  by_cases c7 : a1 = 116
  · replace h := (if_pos c7).symm.trans h
    refine Ev.swC (pc := 1) (c := 116) (tgt := 68) dX7_isOneTooMany_1 c7 (by decide) (by decide) rfl rfl ?_
    refine Ev.aload_n (pc := 68) dX7_isOneTooMany_68 rfl rfl ?_
    refine Ev.getI (pc := 69) dX7_isOneTooMany_69 fl_X7_51 sh_1 rfl ?_
    by_cases c8 : (σ 1 0) ≤ 0
    · replace h := (if_pos c8).symm.trans h
      refine Ev.if_le_t (pc := 72) (tgt := 79) dX7_isOneTooMany_72 rfl c8 ?_
      refine Ev.iconst (pc := 79) (v := 0) dX7_isOneTooMany_79 ki_0 ?_
      subst h
      exact Ev.ret_i (pc := 80) dX7_isOneTooMany_80 rfl nb_0
    · replace h := (if_neg c8).symm.trans h
      refine Ev.if_le_f (pc := 72) dX7_isOneTooMany_72 ⟨79, rfl⟩ c8 ?_
      refine Ev.iconst (pc := 75) (v := 1) dX7_isOneTooMany_75 ki_1 ?_
      refine Ev.goto (pc := 76) (tgt := 80) dX7_isOneTooMany_76 rfl ?_
      subst h
      exact Ev.ret_i (pc := 80) dX7_isOneTooMany_80 rfl nb_1
  replace h := (if_neg c7).symm.trans h
  by_cases c9 : a1 = 119
  · replace h := (if_pos c9).symm.trans h
    refine Ev.swC (pc := 1) (c := 119) (tgt := 125) dX7_isOneTooMany_1 c9 (by decide) (by decide) rfl rfl ?_
    refine Ev.aload_n (pc := 125) dX7_isOneTooMany_125 rfl rfl ?_
    refine Ev.getI (pc := 126) dX7_isOneTooMany_126 fl_X7_86 sh_1 rfl ?_
    by_cases c10 : (σ 1 6) ≤ 0
    · replace h := (if_pos c10).symm.trans h
      refine Ev.if_le_t (pc := 129) (tgt := 136) dX7_isOneTooMany_129 rfl c10 ?_
      refine Ev.iconst (pc := 136) (v := 0) dX7_isOneTooMany_136 ki_0 ?_
      subst h
      exact Ev.ret_i (pc := 137) dX7_isOneTooMany_137 rfl nb_0
    · replace h := (if_neg c10).symm.trans h
      refine Ev.if_le_f (pc := 129) dX7_isOneTooMany_129 ⟨136, rfl⟩ c10 ?_
      refine Ev.iconst (pc := 132) (v := 1) dX7_isOneTooMany_132 ki_1 ?_
      refine Ev.goto (pc := 133) (tgt := 137) dX7_isOneTooMany_133 rfl ?_
      subst h
      exact Ev.ret_i (pc := 137) dX7_isOneTooMany_137 rfl nb_1
  replace h := (if_neg c9).symm.trans h
  refine Ev.swD (pc := 1) (tgt := 138) (tl := [107, 112, 114, 116, 119]) dX7_isOneTooMany_1 (not_mem_cons9 (neI c1 rfl) (not_mem_cons9 (neI c3 rfl) (not_mem_cons9 (neI c5 rfl) (not_mem_cons9 (neI c7 rfl) (not_mem_cons9 (neI c9 rfl) (not_mem_nil9)))))) rfl rfl rfl ?_
  refine Ev.iconst (pc := 138) (v := 0) dX7_isOneTooMany_138 ki_0 ?_
  subst h
  exact Ev.ret_i (pc := 139) dX7_isOneTooMany_139 rfl nb_0
theorem r_X7_isOneTooMany_21_1 (a1 : Int32) (σ : St) : Rn md_X7_isOneTooMany 0 [vR 21, vI a1, vR 1] SH σ (some (vI (p_X7_isOneTooMany_21_1 a1 σ)), SH, σ) := Rn.of ce_X7_isOneTooMany.1 (Nat.le_of_ble_eq_true rfl) (e_X7_isOneTooMany_21_1 _ _ _ rfl)
def o_X7_readKeeper_21_1 (N : Nat)  (σ : St) : Option (Unit × St) := bt (st σ 21 2 ((σ 21 2) + 1)) fun σ1 => bd (o_X7_number N 0 ((σ1 1 0) - 1) σ1) fun x2 σ3 => bd (o_X7_number N 0 2 σ3) fun x5 σ6 => bd (o_X7_isEnd N  σ6) fun x8 σ9 => if x8 = 0 then (some ((), σ9)) else (bt (put_ σ9 2 3 (σ9 1 2) x2) fun σ12 => bt (put_ σ12 3 3 (σ12 1 2) x5) fun σ13 => bt (st σ13 1 2 ((σ13 1 2) + 1)) fun σ14 => some ((), σ14))
theorem e_X7_readKeeper_21_1 (N : Nat)  (σ : St) (v : Unit) (w : St) (h : o_X7_readKeeper_21_1 N  σ = some (v, w)) : Ev md_X7_readKeeper 3 0 (lvE [vR 21, vR 1] 4) [] SH σ (none, SH, w) := by
  show Ev md_X7_readKeeper 3 0 [some (vR 21), some (vR 1), none, none] [] SH σ (none, SH, w)
  unfold o_X7_readKeeper_21_1 at h
  refine Ev.aload_n (pc := 0) dX7_readKeeper_0 rfl rfl ?_
  refine Ev.dup (pc := 1) dX7_readKeeper_1 rfl ?_
  refine Ev.getI (pc := 2) dX7_readKeeper_2 fl_X7_26 sh_21 rfl ?_
  refine Ev.iconst (pc := 5) (v := 1) dX7_readKeeper_5 ki_1 ?_
  refine Ev.iadd (pc := 6) dX7_readKeeper_6 ?_
  refine Ev.putI (pc := 7) dX7_readKeeper_7 pl_X7_26 sh_21 rfl rfl rfl ?_
  refine Ev.nmS (fun σ1 e9 => ?_)
  replace h := bt_app h σ1 e9
  refine Ev.aload_n (pc := 10) dX7_readKeeper_10 rfl rfl ?_
  refine Ev.iconst (pc := 11) (v := 0) dX7_readKeeper_11 ki_0 ?_
  refine Ev.aload_n (pc := 12) dX7_readKeeper_12 rfl rfl ?_
  refine Ev.getI (pc := 13) dX7_readKeeper_13 fl_X7_51 sh_1 rfl ?_
  refine Ev.iconst (pc := 16) (v := 1) dX7_readKeeper_16 ki_1 ?_
  refine Ev.isub (pc := 17) dX7_readKeeper_17 ?_
  obtain ⟨x2, σ3, g4, h⟩ := bd_elim h
  refine Ev.cVi (pc := 18) (k := 21) (av := [vI 0, vI ((σ1 1 0) - 1)]) (rest := []) dX7_readKeeper_18 ce_X7_number ml_X7_89 rfl sh_21 cl_X7 sh_sc (Nat.le_of_ble_eq_true rfl) (Nat.le_of_ble_eq_true rfl) (r_X7_number g4) ?_
  refine Ev.istore_n (pc := 21) (lv' := [some (vR 21), some (vR 1), some (vI x2), none]) dX7_readKeeper_21 rfl (lt9 rfl) rfl rfl ?_
  refine Ev.aload_n (pc := 22) dX7_readKeeper_22 rfl rfl ?_
  refine Ev.iconst (pc := 23) (v := 0) dX7_readKeeper_23 ki_0 ?_
  refine Ev.iconst (pc := 24) (v := 2) dX7_readKeeper_24 ki_2 ?_
  obtain ⟨x5, σ6, g7, h⟩ := bd_elim h
  refine Ev.cVi (pc := 25) (k := 21) (av := [vI 0, vI 2]) (rest := []) dX7_readKeeper_25 ce_X7_number ml_X7_89 rfl sh_21 cl_X7 sh_sc (Nat.le_of_ble_eq_true rfl) (Nat.le_of_ble_eq_true rfl) (r_X7_number g7) ?_
  refine Ev.istore_n (pc := 28) (lv' := [some (vR 21), some (vR 1), some (vI x2), some (vI x5)]) dX7_readKeeper_28 rfl (lt9 rfl) rfl rfl ?_
  refine Ev.aload_n (pc := 29) dX7_readKeeper_29 rfl rfl ?_
  obtain ⟨x8, σ9, g10, h⟩ := bd_elim h
  refine Ev.cVi (pc := 30) (k := 21) (av := []) (rest := []) dX7_readKeeper_30 ce_X7_isEnd ml_X7_93 rfl sh_21 cl_X7 sh_sc (Nat.le_of_ble_eq_true rfl) (Nat.le_of_ble_eq_true rfl) (r_X7_isEnd g10) ?_
  by_cases c11 : x8 = 0
  · replace h := (if_pos c11).symm.trans h
    refine Ev.if_eq_t (pc := 33) (tgt := 70) dX7_readKeeper_33 rfl c11 ?_
    obtain ⟨h1, h2⟩ := oeq h
    subst h1
    subst h2
    exact Ev.ret_v (pc := 70) dX7_readKeeper_70 rfl
  · replace h := (if_neg c11).symm.trans h
    refine Ev.if_eq_f (pc := 33) dX7_readKeeper_33 ⟨70, rfl⟩ c11 ?_
    refine Ev.aload_n (pc := 36) dX7_readKeeper_36 rfl rfl ?_
    refine Ev.getR (pc := 37) dX7_readKeeper_37 fl_X7_104 sh_1 rfl ?_
    refine Ev.aload_n (pc := 40) dX7_readKeeper_40 rfl rfl ?_
    refine Ev.getI (pc := 41) dX7_readKeeper_41 fl_X7_80 sh_1 rfl ?_
    refine Ev.iload_n (pc := 44) dX7_readKeeper_44 rfl rfl ?_
    refine Ev.cTv (pc := 45) (av := [vR 2, vI (σ9 1 2), vI x2]) (rest := []) dX7_readKeeper_45 ce_X9_put ml_X7_22 rfl sh_sc (Nat.le_of_ble_eq_true rfl) (Nat.le_of_ble_eq_true rfl) (r_put sh_2 (by decide) _ _ _) ?_
    refine Ev.nmS (fun σ12 e9 => ?_)
    replace h := bt_app h σ12 e9
    refine Ev.aload_n (pc := 48) dX7_readKeeper_48 rfl rfl ?_
    refine Ev.getR (pc := 49) dX7_readKeeper_49 fl_X7_107 sh_1 rfl ?_
    refine Ev.aload_n (pc := 52) dX7_readKeeper_52 rfl rfl ?_
    refine Ev.getI (pc := 53) dX7_readKeeper_53 fl_X7_80 sh_1 rfl ?_
    refine Ev.iload_n (pc := 56) dX7_readKeeper_56 rfl rfl ?_
    refine Ev.cTv (pc := 57) (av := [vR 3, vI (σ12 1 2), vI x5]) (rest := []) dX7_readKeeper_57 ce_X9_put ml_X7_22 rfl sh_sc (Nat.le_of_ble_eq_true rfl) (Nat.le_of_ble_eq_true rfl) (r_put sh_3 (by decide) _ _ _) ?_
    refine Ev.nmS (fun σ13 e9 => ?_)
    replace h := bt_app h σ13 e9
    refine Ev.aload_n (pc := 60) dX7_readKeeper_60 rfl rfl ?_
    refine Ev.dup (pc := 61) dX7_readKeeper_61 rfl ?_
    refine Ev.getI (pc := 62) dX7_readKeeper_62 fl_X7_80 sh_1 rfl ?_
    refine Ev.iconst (pc := 65) (v := 1) dX7_readKeeper_65 ki_1 ?_
    refine Ev.iadd (pc := 66) dX7_readKeeper_66 ?_
    refine Ev.putI (pc := 67) dX7_readKeeper_67 pl_X7_80 sh_1 rfl rfl rfl ?_
    refine Ev.nmS (fun σ14 e9 => ?_)
    replace h := bt_app h σ14 e9
    obtain ⟨h1, h2⟩ := oeq h
    subst h1
    subst h2
    exact Ev.ret_v (pc := 70) dX7_readKeeper_70 rfl
theorem r_X7_readKeeper_21_1 {N : Nat}  {σ : St} {v : Unit} {w : St} (h : o_X7_readKeeper_21_1 N  σ = some (v, w)) : Rn md_X7_readKeeper 3 [vR 21, vR 1] SH σ (none, SH, w) := Rn.of ce_X7_readKeeper.1 (Nat.le_of_ble_eq_true rfl) (e_X7_readKeeper_21_1 N  _ _ _ h)
def j_X7_readPromise_21_1_180 (N : Nat) (s1 : Int32) (s2 : Int32) (σ : St) : Option (Unit × St) := bt (put_ σ 9 7 s1 s2) fun σ1 => bt (st σ1 1 3 ((σ1 1 3) + 1)) fun σ2 => some ((), σ2)
def j_X7_readPromise_21_1_95 (N : Nat) (v2 : Int32) (v3 : Int32) (v4 : Int32) (v5 : Int32) (v6 : Int32) (v7 : Int32) (σ : St) : Option (Unit × St) := bd (o_X7_isEnd N  σ) fun x1 σ2 => if x1 = 0 then (some ((), σ2)) else (bt (σ2 1 3) fun x5 => bt (put_ σ2 4 7 x5 v2) fun σ6 => bt (put_ σ6 5 7 x5 v3) fun σ7 => bt (put_ σ7 6 7 x5 v4) fun σ8 => bt (put_ σ8 7 7 x5 v5) fun σ9 => bt (put_ σ9 8 7 x5 v6) fun σ10 => if v7 = 9 then (j_X7_readPromise_21_1_180 N x5 (-1) σ10) else (j_X7_readPromise_21_1_180 N x5 v7 σ10))
def o_X7_readPromise_21_1 (N : Nat)  (σ : St) : Option (Unit × St) := bt (st σ 21 2 ((σ 21 2) + 1)) fun σ1 => bd (o_X7_number N 0 ((σ1 1 2) - 1) σ1) fun x2 σ3 => bd (o_X7_number N 0 ((σ3 1 0) - 1) σ3) fun x5 σ6 => bd (o_X7_number N 1 60 σ6) fun x8 σ9 => bd (o_X7_number N 0 9 σ9) fun x11 σ12 => bd (o_X7_number N 1 9 σ12) fun x14 σ15 => bd (o_X7_number N 0 9 σ15) fun x17 σ18 => if x17 = 9 then (j_X7_readPromise_21_1_95 N x2 x5 x8 x11 x14 x17 σ18) else (if x17 < (σ18 1 3) then (j_X7_readPromise_21_1_95 N x2 x5 x8 x11 x14 x17 σ18) else (bt (t_X7_blame 2 (σ18 21 3) σ18) fun σ22 => j_X7_readPromise_21_1_95 N x2 x5 x8 x11 x14 x17 σ22))
theorem lj_X7_readPromise_21_1_180 (N : Nat) (s1 : Int32) (s2 : Int32) (σ : St) (v : Unit) (w : St) (h : j_X7_readPromise_21_1_180 N s1 s2 σ = some (v, w)) : Ev md_X7_readPromise 3 180 [none, some (vR 1), none, none, none, none, none, none, none] [vI s2, vI s1, vR 9] SH σ (none, SH, w) := by
  unfold j_X7_readPromise_21_1_180 at h
  refine Ev.cTv (pc := 180) (av := [vR 9, vI s1, vI s2]) (rest := []) dX7_readPromise_180 ce_X9_put ml_X7_22 rfl sh_sc (Nat.le_of_ble_eq_true rfl) (Nat.le_of_ble_eq_true rfl) (r_put sh_9 (by decide) _ _ _) ?_
  refine Ev.nmS (fun σ1 e9 => ?_)
  replace h := bt_app h σ1 e9
  refine Ev.aload_n (pc := 183) dX7_readPromise_183 rfl rfl ?_
  refine Ev.dup (pc := 184) dX7_readPromise_184 rfl ?_
  refine Ev.getI (pc := 185) dX7_readPromise_185 fl_X7_83 sh_1 rfl ?_
  refine Ev.iconst (pc := 188) (v := 1) dX7_readPromise_188 ki_1 ?_
  refine Ev.iadd (pc := 189) dX7_readPromise_189 ?_
  refine Ev.putI (pc := 190) dX7_readPromise_190 pl_X7_83 sh_1 rfl rfl rfl ?_
  refine Ev.nmS (fun σ2 e9 => ?_)
  replace h := bt_app h σ2 e9
  obtain ⟨h1, h2⟩ := oeq h
  subst h1
  subst h2
  exact Ev.ret_v (pc := 193) dX7_readPromise_193 rfl
theorem lj_X7_readPromise_21_1_95 (N : Nat) (v2 : Int32) (v3 : Int32) (v4 : Int32) (v5 : Int32) (v6 : Int32) (v7 : Int32) (σ : St) (v : Unit) (w : St) (h : j_X7_readPromise_21_1_95 N v2 v3 v4 v5 v6 v7 σ = some (v, w)) : Ev md_X7_readPromise 3 95 [some (vR 21), some (vR 1), some (vI v2), some (vI v3), some (vI v4), some (vI v5), some (vI v6), some (vI v7), none] [] SH σ (none, SH, w) := by
  unfold j_X7_readPromise_21_1_95 at h
  refine Ev.aload_n (pc := 95) dX7_readPromise_95 rfl rfl ?_
  obtain ⟨x1, σ2, g3, h⟩ := bd_elim h
  refine Ev.cVi (pc := 96) (k := 21) (av := []) (rest := []) dX7_readPromise_96 ce_X7_isEnd ml_X7_93 rfl sh_21 cl_X7 sh_sc (Nat.le_of_ble_eq_true rfl) (Nat.le_of_ble_eq_true rfl) (r_X7_isEnd g3) ?_
  by_cases c4 : x1 = 0
  · replace h := (if_pos c4).symm.trans h
    refine Ev.if_eq_t (pc := 99) (tgt := 193) dX7_readPromise_99 rfl c4 ?_
    obtain ⟨h1, h2⟩ := oeq h
    subst h1
    subst h2
    exact Ev.ret_v (pc := 193) dX7_readPromise_193 rfl
  · replace h := (if_neg c4).symm.trans h
    refine Ev.if_eq_f (pc := 99) dX7_readPromise_99 ⟨193, rfl⟩ c4 ?_
    refine Ev.aload_n (pc := 102) dX7_readPromise_102 rfl rfl ?_
    refine Ev.getI (pc := 103) dX7_readPromise_103 fl_X7_83 sh_1 rfl ?_
    refine Ev.nmI (fun x5 e9 => ?_)
    replace h := bt_app h x5 e9
    refine Ev.istore (pc := 106) (lv' := [some (vR 21), some (vR 1), some (vI v2), some (vI v3), some (vI v4), some (vI v5), some (vI v6), some (vI v7), some (vI x5)]) dX7_readPromise_106 (lt9 rfl) rfl rfl ?_
    refine Ev.aload_n (pc := 108) dX7_readPromise_108 rfl rfl ?_
    refine Ev.getR (pc := 109) dX7_readPromise_109 fl_X7_110 sh_1 rfl ?_
    refine Ev.iload (pc := 112) dX7_readPromise_112 rfl ?_
    refine Ev.iload_n (pc := 114) dX7_readPromise_114 rfl rfl ?_
    refine Ev.cTv (pc := 115) (av := [vR 4, vI x5, vI v2]) (rest := []) dX7_readPromise_115 ce_X9_put ml_X7_22 rfl sh_sc (Nat.le_of_ble_eq_true rfl) (Nat.le_of_ble_eq_true rfl) (r_put sh_4 (by decide) _ _ _) ?_
    refine Ev.nmS (fun σ6 e9 => ?_)
    replace h := bt_app h σ6 e9
    refine Ev.aload_n (pc := 118) dX7_readPromise_118 rfl rfl ?_
    refine Ev.getR (pc := 119) dX7_readPromise_119 fl_X7_113 sh_1 rfl ?_
    refine Ev.iload (pc := 122) dX7_readPromise_122 rfl ?_
    refine Ev.iload_n (pc := 124) dX7_readPromise_124 rfl rfl ?_
    refine Ev.cTv (pc := 125) (av := [vR 5, vI x5, vI v3]) (rest := []) dX7_readPromise_125 ce_X9_put ml_X7_22 rfl sh_sc (Nat.le_of_ble_eq_true rfl) (Nat.le_of_ble_eq_true rfl) (r_put sh_5 (by decide) _ _ _) ?_
    refine Ev.nmS (fun σ7 e9 => ?_)
    replace h := bt_app h σ7 e9
    refine Ev.aload_n (pc := 128) dX7_readPromise_128 rfl rfl ?_
    refine Ev.getR (pc := 129) dX7_readPromise_129 fl_X7_115 sh_1 rfl ?_
    refine Ev.iload (pc := 132) dX7_readPromise_132 rfl ?_
    refine Ev.iload (pc := 134) dX7_readPromise_134 rfl ?_
    refine Ev.cTv (pc := 136) (av := [vR 6, vI x5, vI v4]) (rest := []) dX7_readPromise_136 ce_X9_put ml_X7_22 rfl sh_sc (Nat.le_of_ble_eq_true rfl) (Nat.le_of_ble_eq_true rfl) (r_put sh_6 (by decide) _ _ _) ?_
    refine Ev.nmS (fun σ8 e9 => ?_)
    replace h := bt_app h σ8 e9
    refine Ev.aload_n (pc := 139) dX7_readPromise_139 rfl rfl ?_
    refine Ev.getR (pc := 140) dX7_readPromise_140 fl_X7_118 sh_1 rfl ?_
    refine Ev.iload (pc := 143) dX7_readPromise_143 rfl ?_
    refine Ev.iload (pc := 145) dX7_readPromise_145 rfl ?_
    refine Ev.cTv (pc := 147) (av := [vR 7, vI x5, vI v5]) (rest := []) dX7_readPromise_147 ce_X9_put ml_X7_22 rfl sh_sc (Nat.le_of_ble_eq_true rfl) (Nat.le_of_ble_eq_true rfl) (r_put sh_7 (by decide) _ _ _) ?_
    refine Ev.nmS (fun σ9 e9 => ?_)
    replace h := bt_app h σ9 e9
    refine Ev.aload_n (pc := 150) dX7_readPromise_150 rfl rfl ?_
    refine Ev.getR (pc := 151) dX7_readPromise_151 fl_X7_121 sh_1 rfl ?_
    refine Ev.iload (pc := 154) dX7_readPromise_154 rfl ?_
    refine Ev.iload (pc := 156) dX7_readPromise_156 rfl ?_
    refine Ev.cTv (pc := 158) (av := [vR 8, vI x5, vI v6]) (rest := []) dX7_readPromise_158 ce_X9_put ml_X7_22 rfl sh_sc (Nat.le_of_ble_eq_true rfl) (Nat.le_of_ble_eq_true rfl) (r_put sh_8 (by decide) _ _ _) ?_
    refine Ev.nmS (fun σ10 e9 => ?_)
    replace h := bt_app h σ10 e9
    refine Ev.aload_n (pc := 161) dX7_readPromise_161 rfl rfl ?_
    refine Ev.getR (pc := 162) dX7_readPromise_162 fl_X7_124 sh_1 rfl ?_
    refine Ev.iload (pc := 165) dX7_readPromise_165 rfl ?_
    refine Ev.iload (pc := 167) dX7_readPromise_167 rfl ?_
    refine Ev.bipush (pc := 169) (v := 9) dX7_readPromise_169 kb_9 ?_
    by_cases c11 : v7 = 9
    · replace h := (if_pos c11).symm.trans h
      refine Ev.icmp_ne_f (pc := 171) dX7_readPromise_171 ⟨178, rfl⟩ c11 ?_
      refine Ev.iconst (pc := 174) (v := (-1)) dX7_readPromise_174 ki_m1 ?_
      refine Ev.goto (pc := 175) (tgt := 180) dX7_readPromise_175 rfl ?_
      exact Ev.weak2 (lj_X7_readPromise_21_1_180 N _ _ _ _ _ h) (lsubN (lsubS (lsubN (lsubN (lsubN (lsubN (lsubN (lsubN (lsubN lsubE)))))))))
    · replace h := (if_neg c11).symm.trans h
      refine Ev.icmp_ne_t (pc := 171) (tgt := 178) dX7_readPromise_171 rfl c11 ?_
      refine Ev.iload (pc := 178) dX7_readPromise_178 rfl ?_
      exact Ev.weak2 (lj_X7_readPromise_21_1_180 N _ _ _ _ _ h) (lsubN (lsubS (lsubN (lsubN (lsubN (lsubN (lsubN (lsubN (lsubN lsubE)))))))))
theorem e_X7_readPromise_21_1 (N : Nat)  (σ : St) (v : Unit) (w : St) (h : o_X7_readPromise_21_1 N  σ = some (v, w)) : Ev md_X7_readPromise 3 0 (lvE [vR 21, vR 1] 9) [] SH σ (none, SH, w) := by
  show Ev md_X7_readPromise 3 0 [some (vR 21), some (vR 1), none, none, none, none, none, none, none] [] SH σ (none, SH, w)
  unfold o_X7_readPromise_21_1 at h
  refine Ev.aload_n (pc := 0) dX7_readPromise_0 rfl rfl ?_
  refine Ev.dup (pc := 1) dX7_readPromise_1 rfl ?_
  refine Ev.getI (pc := 2) dX7_readPromise_2 fl_X7_26 sh_21 rfl ?_
  refine Ev.iconst (pc := 5) (v := 1) dX7_readPromise_5 ki_1 ?_
  refine Ev.iadd (pc := 6) dX7_readPromise_6 ?_
  refine Ev.putI (pc := 7) dX7_readPromise_7 pl_X7_26 sh_21 rfl rfl rfl ?_
  refine Ev.nmS (fun σ1 e9 => ?_)
  replace h := bt_app h σ1 e9
  refine Ev.aload_n (pc := 10) dX7_readPromise_10 rfl rfl ?_
  refine Ev.iconst (pc := 11) (v := 0) dX7_readPromise_11 ki_0 ?_
  refine Ev.aload_n (pc := 12) dX7_readPromise_12 rfl rfl ?_
  refine Ev.getI (pc := 13) dX7_readPromise_13 fl_X7_80 sh_1 rfl ?_
  refine Ev.iconst (pc := 16) (v := 1) dX7_readPromise_16 ki_1 ?_
  refine Ev.isub (pc := 17) dX7_readPromise_17 ?_
  obtain ⟨x2, σ3, g4, h⟩ := bd_elim h
  refine Ev.cVi (pc := 18) (k := 21) (av := [vI 0, vI ((σ1 1 2) - 1)]) (rest := []) dX7_readPromise_18 ce_X7_number ml_X7_89 rfl sh_21 cl_X7 sh_sc (Nat.le_of_ble_eq_true rfl) (Nat.le_of_ble_eq_true rfl) (r_X7_number g4) ?_
  refine Ev.istore_n (pc := 21) (lv' := [some (vR 21), some (vR 1), some (vI x2), none, none, none, none, none, none]) dX7_readPromise_21 rfl (lt9 rfl) rfl rfl ?_
  refine Ev.aload_n (pc := 22) dX7_readPromise_22 rfl rfl ?_
  refine Ev.iconst (pc := 23) (v := 0) dX7_readPromise_23 ki_0 ?_
  refine Ev.aload_n (pc := 24) dX7_readPromise_24 rfl rfl ?_
  refine Ev.getI (pc := 25) dX7_readPromise_25 fl_X7_51 sh_1 rfl ?_
  refine Ev.iconst (pc := 28) (v := 1) dX7_readPromise_28 ki_1 ?_
  refine Ev.isub (pc := 29) dX7_readPromise_29 ?_
  obtain ⟨x5, σ6, g7, h⟩ := bd_elim h
  refine Ev.cVi (pc := 30) (k := 21) (av := [vI 0, vI ((σ3 1 0) - 1)]) (rest := []) dX7_readPromise_30 ce_X7_number ml_X7_89 rfl sh_21 cl_X7 sh_sc (Nat.le_of_ble_eq_true rfl) (Nat.le_of_ble_eq_true rfl) (r_X7_number g7) ?_
  refine Ev.istore_n (pc := 33) (lv' := [some (vR 21), some (vR 1), some (vI x2), some (vI x5), none, none, none, none, none]) dX7_readPromise_33 rfl (lt9 rfl) rfl rfl ?_
  refine Ev.aload_n (pc := 34) dX7_readPromise_34 rfl rfl ?_
  refine Ev.iconst (pc := 35) (v := 1) dX7_readPromise_35 ki_1 ?_
  refine Ev.bipush (pc := 36) (v := 60) dX7_readPromise_36 kb_60 ?_
  obtain ⟨x8, σ9, g10, h⟩ := bd_elim h
  refine Ev.cVi (pc := 38) (k := 21) (av := [vI 1, vI 60]) (rest := []) dX7_readPromise_38 ce_X7_number ml_X7_89 rfl sh_21 cl_X7 sh_sc (Nat.le_of_ble_eq_true rfl) (Nat.le_of_ble_eq_true rfl) (r_X7_number g10) ?_
  refine Ev.istore (pc := 41) (lv' := [some (vR 21), some (vR 1), some (vI x2), some (vI x5), some (vI x8), none, none, none, none]) dX7_readPromise_41 (lt9 rfl) rfl rfl ?_
  refine Ev.aload_n (pc := 43) dX7_readPromise_43 rfl rfl ?_
  refine Ev.iconst (pc := 44) (v := 0) dX7_readPromise_44 ki_0 ?_
  refine Ev.bipush (pc := 45) (v := 9) dX7_readPromise_45 kb_9 ?_
  obtain ⟨x11, σ12, g13, h⟩ := bd_elim h
  refine Ev.cVi (pc := 47) (k := 21) (av := [vI 0, vI 9]) (rest := []) dX7_readPromise_47 ce_X7_number ml_X7_89 rfl sh_21 cl_X7 sh_sc (Nat.le_of_ble_eq_true rfl) (Nat.le_of_ble_eq_true rfl) (r_X7_number g13) ?_
  refine Ev.istore (pc := 50) (lv' := [some (vR 21), some (vR 1), some (vI x2), some (vI x5), some (vI x8), some (vI x11), none, none, none]) dX7_readPromise_50 (lt9 rfl) rfl rfl ?_
  refine Ev.aload_n (pc := 52) dX7_readPromise_52 rfl rfl ?_
  refine Ev.iconst (pc := 53) (v := 1) dX7_readPromise_53 ki_1 ?_
  refine Ev.bipush (pc := 54) (v := 9) dX7_readPromise_54 kb_9 ?_
  obtain ⟨x14, σ15, g16, h⟩ := bd_elim h
  refine Ev.cVi (pc := 56) (k := 21) (av := [vI 1, vI 9]) (rest := []) dX7_readPromise_56 ce_X7_number ml_X7_89 rfl sh_21 cl_X7 sh_sc (Nat.le_of_ble_eq_true rfl) (Nat.le_of_ble_eq_true rfl) (r_X7_number g16) ?_
  refine Ev.istore (pc := 59) (lv' := [some (vR 21), some (vR 1), some (vI x2), some (vI x5), some (vI x8), some (vI x11), some (vI x14), none, none]) dX7_readPromise_59 (lt9 rfl) rfl rfl ?_
  refine Ev.aload_n (pc := 61) dX7_readPromise_61 rfl rfl ?_
  refine Ev.iconst (pc := 62) (v := 0) dX7_readPromise_62 ki_0 ?_
  refine Ev.bipush (pc := 63) (v := 9) dX7_readPromise_63 kb_9 ?_
  obtain ⟨x17, σ18, g19, h⟩ := bd_elim h
  refine Ev.cVi (pc := 65) (k := 21) (av := [vI 0, vI 9]) (rest := []) dX7_readPromise_65 ce_X7_number ml_X7_89 rfl sh_21 cl_X7 sh_sc (Nat.le_of_ble_eq_true rfl) (Nat.le_of_ble_eq_true rfl) (r_X7_number g19) ?_
  refine Ev.istore (pc := 68) (lv' := [some (vR 21), some (vR 1), some (vI x2), some (vI x5), some (vI x8), some (vI x11), some (vI x14), some (vI x17), none]) dX7_readPromise_68 (lt9 rfl) rfl rfl ?_
  refine Ev.iload (pc := 70) dX7_readPromise_70 rfl ?_
  refine Ev.bipush (pc := 72) (v := 9) dX7_readPromise_72 kb_9 ?_
  by_cases c20 : x17 = 9
  · replace h := (if_pos c20).symm.trans h
    refine Ev.icmp_eq_t (pc := 74) (tgt := 95) dX7_readPromise_74 rfl c20 ?_
    exact Ev.weak2 (lj_X7_readPromise_21_1_95 N _ _ _ _ _ _ _ _ _ h) (lsubS (lsubS (lsubS (lsubS (lsubS (lsubS (lsubS (lsubS (lsubN lsubE)))))))))
  · replace h := (if_neg c20).symm.trans h
    refine Ev.icmp_eq_f (pc := 74) dX7_readPromise_74 ⟨95, rfl⟩ c20 ?_
    refine Ev.iload (pc := 77) dX7_readPromise_77 rfl ?_
    refine Ev.aload_n (pc := 79) dX7_readPromise_79 rfl rfl ?_
    refine Ev.getI (pc := 80) dX7_readPromise_80 fl_X7_83 sh_1 rfl ?_
    by_cases c21 : x17 < (σ18 1 3)
    · replace h := (if_pos c21).symm.trans h
      refine Ev.icmp_lt_t (pc := 83) (tgt := 95) dX7_readPromise_83 rfl c21 ?_
      exact Ev.weak2 (lj_X7_readPromise_21_1_95 N _ _ _ _ _ _ _ _ _ h) (lsubS (lsubS (lsubS (lsubS (lsubS (lsubS (lsubS (lsubS (lsubN lsubE)))))))))
    · replace h := (if_neg c21).symm.trans h
      refine Ev.icmp_lt_f (pc := 83) dX7_readPromise_83 ⟨95, rfl⟩ c21 ?_
      refine Ev.aload_n (pc := 86) dX7_readPromise_86 rfl rfl ?_
      refine Ev.iconst (pc := 87) (v := 2) dX7_readPromise_87 ki_2 ?_
      refine Ev.aload_n (pc := 88) dX7_readPromise_88 rfl rfl ?_
      refine Ev.getI (pc := 89) dX7_readPromise_89 fl_X7_97 sh_21 rfl ?_
      refine Ev.cVv (pc := 92) (k := 21) (av := [vI 2, vI (σ18 21 3)]) (rest := []) dX7_readPromise_92 ce_X7_blame ml_X7_54 rfl sh_21 cl_X7 sh_sc (Nat.le_of_ble_eq_true rfl) (Nat.le_of_ble_eq_true rfl) (r_X7_blame _ _ _) ?_
      refine Ev.nmS (fun σ22 e9 => ?_)
      replace h := bt_app h σ22 e9
      exact Ev.weak2 (lj_X7_readPromise_21_1_95 N _ _ _ _ _ _ _ _ _ h) (lsubS (lsubS (lsubS (lsubS (lsubS (lsubS (lsubS (lsubS (lsubN lsubE)))))))))
theorem r_X7_readPromise_21_1 {N : Nat}  {σ : St} {v : Unit} {w : St} (h : o_X7_readPromise_21_1 N  σ = some (v, w)) : Rn md_X7_readPromise 3 [vR 21, vR 1] SH σ (none, SH, w) := Rn.of ce_X7_readPromise.1 (Nat.le_of_ble_eq_true rfl) (e_X7_readPromise_21_1 N  _ _ _ h)
def j_X5_shorten_1_26 (v1 : Int32) (v2 : Int32) (v3 : Int32) (σ : St) : St := bt (put_ σ 10 25 ((v1 * 5) + v2) v3) fun σ1 => σ1
def t_X5_shorten_1 (a1 : Int32) (a2 : Int32) (a3 : Int32) (σ : St) : St := bt (at_ σ 10 25 ((a1 * 5) + a2)) fun x1 => if x1 = (-1) then (j_X5_shorten_1_26 a1 a2 a3 σ) else (if x1 ≤ a3 then σ else (j_X5_shorten_1_26 a1 a2 a3 σ))
theorem lj_X5_shorten_1_26 (v1 : Int32) (v2 : Int32) (v3 : Int32) (σ : St) (q : St) (h : j_X5_shorten_1_26 v1 v2 v3 σ = q) : Ev md_X5_shorten 1 26 [some (vR 1), some (vI v1), some (vI v2), some (vI v3), none] [] SH σ (none, SH, q) := by
  unfold j_X5_shorten_1_26 at h
  refine Ev.aload_n (pc := 26) dX5_shorten_26 rfl rfl ?_
  refine Ev.getR (pc := 27) dX5_shorten_27 fl_X5_36 sh_1 rfl ?_
  refine Ev.iload_n (pc := 30) dX5_shorten_30 rfl rfl ?_
  refine Ev.iconst (pc := 31) (v := 5) dX5_shorten_31 ki_5 ?_
  refine Ev.imul (pc := 32) dX5_shorten_32 ?_
  refine Ev.iload_n (pc := 33) dX5_shorten_33 rfl rfl ?_
  refine Ev.iadd (pc := 34) dX5_shorten_34 ?_
  refine Ev.iload_n (pc := 35) dX5_shorten_35 rfl rfl ?_
  refine Ev.cTv (pc := 36) (av := [vR 10, vI ((v1 * 5) + v2), vI v3]) (rest := []) dX5_shorten_36 ce_X9_put ml_X5_69 rfl sh_sc (Nat.le_of_ble_eq_true rfl) (Nat.le_of_ble_eq_true rfl) (r_put sh_10 (by decide) _ _ _) ?_
  refine Ev.nmS (fun σ1 e9 => ?_)
  replace h := bt_app h σ1 e9
  subst h
  exact Ev.ret_v (pc := 39) dX5_shorten_39 rfl
theorem e_X5_shorten_1 (a1 : Int32) (a2 : Int32) (a3 : Int32) (σ : St) (q : St) (h : t_X5_shorten_1 a1 a2 a3 σ = q) : Ev md_X5_shorten 1 0 (lvE [vR 1, vI a1, vI a2, vI a3] 5) [] SH σ (none, SH, q) := by
  show Ev md_X5_shorten 1 0 [some (vR 1), some (vI a1), some (vI a2), some (vI a3), none] [] SH σ (none, SH, q)
  unfold t_X5_shorten_1 at h
  refine Ev.aload_n (pc := 0) dX5_shorten_0 rfl rfl ?_
  refine Ev.getR (pc := 1) dX5_shorten_1 fl_X5_36 sh_1 rfl ?_
  refine Ev.iload_n (pc := 4) dX5_shorten_4 rfl rfl ?_
  refine Ev.iconst (pc := 5) (v := 5) dX5_shorten_5 ki_5 ?_
  refine Ev.imul (pc := 6) dX5_shorten_6 ?_
  refine Ev.iload_n (pc := 7) dX5_shorten_7 rfl rfl ?_
  refine Ev.iadd (pc := 8) dX5_shorten_8 ?_
  refine Ev.cTi (pc := 9) (av := [vR 10, vI ((a1 * 5) + a2)]) (rest := []) dX5_shorten_9 ce_X9_at ml_X5_65 rfl sh_sc (Nat.le_of_ble_eq_true rfl) (Nat.le_of_ble_eq_true rfl) (r_at sh_10 (by decide) _ _) ?_
  refine Ev.nmI (fun x1 e9 => ?_)
  replace h := bt_app h x1 e9
  refine Ev.istore (pc := 12) (lv' := [some (vR 1), some (vI a1), some (vI a2), some (vI a3), some (vI x1)]) dX5_shorten_12 (lt9 rfl) rfl rfl ?_
  refine Ev.iload (pc := 14) dX5_shorten_14 rfl ?_
  refine Ev.iconst (pc := 16) (v := (-1)) dX5_shorten_16 ki_m1 ?_
  by_cases c2 : x1 = (-1)
  · replace h := (if_pos c2).symm.trans h
    refine Ev.icmp_eq_t (pc := 17) (tgt := 26) dX5_shorten_17 rfl c2 ?_
    exact Ev.weak2 (lj_X5_shorten_1_26 _ _ _ _ _ h) (lsubS (lsubS (lsubS (lsubS (lsubN lsubE)))))
  · replace h := (if_neg c2).symm.trans h
    refine Ev.icmp_eq_f (pc := 17) dX5_shorten_17 ⟨26, rfl⟩ c2 ?_
    refine Ev.iload_n (pc := 20) dX5_shorten_20 rfl rfl ?_
    refine Ev.iload (pc := 21) dX5_shorten_21 rfl ?_
    by_cases c3 : x1 ≤ a3
    · replace h := (if_pos c3).symm.trans h
      refine Ev.icmp_ge_t (pc := 23) (tgt := 39) dX5_shorten_23 rfl c3 ?_
      subst h
      exact Ev.ret_v (pc := 39) dX5_shorten_39 rfl
    · replace h := (if_neg c3).symm.trans h
      refine Ev.icmp_ge_f (pc := 23) dX5_shorten_23 ⟨39, rfl⟩ c3 ?_
      exact Ev.weak2 (lj_X5_shorten_1_26 _ _ _ _ _ h) (lsubS (lsubS (lsubS (lsubS (lsubN lsubE)))))
theorem r_X5_shorten_1 (a1 : Int32) (a2 : Int32) (a3 : Int32) (σ : St) : Rn md_X5_shorten 1 [vR 1, vI a1, vI a2, vI a3] SH σ (none, SH, t_X5_shorten_1 a1 a2 a3 σ) := Rn.of ce_X5_shorten.1 (Nat.le_of_ble_eq_true rfl) (e_X5_shorten_1 _ _ _ _ _ rfl)
def t_X5_addRoad_1 (a1 : Int32) (a2 : Int32) (a3 : Int32) (σ : St) : St := bt (st σ 1 1 ((σ 1 1) + 1)) fun σ1 => bt (t_X5_shorten_1 a1 a2 a3 σ1) fun σ2 => bt (t_X5_shorten_1 a2 a1 a3 σ2) fun σ3 => σ3
theorem e_X5_addRoad_1 (a1 : Int32) (a2 : Int32) (a3 : Int32) (σ : St) (q : St) (h : t_X5_addRoad_1 a1 a2 a3 σ = q) : Ev md_X5_addRoad 2 0 (lvE [vR 1, vI a1, vI a2, vI a3] 4) [] SH σ (none, SH, q) := by
  show Ev md_X5_addRoad 2 0 [some (vR 1), some (vI a1), some (vI a2), some (vI a3)] [] SH σ (none, SH, q)
  unfold t_X5_addRoad_1 at h
  refine Ev.aload_n (pc := 0) dX5_addRoad_0 rfl rfl ?_
  refine Ev.dup (pc := 1) dX5_addRoad_1 rfl ?_
  refine Ev.getI (pc := 2) dX5_addRoad_2 fl_X5_43 sh_1 rfl ?_
  refine Ev.iconst (pc := 5) (v := 1) dX5_addRoad_5 ki_1 ?_
  refine Ev.iadd (pc := 6) dX5_addRoad_6 ?_
  refine Ev.putI (pc := 7) dX5_addRoad_7 pl_X5_43 sh_1 rfl rfl rfl ?_
  refine Ev.nmS (fun σ1 e9 => ?_)
  replace h := bt_app h σ1 e9
  refine Ev.aload_n (pc := 10) dX5_addRoad_10 rfl rfl ?_
  refine Ev.iload_n (pc := 11) dX5_addRoad_11 rfl rfl ?_
  refine Ev.iload_n (pc := 12) dX5_addRoad_12 rfl rfl ?_
  refine Ev.iload_n (pc := 13) dX5_addRoad_13 rfl rfl ?_
  refine Ev.cVv (pc := 14) (k := 1) (av := [vI a1, vI a2, vI a3]) (rest := []) dX5_addRoad_14 ce_X5_shorten ml_X5_61 rfl sh_1 cl_X5 sh_sc (Nat.le_of_ble_eq_true rfl) (Nat.le_of_ble_eq_true rfl) (r_X5_shorten_1 _ _ _ _) ?_
  refine Ev.nmS (fun σ2 e9 => ?_)
  replace h := bt_app h σ2 e9
  refine Ev.aload_n (pc := 17) dX5_addRoad_17 rfl rfl ?_
  refine Ev.iload_n (pc := 18) dX5_addRoad_18 rfl rfl ?_
  refine Ev.iload_n (pc := 19) dX5_addRoad_19 rfl rfl ?_
  refine Ev.iload_n (pc := 20) dX5_addRoad_20 rfl rfl ?_
  refine Ev.cVv (pc := 21) (k := 1) (av := [vI a2, vI a1, vI a3]) (rest := []) dX5_addRoad_21 ce_X5_shorten ml_X5_61 rfl sh_1 cl_X5 sh_sc (Nat.le_of_ble_eq_true rfl) (Nat.le_of_ble_eq_true rfl) (r_X5_shorten_1 _ _ _ _) ?_
  refine Ev.nmS (fun σ3 e9 => ?_)
  replace h := bt_app h σ3 e9
  subst h
  exact Ev.ret_v (pc := 24) dX5_addRoad_24 rfl
theorem r_X5_addRoad_1 (a1 : Int32) (a2 : Int32) (a3 : Int32) (σ : St) : Rn md_X5_addRoad 2 [vR 1, vI a1, vI a2, vI a3] SH σ (none, SH, t_X5_addRoad_1 a1 a2 a3 σ) := Rn.of ce_X5_addRoad.1 (Nat.le_of_ble_eq_true rfl) (e_X5_addRoad_1 _ _ _ _ _ rfl)
def j_X7_readRoad_21_1_48 (N : Nat) (v2 : Int32) (v3 : Int32) (σ : St) : Option (Unit × St) := bd (o_X7_number N 1 9 σ) fun x1 σ2 => bd (o_X7_isEnd N  σ2) fun x4 σ5 => if x4 = 0 then (some ((), σ5)) else (bt (t_X5_addRoad_1 v2 v3 x1 σ5) fun σ8 => some ((), σ8))
def o_X7_readRoad_21_1 (N : Nat)  (σ : St) : Option (Unit × St) := bt (st σ 21 2 ((σ 21 2) + 1)) fun σ1 => bd (o_X7_number N 0 ((σ1 1 0) - 1) σ1) fun x2 σ3 => bd (o_X7_number N 0 ((σ3 1 0) - 1) σ3) fun x5 σ6 => if x2 = x5 then (bt (t_X7_blame 4 (σ6 21 3) σ6) fun σ9 => j_X7_readRoad_21_1_48 N x2 x5 σ9) else (j_X7_readRoad_21_1_48 N x2 x5 σ6)
theorem lj_X7_readRoad_21_1_48 (N : Nat) (v2 : Int32) (v3 : Int32) (σ : St) (v : Unit) (w : St) (h : j_X7_readRoad_21_1_48 N v2 v3 σ = some (v, w)) : Ev md_X7_readRoad 3 48 [some (vR 21), some (vR 1), some (vI v2), some (vI v3), none] [] SH σ (none, SH, w) := by
  unfold j_X7_readRoad_21_1_48 at h
  refine Ev.aload_n (pc := 48) dX7_readRoad_48 rfl rfl ?_
  refine Ev.iconst (pc := 49) (v := 1) dX7_readRoad_49 ki_1 ?_
  refine Ev.bipush (pc := 50) (v := 9) dX7_readRoad_50 kb_9 ?_
  obtain ⟨x1, σ2, g3, h⟩ := bd_elim h
  refine Ev.cVi (pc := 52) (k := 21) (av := [vI 1, vI 9]) (rest := []) dX7_readRoad_52 ce_X7_number ml_X7_89 rfl sh_21 cl_X7 sh_sc (Nat.le_of_ble_eq_true rfl) (Nat.le_of_ble_eq_true rfl) (r_X7_number g3) ?_
  refine Ev.istore (pc := 55) (lv' := [some (vR 21), some (vR 1), some (vI v2), some (vI v3), some (vI x1)]) dX7_readRoad_55 (lt9 rfl) rfl rfl ?_
  refine Ev.aload_n (pc := 57) dX7_readRoad_57 rfl rfl ?_
  obtain ⟨x4, σ5, g6, h⟩ := bd_elim h
  refine Ev.cVi (pc := 58) (k := 21) (av := []) (rest := []) dX7_readRoad_58 ce_X7_isEnd ml_X7_93 rfl sh_21 cl_X7 sh_sc (Nat.le_of_ble_eq_true rfl) (Nat.le_of_ble_eq_true rfl) (r_X7_isEnd g6) ?_
  by_cases c7 : x4 = 0
  · replace h := (if_pos c7).symm.trans h
    refine Ev.if_eq_t (pc := 61) (tgt := 72) dX7_readRoad_61 rfl c7 ?_
    obtain ⟨h1, h2⟩ := oeq h
    subst h1
    subst h2
    exact Ev.ret_v (pc := 72) dX7_readRoad_72 rfl
  · replace h := (if_neg c7).symm.trans h
    refine Ev.if_eq_f (pc := 61) dX7_readRoad_61 ⟨72, rfl⟩ c7 ?_
    refine Ev.aload_n (pc := 64) dX7_readRoad_64 rfl rfl ?_
    refine Ev.iload_n (pc := 65) dX7_readRoad_65 rfl rfl ?_
    refine Ev.iload_n (pc := 66) dX7_readRoad_66 rfl rfl ?_
    refine Ev.iload (pc := 67) dX7_readRoad_67 rfl ?_
    refine Ev.cVv (pc := 69) (k := 1) (av := [vI v2, vI v3, vI x1]) (rest := []) dX7_readRoad_69 ce_X5_addRoad ml_X7_100 rfl sh_1 cl_X5 sh_sc (Nat.le_of_ble_eq_true rfl) (Nat.le_of_ble_eq_true rfl) (r_X5_addRoad_1 _ _ _ _) ?_
    refine Ev.nmS (fun σ8 e9 => ?_)
    replace h := bt_app h σ8 e9
    obtain ⟨h1, h2⟩ := oeq h
    subst h1
    subst h2
    exact Ev.ret_v (pc := 72) dX7_readRoad_72 rfl
theorem e_X7_readRoad_21_1 (N : Nat)  (σ : St) (v : Unit) (w : St) (h : o_X7_readRoad_21_1 N  σ = some (v, w)) : Ev md_X7_readRoad 3 0 (lvE [vR 21, vR 1] 5) [] SH σ (none, SH, w) := by
  show Ev md_X7_readRoad 3 0 [some (vR 21), some (vR 1), none, none, none] [] SH σ (none, SH, w)
  unfold o_X7_readRoad_21_1 at h
  refine Ev.aload_n (pc := 0) dX7_readRoad_0 rfl rfl ?_
  refine Ev.dup (pc := 1) dX7_readRoad_1 rfl ?_
  refine Ev.getI (pc := 2) dX7_readRoad_2 fl_X7_26 sh_21 rfl ?_
  refine Ev.iconst (pc := 5) (v := 1) dX7_readRoad_5 ki_1 ?_
  refine Ev.iadd (pc := 6) dX7_readRoad_6 ?_
  refine Ev.putI (pc := 7) dX7_readRoad_7 pl_X7_26 sh_21 rfl rfl rfl ?_
  refine Ev.nmS (fun σ1 e9 => ?_)
  replace h := bt_app h σ1 e9
  refine Ev.aload_n (pc := 10) dX7_readRoad_10 rfl rfl ?_
  refine Ev.iconst (pc := 11) (v := 0) dX7_readRoad_11 ki_0 ?_
  refine Ev.aload_n (pc := 12) dX7_readRoad_12 rfl rfl ?_
  refine Ev.getI (pc := 13) dX7_readRoad_13 fl_X7_51 sh_1 rfl ?_
  refine Ev.iconst (pc := 16) (v := 1) dX7_readRoad_16 ki_1 ?_
  refine Ev.isub (pc := 17) dX7_readRoad_17 ?_
  obtain ⟨x2, σ3, g4, h⟩ := bd_elim h
  refine Ev.cVi (pc := 18) (k := 21) (av := [vI 0, vI ((σ1 1 0) - 1)]) (rest := []) dX7_readRoad_18 ce_X7_number ml_X7_89 rfl sh_21 cl_X7 sh_sc (Nat.le_of_ble_eq_true rfl) (Nat.le_of_ble_eq_true rfl) (r_X7_number g4) ?_
  refine Ev.istore_n (pc := 21) (lv' := [some (vR 21), some (vR 1), some (vI x2), none, none]) dX7_readRoad_21 rfl (lt9 rfl) rfl rfl ?_
  refine Ev.aload_n (pc := 22) dX7_readRoad_22 rfl rfl ?_
  refine Ev.iconst (pc := 23) (v := 0) dX7_readRoad_23 ki_0 ?_
  refine Ev.aload_n (pc := 24) dX7_readRoad_24 rfl rfl ?_
  refine Ev.getI (pc := 25) dX7_readRoad_25 fl_X7_51 sh_1 rfl ?_
  refine Ev.iconst (pc := 28) (v := 1) dX7_readRoad_28 ki_1 ?_
  refine Ev.isub (pc := 29) dX7_readRoad_29 ?_
  obtain ⟨x5, σ6, g7, h⟩ := bd_elim h
  refine Ev.cVi (pc := 30) (k := 21) (av := [vI 0, vI ((σ3 1 0) - 1)]) (rest := []) dX7_readRoad_30 ce_X7_number ml_X7_89 rfl sh_21 cl_X7 sh_sc (Nat.le_of_ble_eq_true rfl) (Nat.le_of_ble_eq_true rfl) (r_X7_number g7) ?_
  refine Ev.istore_n (pc := 33) (lv' := [some (vR 21), some (vR 1), some (vI x2), some (vI x5), none]) dX7_readRoad_33 rfl (lt9 rfl) rfl rfl ?_
  refine Ev.iload_n (pc := 34) dX7_readRoad_34 rfl rfl ?_
  refine Ev.iload_n (pc := 35) dX7_readRoad_35 rfl rfl ?_
  by_cases c8 : x2 = x5
  · replace h := (if_pos c8).symm.trans h
    refine Ev.icmp_ne_f (pc := 36) dX7_readRoad_36 ⟨48, rfl⟩ c8 ?_
    refine Ev.aload_n (pc := 39) dX7_readRoad_39 rfl rfl ?_
    refine Ev.iconst (pc := 40) (v := 4) dX7_readRoad_40 ki_4 ?_
    refine Ev.aload_n (pc := 41) dX7_readRoad_41 rfl rfl ?_
    refine Ev.getI (pc := 42) dX7_readRoad_42 fl_X7_97 sh_21 rfl ?_
    refine Ev.cVv (pc := 45) (k := 21) (av := [vI 4, vI (σ6 21 3)]) (rest := []) dX7_readRoad_45 ce_X7_blame ml_X7_54 rfl sh_21 cl_X7 sh_sc (Nat.le_of_ble_eq_true rfl) (Nat.le_of_ble_eq_true rfl) (r_X7_blame _ _ _) ?_
    refine Ev.nmS (fun σ9 e9 => ?_)
    replace h := bt_app h σ9 e9
    exact Ev.weak2 (lj_X7_readRoad_21_1_48 N _ _ _ _ _ h) (lsubS (lsubS (lsubS (lsubS (lsubN lsubE)))))
  · replace h := (if_neg c8).symm.trans h
    refine Ev.icmp_ne_t (pc := 36) (tgt := 48) dX7_readRoad_36 rfl c8 ?_
    exact Ev.weak2 (lj_X7_readRoad_21_1_48 N _ _ _ _ _ h) (lsubS (lsubS (lsubS (lsubS (lsubN lsubE)))))
theorem r_X7_readRoad_21_1 {N : Nat}  {σ : St} {v : Unit} {w : St} (h : o_X7_readRoad_21_1 N  σ = some (v, w)) : Rn md_X7_readRoad 3 [vR 21, vR 1] SH σ (none, SH, w) := Rn.of ce_X7_readRoad.1 (Nat.le_of_ble_eq_true rfl) (e_X7_readRoad_21_1 N  _ _ _ h)
def o_X7_readTowns_21_1 (N : Nat)  (σ : St) : Option (Unit × St) := bt (st σ 21 2 ((σ 21 2) + 1)) fun σ1 => bd (o_X7_number N 1 5 σ1) fun x2 σ3 => bd (o_X7_isEnd N  σ3) fun x5 σ6 => if x5 = 0 then (some ((), σ6)) else (bt (st σ6 1 0 x2) fun σ9 => some ((), σ9))
theorem e_X7_readTowns_21_1 (N : Nat)  (σ : St) (v : Unit) (w : St) (h : o_X7_readTowns_21_1 N  σ = some (v, w)) : Ev md_X7_readTowns 3 0 (lvE [vR 21, vR 1] 3) [] SH σ (none, SH, w) := by
  show Ev md_X7_readTowns 3 0 [some (vR 21), some (vR 1), none] [] SH σ (none, SH, w)
  unfold o_X7_readTowns_21_1 at h
  refine Ev.aload_n (pc := 0) dX7_readTowns_0 rfl rfl ?_
  refine Ev.dup (pc := 1) dX7_readTowns_1 rfl ?_
  refine Ev.getI (pc := 2) dX7_readTowns_2 fl_X7_26 sh_21 rfl ?_
  refine Ev.iconst (pc := 5) (v := 1) dX7_readTowns_5 ki_1 ?_
  refine Ev.iadd (pc := 6) dX7_readTowns_6 ?_
  refine Ev.putI (pc := 7) dX7_readTowns_7 pl_X7_26 sh_21 rfl rfl rfl ?_
  refine Ev.nmS (fun σ1 e9 => ?_)
  replace h := bt_app h σ1 e9
  refine Ev.aload_n (pc := 10) dX7_readTowns_10 rfl rfl ?_
  refine Ev.iconst (pc := 11) (v := 1) dX7_readTowns_11 ki_1 ?_
  refine Ev.iconst (pc := 12) (v := 5) dX7_readTowns_12 ki_5 ?_
  obtain ⟨x2, σ3, g4, h⟩ := bd_elim h
  refine Ev.cVi (pc := 13) (k := 21) (av := [vI 1, vI 5]) (rest := []) dX7_readTowns_13 ce_X7_number ml_X7_89 rfl sh_21 cl_X7 sh_sc (Nat.le_of_ble_eq_true rfl) (Nat.le_of_ble_eq_true rfl) (r_X7_number g4) ?_
  refine Ev.istore_n (pc := 16) (lv' := [some (vR 21), some (vR 1), some (vI x2)]) dX7_readTowns_16 rfl (lt9 rfl) rfl rfl ?_
  refine Ev.aload_n (pc := 17) dX7_readTowns_17 rfl rfl ?_
  obtain ⟨x5, σ6, g7, h⟩ := bd_elim h
  refine Ev.cVi (pc := 18) (k := 21) (av := []) (rest := []) dX7_readTowns_18 ce_X7_isEnd ml_X7_93 rfl sh_21 cl_X7 sh_sc (Nat.le_of_ble_eq_true rfl) (Nat.le_of_ble_eq_true rfl) (r_X7_isEnd g7) ?_
  by_cases c8 : x5 = 0
  · replace h := (if_pos c8).symm.trans h
    refine Ev.if_eq_t (pc := 21) (tgt := 29) dX7_readTowns_21 rfl c8 ?_
    obtain ⟨h1, h2⟩ := oeq h
    subst h1
    subst h2
    exact Ev.ret_v (pc := 29) dX7_readTowns_29 rfl
  · replace h := (if_neg c8).symm.trans h
    refine Ev.if_eq_f (pc := 21) dX7_readTowns_21 ⟨29, rfl⟩ c8 ?_
    refine Ev.aload_n (pc := 24) dX7_readTowns_24 rfl rfl ?_
    refine Ev.iload_n (pc := 25) dX7_readTowns_25 rfl rfl ?_
    refine Ev.putI (pc := 26) dX7_readTowns_26 pl_X7_51 sh_1 rfl rfl rfl ?_
    refine Ev.nmS (fun σ9 e9 => ?_)
    replace h := bt_app h σ9 e9
    obtain ⟨h1, h2⟩ := oeq h
    subst h1
    subst h2
    exact Ev.ret_v (pc := 29) dX7_readTowns_29 rfl
theorem r_X7_readTowns_21_1 {N : Nat}  {σ : St} {v : Unit} {w : St} (h : o_X7_readTowns_21_1 N  σ = some (v, w)) : Rn md_X7_readTowns 3 [vR 21, vR 1] SH σ (none, SH, w) := Rn.of ce_X7_readTowns.1 (Nat.le_of_ble_eq_true rfl) (e_X7_readTowns_21_1 N  _ _ _ h)
def j_X7_readWinter_21_1_50 (N : Nat) (v2 : Int32) (v3 : Int32) (v4 : Int32) (σ : St) : Option (Unit × St) := bd (o_X7_isEnd N  σ) fun x1 σ2 => if x1 = 0 then (some ((), σ2)) else (bt (st σ2 1 4 v2) fun σ5 => bt (st σ5 1 5 v3) fun σ6 => bt (st σ6 1 6 v4) fun σ7 => some ((), σ7))
def o_X7_readWinter_21_1 (N : Nat)  (σ : St) : Option (Unit × St) := bt (st σ 21 2 ((σ 21 2) + 1)) fun σ1 => bd (o_X7_number N 0 98 σ1) fun x2 σ3 => bd (o_X7_number N 0 98 σ3) fun x5 σ6 => bd (o_X7_number N 2 99 σ6) fun x8 σ9 => if x5 < x8 then (j_X7_readWinter_21_1_50 N x2 x5 x8 σ9) else (bt (t_X7_blame 4 (σ9 21 3) σ9) fun σ12 => j_X7_readWinter_21_1_50 N x2 x5 x8 σ12)
theorem lj_X7_readWinter_21_1_50 (N : Nat) (v2 : Int32) (v3 : Int32) (v4 : Int32) (σ : St) (v : Unit) (w : St) (h : j_X7_readWinter_21_1_50 N v2 v3 v4 σ = some (v, w)) : Ev md_X7_readWinter 3 50 [some (vR 21), some (vR 1), some (vI v2), some (vI v3), some (vI v4)] [] SH σ (none, SH, w) := by
  unfold j_X7_readWinter_21_1_50 at h
  refine Ev.aload_n (pc := 50) dX7_readWinter_50 rfl rfl ?_
  obtain ⟨x1, σ2, g3, h⟩ := bd_elim h
  refine Ev.cVi (pc := 51) (k := 21) (av := []) (rest := []) dX7_readWinter_51 ce_X7_isEnd ml_X7_93 rfl sh_21 cl_X7 sh_sc (Nat.le_of_ble_eq_true rfl) (Nat.le_of_ble_eq_true rfl) (r_X7_isEnd g3) ?_
  by_cases c4 : x1 = 0
  · replace h := (if_pos c4).symm.trans h
    refine Ev.if_eq_t (pc := 54) (tgt := 73) dX7_readWinter_54 rfl c4 ?_
    obtain ⟨h1, h2⟩ := oeq h
    subst h1
    subst h2
    exact Ev.ret_v (pc := 73) dX7_readWinter_73 rfl
  · replace h := (if_neg c4).symm.trans h
    refine Ev.if_eq_f (pc := 54) dX7_readWinter_54 ⟨73, rfl⟩ c4 ?_
    refine Ev.aload_n (pc := 57) dX7_readWinter_57 rfl rfl ?_
    refine Ev.iload_n (pc := 58) dX7_readWinter_58 rfl rfl ?_
    refine Ev.putI (pc := 59) dX7_readWinter_59 pl_X7_127 sh_1 rfl rfl rfl ?_
    refine Ev.nmS (fun σ5 e9 => ?_)
    replace h := bt_app h σ5 e9
    refine Ev.aload_n (pc := 62) dX7_readWinter_62 rfl rfl ?_
    refine Ev.iload_n (pc := 63) dX7_readWinter_63 rfl rfl ?_
    refine Ev.putI (pc := 64) dX7_readWinter_64 pl_X7_130 sh_1 rfl rfl rfl ?_
    refine Ev.nmS (fun σ6 e9 => ?_)
    replace h := bt_app h σ6 e9
    refine Ev.aload_n (pc := 67) dX7_readWinter_67 rfl rfl ?_
    refine Ev.iload (pc := 68) dX7_readWinter_68 rfl ?_
    refine Ev.putI (pc := 70) dX7_readWinter_70 pl_X7_86 sh_1 rfl rfl rfl ?_
    refine Ev.nmS (fun σ7 e9 => ?_)
    replace h := bt_app h σ7 e9
    obtain ⟨h1, h2⟩ := oeq h
    subst h1
    subst h2
    exact Ev.ret_v (pc := 73) dX7_readWinter_73 rfl
theorem e_X7_readWinter_21_1 (N : Nat)  (σ : St) (v : Unit) (w : St) (h : o_X7_readWinter_21_1 N  σ = some (v, w)) : Ev md_X7_readWinter 3 0 (lvE [vR 21, vR 1] 5) [] SH σ (none, SH, w) := by
  show Ev md_X7_readWinter 3 0 [some (vR 21), some (vR 1), none, none, none] [] SH σ (none, SH, w)
  unfold o_X7_readWinter_21_1 at h
  refine Ev.aload_n (pc := 0) dX7_readWinter_0 rfl rfl ?_
  refine Ev.dup (pc := 1) dX7_readWinter_1 rfl ?_
  refine Ev.getI (pc := 2) dX7_readWinter_2 fl_X7_26 sh_21 rfl ?_
  refine Ev.iconst (pc := 5) (v := 1) dX7_readWinter_5 ki_1 ?_
  refine Ev.iadd (pc := 6) dX7_readWinter_6 ?_
  refine Ev.putI (pc := 7) dX7_readWinter_7 pl_X7_26 sh_21 rfl rfl rfl ?_
  refine Ev.nmS (fun σ1 e9 => ?_)
  replace h := bt_app h σ1 e9
  refine Ev.aload_n (pc := 10) dX7_readWinter_10 rfl rfl ?_
  refine Ev.iconst (pc := 11) (v := 0) dX7_readWinter_11 ki_0 ?_
  refine Ev.bipush (pc := 12) (v := 98) dX7_readWinter_12 kb_98 ?_
  obtain ⟨x2, σ3, g4, h⟩ := bd_elim h
  refine Ev.cVi (pc := 14) (k := 21) (av := [vI 0, vI 98]) (rest := []) dX7_readWinter_14 ce_X7_number ml_X7_89 rfl sh_21 cl_X7 sh_sc (Nat.le_of_ble_eq_true rfl) (Nat.le_of_ble_eq_true rfl) (r_X7_number g4) ?_
  refine Ev.istore_n (pc := 17) (lv' := [some (vR 21), some (vR 1), some (vI x2), none, none]) dX7_readWinter_17 rfl (lt9 rfl) rfl rfl ?_
  refine Ev.aload_n (pc := 18) dX7_readWinter_18 rfl rfl ?_
  refine Ev.iconst (pc := 19) (v := 0) dX7_readWinter_19 ki_0 ?_
  refine Ev.bipush (pc := 20) (v := 98) dX7_readWinter_20 kb_98 ?_
  obtain ⟨x5, σ6, g7, h⟩ := bd_elim h
  refine Ev.cVi (pc := 22) (k := 21) (av := [vI 0, vI 98]) (rest := []) dX7_readWinter_22 ce_X7_number ml_X7_89 rfl sh_21 cl_X7 sh_sc (Nat.le_of_ble_eq_true rfl) (Nat.le_of_ble_eq_true rfl) (r_X7_number g7) ?_
  refine Ev.istore_n (pc := 25) (lv' := [some (vR 21), some (vR 1), some (vI x2), some (vI x5), none]) dX7_readWinter_25 rfl (lt9 rfl) rfl rfl ?_
  refine Ev.aload_n (pc := 26) dX7_readWinter_26 rfl rfl ?_
  refine Ev.iconst (pc := 27) (v := 2) dX7_readWinter_27 ki_2 ?_
  refine Ev.bipush (pc := 28) (v := 99) dX7_readWinter_28 kb_99 ?_
  obtain ⟨x8, σ9, g10, h⟩ := bd_elim h
  refine Ev.cVi (pc := 30) (k := 21) (av := [vI 2, vI 99]) (rest := []) dX7_readWinter_30 ce_X7_number ml_X7_89 rfl sh_21 cl_X7 sh_sc (Nat.le_of_ble_eq_true rfl) (Nat.le_of_ble_eq_true rfl) (r_X7_number g10) ?_
  refine Ev.istore (pc := 33) (lv' := [some (vR 21), some (vR 1), some (vI x2), some (vI x5), some (vI x8)]) dX7_readWinter_33 (lt9 rfl) rfl rfl ?_
  refine Ev.iload_n (pc := 35) dX7_readWinter_35 rfl rfl ?_
  refine Ev.iload (pc := 36) dX7_readWinter_36 rfl ?_
  by_cases c11 : x5 < x8
  · replace h := (if_pos c11).symm.trans h
    refine Ev.icmp_lt_t (pc := 38) (tgt := 50) dX7_readWinter_38 rfl c11 ?_
    exact Ev.weak2 (lj_X7_readWinter_21_1_50 N _ _ _ _ _ _ h) (lsubS (lsubS (lsubS (lsubS (lsubS lsubE)))))
  · replace h := (if_neg c11).symm.trans h
    refine Ev.icmp_lt_f (pc := 38) dX7_readWinter_38 ⟨50, rfl⟩ c11 ?_
    refine Ev.aload_n (pc := 41) dX7_readWinter_41 rfl rfl ?_
    refine Ev.iconst (pc := 42) (v := 4) dX7_readWinter_42 ki_4 ?_
    refine Ev.aload_n (pc := 43) dX7_readWinter_43 rfl rfl ?_
    refine Ev.getI (pc := 44) dX7_readWinter_44 fl_X7_97 sh_21 rfl ?_
    refine Ev.cVv (pc := 47) (k := 21) (av := [vI 4, vI (σ9 21 3)]) (rest := []) dX7_readWinter_47 ce_X7_blame ml_X7_54 rfl sh_21 cl_X7 sh_sc (Nat.le_of_ble_eq_true rfl) (Nat.le_of_ble_eq_true rfl) (r_X7_blame _ _ _) ?_
    refine Ev.nmS (fun σ12 e9 => ?_)
    replace h := bt_app h σ12 e9
    exact Ev.weak2 (lj_X7_readWinter_21_1_50 N _ _ _ _ _ _ h) (lsubS (lsubS (lsubS (lsubS (lsubS lsubE)))))
theorem r_X7_readWinter_21_1 {N : Nat}  {σ : St} {v : Unit} {w : St} (h : o_X7_readWinter_21_1 N  σ = some (v, w)) : Rn md_X7_readWinter 3 [vR 21, vR 1] SH σ (none, SH, w) := Rn.of ce_X7_readWinter.1 (Nat.le_of_ble_eq_true rfl) (e_X7_readWinter_21_1 N  _ _ _ h)
def j_X7_readClause_21_1_35 (N : Nat) (v2 : Int32) (σ : St) : Option (Unit × St) := if (p_X7_isOneTooMany_21_1 v2 σ) = 0 then (if v2 = 107 then (bd (o_X7_readKeeper_21_1 N  σ) fun u3 σ4 => some ((), σ4)) else if v2 = 112 then (bd (o_X7_readPromise_21_1 N  σ) fun u7 σ8 => some ((), σ8)) else if v2 = 114 then (bd (o_X7_readRoad_21_1 N  σ) fun u11 σ12 => some ((), σ12)) else if v2 = 116 then (bd (o_X7_readTowns_21_1 N  σ) fun u15 σ16 => some ((), σ16)) else if v2 = 119 then (bd (o_X7_readWinter_21_1 N  σ) fun u19 σ20 => some ((), σ20)) else (bt (t_X7_blame 1 (σ 21 2) σ) fun σ22 => some ((), σ22))) else (bt (t_X7_blame 3 (σ 21 2) σ) fun σ23 => some ((), σ23))
def o_X7_readClause_21_1 (N : Nat)  (σ : St) : Option (Unit × St) := bt (at_ σ 22 250 (σ 21 2)) fun x1 => if (σ 1 0) = 0 then (if x1 = 116 then (j_X7_readClause_21_1_35 N x1 σ) else (bt (t_X7_blame 1 (σ 21 2) σ) fun σ4 => some ((), σ4))) else (j_X7_readClause_21_1_35 N x1 σ)
theorem lj_X7_readClause_21_1_35 (N : Nat) (v2 : Int32) (σ : St) (v : Unit) (w : St) (h : j_X7_readClause_21_1_35 N v2 σ = some (v, w)) : Ev md_X7_readClause 4 35 [some (vR 21), some (vR 1), some (vI v2)] [] SH σ (none, SH, w) := by
  unfold j_X7_readClause_21_1_35 at h
  refine Ev.aload_n (pc := 35) dX7_readClause_35 rfl rfl ?_
  refine Ev.iload_n (pc := 36) dX7_readClause_36 rfl rfl ?_
  refine Ev.aload_n (pc := 37) dX7_readClause_37 rfl rfl ?_
  refine Ev.cVi (pc := 38) (k := 21) (av := [vI v2, vR 1]) (rest := []) dX7_readClause_38 ce_X7_isOneTooMany ml_X7_58 rfl sh_21 cl_X7 sh_sc (Nat.le_of_ble_eq_true rfl) (Nat.le_of_ble_eq_true rfl) (r_X7_isOneTooMany_21_1 _ _) ?_
  by_cases c1 : (p_X7_isOneTooMany_21_1 v2 σ) = 0
  · replace h := (if_pos c1).symm.trans h
    refine Ev.if_eq_t (pc := 41) (tgt := 54) dX7_readClause_41 rfl c1 ?_
    refine Ev.iload_n (pc := 54) dX7_readClause_54 rfl rfl ?_
    by_cases c2 : v2 = 107
    · replace h := (if_pos c2).symm.trans h
      refine Ev.swC (pc := 55) (c := 107) (tgt := 136) dX7_readClause_55 c2 (by decide) (by decide) rfl rfl ?_
      refine Ev.aload_n (pc := 136) dX7_readClause_136 rfl rfl ?_
      refine Ev.aload_n (pc := 137) dX7_readClause_137 rfl rfl ?_
      obtain ⟨u3, σ4, g5, h⟩ := bd_elim h
      refine Ev.cVv (pc := 138) (k := 21) (av := [vR 1]) (rest := []) dX7_readClause_138 ce_X7_readKeeper ml_X7_68 rfl sh_21 cl_X7 sh_sc (Nat.le_of_ble_eq_true rfl) (Nat.le_of_ble_eq_true rfl) (r_X7_readKeeper_21_1 g5) ?_
      refine Ev.goto (pc := 141) (tgt := 169) dX7_readClause_141 rfl ?_
      obtain ⟨h1, h2⟩ := oeq h
      subst h1
      subst h2
      exact Ev.ret_v (pc := 169) dX7_readClause_169 rfl
    replace h := (if_neg c2).symm.trans h
    by_cases c6 : v2 = 112
    · replace h := (if_pos c6).symm.trans h
      refine Ev.swC (pc := 55) (c := 112) (tgt := 144) dX7_readClause_55 c6 (by decide) (by decide) rfl rfl ?_
      refine Ev.aload_n (pc := 144) dX7_readClause_144 rfl rfl ?_
      refine Ev.aload_n (pc := 145) dX7_readClause_145 rfl rfl ?_
      obtain ⟨u7, σ8, g9, h⟩ := bd_elim h
      refine Ev.cVv (pc := 146) (k := 21) (av := [vR 1]) (rest := []) dX7_readClause_146 ce_X7_readPromise ml_X7_71 rfl sh_21 cl_X7 sh_sc (Nat.le_of_ble_eq_true rfl) (Nat.le_of_ble_eq_true rfl) (r_X7_readPromise_21_1 g9) ?_
      refine Ev.goto (pc := 149) (tgt := 169) dX7_readClause_149 rfl ?_
      obtain ⟨h1, h2⟩ := oeq h
      subst h1
      subst h2
      exact Ev.ret_v (pc := 169) dX7_readClause_169 rfl
    replace h := (if_neg c6).symm.trans h
    by_cases c10 : v2 = 114
    · replace h := (if_pos c10).symm.trans h
      refine Ev.swC (pc := 55) (c := 114) (tgt := 128) dX7_readClause_55 c10 (by decide) (by decide) rfl rfl ?_
      refine Ev.aload_n (pc := 128) dX7_readClause_128 rfl rfl ?_
      refine Ev.aload_n (pc := 129) dX7_readClause_129 rfl rfl ?_
      obtain ⟨u11, σ12, g13, h⟩ := bd_elim h
      refine Ev.cVv (pc := 130) (k := 21) (av := [vR 1]) (rest := []) dX7_readClause_130 ce_X7_readRoad ml_X7_65 rfl sh_21 cl_X7 sh_sc (Nat.le_of_ble_eq_true rfl) (Nat.le_of_ble_eq_true rfl) (r_X7_readRoad_21_1 g13) ?_
      refine Ev.goto (pc := 133) (tgt := 169) dX7_readClause_133 rfl ?_
      obtain ⟨h1, h2⟩ := oeq h
      subst h1
      subst h2
      exact Ev.ret_v (pc := 169) dX7_readClause_169 rfl
    replace h := (if_neg c10).symm.trans h
    by_cases c14 : v2 = 116
    · replace h := (if_pos c14).symm.trans h
      refine Ev.swC (pc := 55) (c := 116) (tgt := 120) dX7_readClause_55 c14 (by decide) (by decide) rfl rfl ?_
      refine Ev.aload_n (pc := 120) dX7_readClause_120 rfl rfl ?_
      refine Ev.aload_n (pc := 121) dX7_readClause_121 rfl rfl ?_
      obtain ⟨u15, σ16, g17, h⟩ := bd_elim h
      refine Ev.cVv (pc := 122) (k := 21) (av := [vR 1]) (rest := []) dX7_readClause_122 ce_X7_readTowns ml_X7_62 rfl sh_21 cl_X7 sh_sc (Nat.le_of_ble_eq_true rfl) (Nat.le_of_ble_eq_true rfl) (r_X7_readTowns_21_1 g17) ?_
      refine Ev.goto (pc := 125) (tgt := 169) dX7_readClause_125 rfl ?_
      obtain ⟨h1, h2⟩ := oeq h
      subst h1
      subst h2
      exact Ev.ret_v (pc := 169) dX7_readClause_169 rfl
    replace h := (if_neg c14).symm.trans h
    by_cases c18 : v2 = 119
    · replace h := (if_pos c18).symm.trans h
      refine Ev.swC (pc := 55) (c := 119) (tgt := 152) dX7_readClause_55 c18 (by decide) (by decide) rfl rfl ?_
      refine Ev.aload_n (pc := 152) dX7_readClause_152 rfl rfl ?_
      refine Ev.aload_n (pc := 153) dX7_readClause_153 rfl rfl ?_
      obtain ⟨u19, σ20, g21, h⟩ := bd_elim h
      refine Ev.cVv (pc := 154) (k := 21) (av := [vR 1]) (rest := []) dX7_readClause_154 ce_X7_readWinter ml_X7_74 rfl sh_21 cl_X7 sh_sc (Nat.le_of_ble_eq_true rfl) (Nat.le_of_ble_eq_true rfl) (r_X7_readWinter_21_1 g21) ?_
      refine Ev.goto (pc := 157) (tgt := 169) dX7_readClause_157 rfl ?_
      obtain ⟨h1, h2⟩ := oeq h
      subst h1
      subst h2
      exact Ev.ret_v (pc := 169) dX7_readClause_169 rfl
    replace h := (if_neg c18).symm.trans h
    refine Ev.swD (pc := 55) (tgt := 160) (tl := [107, 112, 114, 116, 119]) dX7_readClause_55 (not_mem_cons9 (neI c2 rfl) (not_mem_cons9 (neI c6 rfl) (not_mem_cons9 (neI c10 rfl) (not_mem_cons9 (neI c14 rfl) (not_mem_cons9 (neI c18 rfl) (not_mem_nil9)))))) rfl rfl rfl ?_
    refine Ev.aload_n (pc := 160) dX7_readClause_160 rfl rfl ?_
    refine Ev.iconst (pc := 161) (v := 1) dX7_readClause_161 ki_1 ?_
    refine Ev.aload_n (pc := 162) dX7_readClause_162 rfl rfl ?_
    refine Ev.getI (pc := 163) dX7_readClause_163 fl_X7_26 sh_21 rfl ?_
    refine Ev.cVv (pc := 166) (k := 21) (av := [vI 1, vI (σ 21 2)]) (rest := []) dX7_readClause_166 ce_X7_blame ml_X7_54 rfl sh_21 cl_X7 sh_sc (Nat.le_of_ble_eq_true rfl) (Nat.le_of_ble_eq_true rfl) (r_X7_blame _ _ _) ?_
    refine Ev.nmS (fun σ22 e9 => ?_)
    replace h := bt_app h σ22 e9
    obtain ⟨h1, h2⟩ := oeq h
    subst h1
    subst h2
    exact Ev.ret_v (pc := 169) dX7_readClause_169 rfl
  · replace h := (if_neg c1).symm.trans h
    refine Ev.if_eq_f (pc := 41) dX7_readClause_41 ⟨54, rfl⟩ c1 ?_
    refine Ev.aload_n (pc := 44) dX7_readClause_44 rfl rfl ?_
    refine Ev.iconst (pc := 45) (v := 3) dX7_readClause_45 ki_3 ?_
    refine Ev.aload_n (pc := 46) dX7_readClause_46 rfl rfl ?_
    refine Ev.getI (pc := 47) dX7_readClause_47 fl_X7_26 sh_21 rfl ?_
    refine Ev.cVv (pc := 50) (k := 21) (av := [vI 3, vI (σ 21 2)]) (rest := []) dX7_readClause_50 ce_X7_blame ml_X7_54 rfl sh_21 cl_X7 sh_sc (Nat.le_of_ble_eq_true rfl) (Nat.le_of_ble_eq_true rfl) (r_X7_blame _ _ _) ?_
    refine Ev.nmS (fun σ23 e9 => ?_)
    replace h := bt_app h σ23 e9
    obtain ⟨h1, h2⟩ := oeq h
    subst h1
    subst h2
    exact Ev.ret_v (pc := 53) dX7_readClause_53 rfl
theorem e_X7_readClause_21_1 (N : Nat)  (σ : St) (v : Unit) (w : St) (h : o_X7_readClause_21_1 N  σ = some (v, w)) : Ev md_X7_readClause 4 0 (lvE [vR 21, vR 1] 3) [] SH σ (none, SH, w) := by
  show Ev md_X7_readClause 4 0 [some (vR 21), some (vR 1), none] [] SH σ (none, SH, w)
  unfold o_X7_readClause_21_1 at h
  refine Ev.aload_n (pc := 0) dX7_readClause_0 rfl rfl ?_
  refine Ev.getR (pc := 1) dX7_readClause_1 fl_X7_9 sh_21 rfl ?_
  refine Ev.aload_n (pc := 4) dX7_readClause_4 rfl rfl ?_
  refine Ev.getI (pc := 5) dX7_readClause_5 fl_X7_26 sh_21 rfl ?_
  refine Ev.cTi (pc := 8) (av := [vR 22, vI (σ 21 2)]) (rest := []) dX7_readClause_8 ce_X9_at ml_X7_47 rfl sh_sc (Nat.le_of_ble_eq_true rfl) (Nat.le_of_ble_eq_true rfl) (r_at sh_22 (by decide) _ _) ?_
  refine Ev.nmI (fun x1 e9 => ?_)
  replace h := bt_app h x1 e9
  refine Ev.istore_n (pc := 11) (lv' := [some (vR 21), some (vR 1), some (vI x1)]) dX7_readClause_11 rfl (lt9 rfl) rfl rfl ?_
  refine Ev.aload_n (pc := 12) dX7_readClause_12 rfl rfl ?_
  refine Ev.getI (pc := 13) dX7_readClause_13 fl_X7_51 sh_1 rfl ?_
  by_cases c2 : (σ 1 0) = 0
  · replace h := (if_pos c2).symm.trans h
    refine Ev.if_ne_f (pc := 16) dX7_readClause_16 ⟨35, rfl⟩ c2 ?_
    refine Ev.iload_n (pc := 19) dX7_readClause_19 rfl rfl ?_
    refine Ev.bipush (pc := 20) (v := 116) dX7_readClause_20 kb_116 ?_
    by_cases c3 : x1 = 116
    · replace h := (if_pos c3).symm.trans h
      refine Ev.icmp_eq_t (pc := 22) (tgt := 35) dX7_readClause_22 rfl c3 ?_
      exact Ev.weak2 (lj_X7_readClause_21_1_35 N _ _ _ _ h) (lsubS (lsubS (lsubS lsubE)))
    · replace h := (if_neg c3).symm.trans h
      refine Ev.icmp_eq_f (pc := 22) dX7_readClause_22 ⟨35, rfl⟩ c3 ?_
      refine Ev.aload_n (pc := 25) dX7_readClause_25 rfl rfl ?_
      refine Ev.iconst (pc := 26) (v := 1) dX7_readClause_26 ki_1 ?_
      refine Ev.aload_n (pc := 27) dX7_readClause_27 rfl rfl ?_
      refine Ev.getI (pc := 28) dX7_readClause_28 fl_X7_26 sh_21 rfl ?_
      refine Ev.cVv (pc := 31) (k := 21) (av := [vI 1, vI (σ 21 2)]) (rest := []) dX7_readClause_31 ce_X7_blame ml_X7_54 rfl sh_21 cl_X7 sh_sc (Nat.le_of_ble_eq_true rfl) (Nat.le_of_ble_eq_true rfl) (r_X7_blame _ _ _) ?_
      refine Ev.nmS (fun σ4 e9 => ?_)
      replace h := bt_app h σ4 e9
      obtain ⟨h1, h2⟩ := oeq h
      subst h1
      subst h2
      exact Ev.ret_v (pc := 34) dX7_readClause_34 rfl
  · replace h := (if_neg c2).symm.trans h
    refine Ev.if_ne_t (pc := 16) (tgt := 35) dX7_readClause_16 rfl c2 ?_
    exact Ev.weak2 (lj_X7_readClause_21_1_35 N _ _ _ _ h) (lsubS (lsubS (lsubS lsubE)))
theorem r_X7_readClause_21_1 {N : Nat}  {σ : St} {v : Unit} {w : St} (h : o_X7_readClause_21_1 N  σ = some (v, w)) : Rn md_X7_readClause 4 [vR 21, vR 1] SH σ (none, SH, w) := Rn.of ce_X7_readClause.1 (Nat.le_of_ble_eq_true rfl) (e_X7_readClause_21_1 N  _ _ _ h)
def j_X5_joinRoads_1_72 (N : Nat) (K_2 : Int32 → St → Option (Unit × St)) (K_9 : Int32 → Int32 → St → Option (Unit × St)) (K_16 : Int32 → Int32 → Int32 → St → Option (Unit × St)) (v1 : Int32) (v2 : Int32) (v3 : Int32) (σ : St) : Option (Unit × St) := bt (v3 + 1) fun x1 => K_16 v1 v2 x1 σ
def l_X5_joinRoads_1_16 (N : Nat) (K_2 : Int32 → St → Option (Unit × St)) (K_9 : Int32 → Int32 → St → Option (Unit × St)) : Nat → Int32 → Int32 → Int32 → St → Option (Unit × St)
  | 0, _, _, _, _ => none
  | n + 1, v1, v2, v3, σ => if (5 : Int32) ≤ v3 then (bt (v2 + 1) fun x2 => K_9 v1 x2 σ) else (bt (at_ σ 10 25 ((v2 * 5) + v1)) fun x3 => bt (at_ σ 10 25 ((v1 * 5) + v3)) fun x4 => if x3 = (-1) then (j_X5_joinRoads_1_72 N K_2 K_9 (l_X5_joinRoads_1_16 N K_2 K_9 n) v1 v2 v3 σ) else (if x4 = (-1) then (j_X5_joinRoads_1_72 N K_2 K_9 (l_X5_joinRoads_1_16 N K_2 K_9 n) v1 v2 v3 σ) else (bt (t_X5_shorten_1 v2 v3 (x3 + x4) σ) fun σ7 => j_X5_joinRoads_1_72 N K_2 K_9 (l_X5_joinRoads_1_16 N K_2 K_9 n) v1 v2 v3 σ7)))
def l_X5_joinRoads_1_9 (N : Nat) (K_2 : Int32 → St → Option (Unit × St)) : Nat → Int32 → Int32 → St → Option (Unit × St)
  | 0, _, _, _ => none
  | n + 1, v1, v2, σ => if (5 : Int32) ≤ v2 then (bt (v1 + 1) fun x2 => K_2 x2 σ) else (l_X5_joinRoads_1_16 N K_2 (l_X5_joinRoads_1_9 N K_2 n) N v1 v2 0 σ)
def l_X5_joinRoads_1_2 (N : Nat) : Nat → Int32 → St → Option (Unit × St)
  | 0, _, _ => none
  | n + 1, v1, σ => if (5 : Int32) ≤ v1 then (some ((), σ)) else (l_X5_joinRoads_1_9 N (l_X5_joinRoads_1_2 N n) N v1 0 σ)
def o_X5_joinRoads_1 (N : Nat)  (σ : St) : Option (Unit × St) := l_X5_joinRoads_1_2 N N 0 σ
theorem lj_X5_joinRoads_1_72 (N : Nat) (K_2 : Int32 → St → Option (Unit × St)) (K_9 : Int32 → Int32 → St → Option (Unit × St)) (K_16 : Int32 → Int32 → Int32 → St → Option (Unit × St)) (hK_2 : ∀ (v1 : Int32) (σ : St) (v : Unit) (w : St), K_2 v1 σ = some (v, w) → Ev md_X5_joinRoads 2 2 [some (vR 1), some (vI v1), none, none, none, none] [] SH σ (none, SH, w)) (hK_9 : ∀ (v1 : Int32) (v2 : Int32) (σ : St) (v : Unit) (w : St), K_9 v1 v2 σ = some (v, w) → Ev md_X5_joinRoads 2 9 [some (vR 1), some (vI v1), some (vI v2), none, none, none] [] SH σ (none, SH, w)) (hK_16 : ∀ (v1 : Int32) (v2 : Int32) (v3 : Int32) (σ : St) (v : Unit) (w : St), K_16 v1 v2 v3 σ = some (v, w) → Ev md_X5_joinRoads 2 16 [some (vR 1), some (vI v1), some (vI v2), some (vI v3), none, none] [] SH σ (none, SH, w)) (v1 : Int32) (v2 : Int32) (v3 : Int32) (σ : St) (v : Unit) (w : St) (h : j_X5_joinRoads_1_72 N K_2 K_9 K_16 v1 v2 v3 σ = some (v, w)) : Ev md_X5_joinRoads 2 72 [some (vR 1), some (vI v1), some (vI v2), some (vI v3), none, none] [] SH σ (none, SH, w) := by
  unfold j_X5_joinRoads_1_72 at h
  obtain ⟨x1, e_x1, h⟩ := bt_elim h
  refine Ev.iinc (pc := 72) (v := x1) (lv' := [some (vR 1), some (vI v1), some (vI v2), some (vI x1), none, none]) dX5_joinRoads_72 rfl (by rw [ki_1, e_x1]) (lt9 rfl) rfl rfl ?_
  refine Ev.goto (pc := 75) (tgt := 16) dX5_joinRoads_75 rfl ?_
  exact Ev.weak2 (hK_16 _ _ _ _ _ _ h) (lsubS (lsubS (lsubS (lsubS (lsubN (lsubN lsubE))))))
theorem ll_X5_joinRoads_1_16 (N : Nat) (K_2 : Int32 → St → Option (Unit × St)) (K_9 : Int32 → Int32 → St → Option (Unit × St)) (hK_2 : ∀ (v1 : Int32) (σ : St) (v : Unit) (w : St), K_2 v1 σ = some (v, w) → Ev md_X5_joinRoads 2 2 [some (vR 1), some (vI v1), none, none, none, none] [] SH σ (none, SH, w)) (hK_9 : ∀ (v1 : Int32) (v2 : Int32) (σ : St) (v : Unit) (w : St), K_9 v1 v2 σ = some (v, w) → Ev md_X5_joinRoads 2 9 [some (vR 1), some (vI v1), some (vI v2), none, none, none] [] SH σ (none, SH, w)) : ∀ (n : Nat) (v1 : Int32) (v2 : Int32) (v3 : Int32) (σ : St) (v : Unit) (w : St), l_X5_joinRoads_1_16 N K_2 K_9 n v1 v2 v3 σ = some (v, w) → Ev md_X5_joinRoads 2 16 [some (vR 1), some (vI v1), some (vI v2), some (vI v3), none, none] [] SH σ (none, SH, w) := by
  intro n
  induction n with
  | zero =>
    intro v1 v2 v3 σ v w h
    rw [l_X5_joinRoads_1_16] at h
    cases h
  | succ n ih =>
    intro v1 v2 v3 σ v w h
    rw [l_X5_joinRoads_1_16] at h
    refine Ev.iload_n (pc := 16) dX5_joinRoads_16 rfl rfl ?_
    refine Ev.iconst (pc := 17) (v := 5) dX5_joinRoads_17 ki_5 ?_
    by_cases c1 : (5 : Int32) ≤ v3
    · replace h := (if_pos c1).symm.trans h
      refine Ev.icmp_ge_t (pc := 18) (tgt := 78) dX5_joinRoads_18 rfl c1 ?_
      obtain ⟨x2, e_x2, h⟩ := bt_elim h
      refine Ev.iinc (pc := 78) (v := x2) (lv' := [some (vR 1), some (vI v1), some (vI x2), some (vI v3), none, none]) dX5_joinRoads_78 rfl (by rw [ki_1, e_x2]) (lt9 rfl) rfl rfl ?_
      refine Ev.goto (pc := 81) (tgt := 9) dX5_joinRoads_81 rfl ?_
      exact Ev.weak2 (hK_9 _ _ _ _ _ h) (lsubS (lsubS (lsubS (lsubN (lsubN (lsubN lsubE))))))
    · replace h := (if_neg c1).symm.trans h
      refine Ev.icmp_ge_f (pc := 18) dX5_joinRoads_18 ⟨78, rfl⟩ c1 ?_
      refine Ev.aload_n (pc := 21) dX5_joinRoads_21 rfl rfl ?_
      refine Ev.getR (pc := 22) dX5_joinRoads_22 fl_X5_36 sh_1 rfl ?_
      refine Ev.iload_n (pc := 25) dX5_joinRoads_25 rfl rfl ?_
      refine Ev.iconst (pc := 26) (v := 5) dX5_joinRoads_26 ki_5 ?_
      refine Ev.imul (pc := 27) dX5_joinRoads_27 ?_
      refine Ev.iload_n (pc := 28) dX5_joinRoads_28 rfl rfl ?_
      refine Ev.iadd (pc := 29) dX5_joinRoads_29 ?_
      refine Ev.cTi (pc := 30) (av := [vR 10, vI ((v2 * 5) + v1)]) (rest := []) dX5_joinRoads_30 ce_X9_at ml_X5_65 rfl sh_sc (Nat.le_of_ble_eq_true rfl) (Nat.le_of_ble_eq_true rfl) (r_at sh_10 (by decide) _ _) ?_
      refine Ev.nmI (fun x3 e9 => ?_)
      replace h := bt_app h x3 e9
      refine Ev.istore (pc := 33) (lv' := [some (vR 1), some (vI v1), some (vI v2), some (vI v3), some (vI x3), none]) dX5_joinRoads_33 (lt9 rfl) rfl rfl ?_
      refine Ev.aload_n (pc := 35) dX5_joinRoads_35 rfl rfl ?_
      refine Ev.getR (pc := 36) dX5_joinRoads_36 fl_X5_36 sh_1 rfl ?_
      refine Ev.iload_n (pc := 39) dX5_joinRoads_39 rfl rfl ?_
      refine Ev.iconst (pc := 40) (v := 5) dX5_joinRoads_40 ki_5 ?_
      refine Ev.imul (pc := 41) dX5_joinRoads_41 ?_
      refine Ev.iload_n (pc := 42) dX5_joinRoads_42 rfl rfl ?_
      refine Ev.iadd (pc := 43) dX5_joinRoads_43 ?_
      refine Ev.cTi (pc := 44) (av := [vR 10, vI ((v1 * 5) + v3)]) (rest := []) dX5_joinRoads_44 ce_X9_at ml_X5_65 rfl sh_sc (Nat.le_of_ble_eq_true rfl) (Nat.le_of_ble_eq_true rfl) (r_at sh_10 (by decide) _ _) ?_
      refine Ev.nmI (fun x4 e9 => ?_)
      replace h := bt_app h x4 e9
      refine Ev.istore (pc := 47) (lv' := [some (vR 1), some (vI v1), some (vI v2), some (vI v3), some (vI x3), some (vI x4)]) dX5_joinRoads_47 (lt9 rfl) rfl rfl ?_
      refine Ev.iload (pc := 49) dX5_joinRoads_49 rfl ?_
      refine Ev.iconst (pc := 51) (v := (-1)) dX5_joinRoads_51 ki_m1 ?_
      by_cases c5 : x3 = (-1)
      · replace h := (if_pos c5).symm.trans h
        refine Ev.icmp_eq_t (pc := 52) (tgt := 72) dX5_joinRoads_52 rfl c5 ?_
        exact Ev.weak2 (lj_X5_joinRoads_1_72 N K_2 K_9 (l_X5_joinRoads_1_16 N K_2 K_9 n) hK_2 hK_9 ih _ _ _ _ _ _ h) (lsubS (lsubS (lsubS (lsubS (lsubN (lsubN lsubE))))))
      · replace h := (if_neg c5).symm.trans h
        refine Ev.icmp_eq_f (pc := 52) dX5_joinRoads_52 ⟨72, rfl⟩ c5 ?_
        refine Ev.iload (pc := 55) dX5_joinRoads_55 rfl ?_
        refine Ev.iconst (pc := 57) (v := (-1)) dX5_joinRoads_57 ki_m1 ?_
        by_cases c6 : x4 = (-1)
        · replace h := (if_pos c6).symm.trans h
          refine Ev.icmp_eq_t (pc := 58) (tgt := 72) dX5_joinRoads_58 rfl c6 ?_
          exact Ev.weak2 (lj_X5_joinRoads_1_72 N K_2 K_9 (l_X5_joinRoads_1_16 N K_2 K_9 n) hK_2 hK_9 ih _ _ _ _ _ _ h) (lsubS (lsubS (lsubS (lsubS (lsubN (lsubN lsubE))))))
        · replace h := (if_neg c6).symm.trans h
          refine Ev.icmp_eq_f (pc := 58) dX5_joinRoads_58 ⟨72, rfl⟩ c6 ?_
          refine Ev.aload_n (pc := 61) dX5_joinRoads_61 rfl rfl ?_
          refine Ev.iload_n (pc := 62) dX5_joinRoads_62 rfl rfl ?_
          refine Ev.iload_n (pc := 63) dX5_joinRoads_63 rfl rfl ?_
          refine Ev.iload (pc := 64) dX5_joinRoads_64 rfl ?_
          refine Ev.iload (pc := 66) dX5_joinRoads_66 rfl ?_
          refine Ev.iadd (pc := 68) dX5_joinRoads_68 ?_
          refine Ev.cVv (pc := 69) (k := 1) (av := [vI v2, vI v3, vI (x3 + x4)]) (rest := []) dX5_joinRoads_69 ce_X5_shorten ml_X5_61 rfl sh_1 cl_X5 sh_sc (Nat.le_of_ble_eq_true rfl) (Nat.le_of_ble_eq_true rfl) (r_X5_shorten_1 _ _ _ _) ?_
          refine Ev.nmS (fun σ7 e9 => ?_)
          replace h := bt_app h σ7 e9
          exact Ev.weak2 (lj_X5_joinRoads_1_72 N K_2 K_9 (l_X5_joinRoads_1_16 N K_2 K_9 n) hK_2 hK_9 ih _ _ _ _ _ _ h) (lsubS (lsubS (lsubS (lsubS (lsubN (lsubN lsubE))))))
theorem ll_X5_joinRoads_1_9 (N : Nat) (K_2 : Int32 → St → Option (Unit × St)) (hK_2 : ∀ (v1 : Int32) (σ : St) (v : Unit) (w : St), K_2 v1 σ = some (v, w) → Ev md_X5_joinRoads 2 2 [some (vR 1), some (vI v1), none, none, none, none] [] SH σ (none, SH, w)) : ∀ (n : Nat) (v1 : Int32) (v2 : Int32) (σ : St) (v : Unit) (w : St), l_X5_joinRoads_1_9 N K_2 n v1 v2 σ = some (v, w) → Ev md_X5_joinRoads 2 9 [some (vR 1), some (vI v1), some (vI v2), none, none, none] [] SH σ (none, SH, w) := by
  intro n
  induction n with
  | zero =>
    intro v1 v2 σ v w h
    rw [l_X5_joinRoads_1_9] at h
    cases h
  | succ n ih =>
    intro v1 v2 σ v w h
    rw [l_X5_joinRoads_1_9] at h
    refine Ev.iload_n (pc := 9) dX5_joinRoads_9 rfl rfl ?_
    refine Ev.iconst (pc := 10) (v := 5) dX5_joinRoads_10 ki_5 ?_
    by_cases c1 : (5 : Int32) ≤ v2
    · replace h := (if_pos c1).symm.trans h
      refine Ev.icmp_ge_t (pc := 11) (tgt := 84) dX5_joinRoads_11 rfl c1 ?_
      obtain ⟨x2, e_x2, h⟩ := bt_elim h
      refine Ev.iinc (pc := 84) (v := x2) (lv' := [some (vR 1), some (vI x2), some (vI v2), none, none, none]) dX5_joinRoads_84 rfl (by rw [ki_1, e_x2]) (lt9 rfl) rfl rfl ?_
      refine Ev.goto (pc := 87) (tgt := 2) dX5_joinRoads_87 rfl ?_
      exact Ev.weak2 (hK_2 _ _ _ _ h) (lsubS (lsubS (lsubN (lsubN (lsubN (lsubN lsubE))))))
    · replace h := (if_neg c1).symm.trans h
      refine Ev.icmp_ge_f (pc := 11) dX5_joinRoads_11 ⟨84, rfl⟩ c1 ?_
      refine Ev.iconst (pc := 14) (v := 0) dX5_joinRoads_14 ki_0 ?_
      refine Ev.istore_n (pc := 15) (lv' := [some (vR 1), some (vI v1), some (vI v2), some (vI 0), none, none]) dX5_joinRoads_15 rfl (lt9 rfl) rfl rfl ?_
      exact Ev.weak2 (ll_X5_joinRoads_1_16 N K_2 (l_X5_joinRoads_1_9 N K_2 n) hK_2 ih N _ _ _ _ _ _ h) (lsubS (lsubS (lsubS (lsubS (lsubN (lsubN lsubE))))))
theorem ll_X5_joinRoads_1_2 (N : Nat) : ∀ (n : Nat) (v1 : Int32) (σ : St) (v : Unit) (w : St), l_X5_joinRoads_1_2 N n v1 σ = some (v, w) → Ev md_X5_joinRoads 2 2 [some (vR 1), some (vI v1), none, none, none, none] [] SH σ (none, SH, w) := by
  intro n
  induction n with
  | zero =>
    intro v1 σ v w h
    rw [l_X5_joinRoads_1_2] at h
    cases h
  | succ n ih =>
    intro v1 σ v w h
    rw [l_X5_joinRoads_1_2] at h
    refine Ev.iload_n (pc := 2) dX5_joinRoads_2 rfl rfl ?_
    refine Ev.iconst (pc := 3) (v := 5) dX5_joinRoads_3 ki_5 ?_
    by_cases c1 : (5 : Int32) ≤ v1
    · replace h := (if_pos c1).symm.trans h
      refine Ev.icmp_ge_t (pc := 4) (tgt := 90) dX5_joinRoads_4 rfl c1 ?_
      obtain ⟨h1, h2⟩ := oeq h
      subst h1
      subst h2
      exact Ev.ret_v (pc := 90) dX5_joinRoads_90 rfl
    · replace h := (if_neg c1).symm.trans h
      refine Ev.icmp_ge_f (pc := 4) dX5_joinRoads_4 ⟨90, rfl⟩ c1 ?_
      refine Ev.iconst (pc := 7) (v := 0) dX5_joinRoads_7 ki_0 ?_
      refine Ev.istore_n (pc := 8) (lv' := [some (vR 1), some (vI v1), some (vI 0), none, none, none]) dX5_joinRoads_8 rfl (lt9 rfl) rfl rfl ?_
      exact Ev.weak2 (ll_X5_joinRoads_1_9 N (l_X5_joinRoads_1_2 N n) ih N _ _ _ _ _ h) (lsubS (lsubS (lsubS (lsubN (lsubN (lsubN lsubE))))))
theorem e_X5_joinRoads_1 (N : Nat)  (σ : St) (v : Unit) (w : St) (h : o_X5_joinRoads_1 N  σ = some (v, w)) : Ev md_X5_joinRoads 2 0 (lvE [vR 1] 6) [] SH σ (none, SH, w) := by
  show Ev md_X5_joinRoads 2 0 [some (vR 1), none, none, none, none, none] [] SH σ (none, SH, w)
  unfold o_X5_joinRoads_1 at h
  refine Ev.iconst (pc := 0) (v := 0) dX5_joinRoads_0 ki_0 ?_
  refine Ev.istore_n (pc := 1) (lv' := [some (vR 1), some (vI 0), none, none, none, none]) dX5_joinRoads_1 rfl (lt9 rfl) rfl rfl ?_
  exact Ev.weak2 (ll_X5_joinRoads_1_2 N N _ _ _ _ h) (lsubS (lsubS (lsubN (lsubN (lsubN (lsubN lsubE))))))
theorem r_X5_joinRoads_1 {N : Nat}  {σ : St} {v : Unit} {w : St} (h : o_X5_joinRoads_1 N  σ = some (v, w)) : Rn md_X5_joinRoads 2 [vR 1] SH σ (none, SH, w) := Rn.of ce_X5_joinRoads.1 (Nat.le_of_ble_eq_true rfl) (e_X5_joinRoads_1 N  _ _ _ h)
def j_X7_readInto_21_1_65 (N : Nat)  (σ : St) : Option (Int32 × St) := bd (o_X5_joinRoads_1 N  σ) fun u1 σ2 => some ((σ2 21 4), σ2)
def l_X7_readInto_21_1_25 (N : Nat) : Nat → Int32 → St → Option (Int32 × St)
  | 0, _, _ => none
  | n + 1, v2, σ => if (250 : Int32) ≤ v2 then (j_X7_readInto_21_1_65 N σ) else (if (σ 21 4) = 0 then (if (σ 21 1) ≤ (σ 21 2) then (j_X7_readInto_21_1_65 N σ) else (bd (o_X7_readClause_21_1 N  σ) fun u4 σ5 => bd (o_X7_skipBlanks N  σ5) fun u7 σ8 => bt (v2 + 1) fun x10 => l_X7_readInto_21_1_25 N n x10 σ8)) else (j_X7_readInto_21_1_65 N σ))
def o_X7_readInto_21_1 (N : Nat)  (σ : St) : Option (Int32 × St) := bt (st σ 21 2 0) fun σ1 => bt (st σ1 21 4 0) fun σ2 => bt (st σ2 21 5 (-1)) fun σ3 => bd (o_X5_clear_1 N  σ3) fun u4 σ5 => bd (o_X7_skipBlanks N  σ5) fun u7 σ8 => l_X7_readInto_21_1_25 N N 0 σ8
theorem lj_X7_readInto_21_1_65 (N : Nat)  (σ : St) (v : Int32) (w : St) (h : j_X7_readInto_21_1_65 N  σ = some (v, w)) : Ev md_X7_readInto 5 65 [some (vR 21), some (vR 1), none] [] SH σ (some (vI v), SH, w) := by
  unfold j_X7_readInto_21_1_65 at h
  refine Ev.aload_n (pc := 65) dX7_readInto_65 rfl rfl ?_
  obtain ⟨u1, σ2, g3, h⟩ := bd_elim h
  refine Ev.cVv (pc := 66) (k := 1) (av := []) (rest := []) dX7_readInto_66 ce_X5_joinRoads ml_X7_44 rfl sh_1 cl_X5 sh_sc (Nat.le_of_ble_eq_true rfl) (Nat.le_of_ble_eq_true rfl) (r_X5_joinRoads_1 g3) ?_
  refine Ev.aload_n (pc := 69) dX7_readInto_69 rfl rfl ?_
  refine Ev.getI (pc := 70) dX7_readInto_70 fl_X7_29 sh_21 rfl ?_
  obtain ⟨h1, h2⟩ := oeq h
  subst h1
  subst h2
  exact Ev.ret_i (pc := 73) dX7_readInto_73 rfl rfl
theorem ll_X7_readInto_21_1_25 (N : Nat) : ∀ (n : Nat) (v2 : Int32) (σ : St) (v : Int32) (w : St), l_X7_readInto_21_1_25 N n v2 σ = some (v, w) → Ev md_X7_readInto 5 25 [some (vR 21), some (vR 1), some (vI v2)] [] SH σ (some (vI v), SH, w) := by
  intro n
  induction n with
  | zero =>
    intro v2 σ v w h
    rw [l_X7_readInto_21_1_25] at h
    cases h
  | succ n ih =>
    intro v2 σ v w h
    rw [l_X7_readInto_21_1_25] at h
    refine Ev.iload_n (pc := 25) dX7_readInto_25 rfl rfl ?_
    refine Ev.sipush (pc := 26) (v := 250) dX7_readInto_26 ks_250 ?_
    by_cases c1 : (250 : Int32) ≤ v2
    · replace h := (if_pos c1).symm.trans h
      refine Ev.icmp_ge_t (pc := 29) (tgt := 65) dX7_readInto_29 rfl c1 ?_
      exact Ev.weak2 (lj_X7_readInto_21_1_65 N _ _ _ h) (lsubS (lsubS (lsubN lsubE)))
    · replace h := (if_neg c1).symm.trans h
      refine Ev.icmp_ge_f (pc := 29) dX7_readInto_29 ⟨65, rfl⟩ c1 ?_
      refine Ev.aload_n (pc := 32) dX7_readInto_32 rfl rfl ?_
      refine Ev.getI (pc := 33) dX7_readInto_33 fl_X7_29 sh_21 rfl ?_
      by_cases c2 : (σ 21 4) = 0
      · replace h := (if_pos c2).symm.trans h
        refine Ev.if_ne_f (pc := 36) dX7_readInto_36 ⟨65, rfl⟩ c2 ?_
        refine Ev.aload_n (pc := 39) dX7_readInto_39 rfl rfl ?_
        refine Ev.getI (pc := 40) dX7_readInto_40 fl_X7_26 sh_21 rfl ?_
        refine Ev.aload_n (pc := 43) dX7_readInto_43 rfl rfl ?_
        refine Ev.getI (pc := 44) dX7_readInto_44 fl_X7_19 sh_21 rfl ?_
        by_cases c3 : (σ 21 1) ≤ (σ 21 2)
        · replace h := (if_pos c3).symm.trans h
          refine Ev.icmp_ge_t (pc := 47) (tgt := 65) dX7_readInto_47 rfl c3 ?_
          exact Ev.weak2 (lj_X7_readInto_21_1_65 N _ _ _ h) (lsubS (lsubS (lsubN lsubE)))
        · replace h := (if_neg c3).symm.trans h
          refine Ev.icmp_ge_f (pc := 47) dX7_readInto_47 ⟨65, rfl⟩ c3 ?_
          refine Ev.aload_n (pc := 50) dX7_readInto_50 rfl rfl ?_
          refine Ev.aload_n (pc := 51) dX7_readInto_51 rfl rfl ?_
          obtain ⟨u4, σ5, g6, h⟩ := bd_elim h
          refine Ev.cVv (pc := 52) (k := 21) (av := [vR 1]) (rest := []) dX7_readInto_52 ce_X7_readClause ml_X7_40 rfl sh_21 cl_X7 sh_sc (Nat.le_of_ble_eq_true rfl) (Nat.le_of_ble_eq_true rfl) (r_X7_readClause_21_1 g6) ?_
          refine Ev.aload_n (pc := 55) dX7_readInto_55 rfl rfl ?_
          obtain ⟨u7, σ8, g9, h⟩ := bd_elim h
          refine Ev.cVv (pc := 56) (k := 21) (av := []) (rest := []) dX7_readInto_56 ce_X7_skipBlanks ml_X7_37 rfl sh_21 cl_X7 sh_sc (Nat.le_of_ble_eq_true rfl) (Nat.le_of_ble_eq_true rfl) (r_X7_skipBlanks g9) ?_
          obtain ⟨x10, e_x10, h⟩ := bt_elim h
          refine Ev.iinc (pc := 59) (v := x10) (lv' := [some (vR 21), some (vR 1), some (vI x10)]) dX7_readInto_59 rfl (by rw [ki_1, e_x10]) (lt9 rfl) rfl rfl ?_
          refine Ev.goto (pc := 62) (tgt := 25) dX7_readInto_62 rfl ?_
          exact Ev.weak2 (ih _ _ _ _ h) (lsubS (lsubS (lsubS lsubE)))
      · replace h := (if_neg c2).symm.trans h
        refine Ev.if_ne_t (pc := 36) (tgt := 65) dX7_readInto_36 rfl c2 ?_
        exact Ev.weak2 (lj_X7_readInto_21_1_65 N _ _ _ h) (lsubS (lsubS (lsubN lsubE)))
theorem e_X7_readInto_21_1 (N : Nat)  (σ : St) (v : Int32) (w : St) (h : o_X7_readInto_21_1 N  σ = some (v, w)) : Ev md_X7_readInto 5 0 (lvE [vR 21, vR 1] 3) [] SH σ (some (vI v), SH, w) := by
  show Ev md_X7_readInto 5 0 [some (vR 21), some (vR 1), none] [] SH σ (some (vI v), SH, w)
  unfold o_X7_readInto_21_1 at h
  refine Ev.aload_n (pc := 0) dX7_readInto_0 rfl rfl ?_
  refine Ev.iconst (pc := 1) (v := 0) dX7_readInto_1 ki_0 ?_
  refine Ev.putI (pc := 2) dX7_readInto_2 pl_X7_26 sh_21 rfl rfl rfl ?_
  refine Ev.nmS (fun σ1 e9 => ?_)
  replace h := bt_app h σ1 e9
  refine Ev.aload_n (pc := 5) dX7_readInto_5 rfl rfl ?_
  refine Ev.iconst (pc := 6) (v := 0) dX7_readInto_6 ki_0 ?_
  refine Ev.putI (pc := 7) dX7_readInto_7 pl_X7_29 sh_21 rfl rfl rfl ?_
  refine Ev.nmS (fun σ2 e9 => ?_)
  replace h := bt_app h σ2 e9
  refine Ev.aload_n (pc := 10) dX7_readInto_10 rfl rfl ?_
  refine Ev.iconst (pc := 11) (v := (-1)) dX7_readInto_11 ki_m1 ?_
  refine Ev.putI (pc := 12) dX7_readInto_12 pl_X7_15 sh_21 rfl rfl rfl ?_
  refine Ev.nmS (fun σ3 e9 => ?_)
  replace h := bt_app h σ3 e9
  refine Ev.aload_n (pc := 15) dX7_readInto_15 rfl rfl ?_
  obtain ⟨u4, σ5, g6, h⟩ := bd_elim h
  refine Ev.cVv (pc := 16) (k := 1) (av := []) (rest := []) dX7_readInto_16 ce_X5_clear ml_X7_32 rfl sh_1 cl_X5 sh_sc (Nat.le_of_ble_eq_true rfl) (Nat.le_of_ble_eq_true rfl) (r_X5_clear_1 g6) ?_
  refine Ev.aload_n (pc := 19) dX7_readInto_19 rfl rfl ?_
  obtain ⟨u7, σ8, g9, h⟩ := bd_elim h
  refine Ev.cVv (pc := 20) (k := 21) (av := []) (rest := []) dX7_readInto_20 ce_X7_skipBlanks ml_X7_37 rfl sh_21 cl_X7 sh_sc (Nat.le_of_ble_eq_true rfl) (Nat.le_of_ble_eq_true rfl) (r_X7_skipBlanks g9) ?_
  refine Ev.iconst (pc := 23) (v := 0) dX7_readInto_23 ki_0 ?_
  refine Ev.istore_n (pc := 24) (lv' := [some (vR 21), some (vR 1), some (vI 0)]) dX7_readInto_24 rfl (lt9 rfl) rfl rfl ?_
  exact Ev.weak2 (ll_X7_readInto_21_1_25 N N _ _ _ _ h) (lsubS (lsubS (lsubS lsubE)))
theorem r_X7_readInto_21_1 {N : Nat}  {σ : St} {v : Int32} {w : St} (h : o_X7_readInto_21_1 N  σ = some (v, w)) : Rn md_X7_readInto 5 [vR 21, vR 1] SH σ (some (vI v), SH, w) := Rn.of ce_X7_readInto.1 (Nat.le_of_ble_eq_true rfl) (e_X7_readInto_21_1 N  _ _ _ h)
def l_X1_begin_74 (N : Nat) : Nat → Int32 → St → Option (Unit × St)
  | 0, _, _ => none
  | n + 1, v1, σ => if (3 : Int32) ≤ v1 then (some ((), σ)) else (bt (put_ σ 24 31 (22 + v1) (at_ σ 2 3 v1)) fun σ2 => bt (v1 + 1) fun x3 => l_X1_begin_74 N n x3 σ2)
def l_X1_begin_26 (N : Nat) : Nat → Int32 → St → Option (Unit × St)
  | 0, _, _ => none
  | n + 1, v1, σ => if (7 : Int32) ≤ v1 then (l_X1_begin_74 N N 0 σ) else (bt (put_ σ 24 31 (8 + v1) (-1)) fun σ2 => bt (put_ σ2 24 31 (15 + v1) (at_ σ2 4 7 v1)) fun σ3 => bt (v1 + 1) fun x4 => l_X1_begin_26 N n x4 σ3)
def l_X1_begin_2 (N : Nat) : Nat → Int32 → St → Option (Unit × St)
  | 0, _, _ => none
  | n + 1, v1, σ => if (31 : Int32) ≤ v1 then (l_X1_begin_26 N N 0 σ) else (ckA v1 31 (bt (st σ 24 v1.toNatClampNeg 0) fun σ3 => bt (v1 + 1) fun x4 => l_X1_begin_2 N n x4 σ3))
def o_X1_begin (N : Nat)  (σ : St) : Option (Unit × St) := l_X1_begin_2 N N 0 σ
theorem ll_X1_begin_74 (N : Nat) : ∀ (n : Nat) (v1 : Int32) (σ : St) (v : Unit) (w : St), l_X1_begin_74 N n v1 σ = some (v, w) → Ev md_X1_begin 1 74 [some (vR 23), some (vI v1)] [] SH σ (none, SH, w) := by
  intro n
  induction n with
  | zero =>
    intro v1 σ v w h
    rw [l_X1_begin_74] at h
    cases h
  | succ n ih =>
    intro v1 σ v w h
    rw [l_X1_begin_74] at h
    refine Ev.iload_n (pc := 74) dX1_begin_74 rfl rfl ?_
    refine Ev.iconst (pc := 75) (v := 3) dX1_begin_75 ki_3 ?_
    by_cases c1 : (3 : Int32) ≤ v1
    · replace h := (if_pos c1).symm.trans h
      refine Ev.icmp_ge_t (pc := 76) (tgt := 107) dX1_begin_76 rfl c1 ?_
      obtain ⟨h1, h2⟩ := oeq h
      subst h1
      subst h2
      exact Ev.ret_v (pc := 107) dX1_begin_107 rfl
    · replace h := (if_neg c1).symm.trans h
      refine Ev.icmp_ge_f (pc := 76) dX1_begin_76 ⟨107, rfl⟩ c1 ?_
      refine Ev.aload_n (pc := 79) dX1_begin_79 rfl rfl ?_
      refine Ev.getR (pc := 80) dX1_begin_80 fl_X1_11 sh_23 rfl ?_
      refine Ev.bipush (pc := 83) (v := 22) dX1_begin_83 kb_22 ?_
      refine Ev.iload_n (pc := 85) dX1_begin_85 rfl rfl ?_
      refine Ev.iadd (pc := 86) dX1_begin_86 ?_
      refine Ev.aload_n (pc := 87) dX1_begin_87 rfl rfl ?_
      refine Ev.getR (pc := 88) dX1_begin_88 fl_X1_15 sh_23 rfl ?_
      refine Ev.getR (pc := 91) dX1_begin_91 fl_X1_32 sh_1 rfl ?_
      refine Ev.iload_n (pc := 94) dX1_begin_94 rfl rfl ?_
      refine Ev.cTi (pc := 95) (av := [vR 2, vI v1]) (rest := [vI (22 + v1), vR 24]) dX1_begin_95 ce_X9_at ml_X1_28 rfl sh_sc (Nat.le_of_ble_eq_true rfl) (Nat.le_of_ble_eq_true rfl) (r_at sh_2 (by decide) _ _) ?_
      refine Ev.cTv (pc := 98) (av := [vR 24, vI (22 + v1), vI (at_ σ 2 3 v1)]) (rest := []) dX1_begin_98 ce_X9_put ml_X1_19 rfl sh_sc (Nat.le_of_ble_eq_true rfl) (Nat.le_of_ble_eq_true rfl) (r_put sh_24 (by decide) _ _ _) ?_
      refine Ev.nmS (fun σ2 e9 => ?_)
      replace h := bt_app h σ2 e9
      obtain ⟨x3, e_x3, h⟩ := bt_elim h
      refine Ev.iinc (pc := 101) (v := x3) (lv' := [some (vR 23), some (vI x3)]) dX1_begin_101 rfl (by rw [ki_1, e_x3]) (lt9 rfl) rfl rfl ?_
      refine Ev.goto (pc := 104) (tgt := 74) dX1_begin_104 rfl ?_
      exact Ev.weak2 (ih _ _ _ _ h) (lsubS (lsubS lsubE))
theorem ll_X1_begin_26 (N : Nat) : ∀ (n : Nat) (v1 : Int32) (σ : St) (v : Unit) (w : St), l_X1_begin_26 N n v1 σ = some (v, w) → Ev md_X1_begin 1 26 [some (vR 23), some (vI v1)] [] SH σ (none, SH, w) := by
  intro n
  induction n with
  | zero =>
    intro v1 σ v w h
    rw [l_X1_begin_26] at h
    cases h
  | succ n ih =>
    intro v1 σ v w h
    rw [l_X1_begin_26] at h
    refine Ev.iload_n (pc := 26) dX1_begin_26 rfl rfl ?_
    refine Ev.bipush (pc := 27) (v := 7) dX1_begin_27 kb_7 ?_
    by_cases c1 : (7 : Int32) ≤ v1
    · replace h := (if_pos c1).symm.trans h
      refine Ev.icmp_ge_t (pc := 29) (tgt := 72) dX1_begin_29 rfl c1 ?_
      refine Ev.iconst (pc := 72) (v := 0) dX1_begin_72 ki_0 ?_
      refine Ev.istore_n (pc := 73) (lv' := [some (vR 23), some (vI 0)]) dX1_begin_73 rfl (lt9 rfl) rfl rfl ?_
      exact Ev.weak2 (ll_X1_begin_74 N N _ _ _ _ h) (lsubS (lsubS lsubE))
    · replace h := (if_neg c1).symm.trans h
      refine Ev.icmp_ge_f (pc := 29) dX1_begin_29 ⟨72, rfl⟩ c1 ?_
      refine Ev.aload_n (pc := 32) dX1_begin_32 rfl rfl ?_
      refine Ev.getR (pc := 33) dX1_begin_33 fl_X1_11 sh_23 rfl ?_
      refine Ev.bipush (pc := 36) (v := 8) dX1_begin_36 kb_8 ?_
      refine Ev.iload_n (pc := 38) dX1_begin_38 rfl rfl ?_
      refine Ev.iadd (pc := 39) dX1_begin_39 ?_
      refine Ev.iconst (pc := 40) (v := (-1)) dX1_begin_40 ki_m1 ?_
      refine Ev.cTv (pc := 41) (av := [vR 24, vI (8 + v1), vI (-1)]) (rest := []) dX1_begin_41 ce_X9_put ml_X1_19 rfl sh_sc (Nat.le_of_ble_eq_true rfl) (Nat.le_of_ble_eq_true rfl) (r_put sh_24 (by decide) _ _ _) ?_
      refine Ev.nmS (fun σ2 e9 => ?_)
      replace h := bt_app h σ2 e9
      refine Ev.aload_n (pc := 44) dX1_begin_44 rfl rfl ?_
      refine Ev.getR (pc := 45) dX1_begin_45 fl_X1_11 sh_23 rfl ?_
      refine Ev.bipush (pc := 48) (v := 15) dX1_begin_48 kb_15 ?_
      refine Ev.iload_n (pc := 50) dX1_begin_50 rfl rfl ?_
      refine Ev.iadd (pc := 51) dX1_begin_51 ?_
      refine Ev.aload_n (pc := 52) dX1_begin_52 rfl rfl ?_
      refine Ev.getR (pc := 53) dX1_begin_53 fl_X1_15 sh_23 rfl ?_
      refine Ev.getR (pc := 56) dX1_begin_56 fl_X1_23 sh_1 rfl ?_
      refine Ev.iload_n (pc := 59) dX1_begin_59 rfl rfl ?_
      refine Ev.cTi (pc := 60) (av := [vR 4, vI v1]) (rest := [vI (15 + v1), vR 24]) dX1_begin_60 ce_X9_at ml_X1_28 rfl sh_sc (Nat.le_of_ble_eq_true rfl) (Nat.le_of_ble_eq_true rfl) (r_at sh_4 (by decide) _ _) ?_
      refine Ev.cTv (pc := 63) (av := [vR 24, vI (15 + v1), vI (at_ σ2 4 7 v1)]) (rest := []) dX1_begin_63 ce_X9_put ml_X1_19 rfl sh_sc (Nat.le_of_ble_eq_true rfl) (Nat.le_of_ble_eq_true rfl) (r_put sh_24 (by decide) _ _ _) ?_
      refine Ev.nmS (fun σ3 e9 => ?_)
      replace h := bt_app h σ3 e9
      obtain ⟨x4, e_x4, h⟩ := bt_elim h
      refine Ev.iinc (pc := 66) (v := x4) (lv' := [some (vR 23), some (vI x4)]) dX1_begin_66 rfl (by rw [ki_1, e_x4]) (lt9 rfl) rfl rfl ?_
      refine Ev.goto (pc := 69) (tgt := 26) dX1_begin_69 rfl ?_
      exact Ev.weak2 (ih _ _ _ _ h) (lsubS (lsubS lsubE))
theorem ll_X1_begin_2 (N : Nat) : ∀ (n : Nat) (v1 : Int32) (σ : St) (v : Unit) (w : St), l_X1_begin_2 N n v1 σ = some (v, w) → Ev md_X1_begin 1 2 [some (vR 23), some (vI v1)] [] SH σ (none, SH, w) := by
  intro n
  induction n with
  | zero =>
    intro v1 σ v w h
    rw [l_X1_begin_2] at h
    cases h
  | succ n ih =>
    intro v1 σ v w h
    rw [l_X1_begin_2] at h
    refine Ev.iload_n (pc := 2) dX1_begin_2 rfl rfl ?_
    refine Ev.aload_n (pc := 3) dX1_begin_3 rfl rfl ?_
    refine Ev.getR (pc := 4) dX1_begin_4 fl_X1_11 sh_23 rfl ?_
    refine Ev.alen (pc := 7) (v := 31) dX1_begin_7 sh_24 kn_31 ?_
    by_cases c1 : (31 : Int32) ≤ v1
    · replace h := (if_pos c1).symm.trans h
      refine Ev.icmp_ge_t (pc := 8) (tgt := 24) dX1_begin_8 rfl c1 ?_
      refine Ev.iconst (pc := 24) (v := 0) dX1_begin_24 ki_0 ?_
      refine Ev.istore_n (pc := 25) (lv' := [some (vR 23), some (vI 0)]) dX1_begin_25 rfl (lt9 rfl) rfl rfl ?_
      exact Ev.weak2 (ll_X1_begin_26 N N _ _ _ _ h) (lsubS (lsubS lsubE))
    · replace h := (if_neg c1).symm.trans h
      refine Ev.icmp_ge_f (pc := 8) dX1_begin_8 ⟨24, rfl⟩ c1 ?_
      refine Ev.aload_n (pc := 11) dX1_begin_11 rfl rfl ?_
      refine Ev.getR (pc := 12) dX1_begin_12 fl_X1_11 sh_23 rfl ?_
      refine Ev.iload_n (pc := 15) dX1_begin_15 rfl rfl ?_
      refine Ev.iconst (pc := 16) (v := 0) dX1_begin_16 ki_0 ?_
      obtain ⟨c2, h⟩ := ckA_elim h
      refine Ev.iast (pc := 17) dX1_begin_17 sh_24 c2 ?_
      refine Ev.nmS (fun σ3 e9 => ?_)
      replace h := bt_app h σ3 e9
      obtain ⟨x4, e_x4, h⟩ := bt_elim h
      refine Ev.iinc (pc := 18) (v := x4) (lv' := [some (vR 23), some (vI x4)]) dX1_begin_18 rfl (by rw [ki_1, e_x4]) (lt9 rfl) rfl rfl ?_
      refine Ev.goto (pc := 21) (tgt := 2) dX1_begin_21 rfl ?_
      exact Ev.weak2 (ih _ _ _ _ h) (lsubS (lsubS lsubE))
theorem e_X1_begin (N : Nat)  (σ : St) (v : Unit) (w : St) (h : o_X1_begin N  σ = some (v, w)) : Ev md_X1_begin 1 0 (lvE [vR 23] 2) [] SH σ (none, SH, w) := by
  show Ev md_X1_begin 1 0 [some (vR 23), none] [] SH σ (none, SH, w)
  unfold o_X1_begin at h
  refine Ev.iconst (pc := 0) (v := 0) dX1_begin_0 ki_0 ?_
  refine Ev.istore_n (pc := 1) (lv' := [some (vR 23), some (vI 0)]) dX1_begin_1 rfl (lt9 rfl) rfl rfl ?_
  exact Ev.weak2 (ll_X1_begin_2 N N _ _ _ _ h) (lsubS (lsubS lsubE))
theorem r_X1_begin {N : Nat}  {σ : St} {v : Unit} {w : St} (h : o_X1_begin N  σ = some (v, w)) : Rn md_X1_begin 1 [vR 23] SH σ (none, SH, w) := Rn.of ce_X1_begin.1 (Nat.le_of_ble_eq_true rfl) (e_X1_begin N  _ _ _ h)
def t_X6_forget  (σ : St) : St := bt (st σ 25 2 0) fun σ1 => σ1
theorem e_X6_forget  (σ : St) (q : St) (h : t_X6_forget  σ = q) : Ev md_X6_forget 0 0 (lvE [vR 25] 1) [] SH σ (none, SH, q) := by
  show Ev md_X6_forget 0 0 [some (vR 25)] [] SH σ (none, SH, q)
  unfold t_X6_forget at h
  refine Ev.aload_n (pc := 0) dX6_forget_0 rfl rfl ?_
  refine Ev.iconst (pc := 1) (v := 0) dX6_forget_1 ki_0 ?_
  refine Ev.putI (pc := 2) dX6_forget_2 pl_X6_18 sh_25 rfl rfl rfl ?_
  refine Ev.nmS (fun σ1 e9 => ?_)
  replace h := bt_app h σ1 e9
  subst h
  exact Ev.ret_v (pc := 5) dX6_forget_5 rfl
theorem r_X6_forget  (σ : St) : Rn md_X6_forget 0 [vR 25] SH σ (none, SH, t_X6_forget  σ) := Rn.of ce_X6_forget.1 (Nat.le_of_ble_eq_true rfl) (e_X6_forget  _ _ rfl)
def t_X4_forget  (σ : St) : St := bt (st σ 57 2 0) fun σ1 => σ1
theorem e_X4_forget  (σ : St) (q : St) (h : t_X4_forget  σ = q) : Ev md_X4_forget 0 0 (lvE [vR 57] 1) [] SH σ (none, SH, q) := by
  show Ev md_X4_forget 0 0 [some (vR 57)] [] SH σ (none, SH, q)
  unfold t_X4_forget at h
  refine Ev.aload_n (pc := 0) dX4_forget_0 rfl rfl ?_
  refine Ev.iconst (pc := 1) (v := 0) dX4_forget_1 ki_0 ?_
  refine Ev.putI (pc := 2) dX4_forget_2 pl_X4_22 sh_57 rfl rfl rfl ?_
  refine Ev.nmS (fun σ1 e9 => ?_)
  replace h := bt_app h σ1 e9
  subst h
  exact Ev.ret_v (pc := 5) dX4_forget_5 rfl
theorem r_X4_forget  (σ : St) : Rn md_X4_forget 0 [vR 57] SH σ (none, SH, t_X4_forget  σ) := Rn.of ce_X4_forget.1 (Nat.le_of_ble_eq_true rfl) (e_X4_forget  _ _ rfl)
def t_X0_empty  (σ : St) : St := bt (st σ 74 4 0) fun σ1 => σ1
theorem e_X0_empty  (σ : St) (q : St) (h : t_X0_empty  σ = q) : Ev md_X0_empty 0 0 (lvE [vR 74] 1) [] SH σ (none, SH, q) := by
  show Ev md_X0_empty 0 0 [some (vR 74)] [] SH σ (none, SH, q)
  unfold t_X0_empty at h
  refine Ev.aload_n (pc := 0) dX0_empty_0 rfl rfl ?_
  refine Ev.iconst (pc := 1) (v := 0) dX0_empty_1 ki_0 ?_
  refine Ev.putI (pc := 2) dX0_empty_2 pl_X0_31 sh_74 rfl rfl rfl ?_
  refine Ev.nmS (fun σ1 e9 => ?_)
  replace h := bt_app h σ1 e9
  subst h
  exact Ev.ret_v (pc := 5) dX0_empty_5 rfl
theorem r_X0_empty  (σ : St) : Rn md_X0_empty 0 [vR 74] SH σ (none, SH, t_X0_empty  σ) := Rn.of ce_X0_empty.1 (Nat.le_of_ble_eq_true rfl) (e_X0_empty  _ _ rfl)
def t_X7_empty  (σ : St) : St := bt (st σ 21 1 0) fun σ1 => σ1
theorem e_X7_empty  (σ : St) (q : St) (h : t_X7_empty  σ = q) : Ev md_X7_empty 0 0 (lvE [vR 21] 1) [] SH σ (none, SH, q) := by
  show Ev md_X7_empty 0 0 [some (vR 21)] [] SH σ (none, SH, q)
  unfold t_X7_empty at h
  refine Ev.aload_n (pc := 0) dX7_empty_0 rfl rfl ?_
  refine Ev.iconst (pc := 1) (v := 0) dX7_empty_1 ki_0 ?_
  refine Ev.putI (pc := 2) dX7_empty_2 pl_X7_19 sh_21 rfl rfl rfl ?_
  refine Ev.nmS (fun σ1 e9 => ?_)
  replace h := bt_app h σ1 e9
  subst h
  exact Ev.ret_v (pc := 5) dX7_empty_5 rfl
theorem r_X7_empty  (σ : St) : Rn md_X7_empty 0 [vR 21] SH σ (none, SH, t_X7_empty  σ) := Rn.of ce_X7_empty.1 (Nat.le_of_ble_eq_true rfl) (e_X7_empty  _ _ rfl)
def j_X9_land_56 (N : Nat) (v1 : Int32) (σ : St) : Option (Int32 × St) := bt (t_X7_empty  σ) fun σ1 => if v1 = 0 then (some ((σ1 1 0), σ1)) else (some (((-10) - v1), σ1))
def o_X9_land (N : Nat)  (σ : St) : Option (Int32 × St) := bd (o_X7_readInto_21_11 N  σ) fun x1 σ2 => if x1 = 0 then (bd (o_X7_readInto_21_1 N  σ2) fun x5 σ6 => bd (o_X1_begin N  σ6) fun u8 σ9 => bt (t_X6_forget  σ9) fun σ11 => bt (t_X4_forget  σ11) fun σ12 => bt (t_X0_empty  σ12) fun σ13 => j_X9_land_56 N x1 σ13) else (j_X9_land_56 N x1 σ2)
theorem lj_X9_land_56 (N : Nat) (v1 : Int32) (σ : St) (v : Int32) (w : St) (h : j_X9_land_56 N v1 σ = some (v, w)) : Ev md_X9_land 6 56 [some (vR 0), some (vI v1)] [] SH σ (some (vI v), SH, w) := by
  unfold j_X9_land_56 at h
  refine Ev.aload_n (pc := 56) dX9_land_56 rfl rfl ?_
  refine Ev.getR (pc := 57) dX9_land_57 fl_X9_22 sh_0 rfl ?_
  refine Ev.cVv (pc := 60) (k := 21) (av := []) (rest := []) dX9_land_60 ce_X7_empty ml_X9_105 rfl sh_21 cl_X7 sh_sc (Nat.le_of_ble_eq_true rfl) (Nat.le_of_ble_eq_true rfl) (r_X7_empty  _) ?_
  refine Ev.nmS (fun σ1 e9 => ?_)
  replace h := bt_app h σ1 e9
  refine Ev.iload_n (pc := 63) dX9_land_63 rfl rfl ?_
  by_cases c2 : v1 = 0
  · replace h := (if_pos c2).symm.trans h
    refine Ev.if_ne_f (pc := 64) dX9_land_64 ⟨77, rfl⟩ c2 ?_
    refine Ev.aload_n (pc := 67) dX9_land_67 rfl rfl ?_
    refine Ev.getR (pc := 68) dX9_land_68 fl_X9_10 sh_0 rfl ?_
    refine Ev.getI (pc := 71) dX9_land_71 fl_X9_106 sh_1 rfl ?_
    refine Ev.goto (pc := 74) (tgt := 81) dX9_land_74 rfl ?_
    obtain ⟨h1, h2⟩ := oeq h
    subst h1
    subst h2
    exact Ev.ret_i (pc := 81) dX9_land_81 rfl rfl
  · replace h := (if_neg c2).symm.trans h
    refine Ev.if_ne_t (pc := 64) (tgt := 77) dX9_land_64 rfl c2 ?_
    refine Ev.bipush (pc := 77) (v := (-10)) dX9_land_77 kb_m10 ?_
    refine Ev.iload_n (pc := 79) dX9_land_79 rfl rfl ?_
    refine Ev.isub (pc := 80) dX9_land_80 ?_
    obtain ⟨h1, h2⟩ := oeq h
    subst h1
    subst h2
    exact Ev.ret_i (pc := 81) dX9_land_81 rfl rfl
theorem e_X9_land (N : Nat)  (σ : St) (v : Int32) (w : St) (h : o_X9_land N  σ = some (v, w)) : Ev md_X9_land 6 0 (lvE [vR 0] 2) [] SH σ (some (vI v), SH, w) := by
  show Ev md_X9_land 6 0 [some (vR 0), none] [] SH σ (some (vI v), SH, w)
  unfold o_X9_land at h
  refine Ev.aload_n (pc := 0) dX9_land_0 rfl rfl ?_
  refine Ev.getR (pc := 1) dX9_land_1 fl_X9_22 sh_0 rfl ?_
  refine Ev.aload_n (pc := 4) dX9_land_4 rfl rfl ?_
  refine Ev.getR (pc := 5) dX9_land_5 fl_X9_16 sh_0 rfl ?_
  obtain ⟨x1, σ2, g3, h⟩ := bd_elim h
  refine Ev.cVi (pc := 8) (k := 21) (av := [vR 11]) (rest := []) dX9_land_8 ce_X7_readInto ml_X9_91 rfl sh_21 cl_X7 sh_sc (Nat.le_of_ble_eq_true rfl) (Nat.le_of_ble_eq_true rfl) (r_X7_readInto_21_11 g3) ?_
  refine Ev.istore_n (pc := 11) (lv' := [some (vR 0), some (vI x1)]) dX9_land_11 rfl (lt9 rfl) rfl rfl ?_
  refine Ev.iload_n (pc := 12) dX9_land_12 rfl rfl ?_
  by_cases c4 : x1 = 0
  · replace h := (if_pos c4).symm.trans h
    refine Ev.if_ne_f (pc := 13) dX9_land_13 ⟨56, rfl⟩ c4 ?_
    refine Ev.aload_n (pc := 16) dX9_land_16 rfl rfl ?_
    refine Ev.getR (pc := 17) dX9_land_17 fl_X9_22 sh_0 rfl ?_
    refine Ev.aload_n (pc := 20) dX9_land_20 rfl rfl ?_
    refine Ev.getR (pc := 21) dX9_land_21 fl_X9_10 sh_0 rfl ?_
    obtain ⟨x5, σ6, g7, h⟩ := bd_elim h
    refine Ev.cVi (pc := 24) (k := 21) (av := [vR 1]) (rest := []) dX9_land_24 ce_X7_readInto ml_X9_91 rfl sh_21 cl_X7 sh_sc (Nat.le_of_ble_eq_true rfl) (Nat.le_of_ble_eq_true rfl) (r_X7_readInto_21_1 g7) ?_
    refine Ev.pop (pc := 27) dX9_land_27 rfl ?_
    refine Ev.aload_n (pc := 28) dX9_land_28 rfl rfl ?_
    refine Ev.getR (pc := 29) dX9_land_29 fl_X9_31 sh_0 rfl ?_
    obtain ⟨u8, σ9, g10, h⟩ := bd_elim h
    refine Ev.cVv (pc := 32) (k := 23) (av := []) (rest := []) dX9_land_32 ce_X1_begin ml_X9_95 rfl sh_23 cl_X1 sh_sc (Nat.le_of_ble_eq_true rfl) (Nat.le_of_ble_eq_true rfl) (r_X1_begin g10) ?_
    refine Ev.aload_n (pc := 35) dX9_land_35 rfl rfl ?_
    refine Ev.getR (pc := 36) dX9_land_36 fl_X9_38 sh_0 rfl ?_
    refine Ev.cVv (pc := 39) (k := 25) (av := []) (rest := []) dX9_land_39 ce_X6_forget ml_X9_98 rfl sh_25 cl_X6 sh_sc (Nat.le_of_ble_eq_true rfl) (Nat.le_of_ble_eq_true rfl) (r_X6_forget  _) ?_
    refine Ev.nmS (fun σ11 e9 => ?_)
    replace h := bt_app h σ11 e9
    refine Ev.aload_n (pc := 42) dX9_land_42 rfl rfl ?_
    refine Ev.getR (pc := 43) dX9_land_43 fl_X9_45 sh_0 rfl ?_
    refine Ev.cVv (pc := 46) (k := 57) (av := []) (rest := []) dX9_land_46 ce_X4_forget ml_X9_101 rfl sh_57 cl_X4 sh_sc (Nat.le_of_ble_eq_true rfl) (Nat.le_of_ble_eq_true rfl) (r_X4_forget  _) ?_
    refine Ev.nmS (fun σ12 e9 => ?_)
    replace h := bt_app h σ12 e9
    refine Ev.aload_n (pc := 49) dX9_land_49 rfl rfl ?_
    refine Ev.getR (pc := 50) dX9_land_50 fl_X9_77 sh_0 rfl ?_
    refine Ev.cVv (pc := 53) (k := 74) (av := []) (rest := []) dX9_land_53 ce_X0_empty ml_X9_102 rfl sh_74 cl_X0 sh_sc (Nat.le_of_ble_eq_true rfl) (Nat.le_of_ble_eq_true rfl) (r_X0_empty  _) ?_
    refine Ev.nmS (fun σ13 e9 => ?_)
    replace h := bt_app h σ13 e9
    exact Ev.weak2 (lj_X9_land_56 N _ _ _ _ h) (lsubS (lsubS lsubE))
  · replace h := (if_neg c4).symm.trans h
    refine Ev.if_ne_t (pc := 13) (tgt := 56) dX9_land_13 rfl c4 ?_
    exact Ev.weak2 (lj_X9_land_56 N _ _ _ _ h) (lsubS (lsubS lsubE))
theorem r_X9_land {N : Nat}  {σ : St} {v : Int32} {w : St} (h : o_X9_land N  σ = some (v, w)) : Rn md_X9_land 6 [vR 0] SH σ (some (vI v), SH, w) := Rn.of ce_X9_land.1 (Nat.le_of_ble_eq_true rfl) (e_X9_land N  _ _ _ h)
def j_X10_here_38 (N : Nat)  (σ : St) : Option (Int32 × St) := if (σ 79 23) ≤ (σ 79 24) then (some ((-1), σ)) else (ckA (σ 79 24) 250 (some ((σ 93 (σ 79 24).toNatClampNeg), σ)))
def l_X10_here_0 (N : Nat) : Nat → St → Option (Int32 × St)
  | 0, _ => none
  | n + 1, σ => if (σ 79 23) ≤ (σ 79 24) then (j_X10_here_38 N σ) else (ckA (σ 79 24) 250 (if (σ 93 (σ 79 24).toNatClampNeg) = 32 then (bt (st σ 79 24 ((σ 79 24) + 1)) fun σ4 => l_X10_here_0 N n σ4) else (j_X10_here_38 N σ)))
def o_X10_here (N : Nat)  (σ : St) : Option (Int32 × St) := l_X10_here_0 N N σ
theorem lj_X10_here_38 (N : Nat)  (σ : St) (v : Int32) (w : St) (h : j_X10_here_38 N  σ = some (v, w)) : Ev md_X10_here 0 38 [some (vR 79)] [] SH σ (some (vI v), SH, w) := by
  unfold j_X10_here_38 at h
  refine Ev.aload_n (pc := 38) dX10_here_38 rfl rfl ?_
  refine Ev.getI (pc := 39) dX10_here_39 fl_X10_98 sh_79 rfl ?_
  refine Ev.aload_n (pc := 42) dX10_here_42 rfl rfl ?_
  refine Ev.getI (pc := 43) dX10_here_43 fl_X10_94 sh_79 rfl ?_
  by_cases c1 : (σ 79 23) ≤ (σ 79 24)
  · replace h := (if_pos c1).symm.trans h
    refine Ev.icmp_ge_t (pc := 46) (tgt := 61) dX10_here_46 rfl c1 ?_
    refine Ev.iconst (pc := 61) (v := (-1)) dX10_here_61 ki_m1 ?_
    obtain ⟨h1, h2⟩ := oeq h
    subst h1
    subst h2
    exact Ev.ret_i (pc := 62) dX10_here_62 rfl rfl
  · replace h := (if_neg c1).symm.trans h
    refine Ev.icmp_ge_f (pc := 46) dX10_here_46 ⟨61, rfl⟩ c1 ?_
    refine Ev.aload_n (pc := 49) dX10_here_49 rfl rfl ?_
    refine Ev.getR (pc := 50) dX10_here_50 fl_X10_50 sh_79 rfl ?_
    refine Ev.aload_n (pc := 53) dX10_here_53 rfl rfl ?_
    refine Ev.getI (pc := 54) dX10_here_54 fl_X10_98 sh_79 rfl ?_
    obtain ⟨c2, h⟩ := ckA_elim h
    refine Ev.iald (pc := 57) dX10_here_57 sh_93 c2 ?_
    refine Ev.goto (pc := 58) (tgt := 62) dX10_here_58 rfl ?_
    obtain ⟨h1, h2⟩ := oeq h
    subst h1
    subst h2
    exact Ev.ret_i (pc := 62) dX10_here_62 rfl rfl
theorem ll_X10_here_0 (N : Nat) : ∀ (n : Nat)  (σ : St) (v : Int32) (w : St), l_X10_here_0 N n  σ = some (v, w) → Ev md_X10_here 0 0 [some (vR 79)] [] SH σ (some (vI v), SH, w) := by
  intro n
  induction n with
  | zero =>
    intro  σ v w h
    rw [l_X10_here_0] at h
    cases h
  | succ n ih =>
    intro  σ v w h
    rw [l_X10_here_0] at h
    refine Ev.aload_n (pc := 0) dX10_here_0 rfl rfl ?_
    refine Ev.getI (pc := 1) dX10_here_1 fl_X10_98 sh_79 rfl ?_
    refine Ev.aload_n (pc := 4) dX10_here_4 rfl rfl ?_
    refine Ev.getI (pc := 5) dX10_here_5 fl_X10_94 sh_79 rfl ?_
    by_cases c1 : (σ 79 23) ≤ (σ 79 24)
    · replace h := (if_pos c1).symm.trans h
      refine Ev.icmp_ge_t (pc := 8) (tgt := 38) dX10_here_8 rfl c1 ?_
      exact Ev.weak2 (lj_X10_here_38 N _ _ _ h) (lsubS lsubE)
    · replace h := (if_neg c1).symm.trans h
      refine Ev.icmp_ge_f (pc := 8) dX10_here_8 ⟨38, rfl⟩ c1 ?_
      refine Ev.aload_n (pc := 11) dX10_here_11 rfl rfl ?_
      refine Ev.getR (pc := 12) dX10_here_12 fl_X10_50 sh_79 rfl ?_
      refine Ev.aload_n (pc := 15) dX10_here_15 rfl rfl ?_
      refine Ev.getI (pc := 16) dX10_here_16 fl_X10_98 sh_79 rfl ?_
      obtain ⟨c2, h⟩ := ckA_elim h
      refine Ev.iald (pc := 19) dX10_here_19 sh_93 c2 ?_
      refine Ev.bipush (pc := 20) (v := 32) dX10_here_20 kb_32 ?_
      by_cases c3 : (σ 93 (σ 79 24).toNatClampNeg) = 32
      · replace h := (if_pos c3).symm.trans h
        refine Ev.icmp_ne_f (pc := 22) dX10_here_22 ⟨38, rfl⟩ c3 ?_
        refine Ev.aload_n (pc := 25) dX10_here_25 rfl rfl ?_
        refine Ev.dup (pc := 26) dX10_here_26 rfl ?_
        refine Ev.getI (pc := 27) dX10_here_27 fl_X10_98 sh_79 rfl ?_
        refine Ev.iconst (pc := 30) (v := 1) dX10_here_30 ki_1 ?_
        refine Ev.iadd (pc := 31) dX10_here_31 ?_
        refine Ev.putI (pc := 32) dX10_here_32 pl_X10_98 sh_79 rfl rfl rfl ?_
        refine Ev.nmS (fun σ4 e9 => ?_)
        replace h := bt_app h σ4 e9
        refine Ev.goto (pc := 35) (tgt := 0) dX10_here_35 rfl ?_
        exact Ev.weak2 (ih  _ _ _ h) (lsubS lsubE)
      · replace h := (if_neg c3).symm.trans h
        refine Ev.icmp_ne_t (pc := 22) (tgt := 38) dX10_here_22 rfl c3 ?_
        exact Ev.weak2 (lj_X10_here_38 N _ _ _ h) (lsubS lsubE)
theorem e_X10_here (N : Nat)  (σ : St) (v : Int32) (w : St) (h : o_X10_here N  σ = some (v, w)) : Ev md_X10_here 0 0 (lvE [vR 79] 1) [] SH σ (some (vI v), SH, w) := by
  show Ev md_X10_here 0 0 [some (vR 79)] [] SH σ (some (vI v), SH, w)
  unfold o_X10_here at h
  exact Ev.weak2 (ll_X10_here_0 N N _ _ _ h) (lsubS lsubE)
theorem r_X10_here {N : Nat}  {σ : St} {v : Int32} {w : St} (h : o_X10_here N  σ = some (v, w)) : Rn md_X10_here 0 [vR 79] SH σ (some (vI v), SH, w) := Rn.of ce_X10_here.1 (Nat.le_of_ble_eq_true rfl) (e_X10_here N  _ _ _ h)
def j_X10_want_21  (σ : St) : Int32 × St := if (σ 79 26) = 0 then ((1, σ)) else ((0, σ))
def t_X10_want (a1 : Int32) (a2 : Int32) (a3 : Int32) (σ : St) : Int32 × St := if a1 = 0 then (if (σ 79 26) = 0 then (bt (st σ 79 26 a2) fun σ3 => bt (st σ3 79 27 a3) fun σ4 => j_X10_want_21 σ4) else (j_X10_want_21 σ)) else (j_X10_want_21 σ)
theorem lj_X10_want_21  (σ : St) (q : Int32 × St) (h : j_X10_want_21  σ = q) : Ev md_X10_want 0 21 [some (vR 79), none, none, none] [] SH σ (some (vI q.1), SH, q.2) := by
  unfold j_X10_want_21 at h
  refine Ev.aload_n (pc := 21) dX10_want_21 rfl rfl ?_
  refine Ev.getI (pc := 22) dX10_want_22 fl_X10_101 sh_79 rfl ?_
  by_cases c1 : (σ 79 26) = 0
  · replace h := (if_pos c1).symm.trans h
    refine Ev.if_ne_f (pc := 25) dX10_want_25 ⟨32, rfl⟩ c1 ?_
    refine Ev.iconst (pc := 28) (v := 1) dX10_want_28 ki_1 ?_
    refine Ev.goto (pc := 29) (tgt := 33) dX10_want_29 rfl ?_
    subst h
    exact Ev.ret_i (pc := 33) dX10_want_33 rfl nb_1
  · replace h := (if_neg c1).symm.trans h
    refine Ev.if_ne_t (pc := 25) (tgt := 32) dX10_want_25 rfl c1 ?_
    refine Ev.iconst (pc := 32) (v := 0) dX10_want_32 ki_0 ?_
    subst h
    exact Ev.ret_i (pc := 33) dX10_want_33 rfl nb_0
theorem e_X10_want (a1 : Int32) (a2 : Int32) (a3 : Int32) (σ : St) (q : Int32 × St) (h : t_X10_want a1 a2 a3 σ = q) : Ev md_X10_want 0 0 (lvE [vR 79, vI a1, vI a2, vI a3] 4) [] SH σ (some (vI q.1), SH, q.2) := by
  show Ev md_X10_want 0 0 [some (vR 79), some (vI a1), some (vI a2), some (vI a3)] [] SH σ (some (vI q.1), SH, q.2)
  unfold t_X10_want at h
  refine Ev.iload_n (pc := 0) dX10_want_0 rfl rfl ?_
  by_cases c1 : a1 = 0
  · replace h := (if_pos c1).symm.trans h
    refine Ev.if_ne_f (pc := 1) dX10_want_1 ⟨21, rfl⟩ c1 ?_
    refine Ev.aload_n (pc := 4) dX10_want_4 rfl rfl ?_
    refine Ev.getI (pc := 5) dX10_want_5 fl_X10_101 sh_79 rfl ?_
    by_cases c2 : (σ 79 26) = 0
    · replace h := (if_pos c2).symm.trans h
      refine Ev.if_ne_f (pc := 8) dX10_want_8 ⟨21, rfl⟩ c2 ?_
      refine Ev.aload_n (pc := 11) dX10_want_11 rfl rfl ?_
      refine Ev.iload_n (pc := 12) dX10_want_12 rfl rfl ?_
      refine Ev.putI (pc := 13) dX10_want_13 pl_X10_101 sh_79 rfl rfl rfl ?_
      refine Ev.nmS (fun σ3 e9 => ?_)
      replace h := bt_app h σ3 e9
      refine Ev.aload_n (pc := 16) dX10_want_16 rfl rfl ?_
      refine Ev.iload_n (pc := 17) dX10_want_17 rfl rfl ?_
      refine Ev.putI (pc := 18) dX10_want_18 pl_X10_53 sh_79 rfl rfl rfl ?_
      refine Ev.nmS (fun σ4 e9 => ?_)
      replace h := bt_app h σ4 e9
      exact Ev.weak2 (lj_X10_want_21 _ _ h) (lsubS (lsubN (lsubN (lsubN lsubE))))
    · replace h := (if_neg c2).symm.trans h
      refine Ev.if_ne_t (pc := 8) (tgt := 21) dX10_want_8 rfl c2 ?_
      exact Ev.weak2 (lj_X10_want_21 _ _ h) (lsubS (lsubN (lsubN (lsubN lsubE))))
  · replace h := (if_neg c1).symm.trans h
    refine Ev.if_ne_t (pc := 1) (tgt := 21) dX10_want_1 rfl c1 ?_
    exact Ev.weak2 (lj_X10_want_21 _ _ h) (lsubS (lsubN (lsubN (lsubN lsubE))))
theorem r_X10_want (a1 : Int32) (a2 : Int32) (a3 : Int32) (σ : St) : Rn md_X10_want 0 [vR 79, vI a1, vI a2, vI a3] SH σ (some (vI (t_X10_want a1 a2 a3 σ).1), SH, (t_X10_want a1 a2 a3 σ).2) := Rn.of ce_X10_want.1 (Nat.le_of_ble_eq_true rfl) (e_X10_want _ _ _ _ _ rfl)
def j_X10_takeNumber_113 (N : Nat) (K_50 : Int32 → Int32 → Int32 → St → Option (Int32 × St)) (v1 : Int32) (v2 : Int32) (s0 : Int32) (σ : St) : Option (Int32 × St) := bt (st σ 79 24 ((σ 79 24) + 1)) fun σ1 => K_50 v1 v2 s0 σ1
def j_X10_takeNumber_160 (N : Nat) (v4 : Int32) (s1 : Int32) (σ : St) : Option (Int32 × St) := bt (t_X10_want s1 2 (σ 79 25) σ) fun q1 => bt (q1.1) fun x2 => some (v4, q1.2)
def j_X10_takeNumber_159 (N : Nat) (v4 : Int32) (σ : St) : Option (Int32 × St) := j_X10_takeNumber_160 N v4 0 σ
def j_X10_takeNumber_128 (N : Nat) (v1 : Int32) (v2 : Int32) (v4 : Int32) (σ : St) : Option (Int32 × St) := if (4 : Int32) ≤ ((σ 79 24) - (σ 79 25)) then (j_X10_takeNumber_159 N v4 σ) else (if (p_X10_in v4.toInt64 v1.toInt64 v2.toInt64 σ) = 0 then (j_X10_takeNumber_159 N v4 σ) else (j_X10_takeNumber_160 N v4 1 σ))
def l_X10_takeNumber_50 (N : Nat) : Nat → Int32 → Int32 → Int32 → St → Option (Int32 × St)
  | 0, _, _, _, _ => none
  | n + 1, v1, v2, v4, σ => if (σ 79 23) ≤ (σ 79 24) then (j_X10_takeNumber_128 N v1 v2 v4 σ) else (ckA (σ 79 24) 250 (if (p_X10_in ((σ 93 (σ 79 24).toNatClampNeg).toInt64) 48 57 σ) = 0 then (j_X10_takeNumber_128 N v1 v2 v4 σ) else (if v4 ≤ 99999 then (ckA (σ 79 24) 250 (j_X10_takeNumber_113 N (l_X10_takeNumber_50 N n) v1 v2 (((10 * v4) + (σ 93 (σ 79 24).toNatClampNeg)) - 48) σ)) else (j_X10_takeNumber_113 N (l_X10_takeNumber_50 N n) v1 v2 v4 σ))))
def o_X10_takeNumber (N : Nat) (a1 : Int32) (a2 : Int32) (σ : St) : Option (Int32 × St) := if (σ 79 26) ≤ 0 then (bd (o_X10_here N  σ) fun x2 σ3 => bt (st σ3 79 25 (σ3 79 24)) fun σ5 => bt (t_X10_want (p_X10_in x2.toInt64 48 57 σ5) 1 (σ5 79 24) σ5) fun q6 => if q6.1 = 0 then (some (0, q6.2)) else (l_X10_takeNumber_50 N N a1 a2 0 q6.2)) else (some (0, σ))
theorem lj_X10_takeNumber_113 (N : Nat) (K_50 : Int32 → Int32 → Int32 → St → Option (Int32 × St)) (hK_50 : ∀ (v1 : Int32) (v2 : Int32) (v4 : Int32) (σ : St) (v : Int32) (w : St), K_50 v1 v2 v4 σ = some (v, w) → Ev md_X10_takeNumber 1 50 [some (vR 79), some (vI v1), some (vI v2), none, some (vI v4), none] [] SH σ (some (vI v), SH, w)) (v1 : Int32) (v2 : Int32) (s0 : Int32) (σ : St) (v : Int32) (w : St) (h : j_X10_takeNumber_113 N K_50 v1 v2 s0 σ = some (v, w)) : Ev md_X10_takeNumber 1 113 [some (vR 79), some (vI v1), some (vI v2), none, none, none] [vI s0] SH σ (some (vI v), SH, w) := by
  unfold j_X10_takeNumber_113 at h
  refine Ev.istore (pc := 113) (lv' := [some (vR 79), some (vI v1), some (vI v2), none, some (vI s0), none]) dX10_takeNumber_113 (lt9 rfl) rfl rfl ?_
  refine Ev.aload_n (pc := 115) dX10_takeNumber_115 rfl rfl ?_
  refine Ev.dup (pc := 116) dX10_takeNumber_116 rfl ?_
  refine Ev.getI (pc := 117) dX10_takeNumber_117 fl_X10_98 sh_79 rfl ?_
  refine Ev.iconst (pc := 120) (v := 1) dX10_takeNumber_120 ki_1 ?_
  refine Ev.iadd (pc := 121) dX10_takeNumber_121 ?_
  refine Ev.putI (pc := 122) dX10_takeNumber_122 pl_X10_98 sh_79 rfl rfl rfl ?_
  refine Ev.nmS (fun σ1 e9 => ?_)
  replace h := bt_app h σ1 e9
  refine Ev.goto (pc := 125) (tgt := 50) dX10_takeNumber_125 rfl ?_
  exact Ev.weak2 (hK_50 _ _ _ _ _ _ h) (lsubS (lsubS (lsubS (lsubN (lsubS (lsubN lsubE))))))
theorem lj_X10_takeNumber_160 (N : Nat) (v4 : Int32) (s1 : Int32) (σ : St) (v : Int32) (w : St) (h : j_X10_takeNumber_160 N v4 s1 σ = some (v, w)) : Ev md_X10_takeNumber 1 160 [some (vR 79), none, none, none, some (vI v4), none] [vI s1, vR 79] SH σ (some (vI v), SH, w) := by
  unfold j_X10_takeNumber_160 at h
  refine Ev.iconst (pc := 160) (v := 2) dX10_takeNumber_160 ki_2 ?_
  refine Ev.aload_n (pc := 161) dX10_takeNumber_161 rfl rfl ?_
  refine Ev.getI (pc := 162) dX10_takeNumber_162 fl_X10_108 sh_79 rfl ?_
  refine Ev.cVi (pc := 165) (k := 79) (av := [vI s1, vI 2, vI (σ 79 25)]) (rest := []) dX10_takeNumber_165 ce_X10_want ml_X10_115 rfl sh_79 cl_X10 sh_sc (Nat.le_of_ble_eq_true rfl) (Nat.le_of_ble_eq_true rfl) (r_X10_want _ _ _ _) ?_
  refine Ev.nmQ (fun q1 e9 => ?_)
  replace h := bt_app h q1 e9
  refine Ev.nmI (fun x2 e9 => ?_)
  replace h := bt_app h x2 e9
  refine Ev.istore (pc := 168) (lv' := [some (vR 79), none, none, none, some (vI v4), some (vI x2)]) dX10_takeNumber_168 (lt9 rfl) rfl rfl ?_
  refine Ev.iload (pc := 170) dX10_takeNumber_170 rfl ?_
  obtain ⟨h1, h2⟩ := oeq h
  subst h1
  subst h2
  exact Ev.ret_i (pc := 172) dX10_takeNumber_172 rfl rfl
theorem lj_X10_takeNumber_159 (N : Nat) (v4 : Int32) (σ : St) (v : Int32) (w : St) (h : j_X10_takeNumber_159 N v4 σ = some (v, w)) : Ev md_X10_takeNumber 1 159 [some (vR 79), none, none, none, some (vI v4), none] [vR 79] SH σ (some (vI v), SH, w) := by
  unfold j_X10_takeNumber_159 at h
  refine Ev.iconst (pc := 159) (v := 0) dX10_takeNumber_159 ki_0 ?_
  exact Ev.weak2 (lj_X10_takeNumber_160 N _ _ _ _ _ h) (lsubS (lsubN (lsubN (lsubN (lsubS (lsubN lsubE))))))
theorem lj_X10_takeNumber_128 (N : Nat) (v1 : Int32) (v2 : Int32) (v4 : Int32) (σ : St) (v : Int32) (w : St) (h : j_X10_takeNumber_128 N v1 v2 v4 σ = some (v, w)) : Ev md_X10_takeNumber 1 128 [some (vR 79), some (vI v1), some (vI v2), none, some (vI v4), none] [] SH σ (some (vI v), SH, w) := by
  unfold j_X10_takeNumber_128 at h
  refine Ev.aload_n (pc := 128) dX10_takeNumber_128 rfl rfl ?_
  refine Ev.aload_n (pc := 129) dX10_takeNumber_129 rfl rfl ?_
  refine Ev.getI (pc := 130) dX10_takeNumber_130 fl_X10_98 sh_79 rfl ?_
  refine Ev.aload_n (pc := 133) dX10_takeNumber_133 rfl rfl ?_
  refine Ev.getI (pc := 134) dX10_takeNumber_134 fl_X10_108 sh_79 rfl ?_
  refine Ev.isub (pc := 137) dX10_takeNumber_137 ?_
  refine Ev.iconst (pc := 138) (v := 4) dX10_takeNumber_138 ki_4 ?_
  by_cases c1 : (4 : Int32) ≤ ((σ 79 24) - (σ 79 25))
  · replace h := (if_pos c1).symm.trans h
    refine Ev.icmp_ge_t (pc := 139) (tgt := 159) dX10_takeNumber_139 rfl c1 ?_
    exact Ev.weak2 (lj_X10_takeNumber_159 N _ _ _ _ h) (lsubS (lsubN (lsubN (lsubN (lsubS (lsubN lsubE))))))
  · replace h := (if_neg c1).symm.trans h
    refine Ev.icmp_ge_f (pc := 139) dX10_takeNumber_139 ⟨159, rfl⟩ c1 ?_
    refine Ev.iload (pc := 142) dX10_takeNumber_142 rfl ?_
    refine Ev.i2l (pc := 144) dX10_takeNumber_144 ?_
    refine Ev.iload_n (pc := 145) dX10_takeNumber_145 rfl rfl ?_
    refine Ev.i2l (pc := 146) dX10_takeNumber_146 ?_
    refine Ev.iload_n (pc := 147) dX10_takeNumber_147 rfl rfl ?_
    refine Ev.i2l (pc := 148) dX10_takeNumber_148 ?_
    refine Ev.cTi (pc := 149) (av := [vL v4.toInt64, vL v1.toInt64, vL v2.toInt64]) (rest := [vR 79]) dX10_takeNumber_149 ce_X10_in ml_X10_89 rfl sh_sc (Nat.le_of_ble_eq_true rfl) (Nat.le_of_ble_eq_true rfl) (r_X10_in _ _ _ _) ?_
    by_cases c2 : (p_X10_in v4.toInt64 v1.toInt64 v2.toInt64 σ) = 0
    · replace h := (if_pos c2).symm.trans h
      refine Ev.if_eq_t (pc := 152) (tgt := 159) dX10_takeNumber_152 rfl c2 ?_
      exact Ev.weak2 (lj_X10_takeNumber_159 N _ _ _ _ h) (lsubS (lsubN (lsubN (lsubN (lsubS (lsubN lsubE))))))
    · replace h := (if_neg c2).symm.trans h
      refine Ev.if_eq_f (pc := 152) dX10_takeNumber_152 ⟨159, rfl⟩ c2 ?_
      refine Ev.iconst (pc := 155) (v := 1) dX10_takeNumber_155 ki_1 ?_
      refine Ev.goto (pc := 156) (tgt := 160) dX10_takeNumber_156 rfl ?_
      exact Ev.weak2 (lj_X10_takeNumber_160 N _ _ _ _ _ h) (lsubS (lsubN (lsubN (lsubN (lsubS (lsubN lsubE))))))
theorem ll_X10_takeNumber_50 (N : Nat) : ∀ (n : Nat) (v1 : Int32) (v2 : Int32) (v4 : Int32) (σ : St) (v : Int32) (w : St), l_X10_takeNumber_50 N n v1 v2 v4 σ = some (v, w) → Ev md_X10_takeNumber 1 50 [some (vR 79), some (vI v1), some (vI v2), none, some (vI v4), none] [] SH σ (some (vI v), SH, w) := by
  intro n
  induction n with
  | zero =>
    intro v1 v2 v4 σ v w h
    rw [l_X10_takeNumber_50] at h
    cases h
  | succ n ih =>
    intro v1 v2 v4 σ v w h
    rw [l_X10_takeNumber_50] at h
    refine Ev.aload_n (pc := 50) dX10_takeNumber_50 rfl rfl ?_
    refine Ev.getI (pc := 51) dX10_takeNumber_51 fl_X10_98 sh_79 rfl ?_
    refine Ev.aload_n (pc := 54) dX10_takeNumber_54 rfl rfl ?_
    refine Ev.getI (pc := 55) dX10_takeNumber_55 fl_X10_94 sh_79 rfl ?_
    by_cases c1 : (σ 79 23) ≤ (σ 79 24)
    · replace h := (if_pos c1).symm.trans h
      refine Ev.icmp_ge_t (pc := 58) (tgt := 128) dX10_takeNumber_58 rfl c1 ?_
      exact Ev.weak2 (lj_X10_takeNumber_128 N _ _ _ _ _ _ h) (lsubS (lsubS (lsubS (lsubN (lsubS (lsubN lsubE))))))
    · replace h := (if_neg c1).symm.trans h
      refine Ev.icmp_ge_f (pc := 58) dX10_takeNumber_58 ⟨128, rfl⟩ c1 ?_
      refine Ev.aload_n (pc := 61) dX10_takeNumber_61 rfl rfl ?_
      refine Ev.getR (pc := 62) dX10_takeNumber_62 fl_X10_50 sh_79 rfl ?_
      refine Ev.aload_n (pc := 65) dX10_takeNumber_65 rfl rfl ?_
      refine Ev.getI (pc := 66) dX10_takeNumber_66 fl_X10_98 sh_79 rfl ?_
      obtain ⟨c2, h⟩ := ckA_elim h
      refine Ev.iald (pc := 69) dX10_takeNumber_69 sh_93 c2 ?_
      refine Ev.i2l (pc := 70) dX10_takeNumber_70 ?_
      refine Ev.ldc2 (pc := 71) dX10_takeNumber_71 kl_X10_111 ?_
      refine Ev.ldc2 (pc := 74) dX10_takeNumber_74 kl_X10_113 ?_
      refine Ev.cTi (pc := 77) (av := [vL ((σ 93 (σ 79 24).toNatClampNeg).toInt64), vL 48, vL 57]) (rest := []) dX10_takeNumber_77 ce_X10_in ml_X10_89 rfl sh_sc (Nat.le_of_ble_eq_true rfl) (Nat.le_of_ble_eq_true rfl) (r_X10_in _ _ _ _) ?_
      by_cases c3 : (p_X10_in ((σ 93 (σ 79 24).toNatClampNeg).toInt64) 48 57 σ) = 0
      · replace h := (if_pos c3).symm.trans h
        refine Ev.if_eq_t (pc := 80) (tgt := 128) dX10_takeNumber_80 rfl c3 ?_
        exact Ev.weak2 (lj_X10_takeNumber_128 N _ _ _ _ _ _ h) (lsubS (lsubS (lsubS (lsubN (lsubS (lsubN lsubE))))))
      · replace h := (if_neg c3).symm.trans h
        refine Ev.if_eq_f (pc := 80) dX10_takeNumber_80 ⟨128, rfl⟩ c3 ?_
        refine Ev.iload (pc := 83) dX10_takeNumber_83 rfl ?_
        refine Ev.ldc (pc := 85) dX10_takeNumber_85 kc_X10_119 ?_
        by_cases c4 : v4 ≤ 99999
        · replace h := (if_pos c4).symm.trans h
          refine Ev.icmp_le_t (pc := 87) (tgt := 95) dX10_takeNumber_87 rfl c4 ?_
          refine Ev.bipush (pc := 95) (v := 10) dX10_takeNumber_95 kb_10 ?_
          refine Ev.iload (pc := 97) dX10_takeNumber_97 rfl ?_
          refine Ev.imul (pc := 99) dX10_takeNumber_99 ?_
          refine Ev.aload_n (pc := 100) dX10_takeNumber_100 rfl rfl ?_
          refine Ev.getR (pc := 101) dX10_takeNumber_101 fl_X10_50 sh_79 rfl ?_
          refine Ev.aload_n (pc := 104) dX10_takeNumber_104 rfl rfl ?_
          refine Ev.getI (pc := 105) dX10_takeNumber_105 fl_X10_98 sh_79 rfl ?_
          obtain ⟨c5, h⟩ := ckA_elim h
          refine Ev.iald (pc := 108) dX10_takeNumber_108 sh_93 c5 ?_
          refine Ev.iadd (pc := 109) dX10_takeNumber_109 ?_
          refine Ev.bipush (pc := 110) (v := 48) dX10_takeNumber_110 kb_48 ?_
          refine Ev.isub (pc := 112) dX10_takeNumber_112 ?_
          exact Ev.weak2 (lj_X10_takeNumber_113 N (l_X10_takeNumber_50 N n) ih _ _ _ _ _ _ h) (lsubS (lsubS (lsubS (lsubN (lsubN (lsubN lsubE))))))
        · replace h := (if_neg c4).symm.trans h
          refine Ev.icmp_le_f (pc := 87) dX10_takeNumber_87 ⟨95, rfl⟩ c4 ?_
          refine Ev.iload (pc := 90) dX10_takeNumber_90 rfl ?_
          refine Ev.goto (pc := 92) (tgt := 113) dX10_takeNumber_92 rfl ?_
          exact Ev.weak2 (lj_X10_takeNumber_113 N (l_X10_takeNumber_50 N n) ih _ _ _ _ _ _ h) (lsubS (lsubS (lsubS (lsubN (lsubN (lsubN lsubE))))))
theorem e_X10_takeNumber (N : Nat) (a1 : Int32) (a2 : Int32) (σ : St) (v : Int32) (w : St) (h : o_X10_takeNumber N a1 a2 σ = some (v, w)) : Ev md_X10_takeNumber 1 0 (lvE [vR 79, vI a1, vI a2] 6) [] SH σ (some (vI v), SH, w) := by
  show Ev md_X10_takeNumber 1 0 [some (vR 79), some (vI a1), some (vI a2), none, none, none] [] SH σ (some (vI v), SH, w)
  unfold o_X10_takeNumber at h
  refine Ev.aload_n (pc := 0) dX10_takeNumber_0 rfl rfl ?_
  refine Ev.getI (pc := 1) dX10_takeNumber_1 fl_X10_101 sh_79 rfl ?_
  by_cases c1 : (σ 79 26) ≤ 0
  · replace h := (if_pos c1).symm.trans h
    refine Ev.if_le_t (pc := 4) (tgt := 9) dX10_takeNumber_4 rfl c1 ?_
    refine Ev.aload_n (pc := 9) dX10_takeNumber_9 rfl rfl ?_
    obtain ⟨x2, σ3, g4, h⟩ := bd_elim h
    refine Ev.cVi (pc := 10) (k := 79) (av := []) (rest := []) dX10_takeNumber_10 ce_X10_here ml_X10_104 rfl sh_79 cl_X10 sh_sc (Nat.le_of_ble_eq_true rfl) (Nat.le_of_ble_eq_true rfl) (r_X10_here g4) ?_
    refine Ev.istore_n (pc := 13) (lv' := [some (vR 79), some (vI a1), some (vI a2), some (vI x2), none, none]) dX10_takeNumber_13 rfl (lt9 rfl) rfl rfl ?_
    refine Ev.aload_n (pc := 14) dX10_takeNumber_14 rfl rfl ?_
    refine Ev.aload_n (pc := 15) dX10_takeNumber_15 rfl rfl ?_
    refine Ev.getI (pc := 16) dX10_takeNumber_16 fl_X10_98 sh_79 rfl ?_
    refine Ev.putI (pc := 19) dX10_takeNumber_19 pl_X10_108 sh_79 rfl rfl rfl ?_
    refine Ev.nmS (fun σ5 e9 => ?_)
    replace h := bt_app h σ5 e9
    refine Ev.aload_n (pc := 22) dX10_takeNumber_22 rfl rfl ?_
    refine Ev.iload_n (pc := 23) dX10_takeNumber_23 rfl rfl ?_
    refine Ev.i2l (pc := 24) dX10_takeNumber_24 ?_
    refine Ev.ldc2 (pc := 25) dX10_takeNumber_25 kl_X10_111 ?_
    refine Ev.ldc2 (pc := 28) dX10_takeNumber_28 kl_X10_113 ?_
    refine Ev.cTi (pc := 31) (av := [vL x2.toInt64, vL 48, vL 57]) (rest := [vR 79]) dX10_takeNumber_31 ce_X10_in ml_X10_89 rfl sh_sc (Nat.le_of_ble_eq_true rfl) (Nat.le_of_ble_eq_true rfl) (r_X10_in _ _ _ _) ?_
    refine Ev.iconst (pc := 34) (v := 1) dX10_takeNumber_34 ki_1 ?_
    refine Ev.aload_n (pc := 35) dX10_takeNumber_35 rfl rfl ?_
    refine Ev.getI (pc := 36) dX10_takeNumber_36 fl_X10_98 sh_79 rfl ?_
    refine Ev.cVi (pc := 39) (k := 79) (av := [vI (p_X10_in x2.toInt64 48 57 σ5), vI 1, vI (σ5 79 24)]) (rest := []) dX10_takeNumber_39 ce_X10_want ml_X10_115 rfl sh_79 cl_X10 sh_sc (Nat.le_of_ble_eq_true rfl) (Nat.le_of_ble_eq_true rfl) (r_X10_want _ _ _ _) ?_
    refine Ev.nmQ (fun q6 e9 => ?_)
    replace h := bt_app h q6 e9
    by_cases c7 : q6.1 = 0
    · replace h := (if_pos c7).symm.trans h
      refine Ev.if_ne_f (pc := 42) dX10_takeNumber_42 ⟨47, rfl⟩ c7 ?_
      refine Ev.iconst (pc := 45) (v := 0) dX10_takeNumber_45 ki_0 ?_
      obtain ⟨h1, h2⟩ := oeq h
      subst h1
      subst h2
      exact Ev.ret_i (pc := 46) dX10_takeNumber_46 rfl rfl
    · replace h := (if_neg c7).symm.trans h
      refine Ev.if_ne_t (pc := 42) (tgt := 47) dX10_takeNumber_42 rfl c7 ?_
      refine Ev.iconst (pc := 47) (v := 0) dX10_takeNumber_47 ki_0 ?_
      refine Ev.istore (pc := 48) (lv' := [some (vR 79), some (vI a1), some (vI a2), some (vI x2), some (vI 0), none]) dX10_takeNumber_48 (lt9 rfl) rfl rfl ?_
      exact Ev.weak2 (ll_X10_takeNumber_50 N N _ _ _ _ _ _ h) (lsubS (lsubS (lsubS (lsubN (lsubS (lsubN lsubE))))))
  · replace h := (if_neg c1).symm.trans h
    refine Ev.if_le_f (pc := 4) dX10_takeNumber_4 ⟨9, rfl⟩ c1 ?_
    refine Ev.iconst (pc := 7) (v := 0) dX10_takeNumber_7 ki_0 ?_
    obtain ⟨h1, h2⟩ := oeq h
    subst h1
    subst h2
    exact Ev.ret_i (pc := 8) dX10_takeNumber_8 rfl rfl
theorem r_X10_takeNumber {N : Nat} {a1 : Int32} {a2 : Int32} {σ : St} {v : Int32} {w : St} (h : o_X10_takeNumber N a1 a2 σ = some (v, w)) : Rn md_X10_takeNumber 1 [vR 79, vI a1, vI a2] SH σ (some (vI v), SH, w) := Rn.of ce_X10_takeNumber.1 (Nat.le_of_ble_eq_true rfl) (e_X10_takeNumber N _ _ _ _ _ h)
def j_X10_takeWinter_93 (N : Nat) (s1 : Int32) (σ : St) : Option (Unit × St) := bt (t_X10_want s1 4 (σ 79 25) σ) fun q1 => bt (q1.1) fun x2 => some ((), q1.2)
def j_X10_takeWinter_88 (N : Nat)  (σ : St) : Option (Unit × St) := j_X10_takeWinter_93 N 1 σ
def j_X10_takeWinter_13 (N : Nat) (v1 : Int32) (s1 : Int32) (σ : St) : Option (Unit × St) := bt (t_X10_want s1 3 v1 σ) fun q1 => if q1.1 = 0 then (some ((), q1.2)) else (bt (st q1.2 79 21 1) fun σ3 => bd (o_X10_takeNumber N 0 98 σ3) fun x4 σ5 => bt (st σ5 92 (3 : Int32).toNatClampNeg x4) fun σ7 => bd (o_X10_takeNumber N 0 98 σ7) fun x8 σ9 => bt (st σ9 92 (4 : Int32).toNatClampNeg x8) fun σ11 => bd (o_X10_takeNumber N 2 99 σ11) fun x12 σ13 => bt (st σ13 92 (5 : Int32).toNatClampNeg x12) fun σ15 => if (0 : Int32) < (σ15 79 26) then (j_X10_takeWinter_88 N σ15) else (if (σ15 92 (5 : Int32).toNatClampNeg) ≤ (σ15 92 (4 : Int32).toNatClampNeg) then (j_X10_takeWinter_93 N 0 σ15) else (j_X10_takeWinter_88 N σ15)))
def o_X10_takeWinter (N : Nat) (a1 : Int32) (σ : St) : Option (Unit × St) := if (σ 79 21) = 0 then (j_X10_takeWinter_13 N a1 1 σ) else (j_X10_takeWinter_13 N a1 0 σ)
theorem lj_X10_takeWinter_93 (N : Nat) (s1 : Int32) (σ : St) (v : Unit) (w : St) (h : j_X10_takeWinter_93 N s1 σ = some (v, w)) : Ev md_X10_takeWinter 2 93 [some (vR 79), none, none] [vI s1, vR 79] SH σ (none, SH, w) := by
  unfold j_X10_takeWinter_93 at h
  refine Ev.iconst (pc := 93) (v := 4) dX10_takeWinter_93 ki_4 ?_
  refine Ev.aload_n (pc := 94) dX10_takeWinter_94 rfl rfl ?_
  refine Ev.getI (pc := 95) dX10_takeWinter_95 fl_X10_108 sh_79 rfl ?_
  refine Ev.cVi (pc := 98) (k := 79) (av := [vI s1, vI 4, vI (σ 79 25)]) (rest := []) dX10_takeWinter_98 ce_X10_want ml_X10_115 rfl sh_79 cl_X10 sh_sc (Nat.le_of_ble_eq_true rfl) (Nat.le_of_ble_eq_true rfl) (r_X10_want _ _ _ _) ?_
  refine Ev.nmQ (fun q1 e9 => ?_)
  replace h := bt_app h q1 e9
  refine Ev.nmI (fun x2 e9 => ?_)
  replace h := bt_app h x2 e9
  refine Ev.istore_n (pc := 101) (lv' := [some (vR 79), none, some (vI x2)]) dX10_takeWinter_101 rfl (lt9 rfl) rfl rfl ?_
  obtain ⟨h1, h2⟩ := oeq h
  subst h1
  subst h2
  exact Ev.ret_v (pc := 102) dX10_takeWinter_102 rfl
theorem lj_X10_takeWinter_88 (N : Nat)  (σ : St) (v : Unit) (w : St) (h : j_X10_takeWinter_88 N  σ = some (v, w)) : Ev md_X10_takeWinter 2 88 [some (vR 79), none, none] [vR 79] SH σ (none, SH, w) := by
  unfold j_X10_takeWinter_88 at h
  refine Ev.iconst (pc := 88) (v := 1) dX10_takeWinter_88 ki_1 ?_
  refine Ev.goto (pc := 89) (tgt := 93) dX10_takeWinter_89 rfl ?_
  exact Ev.weak2 (lj_X10_takeWinter_93 N _ _ _ _ h) (lsubS (lsubN (lsubN lsubE)))
theorem lj_X10_takeWinter_13 (N : Nat) (v1 : Int32) (s1 : Int32) (σ : St) (v : Unit) (w : St) (h : j_X10_takeWinter_13 N v1 s1 σ = some (v, w)) : Ev md_X10_takeWinter 2 13 [some (vR 79), some (vI v1), none] [vI s1, vR 79] SH σ (none, SH, w) := by
  unfold j_X10_takeWinter_13 at h
  refine Ev.iconst (pc := 13) (v := 3) dX10_takeWinter_13 ki_3 ?_
  refine Ev.iload_n (pc := 14) dX10_takeWinter_14 rfl rfl ?_
  refine Ev.cVi (pc := 15) (k := 79) (av := [vI s1, vI 3, vI v1]) (rest := []) dX10_takeWinter_15 ce_X10_want ml_X10_115 rfl sh_79 cl_X10 sh_sc (Nat.le_of_ble_eq_true rfl) (Nat.le_of_ble_eq_true rfl) (r_X10_want _ _ _ _) ?_
  refine Ev.nmQ (fun q1 e9 => ?_)
  replace h := bt_app h q1 e9
  by_cases c2 : q1.1 = 0
  · replace h := (if_pos c2).symm.trans h
    refine Ev.if_eq_t (pc := 18) (tgt := 102) dX10_takeWinter_18 rfl c2 ?_
    obtain ⟨h1, h2⟩ := oeq h
    subst h1
    subst h2
    exact Ev.ret_v (pc := 102) dX10_takeWinter_102 rfl
  · replace h := (if_neg c2).symm.trans h
    refine Ev.if_eq_f (pc := 18) dX10_takeWinter_18 ⟨102, rfl⟩ c2 ?_
    refine Ev.aload_n (pc := 21) dX10_takeWinter_21 rfl rfl ?_
    refine Ev.iconst (pc := 22) (v := 1) dX10_takeWinter_22 ki_1 ?_
    refine Ev.putI (pc := 23) dX10_takeWinter_23 pl_X10_136 sh_79 rfl nb_1 rfl ?_
    refine Ev.nmS (fun σ3 e9 => ?_)
    replace h := bt_app h σ3 e9
    refine Ev.aload_n (pc := 26) dX10_takeWinter_26 rfl rfl ?_
    refine Ev.getR (pc := 27) dX10_takeWinter_27 fl_X10_47 sh_79 rfl ?_
    refine Ev.iconst (pc := 30) (v := 3) dX10_takeWinter_30 ki_3 ?_
    refine Ev.aload_n (pc := 31) dX10_takeWinter_31 rfl rfl ?_
    refine Ev.iconst (pc := 32) (v := 0) dX10_takeWinter_32 ki_0 ?_
    refine Ev.bipush (pc := 33) (v := 98) dX10_takeWinter_33 kb_98 ?_
    obtain ⟨x4, σ5, g6, h⟩ := bd_elim h
    refine Ev.cVi (pc := 35) (k := 79) (av := [vI 0, vI 98]) (rest := [vI 3, vR 92]) dX10_takeWinter_35 ce_X10_takeNumber ml_X10_123 rfl sh_79 cl_X10 sh_sc (Nat.le_of_ble_eq_true rfl) (Nat.le_of_ble_eq_true rfl) (r_X10_takeNumber g6) ?_
    refine Ev.iast (pc := 38) dX10_takeWinter_38 sh_92 in_3_6 ?_
    refine Ev.nmS (fun σ7 e9 => ?_)
    replace h := bt_app h σ7 e9
    refine Ev.aload_n (pc := 39) dX10_takeWinter_39 rfl rfl ?_
    refine Ev.getR (pc := 40) dX10_takeWinter_40 fl_X10_47 sh_79 rfl ?_
    refine Ev.iconst (pc := 43) (v := 4) dX10_takeWinter_43 ki_4 ?_
    refine Ev.aload_n (pc := 44) dX10_takeWinter_44 rfl rfl ?_
    refine Ev.iconst (pc := 45) (v := 0) dX10_takeWinter_45 ki_0 ?_
    refine Ev.bipush (pc := 46) (v := 98) dX10_takeWinter_46 kb_98 ?_
    obtain ⟨x8, σ9, g10, h⟩ := bd_elim h
    refine Ev.cVi (pc := 48) (k := 79) (av := [vI 0, vI 98]) (rest := [vI 4, vR 92]) dX10_takeWinter_48 ce_X10_takeNumber ml_X10_123 rfl sh_79 cl_X10 sh_sc (Nat.le_of_ble_eq_true rfl) (Nat.le_of_ble_eq_true rfl) (r_X10_takeNumber g10) ?_
    refine Ev.iast (pc := 51) dX10_takeWinter_51 sh_92 in_4_6 ?_
    refine Ev.nmS (fun σ11 e9 => ?_)
    replace h := bt_app h σ11 e9
    refine Ev.aload_n (pc := 52) dX10_takeWinter_52 rfl rfl ?_
    refine Ev.getR (pc := 53) dX10_takeWinter_53 fl_X10_47 sh_79 rfl ?_
    refine Ev.iconst (pc := 56) (v := 5) dX10_takeWinter_56 ki_5 ?_
    refine Ev.aload_n (pc := 57) dX10_takeWinter_57 rfl rfl ?_
    refine Ev.iconst (pc := 58) (v := 2) dX10_takeWinter_58 ki_2 ?_
    refine Ev.bipush (pc := 59) (v := 99) dX10_takeWinter_59 kb_99 ?_
    obtain ⟨x12, σ13, g14, h⟩ := bd_elim h
    refine Ev.cVi (pc := 61) (k := 79) (av := [vI 2, vI 99]) (rest := [vI 5, vR 92]) dX10_takeWinter_61 ce_X10_takeNumber ml_X10_123 rfl sh_79 cl_X10 sh_sc (Nat.le_of_ble_eq_true rfl) (Nat.le_of_ble_eq_true rfl) (r_X10_takeNumber g14) ?_
    refine Ev.iast (pc := 64) dX10_takeWinter_64 sh_92 in_5_6 ?_
    refine Ev.nmS (fun σ15 e9 => ?_)
    replace h := bt_app h σ15 e9
    refine Ev.aload_n (pc := 65) dX10_takeWinter_65 rfl rfl ?_
    refine Ev.aload_n (pc := 66) dX10_takeWinter_66 rfl rfl ?_
    refine Ev.getI (pc := 67) dX10_takeWinter_67 fl_X10_101 sh_79 rfl ?_
    by_cases c16 : (0 : Int32) < (σ15 79 26)
    · replace h := (if_pos c16).symm.trans h
      refine Ev.if_gt_t (pc := 70) (tgt := 88) dX10_takeWinter_70 rfl c16 ?_
      exact Ev.weak2 (lj_X10_takeWinter_88 N _ _ _ h) (lsubS (lsubN (lsubN lsubE)))
    · replace h := (if_neg c16).symm.trans h
      refine Ev.if_gt_f (pc := 70) dX10_takeWinter_70 ⟨88, rfl⟩ c16 ?_
      refine Ev.aload_n (pc := 73) dX10_takeWinter_73 rfl rfl ?_
      refine Ev.getR (pc := 74) dX10_takeWinter_74 fl_X10_47 sh_79 rfl ?_
      refine Ev.iconst (pc := 77) (v := 4) dX10_takeWinter_77 ki_4 ?_
      refine Ev.iald (pc := 78) dX10_takeWinter_78 sh_92 in_4_6 ?_
      refine Ev.aload_n (pc := 79) dX10_takeWinter_79 rfl rfl ?_
      refine Ev.getR (pc := 80) dX10_takeWinter_80 fl_X10_47 sh_79 rfl ?_
      refine Ev.iconst (pc := 83) (v := 5) dX10_takeWinter_83 ki_5 ?_
      refine Ev.iald (pc := 84) dX10_takeWinter_84 sh_92 in_5_6 ?_
      by_cases c17 : (σ15 92 (5 : Int32).toNatClampNeg) ≤ (σ15 92 (4 : Int32).toNatClampNeg)
      · replace h := (if_pos c17).symm.trans h
        refine Ev.icmp_ge_t (pc := 85) (tgt := 92) dX10_takeWinter_85 rfl c17 ?_
        refine Ev.iconst (pc := 92) (v := 0) dX10_takeWinter_92 ki_0 ?_
        exact Ev.weak2 (lj_X10_takeWinter_93 N _ _ _ _ h) (lsubS (lsubN (lsubN lsubE)))
      · replace h := (if_neg c17).symm.trans h
        refine Ev.icmp_ge_f (pc := 85) dX10_takeWinter_85 ⟨92, rfl⟩ c17 ?_
        exact Ev.weak2 (lj_X10_takeWinter_88 N _ _ _ h) (lsubS (lsubN (lsubN lsubE)))
theorem e_X10_takeWinter (N : Nat) (a1 : Int32) (σ : St) (v : Unit) (w : St) (h : o_X10_takeWinter N a1 σ = some (v, w)) : Ev md_X10_takeWinter 2 0 (lvE [vR 79, vI a1] 3) [] SH σ (none, SH, w) := by
  show Ev md_X10_takeWinter 2 0 [some (vR 79), some (vI a1), none] [] SH σ (none, SH, w)
  unfold o_X10_takeWinter at h
  refine Ev.aload_n (pc := 0) dX10_takeWinter_0 rfl rfl ?_
  refine Ev.aload_n (pc := 1) dX10_takeWinter_1 rfl rfl ?_
  refine Ev.getI (pc := 2) dX10_takeWinter_2 fl_X10_136 sh_79 rfl ?_
  by_cases c1 : (σ 79 21) = 0
  · replace h := (if_pos c1).symm.trans h
    refine Ev.if_ne_f (pc := 5) dX10_takeWinter_5 ⟨12, rfl⟩ c1 ?_
    refine Ev.iconst (pc := 8) (v := 1) dX10_takeWinter_8 ki_1 ?_
    refine Ev.goto (pc := 9) (tgt := 13) dX10_takeWinter_9 rfl ?_
    exact Ev.weak2 (lj_X10_takeWinter_13 N _ _ _ _ _ h) (lsubS (lsubS (lsubN lsubE)))
  · replace h := (if_neg c1).symm.trans h
    refine Ev.if_ne_t (pc := 5) (tgt := 12) dX10_takeWinter_5 rfl c1 ?_
    refine Ev.iconst (pc := 12) (v := 0) dX10_takeWinter_12 ki_0 ?_
    exact Ev.weak2 (lj_X10_takeWinter_13 N _ _ _ _ _ h) (lsubS (lsubS (lsubN lsubE)))
theorem r_X10_takeWinter {N : Nat} {a1 : Int32} {σ : St} {v : Unit} {w : St} (h : o_X10_takeWinter N a1 σ = some (v, w)) : Rn md_X10_takeWinter 2 [vR 79, vI a1] SH σ (none, SH, w) := Rn.of ce_X10_takeWinter.1 (Nat.le_of_ble_eq_true rfl) (e_X10_takeWinter N _ _ _ _ h)
def j_X10_takePromise_154 (N : Nat) (s1 : Int32) (σ : St) : Option (Unit × St) := bt (t_X10_want s1 2 (σ 79 25) σ) fun q1 => bt (q1.1) fun x2 => bt (st q1.2 79 9 ((q1.2 79 9) + 1)) fun σ3 => some ((), σ3)
def j_X10_takePromise_149 (N : Nat)  (σ : St) : Option (Unit × St) := j_X10_takePromise_154 N 1 σ
def j_X10_takePromise_15 (N : Nat) (v1 : Int32) (s1 : Int32) (σ : St) : Option (Unit × St) := bt (t_X10_want s1 3 v1 σ) fun q1 => if q1.1 = 0 then (some ((), q1.2)) else (bt (7 + (q1.2 79 9)) fun x3 => bd (o_X10_takeNumber N 0 ((q1.2 79 8) - 1) q1.2) fun x4 σ5 => ckA x3 14 (bt (st σ5 86 x3.toNatClampNeg x4) fun σ8 => bd (o_X10_takeNumber N 0 ((σ8 79 6) - 1) σ8) fun x9 σ10 => ckA x3 14 (bt (st σ10 87 x3.toNatClampNeg x9) fun σ13 => bd (o_X10_takeNumber N 1 60 σ13) fun x14 σ15 => ckA x3 14 (bt (st σ15 88 x3.toNatClampNeg x14) fun σ18 => bd (o_X10_takeNumber N 0 9 σ18) fun x19 σ20 => ckA x3 14 (bt (st σ20 89 x3.toNatClampNeg x19) fun σ23 => bd (o_X10_takeNumber N 1 9 σ23) fun x24 σ25 => ckA x3 14 (bt (st σ25 90 x3.toNatClampNeg x24) fun σ28 => bd (o_X10_takeNumber N 0 9 σ28) fun x29 σ30 => ckA x3 14 (bt (st σ30 91 x3.toNatClampNeg x29) fun σ33 => if (0 : Int32) < (σ33 79 26) then (j_X10_takePromise_149 N σ33) else (ckA x3 14 (if (σ33 91 x3.toNatClampNeg) = 9 then (j_X10_takePromise_149 N σ33) else (ckA x3 14 (if (σ33 79 9) ≤ (σ33 91 x3.toNatClampNeg) then (j_X10_takePromise_154 N 0 σ33) else (j_X10_takePromise_149 N σ33))))))))))))
def o_X10_takePromise (N : Nat) (a1 : Int32) (σ : St) : Option (Unit × St) := if (7 : Int32) ≤ (σ 79 9) then (j_X10_takePromise_15 N a1 0 σ) else (j_X10_takePromise_15 N a1 1 σ)
theorem lj_X10_takePromise_154 (N : Nat) (s1 : Int32) (σ : St) (v : Unit) (w : St) (h : j_X10_takePromise_154 N s1 σ = some (v, w)) : Ev md_X10_takePromise 2 154 [some (vR 79), none, none, none] [vI s1, vR 79] SH σ (none, SH, w) := by
  unfold j_X10_takePromise_154 at h
  refine Ev.iconst (pc := 154) (v := 2) dX10_takePromise_154 ki_2 ?_
  refine Ev.aload_n (pc := 155) dX10_takePromise_155 rfl rfl ?_
  refine Ev.getI (pc := 156) dX10_takePromise_156 fl_X10_108 sh_79 rfl ?_
  refine Ev.cVi (pc := 159) (k := 79) (av := [vI s1, vI 2, vI (σ 79 25)]) (rest := []) dX10_takePromise_159 ce_X10_want ml_X10_115 rfl sh_79 cl_X10 sh_sc (Nat.le_of_ble_eq_true rfl) (Nat.le_of_ble_eq_true rfl) (r_X10_want _ _ _ _) ?_
  refine Ev.nmQ (fun q1 e9 => ?_)
  replace h := bt_app h q1 e9
  refine Ev.nmI (fun x2 e9 => ?_)
  replace h := bt_app h x2 e9
  refine Ev.istore_n (pc := 162) (lv' := [some (vR 79), none, none, some (vI x2)]) dX10_takePromise_162 rfl (lt9 rfl) rfl rfl ?_
  refine Ev.aload_n (pc := 163) dX10_takePromise_163 rfl rfl ?_
  refine Ev.dup (pc := 164) dX10_takePromise_164 rfl ?_
  refine Ev.getI (pc := 165) dX10_takePromise_165 fl_X10_133 sh_79 rfl ?_
  refine Ev.iconst (pc := 168) (v := 1) dX10_takePromise_168 ki_1 ?_
  refine Ev.iadd (pc := 169) dX10_takePromise_169 ?_
  refine Ev.putI (pc := 170) dX10_takePromise_170 pl_X10_133 sh_79 rfl rfl rfl ?_
  refine Ev.nmS (fun σ3 e9 => ?_)
  replace h := bt_app h σ3 e9
  obtain ⟨h1, h2⟩ := oeq h
  subst h1
  subst h2
  exact Ev.ret_v (pc := 173) dX10_takePromise_173 rfl
theorem lj_X10_takePromise_149 (N : Nat)  (σ : St) (v : Unit) (w : St) (h : j_X10_takePromise_149 N  σ = some (v, w)) : Ev md_X10_takePromise 2 149 [some (vR 79), none, none, none] [vR 79] SH σ (none, SH, w) := by
  unfold j_X10_takePromise_149 at h
  refine Ev.iconst (pc := 149) (v := 1) dX10_takePromise_149 ki_1 ?_
  refine Ev.goto (pc := 150) (tgt := 154) dX10_takePromise_150 rfl ?_
  exact Ev.weak2 (lj_X10_takePromise_154 N _ _ _ _ h) (lsubS (lsubN (lsubN (lsubN lsubE))))
theorem lj_X10_takePromise_15 (N : Nat) (v1 : Int32) (s1 : Int32) (σ : St) (v : Unit) (w : St) (h : j_X10_takePromise_15 N v1 s1 σ = some (v, w)) : Ev md_X10_takePromise 2 15 [some (vR 79), some (vI v1), none, none] [vI s1, vR 79] SH σ (none, SH, w) := by
  unfold j_X10_takePromise_15 at h
  refine Ev.iconst (pc := 15) (v := 3) dX10_takePromise_15 ki_3 ?_
  refine Ev.iload_n (pc := 16) dX10_takePromise_16 rfl rfl ?_
  refine Ev.cVi (pc := 17) (k := 79) (av := [vI s1, vI 3, vI v1]) (rest := []) dX10_takePromise_17 ce_X10_want ml_X10_115 rfl sh_79 cl_X10 sh_sc (Nat.le_of_ble_eq_true rfl) (Nat.le_of_ble_eq_true rfl) (r_X10_want _ _ _ _) ?_
  refine Ev.nmQ (fun q1 e9 => ?_)
  replace h := bt_app h q1 e9
  by_cases c2 : q1.1 = 0
  · replace h := (if_pos c2).symm.trans h
    refine Ev.if_eq_t (pc := 20) (tgt := 173) dX10_takePromise_20 rfl c2 ?_
    obtain ⟨h1, h2⟩ := oeq h
    subst h1
    subst h2
    exact Ev.ret_v (pc := 173) dX10_takePromise_173 rfl
  · replace h := (if_neg c2).symm.trans h
    refine Ev.if_eq_f (pc := 20) dX10_takePromise_20 ⟨173, rfl⟩ c2 ?_
    refine Ev.bipush (pc := 23) (v := 7) dX10_takePromise_23 kb_7 ?_
    refine Ev.aload_n (pc := 25) dX10_takePromise_25 rfl rfl ?_
    refine Ev.getI (pc := 26) dX10_takePromise_26 fl_X10_133 sh_79 rfl ?_
    refine Ev.iadd (pc := 29) dX10_takePromise_29 ?_
    refine Ev.nmI (fun x3 e9 => ?_)
    replace h := bt_app h x3 e9
    refine Ev.istore_n (pc := 30) (lv' := [some (vR 79), some (vI v1), some (vI x3), none]) dX10_takePromise_30 rfl (lt9 rfl) rfl rfl ?_
    refine Ev.aload_n (pc := 31) dX10_takePromise_31 rfl rfl ?_
    refine Ev.getR (pc := 32) dX10_takePromise_32 fl_X10_29 sh_79 rfl ?_
    refine Ev.iload_n (pc := 35) dX10_takePromise_35 rfl rfl ?_
    refine Ev.aload_n (pc := 36) dX10_takePromise_36 rfl rfl ?_
    refine Ev.iconst (pc := 37) (v := 0) dX10_takePromise_37 ki_0 ?_
    refine Ev.aload_n (pc := 38) dX10_takePromise_38 rfl rfl ?_
    refine Ev.getI (pc := 39) dX10_takePromise_39 fl_X10_130 sh_79 rfl ?_
    refine Ev.iconst (pc := 42) (v := 1) dX10_takePromise_42 ki_1 ?_
    refine Ev.isub (pc := 43) dX10_takePromise_43 ?_
    obtain ⟨x4, σ5, g6, h⟩ := bd_elim h
    refine Ev.cVi (pc := 44) (k := 79) (av := [vI 0, vI ((q1.2 79 8) - 1)]) (rest := [vI x3, vR 86]) dX10_takePromise_44 ce_X10_takeNumber ml_X10_123 rfl sh_79 cl_X10 sh_sc (Nat.le_of_ble_eq_true rfl) (Nat.le_of_ble_eq_true rfl) (r_X10_takeNumber g6) ?_
    obtain ⟨c7, h⟩ := ckA_elim h
    refine Ev.iast (pc := 47) dX10_takePromise_47 sh_86 c7 ?_
    refine Ev.nmS (fun σ8 e9 => ?_)
    replace h := bt_app h σ8 e9
    refine Ev.aload_n (pc := 48) dX10_takePromise_48 rfl rfl ?_
    refine Ev.getR (pc := 49) dX10_takePromise_49 fl_X10_32 sh_79 rfl ?_
    refine Ev.iload_n (pc := 52) dX10_takePromise_52 rfl rfl ?_
    refine Ev.aload_n (pc := 53) dX10_takePromise_53 rfl rfl ?_
    refine Ev.iconst (pc := 54) (v := 0) dX10_takePromise_54 ki_0 ?_
    refine Ev.aload_n (pc := 55) dX10_takePromise_55 rfl rfl ?_
    refine Ev.getI (pc := 56) dX10_takePromise_56 fl_X10_120 sh_79 rfl ?_
    refine Ev.iconst (pc := 59) (v := 1) dX10_takePromise_59 ki_1 ?_
    refine Ev.isub (pc := 60) dX10_takePromise_60 ?_
    obtain ⟨x9, σ10, g11, h⟩ := bd_elim h
    refine Ev.cVi (pc := 61) (k := 79) (av := [vI 0, vI ((σ8 79 6) - 1)]) (rest := [vI x3, vR 87]) dX10_takePromise_61 ce_X10_takeNumber ml_X10_123 rfl sh_79 cl_X10 sh_sc (Nat.le_of_ble_eq_true rfl) (Nat.le_of_ble_eq_true rfl) (r_X10_takeNumber g11) ?_
    obtain ⟨c12, h⟩ := ckA_elim h
    refine Ev.iast (pc := 64) dX10_takePromise_64 sh_87 c12 ?_
    refine Ev.nmS (fun σ13 e9 => ?_)
    replace h := bt_app h σ13 e9
    refine Ev.aload_n (pc := 65) dX10_takePromise_65 rfl rfl ?_
    refine Ev.getR (pc := 66) dX10_takePromise_66 fl_X10_35 sh_79 rfl ?_
    refine Ev.iload_n (pc := 69) dX10_takePromise_69 rfl rfl ?_
    refine Ev.aload_n (pc := 70) dX10_takePromise_70 rfl rfl ?_
    refine Ev.iconst (pc := 71) (v := 1) dX10_takePromise_71 ki_1 ?_
    refine Ev.bipush (pc := 72) (v := 60) dX10_takePromise_72 kb_60 ?_
    obtain ⟨x14, σ15, g16, h⟩ := bd_elim h
    refine Ev.cVi (pc := 74) (k := 79) (av := [vI 1, vI 60]) (rest := [vI x3, vR 88]) dX10_takePromise_74 ce_X10_takeNumber ml_X10_123 rfl sh_79 cl_X10 sh_sc (Nat.le_of_ble_eq_true rfl) (Nat.le_of_ble_eq_true rfl) (r_X10_takeNumber g16) ?_
    obtain ⟨c17, h⟩ := ckA_elim h
    refine Ev.iast (pc := 77) dX10_takePromise_77 sh_88 c17 ?_
    refine Ev.nmS (fun σ18 e9 => ?_)
    replace h := bt_app h σ18 e9
    refine Ev.aload_n (pc := 78) dX10_takePromise_78 rfl rfl ?_
    refine Ev.getR (pc := 79) dX10_takePromise_79 fl_X10_38 sh_79 rfl ?_
    refine Ev.iload_n (pc := 82) dX10_takePromise_82 rfl rfl ?_
    refine Ev.aload_n (pc := 83) dX10_takePromise_83 rfl rfl ?_
    refine Ev.iconst (pc := 84) (v := 0) dX10_takePromise_84 ki_0 ?_
    refine Ev.bipush (pc := 85) (v := 9) dX10_takePromise_85 kb_9 ?_
    obtain ⟨x19, σ20, g21, h⟩ := bd_elim h
    refine Ev.cVi (pc := 87) (k := 79) (av := [vI 0, vI 9]) (rest := [vI x3, vR 89]) dX10_takePromise_87 ce_X10_takeNumber ml_X10_123 rfl sh_79 cl_X10 sh_sc (Nat.le_of_ble_eq_true rfl) (Nat.le_of_ble_eq_true rfl) (r_X10_takeNumber g21) ?_
    obtain ⟨c22, h⟩ := ckA_elim h
    refine Ev.iast (pc := 90) dX10_takePromise_90 sh_89 c22 ?_
    refine Ev.nmS (fun σ23 e9 => ?_)
    replace h := bt_app h σ23 e9
    refine Ev.aload_n (pc := 91) dX10_takePromise_91 rfl rfl ?_
    refine Ev.getR (pc := 92) dX10_takePromise_92 fl_X10_41 sh_79 rfl ?_
    refine Ev.iload_n (pc := 95) dX10_takePromise_95 rfl rfl ?_
    refine Ev.aload_n (pc := 96) dX10_takePromise_96 rfl rfl ?_
    refine Ev.iconst (pc := 97) (v := 1) dX10_takePromise_97 ki_1 ?_
    refine Ev.bipush (pc := 98) (v := 9) dX10_takePromise_98 kb_9 ?_
    obtain ⟨x24, σ25, g26, h⟩ := bd_elim h
    refine Ev.cVi (pc := 100) (k := 79) (av := [vI 1, vI 9]) (rest := [vI x3, vR 90]) dX10_takePromise_100 ce_X10_takeNumber ml_X10_123 rfl sh_79 cl_X10 sh_sc (Nat.le_of_ble_eq_true rfl) (Nat.le_of_ble_eq_true rfl) (r_X10_takeNumber g26) ?_
    obtain ⟨c27, h⟩ := ckA_elim h
    refine Ev.iast (pc := 103) dX10_takePromise_103 sh_90 c27 ?_
    refine Ev.nmS (fun σ28 e9 => ?_)
    replace h := bt_app h σ28 e9
    refine Ev.aload_n (pc := 104) dX10_takePromise_104 rfl rfl ?_
    refine Ev.getR (pc := 105) dX10_takePromise_105 fl_X10_44 sh_79 rfl ?_
    refine Ev.iload_n (pc := 108) dX10_takePromise_108 rfl rfl ?_
    refine Ev.aload_n (pc := 109) dX10_takePromise_109 rfl rfl ?_
    refine Ev.iconst (pc := 110) (v := 0) dX10_takePromise_110 ki_0 ?_
    refine Ev.bipush (pc := 111) (v := 9) dX10_takePromise_111 kb_9 ?_
    obtain ⟨x29, σ30, g31, h⟩ := bd_elim h
    refine Ev.cVi (pc := 113) (k := 79) (av := [vI 0, vI 9]) (rest := [vI x3, vR 91]) dX10_takePromise_113 ce_X10_takeNumber ml_X10_123 rfl sh_79 cl_X10 sh_sc (Nat.le_of_ble_eq_true rfl) (Nat.le_of_ble_eq_true rfl) (r_X10_takeNumber g31) ?_
    obtain ⟨c32, h⟩ := ckA_elim h
    refine Ev.iast (pc := 116) dX10_takePromise_116 sh_91 c32 ?_
    refine Ev.nmS (fun σ33 e9 => ?_)
    replace h := bt_app h σ33 e9
    refine Ev.aload_n (pc := 117) dX10_takePromise_117 rfl rfl ?_
    refine Ev.aload_n (pc := 118) dX10_takePromise_118 rfl rfl ?_
    refine Ev.getI (pc := 119) dX10_takePromise_119 fl_X10_101 sh_79 rfl ?_
    by_cases c34 : (0 : Int32) < (σ33 79 26)
    · replace h := (if_pos c34).symm.trans h
      refine Ev.if_gt_t (pc := 122) (tgt := 149) dX10_takePromise_122 rfl c34 ?_
      exact Ev.weak2 (lj_X10_takePromise_149 N _ _ _ h) (lsubS (lsubN (lsubN (lsubN lsubE))))
    · replace h := (if_neg c34).symm.trans h
      refine Ev.if_gt_f (pc := 122) dX10_takePromise_122 ⟨149, rfl⟩ c34 ?_
      refine Ev.aload_n (pc := 125) dX10_takePromise_125 rfl rfl ?_
      refine Ev.getR (pc := 126) dX10_takePromise_126 fl_X10_44 sh_79 rfl ?_
      refine Ev.iload_n (pc := 129) dX10_takePromise_129 rfl rfl ?_
      obtain ⟨c35, h⟩ := ckA_elim h
      refine Ev.iald (pc := 130) dX10_takePromise_130 sh_91 c35 ?_
      refine Ev.bipush (pc := 131) (v := 9) dX10_takePromise_131 kb_9 ?_
      by_cases c36 : (σ33 91 x3.toNatClampNeg) = 9
      · replace h := (if_pos c36).symm.trans h
        refine Ev.icmp_eq_t (pc := 133) (tgt := 149) dX10_takePromise_133 rfl c36 ?_
        exact Ev.weak2 (lj_X10_takePromise_149 N _ _ _ h) (lsubS (lsubN (lsubN (lsubN lsubE))))
      · replace h := (if_neg c36).symm.trans h
        refine Ev.icmp_eq_f (pc := 133) dX10_takePromise_133 ⟨149, rfl⟩ c36 ?_
        refine Ev.aload_n (pc := 136) dX10_takePromise_136 rfl rfl ?_
        refine Ev.getR (pc := 137) dX10_takePromise_137 fl_X10_44 sh_79 rfl ?_
        refine Ev.iload_n (pc := 140) dX10_takePromise_140 rfl rfl ?_
        obtain ⟨c37, h⟩ := ckA_elim h
        refine Ev.iald (pc := 141) dX10_takePromise_141 sh_91 c37 ?_
        refine Ev.aload_n (pc := 142) dX10_takePromise_142 rfl rfl ?_
        refine Ev.getI (pc := 143) dX10_takePromise_143 fl_X10_133 sh_79 rfl ?_
        by_cases c38 : (σ33 79 9) ≤ (σ33 91 x3.toNatClampNeg)
        · replace h := (if_pos c38).symm.trans h
          refine Ev.icmp_ge_t (pc := 146) (tgt := 153) dX10_takePromise_146 rfl c38 ?_
          refine Ev.iconst (pc := 153) (v := 0) dX10_takePromise_153 ki_0 ?_
          exact Ev.weak2 (lj_X10_takePromise_154 N _ _ _ _ h) (lsubS (lsubN (lsubN (lsubN lsubE))))
        · replace h := (if_neg c38).symm.trans h
          refine Ev.icmp_ge_f (pc := 146) dX10_takePromise_146 ⟨153, rfl⟩ c38 ?_
          exact Ev.weak2 (lj_X10_takePromise_149 N _ _ _ h) (lsubS (lsubN (lsubN (lsubN lsubE))))
theorem e_X10_takePromise (N : Nat) (a1 : Int32) (σ : St) (v : Unit) (w : St) (h : o_X10_takePromise N a1 σ = some (v, w)) : Ev md_X10_takePromise 2 0 (lvE [vR 79, vI a1] 4) [] SH σ (none, SH, w) := by
  show Ev md_X10_takePromise 2 0 [some (vR 79), some (vI a1), none, none] [] SH σ (none, SH, w)
  unfold o_X10_takePromise at h
  refine Ev.aload_n (pc := 0) dX10_takePromise_0 rfl rfl ?_
  refine Ev.aload_n (pc := 1) dX10_takePromise_1 rfl rfl ?_
  refine Ev.getI (pc := 2) dX10_takePromise_2 fl_X10_133 sh_79 rfl ?_
  refine Ev.bipush (pc := 5) (v := 7) dX10_takePromise_5 kb_7 ?_
  by_cases c1 : (7 : Int32) ≤ (σ 79 9)
  · replace h := (if_pos c1).symm.trans h
    refine Ev.icmp_ge_t (pc := 7) (tgt := 14) dX10_takePromise_7 rfl c1 ?_
    refine Ev.iconst (pc := 14) (v := 0) dX10_takePromise_14 ki_0 ?_
    exact Ev.weak2 (lj_X10_takePromise_15 N _ _ _ _ _ h) (lsubS (lsubS (lsubN (lsubN lsubE))))
  · replace h := (if_neg c1).symm.trans h
    refine Ev.icmp_ge_f (pc := 7) dX10_takePromise_7 ⟨14, rfl⟩ c1 ?_
    refine Ev.iconst (pc := 10) (v := 1) dX10_takePromise_10 ki_1 ?_
    refine Ev.goto (pc := 11) (tgt := 15) dX10_takePromise_11 rfl ?_
    exact Ev.weak2 (lj_X10_takePromise_15 N _ _ _ _ _ h) (lsubS (lsubS (lsubN (lsubN lsubE))))
theorem r_X10_takePromise {N : Nat} {a1 : Int32} {σ : St} {v : Unit} {w : St} (h : o_X10_takePromise N a1 σ = some (v, w)) : Rn md_X10_takePromise 2 [vR 79, vI a1] SH σ (none, SH, w) := Rn.of ce_X10_takePromise.1 (Nat.le_of_ble_eq_true rfl) (e_X10_takePromise N _ _ _ _ h)
def j_X10_takeKeeper_14 (N : Nat) (v1 : Int32) (s1 : Int32) (σ : St) : Option (Unit × St) := bt (t_X10_want s1 3 v1 σ) fun q1 => if q1.1 = 0 then (some ((), q1.2)) else (bd (o_X10_takeNumber N 0 ((q1.2 79 6) - 1) q1.2) fun x3 σ4 => ckA (3 + (q1.2 79 8)) 6 (bt (st σ4 84 (3 + (q1.2 79 8)).toNatClampNeg x3) fun σ7 => bd (o_X10_takeNumber N 0 2 σ7) fun x8 σ9 => ckA (3 + (σ7 79 8)) 6 (bt (st σ9 85 (3 + (σ7 79 8)).toNatClampNeg x8) fun σ12 => bt (st σ12 79 8 ((σ12 79 8) + 1)) fun σ13 => some ((), σ13))))
def o_X10_takeKeeper (N : Nat) (a1 : Int32) (σ : St) : Option (Unit × St) := if (3 : Int32) ≤ (σ 79 8) then (j_X10_takeKeeper_14 N a1 0 σ) else (j_X10_takeKeeper_14 N a1 1 σ)
theorem lj_X10_takeKeeper_14 (N : Nat) (v1 : Int32) (s1 : Int32) (σ : St) (v : Unit) (w : St) (h : j_X10_takeKeeper_14 N v1 s1 σ = some (v, w)) : Ev md_X10_takeKeeper 2 14 [some (vR 79), some (vI v1)] [vI s1, vR 79] SH σ (none, SH, w) := by
  unfold j_X10_takeKeeper_14 at h
  refine Ev.iconst (pc := 14) (v := 3) dX10_takeKeeper_14 ki_3 ?_
  refine Ev.iload_n (pc := 15) dX10_takeKeeper_15 rfl rfl ?_
  refine Ev.cVi (pc := 16) (k := 79) (av := [vI s1, vI 3, vI v1]) (rest := []) dX10_takeKeeper_16 ce_X10_want ml_X10_115 rfl sh_79 cl_X10 sh_sc (Nat.le_of_ble_eq_true rfl) (Nat.le_of_ble_eq_true rfl) (r_X10_want _ _ _ _) ?_
  refine Ev.nmQ (fun q1 e9 => ?_)
  replace h := bt_app h q1 e9
  by_cases c2 : q1.1 = 0
  · replace h := (if_pos c2).symm.trans h
    refine Ev.if_eq_t (pc := 19) (tgt := 71) dX10_takeKeeper_19 rfl c2 ?_
    obtain ⟨h1, h2⟩ := oeq h
    subst h1
    subst h2
    exact Ev.ret_v (pc := 71) dX10_takeKeeper_71 rfl
  · replace h := (if_neg c2).symm.trans h
    refine Ev.if_eq_f (pc := 19) dX10_takeKeeper_19 ⟨71, rfl⟩ c2 ?_
    refine Ev.aload_n (pc := 22) dX10_takeKeeper_22 rfl rfl ?_
    refine Ev.getR (pc := 23) dX10_takeKeeper_23 fl_X10_23 sh_79 rfl ?_
    refine Ev.iconst (pc := 26) (v := 3) dX10_takeKeeper_26 ki_3 ?_
    refine Ev.aload_n (pc := 27) dX10_takeKeeper_27 rfl rfl ?_
    refine Ev.getI (pc := 28) dX10_takeKeeper_28 fl_X10_130 sh_79 rfl ?_
    refine Ev.iadd (pc := 31) dX10_takeKeeper_31 ?_
    refine Ev.aload_n (pc := 32) dX10_takeKeeper_32 rfl rfl ?_
    refine Ev.iconst (pc := 33) (v := 0) dX10_takeKeeper_33 ki_0 ?_
    refine Ev.aload_n (pc := 34) dX10_takeKeeper_34 rfl rfl ?_
    refine Ev.getI (pc := 35) dX10_takeKeeper_35 fl_X10_120 sh_79 rfl ?_
    refine Ev.iconst (pc := 38) (v := 1) dX10_takeKeeper_38 ki_1 ?_
    refine Ev.isub (pc := 39) dX10_takeKeeper_39 ?_
    obtain ⟨x3, σ4, g5, h⟩ := bd_elim h
    refine Ev.cVi (pc := 40) (k := 79) (av := [vI 0, vI ((q1.2 79 6) - 1)]) (rest := [vI (3 + (q1.2 79 8)), vR 84]) dX10_takeKeeper_40 ce_X10_takeNumber ml_X10_123 rfl sh_79 cl_X10 sh_sc (Nat.le_of_ble_eq_true rfl) (Nat.le_of_ble_eq_true rfl) (r_X10_takeNumber g5) ?_
    obtain ⟨c6, h⟩ := ckA_elim h
    refine Ev.iast (pc := 43) dX10_takeKeeper_43 sh_84 c6 ?_
    refine Ev.nmS (fun σ7 e9 => ?_)
    replace h := bt_app h σ7 e9
    refine Ev.aload_n (pc := 44) dX10_takeKeeper_44 rfl rfl ?_
    refine Ev.getR (pc := 45) dX10_takeKeeper_45 fl_X10_26 sh_79 rfl ?_
    refine Ev.iconst (pc := 48) (v := 3) dX10_takeKeeper_48 ki_3 ?_
    refine Ev.aload_n (pc := 49) dX10_takeKeeper_49 rfl rfl ?_
    refine Ev.getI (pc := 50) dX10_takeKeeper_50 fl_X10_130 sh_79 rfl ?_
    refine Ev.iadd (pc := 53) dX10_takeKeeper_53 ?_
    refine Ev.aload_n (pc := 54) dX10_takeKeeper_54 rfl rfl ?_
    refine Ev.iconst (pc := 55) (v := 0) dX10_takeKeeper_55 ki_0 ?_
    refine Ev.iconst (pc := 56) (v := 2) dX10_takeKeeper_56 ki_2 ?_
    obtain ⟨x8, σ9, g10, h⟩ := bd_elim h
    refine Ev.cVi (pc := 57) (k := 79) (av := [vI 0, vI 2]) (rest := [vI (3 + (σ7 79 8)), vR 85]) dX10_takeKeeper_57 ce_X10_takeNumber ml_X10_123 rfl sh_79 cl_X10 sh_sc (Nat.le_of_ble_eq_true rfl) (Nat.le_of_ble_eq_true rfl) (r_X10_takeNumber g10) ?_
    obtain ⟨c11, h⟩ := ckA_elim h
    refine Ev.iast (pc := 60) dX10_takeKeeper_60 sh_85 c11 ?_
    refine Ev.nmS (fun σ12 e9 => ?_)
    replace h := bt_app h σ12 e9
    refine Ev.aload_n (pc := 61) dX10_takeKeeper_61 rfl rfl ?_
    refine Ev.dup (pc := 62) dX10_takeKeeper_62 rfl ?_
    refine Ev.getI (pc := 63) dX10_takeKeeper_63 fl_X10_130 sh_79 rfl ?_
    refine Ev.iconst (pc := 66) (v := 1) dX10_takeKeeper_66 ki_1 ?_
    refine Ev.iadd (pc := 67) dX10_takeKeeper_67 ?_
    refine Ev.putI (pc := 68) dX10_takeKeeper_68 pl_X10_130 sh_79 rfl rfl rfl ?_
    refine Ev.nmS (fun σ13 e9 => ?_)
    replace h := bt_app h σ13 e9
    obtain ⟨h1, h2⟩ := oeq h
    subst h1
    subst h2
    exact Ev.ret_v (pc := 71) dX10_takeKeeper_71 rfl
theorem e_X10_takeKeeper (N : Nat) (a1 : Int32) (σ : St) (v : Unit) (w : St) (h : o_X10_takeKeeper N a1 σ = some (v, w)) : Ev md_X10_takeKeeper 2 0 (lvE [vR 79, vI a1] 2) [] SH σ (none, SH, w) := by
  show Ev md_X10_takeKeeper 2 0 [some (vR 79), some (vI a1)] [] SH σ (none, SH, w)
  unfold o_X10_takeKeeper at h
  refine Ev.aload_n (pc := 0) dX10_takeKeeper_0 rfl rfl ?_
  refine Ev.aload_n (pc := 1) dX10_takeKeeper_1 rfl rfl ?_
  refine Ev.getI (pc := 2) dX10_takeKeeper_2 fl_X10_130 sh_79 rfl ?_
  refine Ev.iconst (pc := 5) (v := 3) dX10_takeKeeper_5 ki_3 ?_
  by_cases c1 : (3 : Int32) ≤ (σ 79 8)
  · replace h := (if_pos c1).symm.trans h
    refine Ev.icmp_ge_t (pc := 6) (tgt := 13) dX10_takeKeeper_6 rfl c1 ?_
    refine Ev.iconst (pc := 13) (v := 0) dX10_takeKeeper_13 ki_0 ?_
    exact Ev.weak2 (lj_X10_takeKeeper_14 N _ _ _ _ _ h) (lsubS (lsubS lsubE))
  · replace h := (if_neg c1).symm.trans h
    refine Ev.icmp_ge_f (pc := 6) dX10_takeKeeper_6 ⟨13, rfl⟩ c1 ?_
    refine Ev.iconst (pc := 9) (v := 1) dX10_takeKeeper_9 ki_1 ?_
    refine Ev.goto (pc := 10) (tgt := 14) dX10_takeKeeper_10 rfl ?_
    exact Ev.weak2 (lj_X10_takeKeeper_14 N _ _ _ _ _ h) (lsubS (lsubS lsubE))
theorem r_X10_takeKeeper {N : Nat} {a1 : Int32} {σ : St} {v : Unit} {w : St} (h : o_X10_takeKeeper N a1 σ = some (v, w)) : Rn md_X10_takeKeeper 2 [vR 79, vI a1] SH σ (none, SH, w) := Rn.of ce_X10_takeKeeper.1 (Nat.le_of_ble_eq_true rfl) (e_X10_takeKeeper N _ _ _ _ h)
def j_X10_takeRoad_166 (N : Nat)  (σ : St) : Option (Unit × St) := bt (st σ 79 7 ((σ 79 7) + 1)) fun σ1 => some ((), σ1)
def j_X10_takeRoad_139 (N : Nat) (v2 : Int32) (v3 : Int32) (s1 : Int32) (s2 : Int32) (σ : St) : Option (Unit × St) := ckA s1 50 (bt (st σ 82 s1.toNatClampNeg s2) fun σ2 => ckA ((25 + (5 * v2)) + v3) 50 (ckA ((25 + (5 * v3)) + v2) 50 (bt (st σ2 82 ((25 + (5 * v3)) + v2).toNatClampNeg (σ2 82 ((25 + (5 * v2)) + v3).toNatClampNeg)) fun σ5 => j_X10_takeRoad_166 N σ5)))
def j_X10_takeRoad_65 (N : Nat) (v2 : Int32) (v3 : Int32) (s1 : Int32) (σ : St) : Option (Unit × St) := bt (t_X10_want s1 4 (σ 79 25) σ) fun q1 => bt (q1.1) fun x2 => bd (o_X10_takeNumber N 1 9 q1.2) fun x3 σ4 => if (σ4 79 26) = 0 then (ckA ((25 + (5 * v2)) + v3) 50 (if (σ4 82 ((25 + (5 * v2)) + v3).toNatClampNeg) ≤ x3 then (ckA ((25 + (5 * v2)) + v3) 50 (j_X10_takeRoad_139 N v2 v3 ((25 + (5 * v2)) + v3) (σ4 82 ((25 + (5 * v2)) + v3).toNatClampNeg) σ4)) else (j_X10_takeRoad_139 N v2 v3 ((25 + (5 * v2)) + v3) x3 σ4))) else (j_X10_takeRoad_166 N σ4)
def j_X10_takeRoad_60 (N : Nat) (v2 : Int32) (v3 : Int32) (σ : St) : Option (Unit × St) := j_X10_takeRoad_65 N v2 v3 1 σ
def j_X10_takeRoad_15 (N : Nat) (v1 : Int32) (s1 : Int32) (σ : St) : Option (Unit × St) := bt (t_X10_want s1 3 v1 σ) fun q1 => if q1.1 = 0 then (some ((), q1.2)) else (bd (o_X10_takeNumber N 0 ((q1.2 79 6) - 1) q1.2) fun x3 σ4 => bd (o_X10_takeNumber N 0 ((σ4 79 6) - 1) σ4) fun x6 σ7 => if (0 : Int32) < (σ7 79 26) then (j_X10_takeRoad_60 N x3 x6 σ7) else (if x3 = x6 then (j_X10_takeRoad_65 N x3 x6 0 σ7) else (j_X10_takeRoad_60 N x3 x6 σ7)))
def o_X10_takeRoad (N : Nat) (a1 : Int32) (σ : St) : Option (Unit × St) := if (8 : Int32) ≤ (σ 79 7) then (j_X10_takeRoad_15 N a1 0 σ) else (j_X10_takeRoad_15 N a1 1 σ)
theorem lj_X10_takeRoad_166 (N : Nat)  (σ : St) (v : Unit) (w : St) (h : j_X10_takeRoad_166 N  σ = some (v, w)) : Ev md_X10_takeRoad 2 166 [some (vR 79), none, none, none, none, none] [] SH σ (none, SH, w) := by
  unfold j_X10_takeRoad_166 at h
  refine Ev.aload_n (pc := 166) dX10_takeRoad_166 rfl rfl ?_
  refine Ev.dup (pc := 167) dX10_takeRoad_167 rfl ?_
  refine Ev.getI (pc := 168) dX10_takeRoad_168 fl_X10_127 sh_79 rfl ?_
  refine Ev.iconst (pc := 171) (v := 1) dX10_takeRoad_171 ki_1 ?_
  refine Ev.iadd (pc := 172) dX10_takeRoad_172 ?_
  refine Ev.putI (pc := 173) dX10_takeRoad_173 pl_X10_127 sh_79 rfl rfl rfl ?_
  refine Ev.nmS (fun σ1 e9 => ?_)
  replace h := bt_app h σ1 e9
  obtain ⟨h1, h2⟩ := oeq h
  subst h1
  subst h2
  exact Ev.ret_v (pc := 176) dX10_takeRoad_176 rfl
theorem lj_X10_takeRoad_139 (N : Nat) (v2 : Int32) (v3 : Int32) (s1 : Int32) (s2 : Int32) (σ : St) (v : Unit) (w : St) (h : j_X10_takeRoad_139 N v2 v3 s1 s2 σ = some (v, w)) : Ev md_X10_takeRoad 2 139 [some (vR 79), none, some (vI v2), some (vI v3), none, none] [vI s2, vI s1, vR 82] SH σ (none, SH, w) := by
  unfold j_X10_takeRoad_139 at h
  obtain ⟨c1, h⟩ := ckA_elim h
  refine Ev.iast (pc := 139) dX10_takeRoad_139 sh_82 c1 ?_
  refine Ev.nmS (fun σ2 e9 => ?_)
  replace h := bt_app h σ2 e9
  refine Ev.aload_n (pc := 140) dX10_takeRoad_140 rfl rfl ?_
  refine Ev.getR (pc := 141) dX10_takeRoad_141 fl_X10_17 sh_79 rfl ?_
  refine Ev.bipush (pc := 144) (v := 25) dX10_takeRoad_144 kb_25 ?_
  refine Ev.iconst (pc := 146) (v := 5) dX10_takeRoad_146 ki_5 ?_
  refine Ev.iload_n (pc := 147) dX10_takeRoad_147 rfl rfl ?_
  refine Ev.imul (pc := 148) dX10_takeRoad_148 ?_
  refine Ev.iadd (pc := 149) dX10_takeRoad_149 ?_
  refine Ev.iload_n (pc := 150) dX10_takeRoad_150 rfl rfl ?_
  refine Ev.iadd (pc := 151) dX10_takeRoad_151 ?_
  refine Ev.aload_n (pc := 152) dX10_takeRoad_152 rfl rfl ?_
  refine Ev.getR (pc := 153) dX10_takeRoad_153 fl_X10_17 sh_79 rfl ?_
  refine Ev.bipush (pc := 156) (v := 25) dX10_takeRoad_156 kb_25 ?_
  refine Ev.iconst (pc := 158) (v := 5) dX10_takeRoad_158 ki_5 ?_
  refine Ev.iload_n (pc := 159) dX10_takeRoad_159 rfl rfl ?_
  refine Ev.imul (pc := 160) dX10_takeRoad_160 ?_
  refine Ev.iadd (pc := 161) dX10_takeRoad_161 ?_
  refine Ev.iload_n (pc := 162) dX10_takeRoad_162 rfl rfl ?_
  refine Ev.iadd (pc := 163) dX10_takeRoad_163 ?_
  obtain ⟨c3, h⟩ := ckA_elim h
  refine Ev.iald (pc := 164) dX10_takeRoad_164 sh_82 c3 ?_
  obtain ⟨c4, h⟩ := ckA_elim h
  refine Ev.iast (pc := 165) dX10_takeRoad_165 sh_82 c4 ?_
  refine Ev.nmS (fun σ5 e9 => ?_)
  replace h := bt_app h σ5 e9
  exact Ev.weak2 (lj_X10_takeRoad_166 N _ _ _ h) (lsubS (lsubN (lsubN (lsubN (lsubN (lsubN lsubE))))))
theorem lj_X10_takeRoad_65 (N : Nat) (v2 : Int32) (v3 : Int32) (s1 : Int32) (σ : St) (v : Unit) (w : St) (h : j_X10_takeRoad_65 N v2 v3 s1 σ = some (v, w)) : Ev md_X10_takeRoad 2 65 [some (vR 79), none, some (vI v2), some (vI v3), none, none] [vI s1, vR 79] SH σ (none, SH, w) := by
  unfold j_X10_takeRoad_65 at h
  refine Ev.iconst (pc := 65) (v := 4) dX10_takeRoad_65 ki_4 ?_
  refine Ev.aload_n (pc := 66) dX10_takeRoad_66 rfl rfl ?_
  refine Ev.getI (pc := 67) dX10_takeRoad_67 fl_X10_108 sh_79 rfl ?_
  refine Ev.cVi (pc := 70) (k := 79) (av := [vI s1, vI 4, vI (σ 79 25)]) (rest := []) dX10_takeRoad_70 ce_X10_want ml_X10_115 rfl sh_79 cl_X10 sh_sc (Nat.le_of_ble_eq_true rfl) (Nat.le_of_ble_eq_true rfl) (r_X10_want _ _ _ _) ?_
  refine Ev.nmQ (fun q1 e9 => ?_)
  replace h := bt_app h q1 e9
  refine Ev.nmI (fun x2 e9 => ?_)
  replace h := bt_app h x2 e9
  refine Ev.istore (pc := 73) (lv' := [some (vR 79), none, some (vI v2), some (vI v3), some (vI x2), none]) dX10_takeRoad_73 (lt9 rfl) rfl rfl ?_
  refine Ev.aload_n (pc := 75) dX10_takeRoad_75 rfl rfl ?_
  refine Ev.iconst (pc := 76) (v := 1) dX10_takeRoad_76 ki_1 ?_
  refine Ev.bipush (pc := 77) (v := 9) dX10_takeRoad_77 kb_9 ?_
  obtain ⟨x3, σ4, g5, h⟩ := bd_elim h
  refine Ev.cVi (pc := 79) (k := 79) (av := [vI 1, vI 9]) (rest := []) dX10_takeRoad_79 ce_X10_takeNumber ml_X10_123 rfl sh_79 cl_X10 sh_sc (Nat.le_of_ble_eq_true rfl) (Nat.le_of_ble_eq_true rfl) (r_X10_takeNumber g5) ?_
  refine Ev.istore (pc := 82) (lv' := [some (vR 79), none, some (vI v2), some (vI v3), some (vI x2), some (vI x3)]) dX10_takeRoad_82 (lt9 rfl) rfl rfl ?_
  refine Ev.aload_n (pc := 84) dX10_takeRoad_84 rfl rfl ?_
  refine Ev.getI (pc := 85) dX10_takeRoad_85 fl_X10_101 sh_79 rfl ?_
  by_cases c6 : (σ4 79 26) = 0
  · replace h := (if_pos c6).symm.trans h
    refine Ev.if_ne_f (pc := 88) dX10_takeRoad_88 ⟨166, rfl⟩ c6 ?_
    refine Ev.aload_n (pc := 91) dX10_takeRoad_91 rfl rfl ?_
    refine Ev.getR (pc := 92) dX10_takeRoad_92 fl_X10_17 sh_79 rfl ?_
    refine Ev.bipush (pc := 95) (v := 25) dX10_takeRoad_95 kb_25 ?_
    refine Ev.iconst (pc := 97) (v := 5) dX10_takeRoad_97 ki_5 ?_
    refine Ev.iload_n (pc := 98) dX10_takeRoad_98 rfl rfl ?_
    refine Ev.imul (pc := 99) dX10_takeRoad_99 ?_
    refine Ev.iadd (pc := 100) dX10_takeRoad_100 ?_
    refine Ev.iload_n (pc := 101) dX10_takeRoad_101 rfl rfl ?_
    refine Ev.iadd (pc := 102) dX10_takeRoad_102 ?_
    refine Ev.iload (pc := 103) dX10_takeRoad_103 rfl ?_
    refine Ev.aload_n (pc := 105) dX10_takeRoad_105 rfl rfl ?_
    refine Ev.getR (pc := 106) dX10_takeRoad_106 fl_X10_17 sh_79 rfl ?_
    refine Ev.bipush (pc := 109) (v := 25) dX10_takeRoad_109 kb_25 ?_
    refine Ev.iconst (pc := 111) (v := 5) dX10_takeRoad_111 ki_5 ?_
    refine Ev.iload_n (pc := 112) dX10_takeRoad_112 rfl rfl ?_
    refine Ev.imul (pc := 113) dX10_takeRoad_113 ?_
    refine Ev.iadd (pc := 114) dX10_takeRoad_114 ?_
    refine Ev.iload_n (pc := 115) dX10_takeRoad_115 rfl rfl ?_
    refine Ev.iadd (pc := 116) dX10_takeRoad_116 ?_
    obtain ⟨c7, h⟩ := ckA_elim h
    refine Ev.iald (pc := 117) dX10_takeRoad_117 sh_82 c7 ?_
    by_cases c8 : (σ4 82 ((25 + (5 * v2)) + v3).toNatClampNeg) ≤ x3
    · replace h := (if_pos c8).symm.trans h
      refine Ev.icmp_ge_t (pc := 118) (tgt := 126) dX10_takeRoad_118 rfl c8 ?_
      refine Ev.aload_n (pc := 126) dX10_takeRoad_126 rfl rfl ?_
      refine Ev.getR (pc := 127) dX10_takeRoad_127 fl_X10_17 sh_79 rfl ?_
      refine Ev.bipush (pc := 130) (v := 25) dX10_takeRoad_130 kb_25 ?_
      refine Ev.iconst (pc := 132) (v := 5) dX10_takeRoad_132 ki_5 ?_
      refine Ev.iload_n (pc := 133) dX10_takeRoad_133 rfl rfl ?_
      refine Ev.imul (pc := 134) dX10_takeRoad_134 ?_
      refine Ev.iadd (pc := 135) dX10_takeRoad_135 ?_
      refine Ev.iload_n (pc := 136) dX10_takeRoad_136 rfl rfl ?_
      refine Ev.iadd (pc := 137) dX10_takeRoad_137 ?_
      obtain ⟨c9, h⟩ := ckA_elim h
      refine Ev.iald (pc := 138) dX10_takeRoad_138 sh_82 c9 ?_
      exact Ev.weak2 (lj_X10_takeRoad_139 N _ _ _ _ _ _ _ h) (lsubS (lsubN (lsubS (lsubS (lsubN (lsubN lsubE))))))
    · replace h := (if_neg c8).symm.trans h
      refine Ev.icmp_ge_f (pc := 118) dX10_takeRoad_118 ⟨126, rfl⟩ c8 ?_
      refine Ev.iload (pc := 121) dX10_takeRoad_121 rfl ?_
      refine Ev.goto (pc := 123) (tgt := 139) dX10_takeRoad_123 rfl ?_
      exact Ev.weak2 (lj_X10_takeRoad_139 N _ _ _ _ _ _ _ h) (lsubS (lsubN (lsubS (lsubS (lsubN (lsubN lsubE))))))
  · replace h := (if_neg c6).symm.trans h
    refine Ev.if_ne_t (pc := 88) (tgt := 166) dX10_takeRoad_88 rfl c6 ?_
    exact Ev.weak2 (lj_X10_takeRoad_166 N _ _ _ h) (lsubS (lsubN (lsubN (lsubN (lsubN (lsubN lsubE))))))
theorem lj_X10_takeRoad_60 (N : Nat) (v2 : Int32) (v3 : Int32) (σ : St) (v : Unit) (w : St) (h : j_X10_takeRoad_60 N v2 v3 σ = some (v, w)) : Ev md_X10_takeRoad 2 60 [some (vR 79), none, some (vI v2), some (vI v3), none, none] [vR 79] SH σ (none, SH, w) := by
  unfold j_X10_takeRoad_60 at h
  refine Ev.iconst (pc := 60) (v := 1) dX10_takeRoad_60 ki_1 ?_
  refine Ev.goto (pc := 61) (tgt := 65) dX10_takeRoad_61 rfl ?_
  exact Ev.weak2 (lj_X10_takeRoad_65 N _ _ _ _ _ _ h) (lsubS (lsubN (lsubS (lsubS (lsubN (lsubN lsubE))))))
theorem lj_X10_takeRoad_15 (N : Nat) (v1 : Int32) (s1 : Int32) (σ : St) (v : Unit) (w : St) (h : j_X10_takeRoad_15 N v1 s1 σ = some (v, w)) : Ev md_X10_takeRoad 2 15 [some (vR 79), some (vI v1), none, none, none, none] [vI s1, vR 79] SH σ (none, SH, w) := by
  unfold j_X10_takeRoad_15 at h
  refine Ev.iconst (pc := 15) (v := 3) dX10_takeRoad_15 ki_3 ?_
  refine Ev.iload_n (pc := 16) dX10_takeRoad_16 rfl rfl ?_
  refine Ev.cVi (pc := 17) (k := 79) (av := [vI s1, vI 3, vI v1]) (rest := []) dX10_takeRoad_17 ce_X10_want ml_X10_115 rfl sh_79 cl_X10 sh_sc (Nat.le_of_ble_eq_true rfl) (Nat.le_of_ble_eq_true rfl) (r_X10_want _ _ _ _) ?_
  refine Ev.nmQ (fun q1 e9 => ?_)
  replace h := bt_app h q1 e9
  by_cases c2 : q1.1 = 0
  · replace h := (if_pos c2).symm.trans h
    refine Ev.if_eq_t (pc := 20) (tgt := 176) dX10_takeRoad_20 rfl c2 ?_
    obtain ⟨h1, h2⟩ := oeq h
    subst h1
    subst h2
    exact Ev.ret_v (pc := 176) dX10_takeRoad_176 rfl
  · replace h := (if_neg c2).symm.trans h
    refine Ev.if_eq_f (pc := 20) dX10_takeRoad_20 ⟨176, rfl⟩ c2 ?_
    refine Ev.aload_n (pc := 23) dX10_takeRoad_23 rfl rfl ?_
    refine Ev.iconst (pc := 24) (v := 0) dX10_takeRoad_24 ki_0 ?_
    refine Ev.aload_n (pc := 25) dX10_takeRoad_25 rfl rfl ?_
    refine Ev.getI (pc := 26) dX10_takeRoad_26 fl_X10_120 sh_79 rfl ?_
    refine Ev.iconst (pc := 29) (v := 1) dX10_takeRoad_29 ki_1 ?_
    refine Ev.isub (pc := 30) dX10_takeRoad_30 ?_
    obtain ⟨x3, σ4, g5, h⟩ := bd_elim h
    refine Ev.cVi (pc := 31) (k := 79) (av := [vI 0, vI ((q1.2 79 6) - 1)]) (rest := []) dX10_takeRoad_31 ce_X10_takeNumber ml_X10_123 rfl sh_79 cl_X10 sh_sc (Nat.le_of_ble_eq_true rfl) (Nat.le_of_ble_eq_true rfl) (r_X10_takeNumber g5) ?_
    refine Ev.istore_n (pc := 34) (lv' := [some (vR 79), some (vI v1), some (vI x3), none, none, none]) dX10_takeRoad_34 rfl (lt9 rfl) rfl rfl ?_
    refine Ev.aload_n (pc := 35) dX10_takeRoad_35 rfl rfl ?_
    refine Ev.iconst (pc := 36) (v := 0) dX10_takeRoad_36 ki_0 ?_
    refine Ev.aload_n (pc := 37) dX10_takeRoad_37 rfl rfl ?_
    refine Ev.getI (pc := 38) dX10_takeRoad_38 fl_X10_120 sh_79 rfl ?_
    refine Ev.iconst (pc := 41) (v := 1) dX10_takeRoad_41 ki_1 ?_
    refine Ev.isub (pc := 42) dX10_takeRoad_42 ?_
    obtain ⟨x6, σ7, g8, h⟩ := bd_elim h
    refine Ev.cVi (pc := 43) (k := 79) (av := [vI 0, vI ((σ4 79 6) - 1)]) (rest := []) dX10_takeRoad_43 ce_X10_takeNumber ml_X10_123 rfl sh_79 cl_X10 sh_sc (Nat.le_of_ble_eq_true rfl) (Nat.le_of_ble_eq_true rfl) (r_X10_takeNumber g8) ?_
    refine Ev.istore_n (pc := 46) (lv' := [some (vR 79), some (vI v1), some (vI x3), some (vI x6), none, none]) dX10_takeRoad_46 rfl (lt9 rfl) rfl rfl ?_
    refine Ev.aload_n (pc := 47) dX10_takeRoad_47 rfl rfl ?_
    refine Ev.aload_n (pc := 48) dX10_takeRoad_48 rfl rfl ?_
    refine Ev.getI (pc := 49) dX10_takeRoad_49 fl_X10_101 sh_79 rfl ?_
    by_cases c9 : (0 : Int32) < (σ7 79 26)
    · replace h := (if_pos c9).symm.trans h
      refine Ev.if_gt_t (pc := 52) (tgt := 60) dX10_takeRoad_52 rfl c9 ?_
      exact Ev.weak2 (lj_X10_takeRoad_60 N _ _ _ _ _ h) (lsubS (lsubN (lsubS (lsubS (lsubN (lsubN lsubE))))))
    · replace h := (if_neg c9).symm.trans h
      refine Ev.if_gt_f (pc := 52) dX10_takeRoad_52 ⟨60, rfl⟩ c9 ?_
      refine Ev.iload_n (pc := 55) dX10_takeRoad_55 rfl rfl ?_
      refine Ev.iload_n (pc := 56) dX10_takeRoad_56 rfl rfl ?_
      by_cases c10 : x3 = x6
      · replace h := (if_pos c10).symm.trans h
        refine Ev.icmp_eq_t (pc := 57) (tgt := 64) dX10_takeRoad_57 rfl c10 ?_
        refine Ev.iconst (pc := 64) (v := 0) dX10_takeRoad_64 ki_0 ?_
        exact Ev.weak2 (lj_X10_takeRoad_65 N _ _ _ _ _ _ h) (lsubS (lsubN (lsubS (lsubS (lsubN (lsubN lsubE))))))
      · replace h := (if_neg c10).symm.trans h
        refine Ev.icmp_eq_f (pc := 57) dX10_takeRoad_57 ⟨64, rfl⟩ c10 ?_
        exact Ev.weak2 (lj_X10_takeRoad_60 N _ _ _ _ _ h) (lsubS (lsubN (lsubS (lsubS (lsubN (lsubN lsubE))))))
theorem e_X10_takeRoad (N : Nat) (a1 : Int32) (σ : St) (v : Unit) (w : St) (h : o_X10_takeRoad N a1 σ = some (v, w)) : Ev md_X10_takeRoad 2 0 (lvE [vR 79, vI a1] 6) [] SH σ (none, SH, w) := by
  show Ev md_X10_takeRoad 2 0 [some (vR 79), some (vI a1), none, none, none, none] [] SH σ (none, SH, w)
  unfold o_X10_takeRoad at h
  refine Ev.aload_n (pc := 0) dX10_takeRoad_0 rfl rfl ?_
  refine Ev.aload_n (pc := 1) dX10_takeRoad_1 rfl rfl ?_
  refine Ev.getI (pc := 2) dX10_takeRoad_2 fl_X10_127 sh_79 rfl ?_
  refine Ev.bipush (pc := 5) (v := 8) dX10_takeRoad_5 kb_8 ?_
  by_cases c1 : (8 : Int32) ≤ (σ 79 7)
  · replace h := (if_pos c1).symm.trans h
    refine Ev.icmp_ge_t (pc := 7) (tgt := 14) dX10_takeRoad_7 rfl c1 ?_
    refine Ev.iconst (pc := 14) (v := 0) dX10_takeRoad_14 ki_0 ?_
    exact Ev.weak2 (lj_X10_takeRoad_15 N _ _ _ _ _ h) (lsubS (lsubS (lsubN (lsubN (lsubN (lsubN lsubE))))))
  · replace h := (if_neg c1).symm.trans h
    refine Ev.icmp_ge_f (pc := 7) dX10_takeRoad_7 ⟨14, rfl⟩ c1 ?_
    refine Ev.iconst (pc := 10) (v := 1) dX10_takeRoad_10 ki_1 ?_
    refine Ev.goto (pc := 11) (tgt := 15) dX10_takeRoad_11 rfl ?_
    exact Ev.weak2 (lj_X10_takeRoad_15 N _ _ _ _ _ h) (lsubS (lsubS (lsubN (lsubN (lsubN (lsubN lsubE))))))
theorem r_X10_takeRoad {N : Nat} {a1 : Int32} {σ : St} {v : Unit} {w : St} (h : o_X10_takeRoad N a1 σ = some (v, w)) : Rn md_X10_takeRoad 2 [vR 79, vI a1] SH σ (none, SH, w) := Rn.of ce_X10_takeRoad.1 (Nat.le_of_ble_eq_true rfl) (e_X10_takeRoad N _ _ _ _ h)
def j_X10_takeTowns_13 (N : Nat) (v1 : Int32) (s1 : Int32) (σ : St) : Option (Unit × St) := bt (t_X10_want s1 3 v1 σ) fun q1 => if q1.1 = 0 then (some ((), q1.2)) else (bd (o_X10_takeNumber N 1 5 q1.2) fun x3 σ4 => bt (st σ4 79 6 x3) fun σ6 => some ((), σ6))
def o_X10_takeTowns (N : Nat) (a1 : Int32) (σ : St) : Option (Unit × St) := if (σ 79 6) = 0 then (j_X10_takeTowns_13 N a1 1 σ) else (j_X10_takeTowns_13 N a1 0 σ)
theorem lj_X10_takeTowns_13 (N : Nat) (v1 : Int32) (s1 : Int32) (σ : St) (v : Unit) (w : St) (h : j_X10_takeTowns_13 N v1 s1 σ = some (v, w)) : Ev md_X10_takeTowns 2 13 [some (vR 79), some (vI v1)] [vI s1, vR 79] SH σ (none, SH, w) := by
  unfold j_X10_takeTowns_13 at h
  refine Ev.iconst (pc := 13) (v := 3) dX10_takeTowns_13 ki_3 ?_
  refine Ev.iload_n (pc := 14) dX10_takeTowns_14 rfl rfl ?_
  refine Ev.cVi (pc := 15) (k := 79) (av := [vI s1, vI 3, vI v1]) (rest := []) dX10_takeTowns_15 ce_X10_want ml_X10_115 rfl sh_79 cl_X10 sh_sc (Nat.le_of_ble_eq_true rfl) (Nat.le_of_ble_eq_true rfl) (r_X10_want _ _ _ _) ?_
  refine Ev.nmQ (fun q1 e9 => ?_)
  replace h := bt_app h q1 e9
  by_cases c2 : q1.1 = 0
  · replace h := (if_pos c2).symm.trans h
    refine Ev.if_eq_t (pc := 18) (tgt := 31) dX10_takeTowns_18 rfl c2 ?_
    obtain ⟨h1, h2⟩ := oeq h
    subst h1
    subst h2
    exact Ev.ret_v (pc := 31) dX10_takeTowns_31 rfl
  · replace h := (if_neg c2).symm.trans h
    refine Ev.if_eq_f (pc := 18) dX10_takeTowns_18 ⟨31, rfl⟩ c2 ?_
    refine Ev.aload_n (pc := 21) dX10_takeTowns_21 rfl rfl ?_
    refine Ev.aload_n (pc := 22) dX10_takeTowns_22 rfl rfl ?_
    refine Ev.iconst (pc := 23) (v := 1) dX10_takeTowns_23 ki_1 ?_
    refine Ev.iconst (pc := 24) (v := 5) dX10_takeTowns_24 ki_5 ?_
    obtain ⟨x3, σ4, g5, h⟩ := bd_elim h
    refine Ev.cVi (pc := 25) (k := 79) (av := [vI 1, vI 5]) (rest := [vR 79]) dX10_takeTowns_25 ce_X10_takeNumber ml_X10_123 rfl sh_79 cl_X10 sh_sc (Nat.le_of_ble_eq_true rfl) (Nat.le_of_ble_eq_true rfl) (r_X10_takeNumber g5) ?_
    refine Ev.putI (pc := 28) dX10_takeTowns_28 pl_X10_120 sh_79 rfl rfl rfl ?_
    refine Ev.nmS (fun σ6 e9 => ?_)
    replace h := bt_app h σ6 e9
    obtain ⟨h1, h2⟩ := oeq h
    subst h1
    subst h2
    exact Ev.ret_v (pc := 31) dX10_takeTowns_31 rfl
theorem e_X10_takeTowns (N : Nat) (a1 : Int32) (σ : St) (v : Unit) (w : St) (h : o_X10_takeTowns N a1 σ = some (v, w)) : Ev md_X10_takeTowns 2 0 (lvE [vR 79, vI a1] 2) [] SH σ (none, SH, w) := by
  show Ev md_X10_takeTowns 2 0 [some (vR 79), some (vI a1)] [] SH σ (none, SH, w)
  unfold o_X10_takeTowns at h
  refine Ev.aload_n (pc := 0) dX10_takeTowns_0 rfl rfl ?_
  refine Ev.aload_n (pc := 1) dX10_takeTowns_1 rfl rfl ?_
  refine Ev.getI (pc := 2) dX10_takeTowns_2 fl_X10_120 sh_79 rfl ?_
  by_cases c1 : (σ 79 6) = 0
  · replace h := (if_pos c1).symm.trans h
    refine Ev.if_ne_f (pc := 5) dX10_takeTowns_5 ⟨12, rfl⟩ c1 ?_
    refine Ev.iconst (pc := 8) (v := 1) dX10_takeTowns_8 ki_1 ?_
    refine Ev.goto (pc := 9) (tgt := 13) dX10_takeTowns_9 rfl ?_
    exact Ev.weak2 (lj_X10_takeTowns_13 N _ _ _ _ _ h) (lsubS (lsubS lsubE))
  · replace h := (if_neg c1).symm.trans h
    refine Ev.if_ne_t (pc := 5) (tgt := 12) dX10_takeTowns_5 rfl c1 ?_
    refine Ev.iconst (pc := 12) (v := 0) dX10_takeTowns_12 ki_0 ?_
    exact Ev.weak2 (lj_X10_takeTowns_13 N _ _ _ _ _ h) (lsubS (lsubS lsubE))
theorem r_X10_takeTowns {N : Nat} {a1 : Int32} {σ : St} {v : Unit} {w : St} (h : o_X10_takeTowns N a1 σ = some (v, w)) : Rn md_X10_takeTowns 2 [vR 79, vI a1] SH σ (none, SH, w) := Rn.of ce_X10_takeTowns.1 (Nat.le_of_ble_eq_true rfl) (e_X10_takeTowns N _ _ _ _ h)
