section RULES
variable {M : MD} {d pc : Nat} {lv : List (Option MV)} {stk : List MV} {sh : Sh} {σ : St} {r : Option MV × Sh × St}
theorem Ev.iconst {n : Int} {v : Int32} (hd : decode M.2.1 pc = .ok (.iconst n, 1)) (hv : Int32.ofInt n = v) (h : Ev M d (pc + 1) lv (vI v :: stk) sh σ r) : Ev M d pc lv (stk) sh σ r :=
  Ev.mk0 h fun p l e R s m args below meth c A D cI cZ cQ F cells slots H locs ad ls Q _ _ hL hS k => lv_iconst F.1 F.2.1 hd hv k
theorem Ev.bipush {n : Int} {v : Int32} (hd : decode M.2.1 pc = .ok (.bipush n, 2)) (hv : (Int8.ofInt n).toInt32 = v) (h : Ev M d (pc + 2) lv (vI v :: stk) sh σ r) : Ev M d pc lv (stk) sh σ r :=
  Ev.mk0 h fun p l e R s m args below meth c A D cI cZ cQ F cells slots H locs ad ls Q _ _ hL hS k => lv_bipush F.1 F.2.1 hd hv k
theorem Ev.sipush {n : Int} {v : Int32} (hd : decode M.2.1 pc = .ok (.sipush n, 3)) (hv : (Int16.ofInt n).toInt32 = v) (h : Ev M d (pc + 3) lv (vI v :: stk) sh σ r) : Ev M d pc lv (stk) sh σ r :=
  Ev.mk0 h fun p l e R s m args below meth c A D cI cZ cQ F cells slots H locs ad ls Q _ _ hL hS k => lv_sipush F.1 F.2.1 hd hv k
theorem Ev.lconst {n : Fin 2} {v : Int64} (hd : decode M.2.1 pc = .ok (.lconst n, 1)) (hv : Int64.ofNat (n : Nat) = v) (h : Ev M d (pc + 1) lv (vL v :: stk) sh σ r) : Ev M d pc lv (stk) sh σ r :=
  Ev.mk0 h fun p l e R s m args below meth c A D cI cZ cQ F cells slots H locs ad ls Q _ _ hL hS k => lv_lconst F.1 F.2.1 hd hv k
theorem Ev.ldc {index : Nat} {v : Int32} (hd : decode M.2.1 pc = .ok (.ldc index, 2)) (hc : Cond.constant M.1.cls index v ∈ wsL_law) (h : Ev M d (pc + 2) lv (vI v :: stk) sh σ r) : Ev M d pc lv (stk) sh σ r :=
  Ev.mk0 h fun p l e R s m args below meth c A D cI cZ cQ F cells slots H locs ad ls Q _ _ hL hS k => lv_ldc F.1 F.2.1 F.2.2.2.1 (F.2.2.2.2.1 _ hc) hd k
theorem Ev.ldcw {index : Nat} {v : Int32} (hd : decode M.2.1 pc = .ok (.ldc_w index, 3)) (hc : Cond.constant M.1.cls index v ∈ wsL_law) (h : Ev M d (pc + 3) lv (vI v :: stk) sh σ r) : Ev M d pc lv (stk) sh σ r :=
  Ev.mk0 h fun p l e R s m args below meth c A D cI cZ cQ F cells slots H locs ad ls Q _ _ hL hS k => lv_ldcw F.1 F.2.1 F.2.2.2.1 (F.2.2.2.2.1 _ hc) hd k
theorem Ev.ldc2 {index : Nat} {v : Int64} (hd : decode M.2.1 pc = .ok (.ldc2_w index, 3)) (hc : Cond.constantLong M.1.cls index v ∈ wsL_law) (h : Ev M d (pc + 3) lv (vL v :: stk) sh σ r) : Ev M d pc lv (stk) sh σ r :=
  Ev.mk0 h fun p l e R s m args below meth c A D cI cZ cQ F cells slots H locs ad ls Q _ _ hL hS k => lv_ldc2 F.1 F.2.1 F.2.2.2.1 (F.2.2.2.2.1 _ hc) hd k
theorem Ev.iload_n {k : Fin 4} {i : Nat} {x : Int32} (hd : decode M.2.1 pc = .ok (.iload_n k, 1)) (hi : (k : Nat) = i) (hl : lv[i]? = some (some (vI x))) (h : Ev M d (pc + 1) lv (vI x :: stk) sh σ r) : Ev M d pc lv (stk) sh σ r :=
  Ev.mk0 h fun p l e R s m args below meth c A D cI cZ cQ F cells slots H locs ad ls Q _ _ hL hS k => lv_iload_n F.1 F.2.1 hd hi (hL.2.2 _ _ hl) k
theorem Ev.iload {i : Nat} {x : Int32} (hd : decode M.2.1 pc = .ok (.iload i, 2)) (hl : lv[i]? = some (some (vI x))) (h : Ev M d (pc + 2) lv (vI x :: stk) sh σ r) : Ev M d pc lv (stk) sh σ r :=
  Ev.mk0 h fun p l e R s m args below meth c A D cI cZ cQ F cells slots H locs ad ls Q _ _ hL hS k => lv_iload F.1 F.2.1 hd (hL.2.2 _ _ hl) k
theorem Ev.lload_n {k : Fin 4} {i : Nat} {x : Int64} (hd : decode M.2.1 pc = .ok (.lload_n k, 1)) (hi : (k : Nat) = i) (hl : lv[i]? = some (some (vL x))) (h : Ev M d (pc + 1) lv (vL x :: stk) sh σ r) : Ev M d pc lv (stk) sh σ r :=
  Ev.mk0 h fun p l e R s m args below meth c A D cI cZ cQ F cells slots H locs ad ls Q _ _ hL hS k => lv_lload_n F.1 F.2.1 hd hi (hL.2.2 _ _ hl) k
theorem Ev.lload {i : Nat} {x : Int64} (hd : decode M.2.1 pc = .ok (.lload i, 2)) (hl : lv[i]? = some (some (vL x))) (h : Ev M d (pc + 2) lv (vL x :: stk) sh σ r) : Ev M d pc lv (stk) sh σ r :=
  Ev.mk0 h fun p l e R s m args below meth c A D cI cZ cQ F cells slots H locs ad ls Q _ _ hL hS k => lv_lload F.1 F.2.1 hd (hL.2.2 _ _ hl) k
theorem Ev.aload_n {k : Fin 4} {i : Nat} {q : Option Nat} (hd : decode M.2.1 pc = .ok (.aload_n k, 1)) (hi : (k : Nat) = i) (hl : lv[i]? = some (some (.inr (.inr q)))) (h : Ev M d (pc + 1) lv (.inr (.inr q) :: stk) sh σ r) : Ev M d pc lv (stk) sh σ r :=
  Ev.mk0 h fun p l e R s m args below meth c A D cI cZ cQ F cells slots H locs ad ls Q _ _ hL hS k => by
    cases q with
    | none => exact lv_aload_nN F.1 F.2.1 hd hi (hL.2.2 _ _ hl) k
    | some q => exact lv_aload_n F.1 F.2.1 hd hi (hL.2.2 _ _ hl) k
theorem Ev.aload {i : Nat} {q : Option Nat} (hd : decode M.2.1 pc = .ok (.aload i, 2)) (hl : lv[i]? = some (some (.inr (.inr q)))) (h : Ev M d (pc + 2) lv (.inr (.inr q) :: stk) sh σ r) : Ev M d pc lv (stk) sh σ r :=
  Ev.mk0 h fun p l e R s m args below meth c A D cI cZ cQ F cells slots H locs ad ls Q _ _ hL hS k => by
    cases q with
    | none => exact lv_aloadN F.1 F.2.1 hd (hL.2.2 _ _ hl) k
    | some q => exact lv_aload F.1 F.2.1 hd (hL.2.2 _ _ hl) k
theorem Ev.iadd {x y : Int32} (hd : decode M.2.1 pc = .ok (.iadd, 1)) (h : Ev M d (pc + 1) lv (vI (x + y) :: stk) sh σ r) : Ev M d pc lv (vI y :: vI x :: stk) sh σ r :=
  Ev.mk0 h fun p l e R s m args below meth c A D cI cZ cQ F cells slots H locs ad ls Q _ _ hL hS k => lv_iadd F.1 F.2.1 hd k
theorem Ev.isub {x y : Int32} (hd : decode M.2.1 pc = .ok (.isub, 1)) (h : Ev M d (pc + 1) lv (vI (x - y) :: stk) sh σ r) : Ev M d pc lv (vI y :: vI x :: stk) sh σ r :=
  Ev.mk0 h fun p l e R s m args below meth c A D cI cZ cQ F cells slots H locs ad ls Q _ _ hL hS k => lv_isub F.1 F.2.1 hd k
theorem Ev.imul {x y : Int32} (hd : decode M.2.1 pc = .ok (.imul, 1)) (h : Ev M d (pc + 1) lv (vI (x * y) :: stk) sh σ r) : Ev M d pc lv (vI y :: vI x :: stk) sh σ r :=
  Ev.mk0 h fun p l e R s m args below meth c A D cI cZ cQ F cells slots H locs ad ls Q _ _ hL hS k => lv_imul F.1 F.2.1 hd k
theorem Ev.iand {x y : Int32} (hd : decode M.2.1 pc = .ok (.iand, 1)) (h : Ev M d (pc + 1) lv (vI (x &&& y) :: stk) sh σ r) : Ev M d pc lv (vI y :: vI x :: stk) sh σ r :=
  Ev.mk0 h fun p l e R s m args below meth c A D cI cZ cQ F cells slots H locs ad ls Q _ _ hL hS k => lv_iand F.1 F.2.1 hd k
theorem Ev.ior {x y : Int32} (hd : decode M.2.1 pc = .ok (.ior, 1)) (h : Ev M d (pc + 1) lv (vI (x ||| y) :: stk) sh σ r) : Ev M d pc lv (vI y :: vI x :: stk) sh σ r :=
  Ev.mk0 h fun p l e R s m args below meth c A D cI cZ cQ F cells slots H locs ad ls Q _ _ hL hS k => lv_ior F.1 F.2.1 hd k
theorem Ev.ixor {x y : Int32} (hd : decode M.2.1 pc = .ok (.ixor, 1)) (h : Ev M d (pc + 1) lv (vI (x ^^^ y) :: stk) sh σ r) : Ev M d pc lv (vI y :: vI x :: stk) sh σ r :=
  Ev.mk0 h fun p l e R s m args below meth c A D cI cZ cQ F cells slots H locs ad ls Q _ _ hL hS k => lv_ixor F.1 F.2.1 hd k
theorem Ev.ishl {x y : Int32} (hd : decode M.2.1 pc = .ok (.ishl, 1)) (h : Ev M d (pc + 1) lv (vI (x <<< (y &&& 31)) :: stk) sh σ r) : Ev M d pc lv (vI y :: vI x :: stk) sh σ r :=
  Ev.mk0 h fun p l e R s m args below meth c A D cI cZ cQ F cells slots H locs ad ls Q _ _ hL hS k => lv_ishl F.1 F.2.1 hd k
theorem Ev.ishr {x y : Int32} (hd : decode M.2.1 pc = .ok (.ishr, 1)) (h : Ev M d (pc + 1) lv (vI (x >>> (y &&& 31)) :: stk) sh σ r) : Ev M d pc lv (vI y :: vI x :: stk) sh σ r :=
  Ev.mk0 h fun p l e R s m args below meth c A D cI cZ cQ F cells slots H locs ad ls Q _ _ hL hS k => lv_ishr F.1 F.2.1 hd k
theorem Ev.iushr {x y v : Int32} (hd : decode M.2.1 pc = .ok (.iushr, 1)) (hv : (x.toUInt32 >>> (y.toUInt32 &&& Int32.toUInt32 31)).toInt32 = v) (h : Ev M d (pc + 1) lv (vI v :: stk) sh σ r) : Ev M d pc lv (vI y :: vI x :: stk) sh σ r :=
  Ev.mk0 h fun p l e R s m args below meth c A D cI cZ cQ F cells slots H locs ad ls Q _ _ hL hS k => lv_iushr F.1 F.2.1 hd hv k
theorem Ev.idiv {x y : Int32} (hd : decode M.2.1 pc = .ok (.idiv, 1)) (hne : ¬ y = 0) (h : Ev M d (pc + 1) lv (vI (x / y) :: stk) sh σ r) : Ev M d pc lv (vI y :: vI x :: stk) sh σ r :=
  Ev.mk0 h fun p l e R s m args below meth c A D cI cZ cQ F cells slots H locs ad ls Q _ _ hL hS k => lv_idiv F.1 F.2.1 hd hne k
theorem Ev.irem {x y : Int32} (hd : decode M.2.1 pc = .ok (.irem, 1)) (hne : ¬ y = 0) (h : Ev M d (pc + 1) lv (vI (x - x / y * y) :: stk) sh σ r) : Ev M d pc lv (vI y :: vI x :: stk) sh σ r :=
  Ev.mk0 h fun p l e R s m args below meth c A D cI cZ cQ F cells slots H locs ad ls Q _ _ hL hS k => lv_irem F.1 F.2.1 hd hne k
theorem Ev.ladd {x y : Int64} (hd : decode M.2.1 pc = .ok (.ladd, 1)) (h : Ev M d (pc + 1) lv (vL (x + y) :: stk) sh σ r) : Ev M d pc lv (vL y :: vL x :: stk) sh σ r :=
  Ev.mk0 h fun p l e R s m args below meth c A D cI cZ cQ F cells slots H locs ad ls Q _ _ hL hS k => lv_ladd F.1 F.2.1 hd k
theorem Ev.lsub {x y : Int64} (hd : decode M.2.1 pc = .ok (.lsub, 1)) (h : Ev M d (pc + 1) lv (vL (x - y) :: stk) sh σ r) : Ev M d pc lv (vL y :: vL x :: stk) sh σ r :=
  Ev.mk0 h fun p l e R s m args below meth c A D cI cZ cQ F cells slots H locs ad ls Q _ _ hL hS k => lv_lsub F.1 F.2.1 hd k
theorem Ev.lmul {x y : Int64} (hd : decode M.2.1 pc = .ok (.lmul, 1)) (h : Ev M d (pc + 1) lv (vL (x * y) :: stk) sh σ r) : Ev M d pc lv (vL y :: vL x :: stk) sh σ r :=
  Ev.mk0 h fun p l e R s m args below meth c A D cI cZ cQ F cells slots H locs ad ls Q _ _ hL hS k => lv_lmul F.1 F.2.1 hd k
theorem Ev.land {x y : Int64} (hd : decode M.2.1 pc = .ok (.land, 1)) (h : Ev M d (pc + 1) lv (vL (x &&& y) :: stk) sh σ r) : Ev M d pc lv (vL y :: vL x :: stk) sh σ r :=
  Ev.mk0 h fun p l e R s m args below meth c A D cI cZ cQ F cells slots H locs ad ls Q _ _ hL hS k => lv_land F.1 F.2.1 hd k
theorem Ev.ldiv {x y : Int64} (hd : decode M.2.1 pc = .ok (.ldiv, 1)) (hne : ¬ y = 0) (h : Ev M d (pc + 1) lv (vL (x / y) :: stk) sh σ r) : Ev M d pc lv (vL y :: vL x :: stk) sh σ r :=
  Ev.mk0 h fun p l e R s m args below meth c A D cI cZ cQ F cells slots H locs ad ls Q _ _ hL hS k => lv_ldiv F.1 F.2.1 hd hne k
theorem Ev.lrem {x y : Int64} (hd : decode M.2.1 pc = .ok (.lrem, 1)) (hne : ¬ y = 0) (h : Ev M d (pc + 1) lv (vL (x - x / y * y) :: stk) sh σ r) : Ev M d pc lv (vL y :: vL x :: stk) sh σ r :=
  Ev.mk0 h fun p l e R s m args below meth c A D cI cZ cQ F cells slots H locs ad ls Q _ _ hL hS k => lv_lrem F.1 F.2.1 hd hne k
theorem Ev.i2l {x : Int32} (hd : decode M.2.1 pc = .ok (.i2l, 1)) (h : Ev M d (pc + 1) lv (vL x.toInt64 :: stk) sh σ r) : Ev M d pc lv (vI x :: stk) sh σ r :=
  Ev.mk0 h fun p l e R s m args below meth c A D cI cZ cQ F cells slots H locs ad ls Q _ _ hL hS k => lv_i2l F.1 F.2.1 hd rfl k
theorem Ev.l2i {x : Int64} (hd : decode M.2.1 pc = .ok (.l2i, 1)) (h : Ev M d (pc + 1) lv (vI x.toInt32 :: stk) sh σ r) : Ev M d pc lv (vL x :: stk) sh σ r :=
  Ev.mk0 h fun p l e R s m args below meth c A D cI cZ cQ F cells slots H locs ad ls Q _ _ hL hS k => lv_l2i F.1 F.2.1 hd rfl k
theorem Ev.dup {v : MV} (hd : decode M.2.1 pc = .ok (.dup, 1)) (hc : cat v = 1) (h : Ev M d (pc + 1) lv (v :: v :: stk) sh σ r) : Ev M d pc lv (v :: stk) sh σ r :=
  Ev.mk0 h fun p l e R s m args below meth c A D cI cZ cQ F cells slots H locs ad ls Q _ _ hL hS k => lv_dup F.1 F.2.1 hd ((mv_cat ad v).trans hc) k
theorem Ev.dup2 {v w : MV} (hd : decode M.2.1 pc = .ok (.dup2, 1)) (hc : cat v = 1) (hw : cat w = 1) (h : Ev M d (pc + 1) lv (v :: w :: v :: w :: stk) sh σ r) : Ev M d pc lv (v :: w :: stk) sh σ r :=
  Ev.mk0 h fun p l e R s m args below meth c A D cI cZ cQ F cells slots H locs ad ls Q _ _ hL hS k => lv_dup2_11 F.1 F.2.1 hd ((mv_cat ad v).trans hc) ((mv_cat ad w).trans hw) k
theorem Ev.pop {v : MV} (hd : decode M.2.1 pc = .ok (.pop, 1)) (hc : cat v = 1) (h : Ev M d (pc + 1) lv (stk) sh σ r) : Ev M d pc lv (v :: stk) sh σ r :=
  Ev.mk0 h fun p l e R s m args below meth c A D cI cZ cQ F cells slots H locs ad ls Q _ _ hL hS k => lv_pop F.1 F.2.1 hd ((mv_cat ad v).trans hc) k
theorem Ev.null  (hd : decode M.2.1 pc = .ok (.aconst_null, 1)) (h : Ev M d (pc + 1) lv (vN :: stk) sh σ r) : Ev M d pc lv (stk) sh σ r :=
  Ev.mk0 h fun p l e R s m args below meth c A D cI cZ cQ F cells slots H locs ad ls Q _ _ hL hS k => lv_null F.1 F.2.1 hd k
theorem Ev.goto {off : Int} {tgt : Nat} (hd : decode M.2.1 pc = .ok (.goto off, 3)) (ht : (pc : Int) + off = (tgt : Int)) (h : Ev M d tgt lv (stk) sh σ r) : Ev M d pc lv (stk) sh σ r :=
  Ev.mk0 h fun p l e R s m args below meth c A D cI cZ cQ F cells slots H locs ad ls Q _ _ hL hS k => lv_goto F.1 F.2.1 hd ht k
theorem Ev.ifnull_t {off : Int} {tgt : Nat} (hd : decode M.2.1 pc = .ok (.ifnull off, 3)) (ht : (pc : Int) + off = (tgt : Int)) (h : Ev M d tgt lv (stk) sh σ r) : Ev M d pc lv (vN :: stk) sh σ r :=
  Ev.mk0 h fun p l e R s m args below meth c A D cI cZ cQ F cells slots H locs ad ls Q _ _ hL hS k => lv_ifnullN F.1 F.2.1 hd ht k
theorem Ev.ifnull_f {off : Int} {q : Nat} (hd : decode M.2.1 pc = .ok (.ifnull off, 3)) (h : Ev M d (pc + 3) lv (stk) sh σ r) : Ev M d pc lv (vR q :: stk) sh σ r :=
  Ev.mk0 h fun p l e R s m args below meth c A D cI cZ cQ F cells slots H locs ad ls Q _ _ hL hS k => lv_ifnull F.1 F.2.1 hd k
theorem Ev.ifnonnull_t {off : Int} {tgt q : Nat} (hd : decode M.2.1 pc = .ok (.ifnonnull off, 3)) (ht : (pc : Int) + off = (tgt : Int)) (h : Ev M d tgt lv (stk) sh σ r) : Ev M d pc lv (vR q :: stk) sh σ r :=
  Ev.mk0 h fun p l e R s m args below meth c A D cI cZ cQ F cells slots H locs ad ls Q _ _ hL hS k => lv_ifnonnull F.1 F.2.1 hd ht k
theorem Ev.ifnonnull_f {off : Int} (hd : decode M.2.1 pc = .ok (.ifnonnull off, 3)) (h : Ev M d (pc + 3) lv (stk) sh σ r) : Ev M d pc lv (vN :: stk) sh σ r :=
  Ev.mk0 h fun p l e R s m args below meth c A D cI cZ cQ F cells slots H locs ad ls Q _ _ hL hS k => lv_ifnonnullN F.1 F.2.1 hd k
theorem Ev.if_eq_t {x : Int32} {off : Int} {tgt : Nat} (hd : decode M.2.1 pc = .ok (.ifCond .eq off, 3)) (ht : (pc : Int) + off = (tgt : Int)) (hc : x = 0) (h : Ev M d tgt lv (stk) sh σ r) : Ev M d pc lv (vI x :: stk) sh σ r :=
  Ev.mk0 h fun p l e R s m args below meth c A D cI cZ cQ F cells slots H locs ad ls Q _ _ hL hS k => lv_if_eq F.1 F.2.1 hd ht (fun _ => k) (fun q => absurd hc q)
theorem Ev.if_eq_f {x : Int32} {off : Int} (hd : decode M.2.1 pc = .ok (.ifCond .eq off, 3)) (ht : ∃ tgt : Nat, (pc : Int) + off = (tgt : Int)) (hc : ¬ x = 0) (h : Ev M d (pc + 3) lv (stk) sh σ r) : Ev M d pc lv (vI x :: stk) sh σ r :=
  Ev.mk0 h fun p l e R s m args below meth c A D cI cZ cQ F cells slots H locs ad ls Q _ _ hL hS k => ht.elim fun _ ht => lv_if_eq F.1 F.2.1 hd ht (fun q => absurd q hc) (fun _ => k)
theorem Ev.icmp_eq_t {x y : Int32} {off : Int} {tgt : Nat} (hd : decode M.2.1 pc = .ok (.if_icmp .eq off, 3)) (ht : (pc : Int) + off = (tgt : Int)) (hc : x = y) (h : Ev M d tgt lv (stk) sh σ r) : Ev M d pc lv (vI y :: vI x :: stk) sh σ r :=
  Ev.mk0 h fun p l e R s m args below meth c A D cI cZ cQ F cells slots H locs ad ls Q _ _ hL hS k => lv_icmp_eq F.1 F.2.1 hd ht (fun _ => k) (fun q => absurd hc q)
theorem Ev.icmp_eq_f {x y : Int32} {off : Int} (hd : decode M.2.1 pc = .ok (.if_icmp .eq off, 3)) (ht : ∃ tgt : Nat, (pc : Int) + off = (tgt : Int)) (hc : ¬ x = y) (h : Ev M d (pc + 3) lv (stk) sh σ r) : Ev M d pc lv (vI y :: vI x :: stk) sh σ r :=
  Ev.mk0 h fun p l e R s m args below meth c A D cI cZ cQ F cells slots H locs ad ls Q _ _ hL hS k => ht.elim fun _ ht => lv_icmp_eq F.1 F.2.1 hd ht (fun q => absurd q hc) (fun _ => k)
theorem Ev.if_ne_t {x : Int32} {off : Int} {tgt : Nat} (hd : decode M.2.1 pc = .ok (.ifCond .ne off, 3)) (ht : (pc : Int) + off = (tgt : Int)) (hc : ¬ x = 0) (h : Ev M d tgt lv (stk) sh σ r) : Ev M d pc lv (vI x :: stk) sh σ r :=
  Ev.mk0 h fun p l e R s m args below meth c A D cI cZ cQ F cells slots H locs ad ls Q _ _ hL hS k => lv_if_ne F.1 F.2.1 hd ht (fun _ => k) (fun q => absurd q hc)
theorem Ev.if_ne_f {x : Int32} {off : Int} (hd : decode M.2.1 pc = .ok (.ifCond .ne off, 3)) (ht : ∃ tgt : Nat, (pc : Int) + off = (tgt : Int)) (hc : x = 0) (h : Ev M d (pc + 3) lv (stk) sh σ r) : Ev M d pc lv (vI x :: stk) sh σ r :=
  Ev.mk0 h fun p l e R s m args below meth c A D cI cZ cQ F cells slots H locs ad ls Q _ _ hL hS k => ht.elim fun _ ht => lv_if_ne F.1 F.2.1 hd ht (fun q => absurd hc q) (fun _ => k)
theorem Ev.icmp_ne_t {x y : Int32} {off : Int} {tgt : Nat} (hd : decode M.2.1 pc = .ok (.if_icmp .ne off, 3)) (ht : (pc : Int) + off = (tgt : Int)) (hc : ¬ x = y) (h : Ev M d tgt lv (stk) sh σ r) : Ev M d pc lv (vI y :: vI x :: stk) sh σ r :=
  Ev.mk0 h fun p l e R s m args below meth c A D cI cZ cQ F cells slots H locs ad ls Q _ _ hL hS k => lv_icmp_ne F.1 F.2.1 hd ht (fun _ => k) (fun q => absurd q hc)
theorem Ev.icmp_ne_f {x y : Int32} {off : Int} (hd : decode M.2.1 pc = .ok (.if_icmp .ne off, 3)) (ht : ∃ tgt : Nat, (pc : Int) + off = (tgt : Int)) (hc : x = y) (h : Ev M d (pc + 3) lv (stk) sh σ r) : Ev M d pc lv (vI y :: vI x :: stk) sh σ r :=
  Ev.mk0 h fun p l e R s m args below meth c A D cI cZ cQ F cells slots H locs ad ls Q _ _ hL hS k => ht.elim fun _ ht => lv_icmp_ne F.1 F.2.1 hd ht (fun q => absurd hc q) (fun _ => k)
theorem Ev.if_lt_t {x : Int32} {off : Int} {tgt : Nat} (hd : decode M.2.1 pc = .ok (.ifCond .lt off, 3)) (ht : (pc : Int) + off = (tgt : Int)) (hc : x < 0) (h : Ev M d tgt lv (stk) sh σ r) : Ev M d pc lv (vI x :: stk) sh σ r :=
  Ev.mk0 h fun p l e R s m args below meth c A D cI cZ cQ F cells slots H locs ad ls Q _ _ hL hS k => lv_if_lt F.1 F.2.1 hd ht (fun _ => k) (fun q => absurd hc q)
theorem Ev.if_lt_f {x : Int32} {off : Int} (hd : decode M.2.1 pc = .ok (.ifCond .lt off, 3)) (ht : ∃ tgt : Nat, (pc : Int) + off = (tgt : Int)) (hc : ¬ x < 0) (h : Ev M d (pc + 3) lv (stk) sh σ r) : Ev M d pc lv (vI x :: stk) sh σ r :=
  Ev.mk0 h fun p l e R s m args below meth c A D cI cZ cQ F cells slots H locs ad ls Q _ _ hL hS k => ht.elim fun _ ht => lv_if_lt F.1 F.2.1 hd ht (fun q => absurd q hc) (fun _ => k)
theorem Ev.icmp_lt_t {x y : Int32} {off : Int} {tgt : Nat} (hd : decode M.2.1 pc = .ok (.if_icmp .lt off, 3)) (ht : (pc : Int) + off = (tgt : Int)) (hc : x < y) (h : Ev M d tgt lv (stk) sh σ r) : Ev M d pc lv (vI y :: vI x :: stk) sh σ r :=
  Ev.mk0 h fun p l e R s m args below meth c A D cI cZ cQ F cells slots H locs ad ls Q _ _ hL hS k => lv_icmp_lt F.1 F.2.1 hd ht (fun _ => k) (fun q => absurd hc q)
theorem Ev.icmp_lt_f {x y : Int32} {off : Int} (hd : decode M.2.1 pc = .ok (.if_icmp .lt off, 3)) (ht : ∃ tgt : Nat, (pc : Int) + off = (tgt : Int)) (hc : ¬ x < y) (h : Ev M d (pc + 3) lv (stk) sh σ r) : Ev M d pc lv (vI y :: vI x :: stk) sh σ r :=
  Ev.mk0 h fun p l e R s m args below meth c A D cI cZ cQ F cells slots H locs ad ls Q _ _ hL hS k => ht.elim fun _ ht => lv_icmp_lt F.1 F.2.1 hd ht (fun q => absurd q hc) (fun _ => k)
theorem Ev.if_ge_t {x : Int32} {off : Int} {tgt : Nat} (hd : decode M.2.1 pc = .ok (.ifCond .ge off, 3)) (ht : (pc : Int) + off = (tgt : Int)) (hc : 0 ≤ x) (h : Ev M d tgt lv (stk) sh σ r) : Ev M d pc lv (vI x :: stk) sh σ r :=
  Ev.mk0 h fun p l e R s m args below meth c A D cI cZ cQ F cells slots H locs ad ls Q _ _ hL hS k => lv_if_ge F.1 F.2.1 hd ht (fun _ => k) (fun q => absurd hc q)
theorem Ev.if_ge_f {x : Int32} {off : Int} (hd : decode M.2.1 pc = .ok (.ifCond .ge off, 3)) (ht : ∃ tgt : Nat, (pc : Int) + off = (tgt : Int)) (hc : ¬ 0 ≤ x) (h : Ev M d (pc + 3) lv (stk) sh σ r) : Ev M d pc lv (vI x :: stk) sh σ r :=
  Ev.mk0 h fun p l e R s m args below meth c A D cI cZ cQ F cells slots H locs ad ls Q _ _ hL hS k => ht.elim fun _ ht => lv_if_ge F.1 F.2.1 hd ht (fun q => absurd q hc) (fun _ => k)
theorem Ev.icmp_ge_t {x y : Int32} {off : Int} {tgt : Nat} (hd : decode M.2.1 pc = .ok (.if_icmp .ge off, 3)) (ht : (pc : Int) + off = (tgt : Int)) (hc : y ≤ x) (h : Ev M d tgt lv (stk) sh σ r) : Ev M d pc lv (vI y :: vI x :: stk) sh σ r :=
  Ev.mk0 h fun p l e R s m args below meth c A D cI cZ cQ F cells slots H locs ad ls Q _ _ hL hS k => lv_icmp_ge F.1 F.2.1 hd ht (fun _ => k) (fun q => absurd hc q)
theorem Ev.icmp_ge_f {x y : Int32} {off : Int} (hd : decode M.2.1 pc = .ok (.if_icmp .ge off, 3)) (ht : ∃ tgt : Nat, (pc : Int) + off = (tgt : Int)) (hc : ¬ y ≤ x) (h : Ev M d (pc + 3) lv (stk) sh σ r) : Ev M d pc lv (vI y :: vI x :: stk) sh σ r :=
  Ev.mk0 h fun p l e R s m args below meth c A D cI cZ cQ F cells slots H locs ad ls Q _ _ hL hS k => ht.elim fun _ ht => lv_icmp_ge F.1 F.2.1 hd ht (fun q => absurd q hc) (fun _ => k)
theorem Ev.if_gt_t {x : Int32} {off : Int} {tgt : Nat} (hd : decode M.2.1 pc = .ok (.ifCond .gt off, 3)) (ht : (pc : Int) + off = (tgt : Int)) (hc : 0 < x) (h : Ev M d tgt lv (stk) sh σ r) : Ev M d pc lv (vI x :: stk) sh σ r :=
  Ev.mk0 h fun p l e R s m args below meth c A D cI cZ cQ F cells slots H locs ad ls Q _ _ hL hS k => lv_if_gt F.1 F.2.1 hd ht (fun _ => k) (fun q => absurd hc q)
theorem Ev.if_gt_f {x : Int32} {off : Int} (hd : decode M.2.1 pc = .ok (.ifCond .gt off, 3)) (ht : ∃ tgt : Nat, (pc : Int) + off = (tgt : Int)) (hc : ¬ 0 < x) (h : Ev M d (pc + 3) lv (stk) sh σ r) : Ev M d pc lv (vI x :: stk) sh σ r :=
  Ev.mk0 h fun p l e R s m args below meth c A D cI cZ cQ F cells slots H locs ad ls Q _ _ hL hS k => ht.elim fun _ ht => lv_if_gt F.1 F.2.1 hd ht (fun q => absurd q hc) (fun _ => k)
theorem Ev.icmp_gt_t {x y : Int32} {off : Int} {tgt : Nat} (hd : decode M.2.1 pc = .ok (.if_icmp .gt off, 3)) (ht : (pc : Int) + off = (tgt : Int)) (hc : y < x) (h : Ev M d tgt lv (stk) sh σ r) : Ev M d pc lv (vI y :: vI x :: stk) sh σ r :=
  Ev.mk0 h fun p l e R s m args below meth c A D cI cZ cQ F cells slots H locs ad ls Q _ _ hL hS k => lv_icmp_gt F.1 F.2.1 hd ht (fun _ => k) (fun q => absurd hc q)
theorem Ev.icmp_gt_f {x y : Int32} {off : Int} (hd : decode M.2.1 pc = .ok (.if_icmp .gt off, 3)) (ht : ∃ tgt : Nat, (pc : Int) + off = (tgt : Int)) (hc : ¬ y < x) (h : Ev M d (pc + 3) lv (stk) sh σ r) : Ev M d pc lv (vI y :: vI x :: stk) sh σ r :=
  Ev.mk0 h fun p l e R s m args below meth c A D cI cZ cQ F cells slots H locs ad ls Q _ _ hL hS k => ht.elim fun _ ht => lv_icmp_gt F.1 F.2.1 hd ht (fun q => absurd q hc) (fun _ => k)
theorem Ev.if_le_t {x : Int32} {off : Int} {tgt : Nat} (hd : decode M.2.1 pc = .ok (.ifCond .le off, 3)) (ht : (pc : Int) + off = (tgt : Int)) (hc : x ≤ 0) (h : Ev M d tgt lv (stk) sh σ r) : Ev M d pc lv (vI x :: stk) sh σ r :=
  Ev.mk0 h fun p l e R s m args below meth c A D cI cZ cQ F cells slots H locs ad ls Q _ _ hL hS k => lv_if_le F.1 F.2.1 hd ht (fun _ => k) (fun q => absurd hc q)
theorem Ev.if_le_f {x : Int32} {off : Int} (hd : decode M.2.1 pc = .ok (.ifCond .le off, 3)) (ht : ∃ tgt : Nat, (pc : Int) + off = (tgt : Int)) (hc : ¬ x ≤ 0) (h : Ev M d (pc + 3) lv (stk) sh σ r) : Ev M d pc lv (vI x :: stk) sh σ r :=
  Ev.mk0 h fun p l e R s m args below meth c A D cI cZ cQ F cells slots H locs ad ls Q _ _ hL hS k => ht.elim fun _ ht => lv_if_le F.1 F.2.1 hd ht (fun q => absurd q hc) (fun _ => k)
theorem Ev.icmp_le_t {x y : Int32} {off : Int} {tgt : Nat} (hd : decode M.2.1 pc = .ok (.if_icmp .le off, 3)) (ht : (pc : Int) + off = (tgt : Int)) (hc : x ≤ y) (h : Ev M d tgt lv (stk) sh σ r) : Ev M d pc lv (vI y :: vI x :: stk) sh σ r :=
  Ev.mk0 h fun p l e R s m args below meth c A D cI cZ cQ F cells slots H locs ad ls Q _ _ hL hS k => lv_icmp_le F.1 F.2.1 hd ht (fun _ => k) (fun q => absurd hc q)
theorem Ev.icmp_le_f {x y : Int32} {off : Int} (hd : decode M.2.1 pc = .ok (.if_icmp .le off, 3)) (ht : ∃ tgt : Nat, (pc : Int) + off = (tgt : Int)) (hc : ¬ x ≤ y) (h : Ev M d (pc + 3) lv (stk) sh σ r) : Ev M d pc lv (vI y :: vI x :: stk) sh σ r :=
  Ev.mk0 h fun p l e R s m args below meth c A D cI cZ cQ F cells slots H locs ad ls Q _ _ hL hS k => ht.elim fun _ ht => lv_icmp_le F.1 F.2.1 hd ht (fun q => absurd q hc) (fun _ => k)
theorem Ev.swOut {dflt lo hi : Int} {offs : Array Int} {len : Nat} {x : Int32} {tgt : Nat} (hd : decode M.2.1 pc = .ok (.tableswitch dflt lo hi offs, len)) (h0 : x.toInt < lo ∨ hi < x.toInt) (ht : (pc : Int) + dflt = (tgt : Int)) (h : Ev M d tgt lv (stk) sh σ r) : Ev M d pc lv (vI x :: stk) sh σ r :=
  Ev.mk0 h fun p l e R s m args below meth c A D cI cZ cQ F cells slots H locs ad ls Q _ _ hL hS k => lv_tableOut F.1 F.2.1 hd h0 ht k
theorem Ev.swIn {dflt lo hi : Int} {offs : Array Int} {len : Nat} {x : Int32} {off : Int} {tgt : Nat} (hd : decode M.2.1 pc = .ok (.tableswitch dflt lo hi offs, len)) (h1 : ¬ x.toInt < lo) (h2 : ¬ hi < x.toInt) (ho : offs[(x.toInt - lo).toNat]? = some off) (ht : (pc : Int) + off = (tgt : Int)) (h : Ev M d tgt lv (stk) sh σ r) : Ev M d pc lv (vI x :: stk) sh σ r :=
  Ev.mk0 h fun p l e R s m args below meth c A D cI cZ cQ F cells slots H locs ad ls Q _ _ hL hS k => lv_tableIn F.1 F.2.1 hd h1 h2 ho ht k
theorem Ev.lcmp {x y : Int64} (hd : decode M.2.1 pc = .ok (.lcmp, 1)) (h : Ev M d (pc + 1) lv (vI (lg_cmp x y) :: stk) sh σ r) : Ev M d pc lv (vL y :: vL x :: stk) sh σ r :=
  Ev.mk0 h fun p l e R s m args below meth c A D cI cZ cQ F cells slots H locs ad ls Q _ _ hL hS k => W.lcmp F.1 F.2.1 hd k
end RULES
