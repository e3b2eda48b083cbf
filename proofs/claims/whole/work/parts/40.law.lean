abbrev mdL (L : Nat) (xs : Nat → Int32) : MD := (yL_law, code, 4, some .boolean, some (L, xs))
def j_L_law_958 (N : Nat) (L : Nat) (xs : Nat → Int32) (K_18 : Int32 → St → Option (Int32 × St)) (v3 : Int32) (σ : St) : Option (Int32 × St) := bt (v3 + 4) fun x1 => K_18 x1 σ
def l_L_law_18 (N : Nat) (L : Nat) (xs : Nat → Int32) : Nat → Int32 → St → Option (Int32 × St)
  | 0, _, _ => none
  | n + 1, v3, σ => if ((Int32.ofNat L) - 4) < v3 then (some (1, σ)) else (ckA v3 L (if ((xs v3.toNatClampNeg) &&& 31) = 0 then (ckA (v3 + 1) L (bt (t_X9_feed (xs (v3 + 1).toNatClampNeg) σ) fun q5 => ckA (v3 + 1) L (bd (o_X10_feed N (xs (v3 + 1).toNatClampNeg) q5.2) fun x7 σ8 => if q5.1 = x7 then (j_L_law_958 N L xs (l_L_law_18 N L xs n) v3 σ8) else (some (0, σ8))))) else if ((xs v3.toNatClampNeg) &&& 31) = 1 then (bd (o_X9_land N  σ) fun x12 σ13 => bd (o_X10_land N  σ13) fun x15 σ16 => if x12 = x15 then (j_L_law_958 N L xs (l_L_law_18 N L xs n) v3 σ16) else (some (0, σ16))) else if ((xs v3.toNatClampNeg) &&& 31) = 2 then (if (p_X9_fault σ) = (p_X10_fault σ) then (j_L_law_958 N L xs (l_L_law_18 N L xs n) v3 σ) else (some (0, σ))) else if ((xs v3.toNatClampNeg) &&& 31) = 3 then (ckA (v3 + 1) L (bd (o_X9_told N (xs (v3 + 1).toNatClampNeg) σ) fun x23 σ24 => ckA (v3 + 1) L (bd (o_X10_told N (xs (v3 + 1).toNatClampNeg) σ24) fun x27 σ28 => if x23 = x27 then (j_L_law_958 N L xs (l_L_law_18 N L xs n) v3 σ28) else (some (0, σ28))))) else if ((xs v3.toNatClampNeg) &&& 31) = 4 then (ckA (v3 + 1) L (ckA (v3 + 2) L (ckA (v3 + 1) L (ckA (v3 + 2) L (bd (o_X10_far N (xs (v3 + 1).toNatClampNeg) (xs (v3 + 2).toNatClampNeg) σ) fun x36 σ37 => if (p_X9_far (xs (v3 + 1).toNatClampNeg) (xs (v3 + 2).toNatClampNeg) σ) = x36 then (j_L_law_958 N L xs (l_L_law_18 N L xs n) v3 σ37) else (some (0, σ37))))))) else if ((xs v3.toNatClampNeg) &&& 31) = 5 then (ckA (v3 + 1) L (ckA (v3 + 2) L (bd (o_X9_keeper N (xs (v3 + 1).toNatClampNeg) (xs (v3 + 2).toNatClampNeg) σ) fun x43 σ44 => ckA (v3 + 1) L (ckA (v3 + 2) L (bd (o_X10_keeper N (xs (v3 + 1).toNatClampNeg) (xs (v3 + 2).toNatClampNeg) σ44) fun x48 σ49 => if x43 = x48 then (j_L_law_958 N L xs (l_L_law_18 N L xs n) v3 σ49) else (some (0, σ49))))))) else if ((xs v3.toNatClampNeg) &&& 31) = 6 then (ckA (v3 + 1) L (ckA (v3 + 2) L (bd (o_X9_promise N (xs (v3 + 1).toNatClampNeg) (xs (v3 + 2).toNatClampNeg) σ) fun x55 σ56 => ckA (v3 + 1) L (ckA (v3 + 2) L (bd (o_X10_promise N (xs (v3 + 1).toNatClampNeg) (xs (v3 + 2).toNatClampNeg) σ56) fun x60 σ61 => if x55 = x60 then (j_L_law_958 N L xs (l_L_law_18 N L xs n) v3 σ61) else (some (0, σ61))))))) else if ((xs v3.toNatClampNeg) &&& 31) = 7 then (ckA (v3 + 1) L (ckA (v3 + 1) L (bd (o_X10_fell N (xs (v3 + 1).toNatClampNeg) σ) fun x67 σ68 => if (p_X9_fell (xs (v3 + 1).toNatClampNeg) σ) = x67 then (j_L_law_958 N L xs (l_L_law_18 N L xs n) v3 σ68) else (some (0, σ68))))) else if ((xs v3.toNatClampNeg) &&& 31) = 8 then (ckA (v3 + 1) L (ckA (v3 + 2) L (bt (t_X9_go (xs (v3 + 1).toNatClampNeg) (xs (v3 + 2).toNatClampNeg) σ) fun q74 => ckA (v3 + 1) L (ckA (v3 + 2) L (bd (o_X10_go N (xs (v3 + 1).toNatClampNeg) (xs (v3 + 2).toNatClampNeg) q74.2) fun x77 σ78 => if q74.1 = x77 then (j_L_law_958 N L xs (l_L_law_18 N L xs n) v3 σ78) else (some (0, σ78))))))) else if ((xs v3.toNatClampNeg) &&& 31) = 9 then (ckA (v3 + 1) L (bd (o_X9_day N (xs (v3 + 1).toNatClampNeg) σ) fun x83 σ84 => ckA (v3 + 1) L (bd (o_X10_day N (xs (v3 + 1).toNatClampNeg) σ84) fun x87 σ88 => if x83 = x87 then (j_L_law_958 N L xs (l_L_law_18 N L xs n) v3 σ88) else (some (0, σ88))))) else if ((xs v3.toNatClampNeg) &&& 31) = 10 then (ckA (v3 + 1) L (bd (o_X9_keep N (xs (v3 + 1).toNatClampNeg) σ) fun x93 σ94 => ckA (v3 + 1) L (bd (o_X10_keep N (xs (v3 + 1).toNatClampNeg) σ94) fun x97 σ98 => if x93 = x97 then (j_L_law_958 N L xs (l_L_law_18 N L xs n) v3 σ98) else (some (0, σ98))))) else if ((xs v3.toNatClampNeg) &&& 31) = 11 then (ckA (v3 + 1) L (bd (o_X9_takeDown N (xs (v3 + 1).toNatClampNeg) σ) fun x103 σ104 => ckA (v3 + 1) L (bd (o_X10_takeDown N (xs (v3 + 1).toNatClampNeg) σ104) fun x107 σ108 => if x103 = x107 then (j_L_law_958 N L xs (l_L_law_18 N L xs n) v3 σ108) else (some (0, σ108))))) else if ((xs v3.toNatClampNeg) &&& 31) = 12 then (ckA (v3 + 1) L (ckA (v3 + 2) L (bt (t_X9_swap (xs (v3 + 1).toNatClampNeg) (xs (v3 + 2).toNatClampNeg) σ) fun q114 => ckA (v3 + 1) L (ckA (v3 + 2) L (bd (o_X10_swap N (xs (v3 + 1).toNatClampNeg) (xs (v3 + 2).toNatClampNeg) q114.2) fun x117 σ118 => if q114.1 = x117 then (j_L_law_958 N L xs (l_L_law_18 N L xs n) v3 σ118) else (some (0, σ118))))))) else if ((xs v3.toNatClampNeg) &&& 31) = 13 then (ckA (v3 + 1) L (bd (o_X9_drift N (xs (v3 + 1).toNatClampNeg) σ) fun x123 σ124 => ckA (v3 + 1) L (bd (o_X10_drift N (xs (v3 + 1).toNatClampNeg) σ124) fun x127 σ128 => if x123 = x127 then (j_L_law_958 N L xs (l_L_law_18 N L xs n) v3 σ128) else (some (0, σ128))))) else if ((xs v3.toNatClampNeg) &&& 31) = 14 then (ckA (v3 + 1) L (bd (o_X9_undo N (xs (v3 + 1).toNatClampNeg) σ) fun x133 σ134 => ckA (v3 + 1) L (bd (o_X10_undo N (xs (v3 + 1).toNatClampNeg) σ134) fun x137 σ138 => if x133 = x137 then (j_L_law_958 N L xs (l_L_law_18 N L xs n) v3 σ138) else (some (0, σ138))))) else if ((xs v3.toNatClampNeg) &&& 31) = 15 then (ckA (v3 + 1) L (ckA (v3 + 2) L (bd (o_X9_plan N (xs (v3 + 1).toNatClampNeg) (xs (v3 + 2).toNatClampNeg) σ) fun x144 σ145 => ckA (v3 + 1) L (ckA (v3 + 2) L (bd (o_X10_plan N (xs (v3 + 1).toNatClampNeg) (xs (v3 + 2).toNatClampNeg) σ145) fun x149 σ150 => if x144 = x149 then (j_L_law_958 N L xs (l_L_law_18 N L xs n) v3 σ150) else (some (0, σ150))))))) else if ((xs v3.toNatClampNeg) &&& 31) = 16 then (ckA (v3 + 1) L (ckA (v3 + 2) L (bd (o_X9_clash N (xs (v3 + 1).toNatClampNeg) (xs (v3 + 2).toNatClampNeg) σ) fun x156 σ157 => ckA (v3 + 1) L (ckA (v3 + 2) L (bd (o_X10_clash N (xs (v3 + 1).toNatClampNeg) (xs (v3 + 2).toNatClampNeg) σ157) fun x161 σ162 => if x156 = x161 then (j_L_law_958 N L xs (l_L_law_18 N L xs n) v3 σ162) else (some (0, σ162))))))) else if ((xs v3.toNatClampNeg) &&& 31) = 17 then (ckA (v3 + 1) L (ckA (v3 + 2) L (ckA (v3 + 3) L (bd (o_X9_still N (xs (v3 + 1).toNatClampNeg) (xs (v3 + 2).toNatClampNeg) (xs (v3 + 3).toNatClampNeg) σ) fun x169 σ170 => ckA (v3 + 1) L (ckA (v3 + 2) L (ckA (v3 + 3) L (bd (o_X10_still N (xs (v3 + 1).toNatClampNeg) (xs (v3 + 2).toNatClampNeg) (xs (v3 + 3).toNatClampNeg) σ170) fun x175 σ176 => if x169 = x175 then (j_L_law_958 N L xs (l_L_law_18 N L xs n) v3 σ176) else (some (0, σ176))))))))) else if ((xs v3.toNatClampNeg) &&& 31) = 18 then (ckA (v3 + 1) L (bd (o_X9_hands N (xs (v3 + 1).toNatClampNeg) σ) fun x181 σ182 => ckA (v3 + 1) L (bd (o_X10_hands N (xs (v3 + 1).toNatClampNeg) σ182) fun x185 σ186 => if x181 = x185 then (j_L_law_958 N L xs (l_L_law_18 N L xs n) v3 σ186) else (some (0, σ186))))) else if ((xs v3.toNatClampNeg) &&& 31) = 19 then (ckA (v3 + 1) L (ckA (v3 + 2) L (bd (o_X9_calendar N (xs (v3 + 1).toNatClampNeg) (xs (v3 + 2).toNatClampNeg) σ) fun x192 σ193 => ckA (v3 + 1) L (ckA (v3 + 2) L (bd (o_X10_calendar N (xs (v3 + 1).toNatClampNeg) (xs (v3 + 2).toNatClampNeg) σ193) fun x197 σ198 => if x192 = x197 then (j_L_law_958 N L xs (l_L_law_18 N L xs n) v3 σ198) else (some (0, σ198))))))) else if ((xs v3.toNatClampNeg) &&& 31) = 20 then (ckA (v3 + 1) L (bd (o_X9_busiest N (xs (v3 + 1).toNatClampNeg) σ) fun x203 σ204 => ckA (v3 + 1) L (bd (o_X10_busiest N (xs (v3 + 1).toNatClampNeg) σ204) fun x207 σ208 => if x203 = x207 then (j_L_law_958 N L xs (l_L_law_18 N L xs n) v3 σ208) else (some (0, σ208))))) else if ((xs v3.toNatClampNeg) &&& 31) = 21 then (ckA (v3 + 1) L (ckA (v3 + 2) L (bd (o_X9_lives N (xs (v3 + 1).toNatClampNeg) (xs (v3 + 2).toNatClampNeg) σ) fun x214 σ215 => ckA (v3 + 1) L (ckA (v3 + 2) L (bd (o_X10_lives N (xs (v3 + 1).toNatClampNeg) (xs (v3 + 2).toNatClampNeg) σ215) fun x219 σ220 => if x214 = x219 then (j_L_law_958 N L xs (l_L_law_18 N L xs n) v3 σ220) else (some (0, σ220))))))) else if ((xs v3.toNatClampNeg) &&& 31) = 22 then (ckA (v3 + 1) L (bd (o_X9_share N (xs (v3 + 1).toNatClampNeg) σ) fun x225 σ226 => ckA (v3 + 1) L (bd (o_X10_share N (xs (v3 + 1).toNatClampNeg) σ226) fun x229 σ230 => if x225 = x229 then (j_L_law_958 N L xs (l_L_law_18 N L xs n) v3 σ230) else (some (0, σ230))))) else if ((xs v3.toNatClampNeg) &&& 31) = 23 then (ckA (v3 + 1) L (ckA (v3 + 2) L (ckA (v3 + 3) L (bd (o_X9_let N (xs (v3 + 1).toNatClampNeg) (xs (v3 + 2).toNatClampNeg) (xs (v3 + 3).toNatClampNeg) σ) fun x237 σ238 => ckA (v3 + 1) L (ckA (v3 + 2) L (ckA (v3 + 3) L (bd (o_X10_let N (xs (v3 + 1).toNatClampNeg) (xs (v3 + 2).toNatClampNeg) (xs (v3 + 3).toNatClampNeg) σ238) fun x243 σ244 => if x237 = x243 then (j_L_law_958 N L xs (l_L_law_18 N L xs n) v3 σ244) else (some (0, σ244))))))))) else if ((xs v3.toNatClampNeg) &&& 31) = 24 then (ckA (v3 + 1) L (ckA (v3 + 2) L (bt (t_X9_write (xs (v3 + 1).toNatClampNeg) (xs (v3 + 2).toNatClampNeg) σ) fun q250 => ckA (v3 + 1) L (ckA (v3 + 2) L (bd (o_X10_write N (xs (v3 + 1).toNatClampNeg) (xs (v3 + 2).toNatClampNeg) q250.2) fun x253 σ254 => if q250.1 = x253 then (j_L_law_958 N L xs (l_L_law_18 N L xs n) v3 σ254) else (some (0, σ254))))))) else if ((xs v3.toNatClampNeg) &&& 31) = 25 then (bd (o_X9_judge N  σ) fun x258 σ259 => bd (o_X10_judge N  σ259) fun x261 σ262 => if x258 = x261 then (j_L_law_958 N L xs (l_L_law_18 N L xs n) v3 σ262) else (some (0, σ262))) else if ((xs v3.toNatClampNeg) &&& 31) = 26 then (bt (t_X9_tear  σ) fun q266 => bt (t_X10_tear  q266.2) fun q267 => if q266.1 = q267.1 then (j_L_law_958 N L xs (l_L_law_18 N L xs n) v3 q267.2) else (some (0, q267.2))) else if ((xs v3.toNatClampNeg) &&& 31) = 27 then (ckA (v3 + 1) L (bt (t_X9_seed (xs (v3 + 1).toNatClampNeg) σ) fun q271 => ckA (v3 + 1) L (bt (t_X10_seed (xs (v3 + 1).toNatClampNeg) q271.2) fun q273 => if q271.1 = q273.1 then (j_L_law_958 N L xs (l_L_law_18 N L xs n) v3 q273.2) else (some (0, q273.2))))) else if ((xs v3.toNatClampNeg) &&& 31) = 28 then (ckA (v3 + 1) L (bt (t_X9_image (xs (v3 + 1).toNatClampNeg) σ) fun q277 => ckA (v3 + 1) L (bd (o_X10_image N (xs (v3 + 1).toNatClampNeg) q277.2) fun x279 σ280 => if q277.1 = x279 then (j_L_law_958 N L xs (l_L_law_18 N L xs n) v3 σ280) else (some (0, σ280))))) else if ((xs v3.toNatClampNeg) &&& 31) = 29 then (ckA (v3 + 1) L (bt (t_X9_goBack (xs (v3 + 1).toNatClampNeg) σ) fun q285 => ckA (v3 + 1) L (bd (o_X10_goBack N (xs (v3 + 1).toNatClampNeg) q285.2) fun x287 σ288 => if q285.1 = x287 then (j_L_law_958 N L xs (l_L_law_18 N L xs n) v3 σ288) else (some (0, σ288))))) else (j_L_law_958 N L xs (l_L_law_18 N L xs n) v3 σ)))
theorem lj_L_law_958 (N : Nat) (L : Nat) (xs : Nat → Int32) (K_18 : Int32 → St → Option (Int32 × St)) (hK_18 : ∀ (v3 : Int32) (σ : St) (v : Int32) (w : St), K_18 v3 σ = some (v, w) → Ev (mdL L xs) 84 18 [some (vR SCI), some (vR 0), some (vR 79), some (vI v3)] [] SH σ (some (vI v), SH, w)) (v3 : Int32) (σ : St) (v : Int32) (w : St) (h : j_L_law_958 N L xs K_18 v3 σ = some (v, w)) : Ev (mdL L xs) 84 958 [some (vR SCI), some (vR 0), some (vR 79), some (vI v3)] [] SH σ (some (vI v), SH, w) := by
  unfold j_L_law_958 at h
  obtain ⟨x1, e_x1, h⟩ := bt_elim h
  refine Ev.iinc (pc := 958) (v := x1) (lv' := [some (vR SCI), some (vR 0), some (vR 79), some (vI x1)]) dL_law_958 rfl (by rw [ki_4, e_x1]) (lt9 rfl) rfl rfl ?_
  refine Ev.goto (pc := 961) (tgt := 18) dL_law_961 rfl ?_
  exact Ev.weak2 (hK_18 _ _ _ _ h) (lsubS (lsubS (lsubS (lsubS lsubE))))
theorem ll_L_law_18 (N : Nat) (L : Nat) (xs : Nat → Int32) : ∀ (n : Nat) (v3 : Int32) (σ : St) (v : Int32) (w : St), l_L_law_18 N L xs n v3 σ = some (v, w) → Ev (mdL L xs) 84 18 [some (vR SCI), some (vR 0), some (vR 79), some (vI v3)] [] SH σ (some (vI v), SH, w) := by
  intro n
  induction n with
  | zero =>
    intro v3 σ v w h
    rw [l_L_law_18] at h
    cases h
  | succ n ih =>
    intro v3 σ v w h
    rw [l_L_law_18] at h
    refine Ev.iload_n (pc := 18) dL_law_18 rfl rfl ?_
    refine Ev.aload_n (pc := 19) dL_law_19 rfl rfl ?_
    refine Ev.slen (pc := 20) dL_law_20 rfl rfl ?_
    refine Ev.iconst (pc := 21) (v := 4) dL_law_21 ki_4 ?_
    refine Ev.isub (pc := 22) dL_law_22 ?_
    by_cases c1 : ((Int32.ofNat L) - 4) < v3
    · replace h := (if_pos c1).symm.trans h
      refine Ev.icmp_gt_t (pc := 23) (tgt := 964) dL_law_23 rfl c1 ?_
      refine Ev.iconst (pc := 964) (v := 1) dL_law_964 ki_1 ?_
      obtain ⟨h1, h2⟩ := oeq h
      subst h1
      subst h2
      exact Ev.ret_i (pc := 965) dL_law_965 rfl nb_1
    · replace h := (if_neg c1).symm.trans h
      refine Ev.icmp_gt_f (pc := 23) dL_law_23 ⟨964, rfl⟩ c1 ?_
      refine Ev.aload_n (pc := 26) dL_law_26 rfl rfl ?_
      refine Ev.iload_n (pc := 27) dL_law_27 rfl rfl ?_
      obtain ⟨c2, h⟩ := ckA_elim h
      refine Ev.sld (pc := 28) dL_law_28 rfl c2 ?_
      refine Ev.bipush (pc := 29) (v := 31) dL_law_29 kb_31 ?_
      refine Ev.iand (pc := 31) dL_law_31 ?_
      by_cases c3 : ((xs v3.toNatClampNeg) &&& 31) = 0
      · replace h := (if_pos c3).symm.trans h
        refine Ev.swC (pc := 32) (c := 0) (tgt := 168) dL_law_32 c3 (by decide) (by decide) rfl rfl ?_
        refine Ev.aload_n (pc := 168) dL_law_168 rfl rfl ?_
        refine Ev.aload_n (pc := 169) dL_law_169 rfl rfl ?_
        refine Ev.iload_n (pc := 170) dL_law_170 rfl rfl ?_
        refine Ev.iconst (pc := 171) (v := 1) dL_law_171 ki_1 ?_
        refine Ev.iadd (pc := 172) dL_law_172 ?_
        obtain ⟨c4, h⟩ := ckA_elim h
        refine Ev.sld (pc := 173) dL_law_173 rfl c4 ?_
        refine Ev.cVi (pc := 174) (k := 0) (av := [vI (xs (v3 + 1).toNatClampNeg)]) (rest := []) dL_law_174 ce_X9_feed ml_L_13 rfl sh_0 cl_X9 sh_sc (Nat.le_of_ble_eq_true rfl) (Nat.le_of_ble_eq_true rfl) (r_X9_feed _ _) ?_
        refine Ev.nmQ (fun q5 e9 => ?_)
        replace h := bt_app h q5 e9
        refine Ev.aload_n (pc := 177) dL_law_177 rfl rfl ?_
        refine Ev.aload_n (pc := 178) dL_law_178 rfl rfl ?_
        refine Ev.iload_n (pc := 179) dL_law_179 rfl rfl ?_
        refine Ev.iconst (pc := 180) (v := 1) dL_law_180 ki_1 ?_
        refine Ev.iadd (pc := 181) dL_law_181 ?_
        obtain ⟨c6, h⟩ := ckA_elim h
        refine Ev.sld (pc := 182) dL_law_182 rfl c6 ?_
        obtain ⟨x7, σ8, g9, h⟩ := bd_elim h
        refine Ev.cVi (pc := 183) (k := 79) (av := [vI (xs (v3 + 1).toNatClampNeg)]) (rest := [vI q5.1]) dL_law_183 ce_X10_feed ml_L_17 rfl sh_79 cl_X10 sh_sc (Nat.le_of_ble_eq_true rfl) (Nat.le_of_ble_eq_true rfl) (r_X10_feed g9) ?_
        by_cases c10 : q5.1 = x7
        · replace h := (if_pos c10).symm.trans h
          refine Ev.icmp_eq_t (pc := 186) (tgt := 958) dL_law_186 rfl c10 ?_
          exact Ev.weak2 (lj_L_law_958 N L xs (l_L_law_18 N L xs n) ih _ _ _ _ h) (lsubS (lsubS (lsubS (lsubS lsubE))))
        · replace h := (if_neg c10).symm.trans h
          refine Ev.icmp_eq_f (pc := 186) dL_law_186 ⟨958, rfl⟩ c10 ?_
          refine Ev.iconst (pc := 189) (v := 0) dL_law_189 ki_0 ?_
          obtain ⟨h1, h2⟩ := oeq h
          subst h1
          subst h2
          exact Ev.ret_i (pc := 190) dL_law_190 rfl nb_0
      replace h := (if_neg c3).symm.trans h
      by_cases c11 : ((xs v3.toNatClampNeg) &&& 31) = 1
      · replace h := (if_pos c11).symm.trans h
        refine Ev.swC (pc := 32) (c := 1) (tgt := 191) dL_law_32 c11 (by decide) (by decide) rfl rfl ?_
        refine Ev.aload_n (pc := 191) dL_law_191 rfl rfl ?_
        obtain ⟨x12, σ13, g14, h⟩ := bd_elim h
        refine Ev.cVi (pc := 192) (k := 0) (av := []) (rest := []) dL_law_192 ce_X9_land ml_L_18 rfl sh_0 cl_X9 sh_sc (Nat.le_of_ble_eq_true rfl) (Nat.le_of_ble_eq_true rfl) (r_X9_land g14) ?_
        refine Ev.aload_n (pc := 195) dL_law_195 rfl rfl ?_
        obtain ⟨x15, σ16, g17, h⟩ := bd_elim h
        refine Ev.cVi (pc := 196) (k := 79) (av := []) (rest := [vI x12]) dL_law_196 ce_X10_land ml_L_22 rfl sh_79 cl_X10 sh_sc (Nat.le_of_ble_eq_true rfl) (Nat.le_of_ble_eq_true rfl) (r_X10_land g17) ?_
        by_cases c18 : x12 = x15
        · replace h := (if_pos c18).symm.trans h
          refine Ev.icmp_eq_t (pc := 199) (tgt := 958) dL_law_199 rfl c18 ?_
          exact Ev.weak2 (lj_L_law_958 N L xs (l_L_law_18 N L xs n) ih _ _ _ _ h) (lsubS (lsubS (lsubS (lsubS lsubE))))
        · replace h := (if_neg c18).symm.trans h
          refine Ev.icmp_eq_f (pc := 199) dL_law_199 ⟨958, rfl⟩ c18 ?_
          refine Ev.iconst (pc := 202) (v := 0) dL_law_202 ki_0 ?_
          obtain ⟨h1, h2⟩ := oeq h
          subst h1
          subst h2
          exact Ev.ret_i (pc := 203) dL_law_203 rfl nb_0
      replace h := (if_neg c11).symm.trans h
      by_cases c19 : ((xs v3.toNatClampNeg) &&& 31) = 2
      · replace h := (if_pos c19).symm.trans h
        refine Ev.swC (pc := 32) (c := 2) (tgt := 204) dL_law_32 c19 (by decide) (by decide) rfl rfl ?_
        refine Ev.aload_n (pc := 204) dL_law_204 rfl rfl ?_
        refine Ev.cVi (pc := 205) (k := 0) (av := []) (rest := []) dL_law_205 ce_X9_fault ml_L_23 rfl sh_0 cl_X9 sh_sc (Nat.le_of_ble_eq_true rfl) (Nat.le_of_ble_eq_true rfl) (r_X9_fault  _) ?_
        refine Ev.aload_n (pc := 208) dL_law_208 rfl rfl ?_
        refine Ev.cVi (pc := 209) (k := 79) (av := []) (rest := [vI (p_X9_fault σ)]) dL_law_209 ce_X10_fault ml_L_26 rfl sh_79 cl_X10 sh_sc (Nat.le_of_ble_eq_true rfl) (Nat.le_of_ble_eq_true rfl) (r_X10_fault  _) ?_
        by_cases c20 : (p_X9_fault σ) = (p_X10_fault σ)
        · replace h := (if_pos c20).symm.trans h
          refine Ev.icmp_eq_t (pc := 212) (tgt := 958) dL_law_212 rfl c20 ?_
          exact Ev.weak2 (lj_L_law_958 N L xs (l_L_law_18 N L xs n) ih _ _ _ _ h) (lsubS (lsubS (lsubS (lsubS lsubE))))
        · replace h := (if_neg c20).symm.trans h
          refine Ev.icmp_eq_f (pc := 212) dL_law_212 ⟨958, rfl⟩ c20 ?_
          refine Ev.iconst (pc := 215) (v := 0) dL_law_215 ki_0 ?_
          obtain ⟨h1, h2⟩ := oeq h
          subst h1
          subst h2
          exact Ev.ret_i (pc := 216) dL_law_216 rfl nb_0
      replace h := (if_neg c19).symm.trans h
      by_cases c21 : ((xs v3.toNatClampNeg) &&& 31) = 3
      · replace h := (if_pos c21).symm.trans h
        refine Ev.swC (pc := 32) (c := 3) (tgt := 217) dL_law_32 c21 (by decide) (by decide) rfl rfl ?_
        refine Ev.aload_n (pc := 217) dL_law_217 rfl rfl ?_
        refine Ev.aload_n (pc := 218) dL_law_218 rfl rfl ?_
        refine Ev.iload_n (pc := 219) dL_law_219 rfl rfl ?_
        refine Ev.iconst (pc := 220) (v := 1) dL_law_220 ki_1 ?_
        refine Ev.iadd (pc := 221) dL_law_221 ?_
        obtain ⟨c22, h⟩ := ckA_elim h
        refine Ev.sld (pc := 222) dL_law_222 rfl c22 ?_
        obtain ⟨x23, σ24, g25, h⟩ := bd_elim h
        refine Ev.cVi (pc := 223) (k := 0) (av := [vI (xs (v3 + 1).toNatClampNeg)]) (rest := []) dL_law_223 ce_X9_told ml_L_27 rfl sh_0 cl_X9 sh_sc (Nat.le_of_ble_eq_true rfl) (Nat.le_of_ble_eq_true rfl) (r_X9_told g25) ?_
        refine Ev.aload_n (pc := 226) dL_law_226 rfl rfl ?_
        refine Ev.aload_n (pc := 227) dL_law_227 rfl rfl ?_
        refine Ev.iload_n (pc := 228) dL_law_228 rfl rfl ?_
        refine Ev.iconst (pc := 229) (v := 1) dL_law_229 ki_1 ?_
        refine Ev.iadd (pc := 230) dL_law_230 ?_
        obtain ⟨c26, h⟩ := ckA_elim h
        refine Ev.sld (pc := 231) dL_law_231 rfl c26 ?_
        obtain ⟨x27, σ28, g29, h⟩ := bd_elim h
        refine Ev.cVi (pc := 232) (k := 79) (av := [vI (xs (v3 + 1).toNatClampNeg)]) (rest := [vI x23]) dL_law_232 ce_X10_told ml_L_30 rfl sh_79 cl_X10 sh_sc (Nat.le_of_ble_eq_true rfl) (Nat.le_of_ble_eq_true rfl) (r_X10_told g29) ?_
        by_cases c30 : x23 = x27
        · replace h := (if_pos c30).symm.trans h
          refine Ev.icmp_eq_t (pc := 235) (tgt := 958) dL_law_235 rfl c30 ?_
          exact Ev.weak2 (lj_L_law_958 N L xs (l_L_law_18 N L xs n) ih _ _ _ _ h) (lsubS (lsubS (lsubS (lsubS lsubE))))
        · replace h := (if_neg c30).symm.trans h
          refine Ev.icmp_eq_f (pc := 235) dL_law_235 ⟨958, rfl⟩ c30 ?_
          refine Ev.iconst (pc := 238) (v := 0) dL_law_238 ki_0 ?_
          obtain ⟨h1, h2⟩ := oeq h
          subst h1
          subst h2
          exact Ev.ret_i (pc := 239) dL_law_239 rfl nb_0
      replace h := (if_neg c21).symm.trans h
      by_cases c31 : ((xs v3.toNatClampNeg) &&& 31) = 4
      · replace h := (if_pos c31).symm.trans h
        refine Ev.swC (pc := 32) (c := 4) (tgt := 240) dL_law_32 c31 (by decide) (by decide) rfl rfl ?_
        refine Ev.aload_n (pc := 240) dL_law_240 rfl rfl ?_
        refine Ev.aload_n (pc := 241) dL_law_241 rfl rfl ?_
        refine Ev.iload_n (pc := 242) dL_law_242 rfl rfl ?_
        refine Ev.iconst (pc := 243) (v := 1) dL_law_243 ki_1 ?_
        refine Ev.iadd (pc := 244) dL_law_244 ?_
        obtain ⟨c32, h⟩ := ckA_elim h
        refine Ev.sld (pc := 245) dL_law_245 rfl c32 ?_
        refine Ev.aload_n (pc := 246) dL_law_246 rfl rfl ?_
        refine Ev.iload_n (pc := 247) dL_law_247 rfl rfl ?_
        refine Ev.iconst (pc := 248) (v := 2) dL_law_248 ki_2 ?_
        refine Ev.iadd (pc := 249) dL_law_249 ?_
        obtain ⟨c33, h⟩ := ckA_elim h
        refine Ev.sld (pc := 250) dL_law_250 rfl c33 ?_
        refine Ev.cVi (pc := 251) (k := 0) (av := [vI (xs (v3 + 1).toNatClampNeg), vI (xs (v3 + 2).toNatClampNeg)]) (rest := []) dL_law_251 ce_X9_far ml_L_31 rfl sh_0 cl_X9 sh_sc (Nat.le_of_ble_eq_true rfl) (Nat.le_of_ble_eq_true rfl) (r_X9_far _ _ _) ?_
        refine Ev.aload_n (pc := 254) dL_law_254 rfl rfl ?_
        refine Ev.aload_n (pc := 255) dL_law_255 rfl rfl ?_
        refine Ev.iload_n (pc := 256) dL_law_256 rfl rfl ?_
        refine Ev.iconst (pc := 257) (v := 1) dL_law_257 ki_1 ?_
        refine Ev.iadd (pc := 258) dL_law_258 ?_
        obtain ⟨c34, h⟩ := ckA_elim h
        refine Ev.sld (pc := 259) dL_law_259 rfl c34 ?_
        refine Ev.aload_n (pc := 260) dL_law_260 rfl rfl ?_
        refine Ev.iload_n (pc := 261) dL_law_261 rfl rfl ?_
        refine Ev.iconst (pc := 262) (v := 2) dL_law_262 ki_2 ?_
        refine Ev.iadd (pc := 263) dL_law_263 ?_
        obtain ⟨c35, h⟩ := ckA_elim h
        refine Ev.sld (pc := 264) dL_law_264 rfl c35 ?_
        obtain ⟨x36, σ37, g38, h⟩ := bd_elim h
        refine Ev.cVi (pc := 265) (k := 79) (av := [vI (xs (v3 + 1).toNatClampNeg), vI (xs (v3 + 2).toNatClampNeg)]) (rest := [vI (p_X9_far (xs (v3 + 1).toNatClampNeg) (xs (v3 + 2).toNatClampNeg) σ)]) dL_law_265 ce_X10_far ml_L_35 rfl sh_79 cl_X10 sh_sc (Nat.le_of_ble_eq_true rfl) (Nat.le_of_ble_eq_true rfl) (r_X10_far g38) ?_
        by_cases c39 : (p_X9_far (xs (v3 + 1).toNatClampNeg) (xs (v3 + 2).toNatClampNeg) σ) = x36
        · replace h := (if_pos c39).symm.trans h
          refine Ev.icmp_eq_t (pc := 268) (tgt := 958) dL_law_268 rfl c39 ?_
          exact Ev.weak2 (lj_L_law_958 N L xs (l_L_law_18 N L xs n) ih _ _ _ _ h) (lsubS (lsubS (lsubS (lsubS lsubE))))
        · replace h := (if_neg c39).symm.trans h
          refine Ev.icmp_eq_f (pc := 268) dL_law_268 ⟨958, rfl⟩ c39 ?_
          refine Ev.iconst (pc := 271) (v := 0) dL_law_271 ki_0 ?_
          obtain ⟨h1, h2⟩ := oeq h
          subst h1
          subst h2
          exact Ev.ret_i (pc := 272) dL_law_272 rfl nb_0
      replace h := (if_neg c31).symm.trans h
      by_cases c40 : ((xs v3.toNatClampNeg) &&& 31) = 5
      · replace h := (if_pos c40).symm.trans h
        refine Ev.swC (pc := 32) (c := 5) (tgt := 273) dL_law_32 c40 (by decide) (by decide) rfl rfl ?_
        refine Ev.aload_n (pc := 273) dL_law_273 rfl rfl ?_
        refine Ev.aload_n (pc := 274) dL_law_274 rfl rfl ?_
        refine Ev.iload_n (pc := 275) dL_law_275 rfl rfl ?_
        refine Ev.iconst (pc := 276) (v := 1) dL_law_276 ki_1 ?_
        refine Ev.iadd (pc := 277) dL_law_277 ?_
        obtain ⟨c41, h⟩ := ckA_elim h
        refine Ev.sld (pc := 278) dL_law_278 rfl c41 ?_
        refine Ev.aload_n (pc := 279) dL_law_279 rfl rfl ?_
        refine Ev.iload_n (pc := 280) dL_law_280 rfl rfl ?_
        refine Ev.iconst (pc := 281) (v := 2) dL_law_281 ki_2 ?_
        refine Ev.iadd (pc := 282) dL_law_282 ?_
        obtain ⟨c42, h⟩ := ckA_elim h
        refine Ev.sld (pc := 283) dL_law_283 rfl c42 ?_
        obtain ⟨x43, σ44, g45, h⟩ := bd_elim h
        refine Ev.cVi (pc := 284) (k := 0) (av := [vI (xs (v3 + 1).toNatClampNeg), vI (xs (v3 + 2).toNatClampNeg)]) (rest := []) dL_law_284 ce_X9_keeper ml_L_36 rfl sh_0 cl_X9 sh_sc (Nat.le_of_ble_eq_true rfl) (Nat.le_of_ble_eq_true rfl) (r_X9_keeper g45) ?_
        refine Ev.aload_n (pc := 287) dL_law_287 rfl rfl ?_
        refine Ev.aload_n (pc := 288) dL_law_288 rfl rfl ?_
        refine Ev.iload_n (pc := 289) dL_law_289 rfl rfl ?_
        refine Ev.iconst (pc := 290) (v := 1) dL_law_290 ki_1 ?_
        refine Ev.iadd (pc := 291) dL_law_291 ?_
        obtain ⟨c46, h⟩ := ckA_elim h
        refine Ev.sld (pc := 292) dL_law_292 rfl c46 ?_
        refine Ev.aload_n (pc := 293) dL_law_293 rfl rfl ?_
        refine Ev.iload_n (pc := 294) dL_law_294 rfl rfl ?_
        refine Ev.iconst (pc := 295) (v := 2) dL_law_295 ki_2 ?_
        refine Ev.iadd (pc := 296) dL_law_296 ?_
        obtain ⟨c47, h⟩ := ckA_elim h
        refine Ev.sld (pc := 297) dL_law_297 rfl c47 ?_
        obtain ⟨x48, σ49, g50, h⟩ := bd_elim h
        refine Ev.cVi (pc := 298) (k := 79) (av := [vI (xs (v3 + 1).toNatClampNeg), vI (xs (v3 + 2).toNatClampNeg)]) (rest := [vI x43]) dL_law_298 ce_X10_keeper ml_L_39 rfl sh_79 cl_X10 sh_sc (Nat.le_of_ble_eq_true rfl) (Nat.le_of_ble_eq_true rfl) (r_X10_keeper g50) ?_
        by_cases c51 : x43 = x48
        · replace h := (if_pos c51).symm.trans h
          refine Ev.icmp_eq_t (pc := 301) (tgt := 958) dL_law_301 rfl c51 ?_
          exact Ev.weak2 (lj_L_law_958 N L xs (l_L_law_18 N L xs n) ih _ _ _ _ h) (lsubS (lsubS (lsubS (lsubS lsubE))))
        · replace h := (if_neg c51).symm.trans h
          refine Ev.icmp_eq_f (pc := 301) dL_law_301 ⟨958, rfl⟩ c51 ?_
          refine Ev.iconst (pc := 304) (v := 0) dL_law_304 ki_0 ?_
          obtain ⟨h1, h2⟩ := oeq h
          subst h1
          subst h2
          exact Ev.ret_i (pc := 305) dL_law_305 rfl nb_0
      replace h := (if_neg c40).symm.trans h
      by_cases c52 : ((xs v3.toNatClampNeg) &&& 31) = 6
      · replace h := (if_pos c52).symm.trans h
        refine Ev.swC (pc := 32) (c := 6) (tgt := 306) dL_law_32 c52 (by decide) (by decide) rfl rfl ?_
        refine Ev.aload_n (pc := 306) dL_law_306 rfl rfl ?_
        refine Ev.aload_n (pc := 307) dL_law_307 rfl rfl ?_
        refine Ev.iload_n (pc := 308) dL_law_308 rfl rfl ?_
        refine Ev.iconst (pc := 309) (v := 1) dL_law_309 ki_1 ?_
        refine Ev.iadd (pc := 310) dL_law_310 ?_
        obtain ⟨c53, h⟩ := ckA_elim h
        refine Ev.sld (pc := 311) dL_law_311 rfl c53 ?_
        refine Ev.aload_n (pc := 312) dL_law_312 rfl rfl ?_
        refine Ev.iload_n (pc := 313) dL_law_313 rfl rfl ?_
        refine Ev.iconst (pc := 314) (v := 2) dL_law_314 ki_2 ?_
        refine Ev.iadd (pc := 315) dL_law_315 ?_
        obtain ⟨c54, h⟩ := ckA_elim h
        refine Ev.sld (pc := 316) dL_law_316 rfl c54 ?_
        obtain ⟨x55, σ56, g57, h⟩ := bd_elim h
        refine Ev.cVi (pc := 317) (k := 0) (av := [vI (xs (v3 + 1).toNatClampNeg), vI (xs (v3 + 2).toNatClampNeg)]) (rest := []) dL_law_317 ce_X9_promise ml_L_40 rfl sh_0 cl_X9 sh_sc (Nat.le_of_ble_eq_true rfl) (Nat.le_of_ble_eq_true rfl) (r_X9_promise g57) ?_
        refine Ev.aload_n (pc := 320) dL_law_320 rfl rfl ?_
        refine Ev.aload_n (pc := 321) dL_law_321 rfl rfl ?_
        refine Ev.iload_n (pc := 322) dL_law_322 rfl rfl ?_
        refine Ev.iconst (pc := 323) (v := 1) dL_law_323 ki_1 ?_
        refine Ev.iadd (pc := 324) dL_law_324 ?_
        obtain ⟨c58, h⟩ := ckA_elim h
        refine Ev.sld (pc := 325) dL_law_325 rfl c58 ?_
        refine Ev.aload_n (pc := 326) dL_law_326 rfl rfl ?_
        refine Ev.iload_n (pc := 327) dL_law_327 rfl rfl ?_
        refine Ev.iconst (pc := 328) (v := 2) dL_law_328 ki_2 ?_
        refine Ev.iadd (pc := 329) dL_law_329 ?_
        obtain ⟨c59, h⟩ := ckA_elim h
        refine Ev.sld (pc := 330) dL_law_330 rfl c59 ?_
        obtain ⟨x60, σ61, g62, h⟩ := bd_elim h
        refine Ev.cVi (pc := 331) (k := 79) (av := [vI (xs (v3 + 1).toNatClampNeg), vI (xs (v3 + 2).toNatClampNeg)]) (rest := [vI x55]) dL_law_331 ce_X10_promise ml_L_43 rfl sh_79 cl_X10 sh_sc (Nat.le_of_ble_eq_true rfl) (Nat.le_of_ble_eq_true rfl) (r_X10_promise g62) ?_
        by_cases c63 : x55 = x60
        · replace h := (if_pos c63).symm.trans h
          refine Ev.icmp_eq_t (pc := 334) (tgt := 958) dL_law_334 rfl c63 ?_
          exact Ev.weak2 (lj_L_law_958 N L xs (l_L_law_18 N L xs n) ih _ _ _ _ h) (lsubS (lsubS (lsubS (lsubS lsubE))))
        · replace h := (if_neg c63).symm.trans h
          refine Ev.icmp_eq_f (pc := 334) dL_law_334 ⟨958, rfl⟩ c63 ?_
          refine Ev.iconst (pc := 337) (v := 0) dL_law_337 ki_0 ?_
          obtain ⟨h1, h2⟩ := oeq h
          subst h1
          subst h2
          exact Ev.ret_i (pc := 338) dL_law_338 rfl nb_0
      replace h := (if_neg c52).symm.trans h
      by_cases c64 : ((xs v3.toNatClampNeg) &&& 31) = 7
      · replace h := (if_pos c64).symm.trans h
        refine Ev.swC (pc := 32) (c := 7) (tgt := 339) dL_law_32 c64 (by decide) (by decide) rfl rfl ?_
        refine Ev.aload_n (pc := 339) dL_law_339 rfl rfl ?_
        refine Ev.aload_n (pc := 340) dL_law_340 rfl rfl ?_
        refine Ev.iload_n (pc := 341) dL_law_341 rfl rfl ?_
        refine Ev.iconst (pc := 342) (v := 1) dL_law_342 ki_1 ?_
        refine Ev.iadd (pc := 343) dL_law_343 ?_
        obtain ⟨c65, h⟩ := ckA_elim h
        refine Ev.sld (pc := 344) dL_law_344 rfl c65 ?_
        refine Ev.cVi (pc := 345) (k := 0) (av := [vI (xs (v3 + 1).toNatClampNeg)]) (rest := []) dL_law_345 ce_X9_fell ml_L_44 rfl sh_0 cl_X9 sh_sc (Nat.le_of_ble_eq_true rfl) (Nat.le_of_ble_eq_true rfl) (r_X9_fell _ _) ?_
        refine Ev.aload_n (pc := 348) dL_law_348 rfl rfl ?_
        refine Ev.aload_n (pc := 349) dL_law_349 rfl rfl ?_
        refine Ev.iload_n (pc := 350) dL_law_350 rfl rfl ?_
        refine Ev.iconst (pc := 351) (v := 1) dL_law_351 ki_1 ?_
        refine Ev.iadd (pc := 352) dL_law_352 ?_
        obtain ⟨c66, h⟩ := ckA_elim h
        refine Ev.sld (pc := 353) dL_law_353 rfl c66 ?_
        obtain ⟨x67, σ68, g69, h⟩ := bd_elim h
        refine Ev.cVi (pc := 354) (k := 79) (av := [vI (xs (v3 + 1).toNatClampNeg)]) (rest := [vI (p_X9_fell (xs (v3 + 1).toNatClampNeg) σ)]) dL_law_354 ce_X10_fell ml_L_47 rfl sh_79 cl_X10 sh_sc (Nat.le_of_ble_eq_true rfl) (Nat.le_of_ble_eq_true rfl) (r_X10_fell g69) ?_
        by_cases c70 : (p_X9_fell (xs (v3 + 1).toNatClampNeg) σ) = x67
        · replace h := (if_pos c70).symm.trans h
          refine Ev.icmp_eq_t (pc := 357) (tgt := 958) dL_law_357 rfl c70 ?_
          exact Ev.weak2 (lj_L_law_958 N L xs (l_L_law_18 N L xs n) ih _ _ _ _ h) (lsubS (lsubS (lsubS (lsubS lsubE))))
        · replace h := (if_neg c70).symm.trans h
          refine Ev.icmp_eq_f (pc := 357) dL_law_357 ⟨958, rfl⟩ c70 ?_
          refine Ev.iconst (pc := 360) (v := 0) dL_law_360 ki_0 ?_
          obtain ⟨h1, h2⟩ := oeq h
          subst h1
          subst h2
          exact Ev.ret_i (pc := 361) dL_law_361 rfl nb_0
      replace h := (if_neg c64).symm.trans h
      by_cases c71 : ((xs v3.toNatClampNeg) &&& 31) = 8
      · replace h := (if_pos c71).symm.trans h
        refine Ev.swC (pc := 32) (c := 8) (tgt := 362) dL_law_32 c71 (by decide) (by decide) rfl rfl ?_
        refine Ev.aload_n (pc := 362) dL_law_362 rfl rfl ?_
        refine Ev.aload_n (pc := 363) dL_law_363 rfl rfl ?_
        refine Ev.iload_n (pc := 364) dL_law_364 rfl rfl ?_
        refine Ev.iconst (pc := 365) (v := 1) dL_law_365 ki_1 ?_
        refine Ev.iadd (pc := 366) dL_law_366 ?_
        obtain ⟨c72, h⟩ := ckA_elim h
        refine Ev.sld (pc := 367) dL_law_367 rfl c72 ?_
        refine Ev.aload_n (pc := 368) dL_law_368 rfl rfl ?_
        refine Ev.iload_n (pc := 369) dL_law_369 rfl rfl ?_
        refine Ev.iconst (pc := 370) (v := 2) dL_law_370 ki_2 ?_
        refine Ev.iadd (pc := 371) dL_law_371 ?_
        obtain ⟨c73, h⟩ := ckA_elim h
        refine Ev.sld (pc := 372) dL_law_372 rfl c73 ?_
        refine Ev.cVi (pc := 373) (k := 0) (av := [vI (xs (v3 + 1).toNatClampNeg), vI (xs (v3 + 2).toNatClampNeg)]) (rest := []) dL_law_373 ce_X9_go ml_L_48 rfl sh_0 cl_X9 sh_sc (Nat.le_of_ble_eq_true rfl) (Nat.le_of_ble_eq_true rfl) (r_X9_go _ _ _) ?_
        refine Ev.nmQ (fun q74 e9 => ?_)
        replace h := bt_app h q74 e9
        refine Ev.aload_n (pc := 376) dL_law_376 rfl rfl ?_
        refine Ev.aload_n (pc := 377) dL_law_377 rfl rfl ?_
        refine Ev.iload_n (pc := 378) dL_law_378 rfl rfl ?_
        refine Ev.iconst (pc := 379) (v := 1) dL_law_379 ki_1 ?_
        refine Ev.iadd (pc := 380) dL_law_380 ?_
        obtain ⟨c75, h⟩ := ckA_elim h
        refine Ev.sld (pc := 381) dL_law_381 rfl c75 ?_
        refine Ev.aload_n (pc := 382) dL_law_382 rfl rfl ?_
        refine Ev.iload_n (pc := 383) dL_law_383 rfl rfl ?_
        refine Ev.iconst (pc := 384) (v := 2) dL_law_384 ki_2 ?_
        refine Ev.iadd (pc := 385) dL_law_385 ?_
        obtain ⟨c76, h⟩ := ckA_elim h
        refine Ev.sld (pc := 386) dL_law_386 rfl c76 ?_
        obtain ⟨x77, σ78, g79, h⟩ := bd_elim h
        refine Ev.cVi (pc := 387) (k := 79) (av := [vI (xs (v3 + 1).toNatClampNeg), vI (xs (v3 + 2).toNatClampNeg)]) (rest := [vI q74.1]) dL_law_387 ce_X10_go ml_L_51 rfl sh_79 cl_X10 sh_sc (Nat.le_of_ble_eq_true rfl) (Nat.le_of_ble_eq_true rfl) (r_X10_go g79) ?_
        by_cases c80 : q74.1 = x77
        · replace h := (if_pos c80).symm.trans h
          refine Ev.icmp_eq_t (pc := 390) (tgt := 958) dL_law_390 rfl c80 ?_
          exact Ev.weak2 (lj_L_law_958 N L xs (l_L_law_18 N L xs n) ih _ _ _ _ h) (lsubS (lsubS (lsubS (lsubS lsubE))))
        · replace h := (if_neg c80).symm.trans h
          refine Ev.icmp_eq_f (pc := 390) dL_law_390 ⟨958, rfl⟩ c80 ?_
          refine Ev.iconst (pc := 393) (v := 0) dL_law_393 ki_0 ?_
          obtain ⟨h1, h2⟩ := oeq h
          subst h1
          subst h2
          exact Ev.ret_i (pc := 394) dL_law_394 rfl nb_0
      replace h := (if_neg c71).symm.trans h
      by_cases c81 : ((xs v3.toNatClampNeg) &&& 31) = 9
      · replace h := (if_pos c81).symm.trans h
        refine Ev.swC (pc := 32) (c := 9) (tgt := 395) dL_law_32 c81 (by decide) (by decide) rfl rfl ?_
        refine Ev.aload_n (pc := 395) dL_law_395 rfl rfl ?_
        refine Ev.aload_n (pc := 396) dL_law_396 rfl rfl ?_
        refine Ev.iload_n (pc := 397) dL_law_397 rfl rfl ?_
        refine Ev.iconst (pc := 398) (v := 1) dL_law_398 ki_1 ?_
        refine Ev.iadd (pc := 399) dL_law_399 ?_
        obtain ⟨c82, h⟩ := ckA_elim h
        refine Ev.sld (pc := 400) dL_law_400 rfl c82 ?_
        obtain ⟨x83, σ84, g85, h⟩ := bd_elim h
        refine Ev.cVi (pc := 401) (k := 0) (av := [vI (xs (v3 + 1).toNatClampNeg)]) (rest := []) dL_law_401 ce_X9_day ml_L_52 rfl sh_0 cl_X9 sh_sc (Nat.le_of_ble_eq_true rfl) (Nat.le_of_ble_eq_true rfl) (r_X9_day g85) ?_
        refine Ev.aload_n (pc := 404) dL_law_404 rfl rfl ?_
        refine Ev.aload_n (pc := 405) dL_law_405 rfl rfl ?_
        refine Ev.iload_n (pc := 406) dL_law_406 rfl rfl ?_
        refine Ev.iconst (pc := 407) (v := 1) dL_law_407 ki_1 ?_
        refine Ev.iadd (pc := 408) dL_law_408 ?_
        obtain ⟨c86, h⟩ := ckA_elim h
        refine Ev.sld (pc := 409) dL_law_409 rfl c86 ?_
        obtain ⟨x87, σ88, g89, h⟩ := bd_elim h
        refine Ev.cVi (pc := 410) (k := 79) (av := [vI (xs (v3 + 1).toNatClampNeg)]) (rest := [vI x83]) dL_law_410 ce_X10_day ml_L_55 rfl sh_79 cl_X10 sh_sc (Nat.le_of_ble_eq_true rfl) (Nat.le_of_ble_eq_true rfl) (r_X10_day g89) ?_
        by_cases c90 : x83 = x87
        · replace h := (if_pos c90).symm.trans h
          refine Ev.icmp_eq_t (pc := 413) (tgt := 958) dL_law_413 rfl c90 ?_
          exact Ev.weak2 (lj_L_law_958 N L xs (l_L_law_18 N L xs n) ih _ _ _ _ h) (lsubS (lsubS (lsubS (lsubS lsubE))))
        · replace h := (if_neg c90).symm.trans h
          refine Ev.icmp_eq_f (pc := 413) dL_law_413 ⟨958, rfl⟩ c90 ?_
          refine Ev.iconst (pc := 416) (v := 0) dL_law_416 ki_0 ?_
          obtain ⟨h1, h2⟩ := oeq h
          subst h1
          subst h2
          exact Ev.ret_i (pc := 417) dL_law_417 rfl nb_0
      replace h := (if_neg c81).symm.trans h
      by_cases c91 : ((xs v3.toNatClampNeg) &&& 31) = 10
      · replace h := (if_pos c91).symm.trans h
        refine Ev.swC (pc := 32) (c := 10) (tgt := 418) dL_law_32 c91 (by decide) (by decide) rfl rfl ?_
        refine Ev.aload_n (pc := 418) dL_law_418 rfl rfl ?_
        refine Ev.aload_n (pc := 419) dL_law_419 rfl rfl ?_
        refine Ev.iload_n (pc := 420) dL_law_420 rfl rfl ?_
        refine Ev.iconst (pc := 421) (v := 1) dL_law_421 ki_1 ?_
        refine Ev.iadd (pc := 422) dL_law_422 ?_
        obtain ⟨c92, h⟩ := ckA_elim h
        refine Ev.sld (pc := 423) dL_law_423 rfl c92 ?_
        obtain ⟨x93, σ94, g95, h⟩ := bd_elim h
        refine Ev.cVi (pc := 424) (k := 0) (av := [vI (xs (v3 + 1).toNatClampNeg)]) (rest := []) dL_law_424 ce_X9_keep ml_L_56 rfl sh_0 cl_X9 sh_sc (Nat.le_of_ble_eq_true rfl) (Nat.le_of_ble_eq_true rfl) (r_X9_keep g95) ?_
        refine Ev.aload_n (pc := 427) dL_law_427 rfl rfl ?_
        refine Ev.aload_n (pc := 428) dL_law_428 rfl rfl ?_
        refine Ev.iload_n (pc := 429) dL_law_429 rfl rfl ?_
        refine Ev.iconst (pc := 430) (v := 1) dL_law_430 ki_1 ?_
        refine Ev.iadd (pc := 431) dL_law_431 ?_
        obtain ⟨c96, h⟩ := ckA_elim h
        refine Ev.sld (pc := 432) dL_law_432 rfl c96 ?_
        obtain ⟨x97, σ98, g99, h⟩ := bd_elim h
        refine Ev.cVi (pc := 433) (k := 79) (av := [vI (xs (v3 + 1).toNatClampNeg)]) (rest := [vI x93]) dL_law_433 ce_X10_keep ml_L_59 rfl sh_79 cl_X10 sh_sc (Nat.le_of_ble_eq_true rfl) (Nat.le_of_ble_eq_true rfl) (r_X10_keep g99) ?_
        by_cases c100 : x93 = x97
        · replace h := (if_pos c100).symm.trans h
          refine Ev.icmp_eq_t (pc := 436) (tgt := 958) dL_law_436 rfl c100 ?_
          exact Ev.weak2 (lj_L_law_958 N L xs (l_L_law_18 N L xs n) ih _ _ _ _ h) (lsubS (lsubS (lsubS (lsubS lsubE))))
        · replace h := (if_neg c100).symm.trans h
          refine Ev.icmp_eq_f (pc := 436) dL_law_436 ⟨958, rfl⟩ c100 ?_
          refine Ev.iconst (pc := 439) (v := 0) dL_law_439 ki_0 ?_
          obtain ⟨h1, h2⟩ := oeq h
          subst h1
          subst h2
          exact Ev.ret_i (pc := 440) dL_law_440 rfl nb_0
      replace h := (if_neg c91).symm.trans h
      by_cases c101 : ((xs v3.toNatClampNeg) &&& 31) = 11
      · replace h := (if_pos c101).symm.trans h
        refine Ev.swC (pc := 32) (c := 11) (tgt := 441) dL_law_32 c101 (by decide) (by decide) rfl rfl ?_
        refine Ev.aload_n (pc := 441) dL_law_441 rfl rfl ?_
        refine Ev.aload_n (pc := 442) dL_law_442 rfl rfl ?_
        refine Ev.iload_n (pc := 443) dL_law_443 rfl rfl ?_
        refine Ev.iconst (pc := 444) (v := 1) dL_law_444 ki_1 ?_
        refine Ev.iadd (pc := 445) dL_law_445 ?_
        obtain ⟨c102, h⟩ := ckA_elim h
        refine Ev.sld (pc := 446) dL_law_446 rfl c102 ?_
        obtain ⟨x103, σ104, g105, h⟩ := bd_elim h
        refine Ev.cVi (pc := 447) (k := 0) (av := [vI (xs (v3 + 1).toNatClampNeg)]) (rest := []) dL_law_447 ce_X9_takeDown ml_L_60 rfl sh_0 cl_X9 sh_sc (Nat.le_of_ble_eq_true rfl) (Nat.le_of_ble_eq_true rfl) (r_X9_takeDown g105) ?_
        refine Ev.aload_n (pc := 450) dL_law_450 rfl rfl ?_
        refine Ev.aload_n (pc := 451) dL_law_451 rfl rfl ?_
        refine Ev.iload_n (pc := 452) dL_law_452 rfl rfl ?_
        refine Ev.iconst (pc := 453) (v := 1) dL_law_453 ki_1 ?_
        refine Ev.iadd (pc := 454) dL_law_454 ?_
        obtain ⟨c106, h⟩ := ckA_elim h
        refine Ev.sld (pc := 455) dL_law_455 rfl c106 ?_
        obtain ⟨x107, σ108, g109, h⟩ := bd_elim h
        refine Ev.cVi (pc := 456) (k := 79) (av := [vI (xs (v3 + 1).toNatClampNeg)]) (rest := [vI x103]) dL_law_456 ce_X10_takeDown ml_L_63 rfl sh_79 cl_X10 sh_sc (Nat.le_of_ble_eq_true rfl) (Nat.le_of_ble_eq_true rfl) (r_X10_takeDown g109) ?_
        by_cases c110 : x103 = x107
        · replace h := (if_pos c110).symm.trans h
          refine Ev.icmp_eq_t (pc := 459) (tgt := 958) dL_law_459 rfl c110 ?_
          exact Ev.weak2 (lj_L_law_958 N L xs (l_L_law_18 N L xs n) ih _ _ _ _ h) (lsubS (lsubS (lsubS (lsubS lsubE))))
        · replace h := (if_neg c110).symm.trans h
          refine Ev.icmp_eq_f (pc := 459) dL_law_459 ⟨958, rfl⟩ c110 ?_
          refine Ev.iconst (pc := 462) (v := 0) dL_law_462 ki_0 ?_
          obtain ⟨h1, h2⟩ := oeq h
          subst h1
          subst h2
          exact Ev.ret_i (pc := 463) dL_law_463 rfl nb_0
      replace h := (if_neg c101).symm.trans h
      by_cases c111 : ((xs v3.toNatClampNeg) &&& 31) = 12
      · replace h := (if_pos c111).symm.trans h
        refine Ev.swC (pc := 32) (c := 12) (tgt := 464) dL_law_32 c111 (by decide) (by decide) rfl rfl ?_
        refine Ev.aload_n (pc := 464) dL_law_464 rfl rfl ?_
        refine Ev.aload_n (pc := 465) dL_law_465 rfl rfl ?_
        refine Ev.iload_n (pc := 466) dL_law_466 rfl rfl ?_
        refine Ev.iconst (pc := 467) (v := 1) dL_law_467 ki_1 ?_
        refine Ev.iadd (pc := 468) dL_law_468 ?_
        obtain ⟨c112, h⟩ := ckA_elim h
        refine Ev.sld (pc := 469) dL_law_469 rfl c112 ?_
        refine Ev.aload_n (pc := 470) dL_law_470 rfl rfl ?_
        refine Ev.iload_n (pc := 471) dL_law_471 rfl rfl ?_
        refine Ev.iconst (pc := 472) (v := 2) dL_law_472 ki_2 ?_
        refine Ev.iadd (pc := 473) dL_law_473 ?_
        obtain ⟨c113, h⟩ := ckA_elim h
        refine Ev.sld (pc := 474) dL_law_474 rfl c113 ?_
        refine Ev.cVi (pc := 475) (k := 0) (av := [vI (xs (v3 + 1).toNatClampNeg), vI (xs (v3 + 2).toNatClampNeg)]) (rest := []) dL_law_475 ce_X9_swap ml_L_64 rfl sh_0 cl_X9 sh_sc (Nat.le_of_ble_eq_true rfl) (Nat.le_of_ble_eq_true rfl) (r_X9_swap _ _ _) ?_
        refine Ev.nmQ (fun q114 e9 => ?_)
        replace h := bt_app h q114 e9
        refine Ev.aload_n (pc := 478) dL_law_478 rfl rfl ?_
        refine Ev.aload_n (pc := 479) dL_law_479 rfl rfl ?_
        refine Ev.iload_n (pc := 480) dL_law_480 rfl rfl ?_
        refine Ev.iconst (pc := 481) (v := 1) dL_law_481 ki_1 ?_
        refine Ev.iadd (pc := 482) dL_law_482 ?_
        obtain ⟨c115, h⟩ := ckA_elim h
        refine Ev.sld (pc := 483) dL_law_483 rfl c115 ?_
        refine Ev.aload_n (pc := 484) dL_law_484 rfl rfl ?_
        refine Ev.iload_n (pc := 485) dL_law_485 rfl rfl ?_
        refine Ev.iconst (pc := 486) (v := 2) dL_law_486 ki_2 ?_
        refine Ev.iadd (pc := 487) dL_law_487 ?_
        obtain ⟨c116, h⟩ := ckA_elim h
        refine Ev.sld (pc := 488) dL_law_488 rfl c116 ?_
        obtain ⟨x117, σ118, g119, h⟩ := bd_elim h
        refine Ev.cVi (pc := 489) (k := 79) (av := [vI (xs (v3 + 1).toNatClampNeg), vI (xs (v3 + 2).toNatClampNeg)]) (rest := [vI q114.1]) dL_law_489 ce_X10_swap ml_L_67 rfl sh_79 cl_X10 sh_sc (Nat.le_of_ble_eq_true rfl) (Nat.le_of_ble_eq_true rfl) (r_X10_swap g119) ?_
        by_cases c120 : q114.1 = x117
        · replace h := (if_pos c120).symm.trans h
          refine Ev.icmp_eq_t (pc := 492) (tgt := 958) dL_law_492 rfl c120 ?_
          exact Ev.weak2 (lj_L_law_958 N L xs (l_L_law_18 N L xs n) ih _ _ _ _ h) (lsubS (lsubS (lsubS (lsubS lsubE))))
        · replace h := (if_neg c120).symm.trans h
          refine Ev.icmp_eq_f (pc := 492) dL_law_492 ⟨958, rfl⟩ c120 ?_
          refine Ev.iconst (pc := 495) (v := 0) dL_law_495 ki_0 ?_
          obtain ⟨h1, h2⟩ := oeq h
          subst h1
          subst h2
          exact Ev.ret_i (pc := 496) dL_law_496 rfl nb_0
      replace h := (if_neg c111).symm.trans h
      by_cases c121 : ((xs v3.toNatClampNeg) &&& 31) = 13
      · replace h := (if_pos c121).symm.trans h
        refine Ev.swC (pc := 32) (c := 13) (tgt := 497) dL_law_32 c121 (by decide) (by decide) rfl rfl ?_
        refine Ev.aload_n (pc := 497) dL_law_497 rfl rfl ?_
        refine Ev.aload_n (pc := 498) dL_law_498 rfl rfl ?_
        refine Ev.iload_n (pc := 499) dL_law_499 rfl rfl ?_
        refine Ev.iconst (pc := 500) (v := 1) dL_law_500 ki_1 ?_
        refine Ev.iadd (pc := 501) dL_law_501 ?_
        obtain ⟨c122, h⟩ := ckA_elim h
        refine Ev.sld (pc := 502) dL_law_502 rfl c122 ?_
        obtain ⟨x123, σ124, g125, h⟩ := bd_elim h
        refine Ev.cVi (pc := 503) (k := 0) (av := [vI (xs (v3 + 1).toNatClampNeg)]) (rest := []) dL_law_503 ce_X9_drift ml_L_68 rfl sh_0 cl_X9 sh_sc (Nat.le_of_ble_eq_true rfl) (Nat.le_of_ble_eq_true rfl) (r_X9_drift g125) ?_
        refine Ev.aload_n (pc := 506) dL_law_506 rfl rfl ?_
        refine Ev.aload_n (pc := 507) dL_law_507 rfl rfl ?_
        refine Ev.iload_n (pc := 508) dL_law_508 rfl rfl ?_
        refine Ev.iconst (pc := 509) (v := 1) dL_law_509 ki_1 ?_
        refine Ev.iadd (pc := 510) dL_law_510 ?_
        obtain ⟨c126, h⟩ := ckA_elim h
        refine Ev.sld (pc := 511) dL_law_511 rfl c126 ?_
        obtain ⟨x127, σ128, g129, h⟩ := bd_elim h
        refine Ev.cVi (pc := 512) (k := 79) (av := [vI (xs (v3 + 1).toNatClampNeg)]) (rest := [vI x123]) dL_law_512 ce_X10_drift ml_L_71 rfl sh_79 cl_X10 sh_sc (Nat.le_of_ble_eq_true rfl) (Nat.le_of_ble_eq_true rfl) (r_X10_drift g129) ?_
        by_cases c130 : x123 = x127
        · replace h := (if_pos c130).symm.trans h
          refine Ev.icmp_eq_t (pc := 515) (tgt := 958) dL_law_515 rfl c130 ?_
          exact Ev.weak2 (lj_L_law_958 N L xs (l_L_law_18 N L xs n) ih _ _ _ _ h) (lsubS (lsubS (lsubS (lsubS lsubE))))
        · replace h := (if_neg c130).symm.trans h
          refine Ev.icmp_eq_f (pc := 515) dL_law_515 ⟨958, rfl⟩ c130 ?_
          refine Ev.iconst (pc := 518) (v := 0) dL_law_518 ki_0 ?_
          obtain ⟨h1, h2⟩ := oeq h
          subst h1
          subst h2
          exact Ev.ret_i (pc := 519) dL_law_519 rfl nb_0
      replace h := (if_neg c121).symm.trans h
      by_cases c131 : ((xs v3.toNatClampNeg) &&& 31) = 14
      · replace h := (if_pos c131).symm.trans h
        refine Ev.swC (pc := 32) (c := 14) (tgt := 520) dL_law_32 c131 (by decide) (by decide) rfl rfl ?_
        refine Ev.aload_n (pc := 520) dL_law_520 rfl rfl ?_
        refine Ev.aload_n (pc := 521) dL_law_521 rfl rfl ?_
        refine Ev.iload_n (pc := 522) dL_law_522 rfl rfl ?_
        refine Ev.iconst (pc := 523) (v := 1) dL_law_523 ki_1 ?_
        refine Ev.iadd (pc := 524) dL_law_524 ?_
        obtain ⟨c132, h⟩ := ckA_elim h
        refine Ev.sld (pc := 525) dL_law_525 rfl c132 ?_
        obtain ⟨x133, σ134, g135, h⟩ := bd_elim h
        refine Ev.cVi (pc := 526) (k := 0) (av := [vI (xs (v3 + 1).toNatClampNeg)]) (rest := []) dL_law_526 ce_X9_undo ml_L_72 rfl sh_0 cl_X9 sh_sc (Nat.le_of_ble_eq_true rfl) (Nat.le_of_ble_eq_true rfl) (r_X9_undo g135) ?_
        refine Ev.aload_n (pc := 529) dL_law_529 rfl rfl ?_
        refine Ev.aload_n (pc := 530) dL_law_530 rfl rfl ?_
        refine Ev.iload_n (pc := 531) dL_law_531 rfl rfl ?_
        refine Ev.iconst (pc := 532) (v := 1) dL_law_532 ki_1 ?_
        refine Ev.iadd (pc := 533) dL_law_533 ?_
        obtain ⟨c136, h⟩ := ckA_elim h
        refine Ev.sld (pc := 534) dL_law_534 rfl c136 ?_
        obtain ⟨x137, σ138, g139, h⟩ := bd_elim h
        refine Ev.cVi (pc := 535) (k := 79) (av := [vI (xs (v3 + 1).toNatClampNeg)]) (rest := [vI x133]) dL_law_535 ce_X10_undo ml_L_75 rfl sh_79 cl_X10 sh_sc (Nat.le_of_ble_eq_true rfl) (Nat.le_of_ble_eq_true rfl) (r_X10_undo g139) ?_
        by_cases c140 : x133 = x137
        · replace h := (if_pos c140).symm.trans h
          refine Ev.icmp_eq_t (pc := 538) (tgt := 958) dL_law_538 rfl c140 ?_
          exact Ev.weak2 (lj_L_law_958 N L xs (l_L_law_18 N L xs n) ih _ _ _ _ h) (lsubS (lsubS (lsubS (lsubS lsubE))))
        · replace h := (if_neg c140).symm.trans h
          refine Ev.icmp_eq_f (pc := 538) dL_law_538 ⟨958, rfl⟩ c140 ?_
          refine Ev.iconst (pc := 541) (v := 0) dL_law_541 ki_0 ?_
          obtain ⟨h1, h2⟩ := oeq h
          subst h1
          subst h2
          exact Ev.ret_i (pc := 542) dL_law_542 rfl nb_0
      replace h := (if_neg c131).symm.trans h
      by_cases c141 : ((xs v3.toNatClampNeg) &&& 31) = 15
      · replace h := (if_pos c141).symm.trans h
        refine Ev.swC (pc := 32) (c := 15) (tgt := 543) dL_law_32 c141 (by decide) (by decide) rfl rfl ?_
        refine Ev.aload_n (pc := 543) dL_law_543 rfl rfl ?_
        refine Ev.aload_n (pc := 544) dL_law_544 rfl rfl ?_
        refine Ev.iload_n (pc := 545) dL_law_545 rfl rfl ?_
        refine Ev.iconst (pc := 546) (v := 1) dL_law_546 ki_1 ?_
        refine Ev.iadd (pc := 547) dL_law_547 ?_
        obtain ⟨c142, h⟩ := ckA_elim h
        refine Ev.sld (pc := 548) dL_law_548 rfl c142 ?_
        refine Ev.aload_n (pc := 549) dL_law_549 rfl rfl ?_
        refine Ev.iload_n (pc := 550) dL_law_550 rfl rfl ?_
        refine Ev.iconst (pc := 551) (v := 2) dL_law_551 ki_2 ?_
        refine Ev.iadd (pc := 552) dL_law_552 ?_
        obtain ⟨c143, h⟩ := ckA_elim h
        refine Ev.sld (pc := 553) dL_law_553 rfl c143 ?_
        obtain ⟨x144, σ145, g146, h⟩ := bd_elim h
        refine Ev.cVi (pc := 554) (k := 0) (av := [vI (xs (v3 + 1).toNatClampNeg), vI (xs (v3 + 2).toNatClampNeg)]) (rest := []) dL_law_554 ce_X9_plan ml_L_76 rfl sh_0 cl_X9 sh_sc (Nat.le_of_ble_eq_true rfl) (Nat.le_of_ble_eq_true rfl) (r_X9_plan g146) ?_
        refine Ev.aload_n (pc := 557) dL_law_557 rfl rfl ?_
        refine Ev.aload_n (pc := 558) dL_law_558 rfl rfl ?_
        refine Ev.iload_n (pc := 559) dL_law_559 rfl rfl ?_
        refine Ev.iconst (pc := 560) (v := 1) dL_law_560 ki_1 ?_
        refine Ev.iadd (pc := 561) dL_law_561 ?_
        obtain ⟨c147, h⟩ := ckA_elim h
        refine Ev.sld (pc := 562) dL_law_562 rfl c147 ?_
        refine Ev.aload_n (pc := 563) dL_law_563 rfl rfl ?_
        refine Ev.iload_n (pc := 564) dL_law_564 rfl rfl ?_
        refine Ev.iconst (pc := 565) (v := 2) dL_law_565 ki_2 ?_
        refine Ev.iadd (pc := 566) dL_law_566 ?_
        obtain ⟨c148, h⟩ := ckA_elim h
        refine Ev.sld (pc := 567) dL_law_567 rfl c148 ?_
        obtain ⟨x149, σ150, g151, h⟩ := bd_elim h
        refine Ev.cVi (pc := 568) (k := 79) (av := [vI (xs (v3 + 1).toNatClampNeg), vI (xs (v3 + 2).toNatClampNeg)]) (rest := [vI x144]) dL_law_568 ce_X10_plan ml_L_79 rfl sh_79 cl_X10 sh_sc (Nat.le_of_ble_eq_true rfl) (Nat.le_of_ble_eq_true rfl) (r_X10_plan g151) ?_
        by_cases c152 : x144 = x149
        · replace h := (if_pos c152).symm.trans h
          refine Ev.icmp_eq_t (pc := 571) (tgt := 958) dL_law_571 rfl c152 ?_
          exact Ev.weak2 (lj_L_law_958 N L xs (l_L_law_18 N L xs n) ih _ _ _ _ h) (lsubS (lsubS (lsubS (lsubS lsubE))))
        · replace h := (if_neg c152).symm.trans h
          refine Ev.icmp_eq_f (pc := 571) dL_law_571 ⟨958, rfl⟩ c152 ?_
          refine Ev.iconst (pc := 574) (v := 0) dL_law_574 ki_0 ?_
          obtain ⟨h1, h2⟩ := oeq h
          subst h1
          subst h2
          exact Ev.ret_i (pc := 575) dL_law_575 rfl nb_0
      replace h := (if_neg c141).symm.trans h
      by_cases c153 : ((xs v3.toNatClampNeg) &&& 31) = 16
      · replace h := (if_pos c153).symm.trans h
        refine Ev.swC (pc := 32) (c := 16) (tgt := 576) dL_law_32 c153 (by decide) (by decide) rfl rfl ?_
        refine Ev.aload_n (pc := 576) dL_law_576 rfl rfl ?_
        refine Ev.aload_n (pc := 577) dL_law_577 rfl rfl ?_
        refine Ev.iload_n (pc := 578) dL_law_578 rfl rfl ?_
        refine Ev.iconst (pc := 579) (v := 1) dL_law_579 ki_1 ?_
        refine Ev.iadd (pc := 580) dL_law_580 ?_
        obtain ⟨c154, h⟩ := ckA_elim h
        refine Ev.sld (pc := 581) dL_law_581 rfl c154 ?_
        refine Ev.aload_n (pc := 582) dL_law_582 rfl rfl ?_
        refine Ev.iload_n (pc := 583) dL_law_583 rfl rfl ?_
        refine Ev.iconst (pc := 584) (v := 2) dL_law_584 ki_2 ?_
        refine Ev.iadd (pc := 585) dL_law_585 ?_
        obtain ⟨c155, h⟩ := ckA_elim h
        refine Ev.sld (pc := 586) dL_law_586 rfl c155 ?_
        obtain ⟨x156, σ157, g158, h⟩ := bd_elim h
        refine Ev.cVi (pc := 587) (k := 0) (av := [vI (xs (v3 + 1).toNatClampNeg), vI (xs (v3 + 2).toNatClampNeg)]) (rest := []) dL_law_587 ce_X9_clash ml_L_80 rfl sh_0 cl_X9 sh_sc (Nat.le_of_ble_eq_true rfl) (Nat.le_of_ble_eq_true rfl) (r_X9_clash g158) ?_
        refine Ev.aload_n (pc := 590) dL_law_590 rfl rfl ?_
        refine Ev.aload_n (pc := 591) dL_law_591 rfl rfl ?_
        refine Ev.iload_n (pc := 592) dL_law_592 rfl rfl ?_
        refine Ev.iconst (pc := 593) (v := 1) dL_law_593 ki_1 ?_
        refine Ev.iadd (pc := 594) dL_law_594 ?_
        obtain ⟨c159, h⟩ := ckA_elim h
        refine Ev.sld (pc := 595) dL_law_595 rfl c159 ?_
        refine Ev.aload_n (pc := 596) dL_law_596 rfl rfl ?_
        refine Ev.iload_n (pc := 597) dL_law_597 rfl rfl ?_
        refine Ev.iconst (pc := 598) (v := 2) dL_law_598 ki_2 ?_
        refine Ev.iadd (pc := 599) dL_law_599 ?_
        obtain ⟨c160, h⟩ := ckA_elim h
        refine Ev.sld (pc := 600) dL_law_600 rfl c160 ?_
        obtain ⟨x161, σ162, g163, h⟩ := bd_elim h
        refine Ev.cVi (pc := 601) (k := 79) (av := [vI (xs (v3 + 1).toNatClampNeg), vI (xs (v3 + 2).toNatClampNeg)]) (rest := [vI x156]) dL_law_601 ce_X10_clash ml_L_83 rfl sh_79 cl_X10 sh_sc (Nat.le_of_ble_eq_true rfl) (Nat.le_of_ble_eq_true rfl) (r_X10_clash g163) ?_
        by_cases c164 : x156 = x161
        · replace h := (if_pos c164).symm.trans h
          refine Ev.icmp_eq_t (pc := 604) (tgt := 958) dL_law_604 rfl c164 ?_
          exact Ev.weak2 (lj_L_law_958 N L xs (l_L_law_18 N L xs n) ih _ _ _ _ h) (lsubS (lsubS (lsubS (lsubS lsubE))))
        · replace h := (if_neg c164).symm.trans h
          refine Ev.icmp_eq_f (pc := 604) dL_law_604 ⟨958, rfl⟩ c164 ?_
          refine Ev.iconst (pc := 607) (v := 0) dL_law_607 ki_0 ?_
          obtain ⟨h1, h2⟩ := oeq h
          subst h1
          subst h2
          exact Ev.ret_i (pc := 608) dL_law_608 rfl nb_0
      replace h := (if_neg c153).symm.trans h
      by_cases c165 : ((xs v3.toNatClampNeg) &&& 31) = 17
      · replace h := (if_pos c165).symm.trans h
        refine Ev.swC (pc := 32) (c := 17) (tgt := 609) dL_law_32 c165 (by decide) (by decide) rfl rfl ?_
        refine Ev.aload_n (pc := 609) dL_law_609 rfl rfl ?_
        refine Ev.aload_n (pc := 610) dL_law_610 rfl rfl ?_
        refine Ev.iload_n (pc := 611) dL_law_611 rfl rfl ?_
        refine Ev.iconst (pc := 612) (v := 1) dL_law_612 ki_1 ?_
        refine Ev.iadd (pc := 613) dL_law_613 ?_
        obtain ⟨c166, h⟩ := ckA_elim h
        refine Ev.sld (pc := 614) dL_law_614 rfl c166 ?_
        refine Ev.aload_n (pc := 615) dL_law_615 rfl rfl ?_
        refine Ev.iload_n (pc := 616) dL_law_616 rfl rfl ?_
        refine Ev.iconst (pc := 617) (v := 2) dL_law_617 ki_2 ?_
        refine Ev.iadd (pc := 618) dL_law_618 ?_
        obtain ⟨c167, h⟩ := ckA_elim h
        refine Ev.sld (pc := 619) dL_law_619 rfl c167 ?_
        refine Ev.aload_n (pc := 620) dL_law_620 rfl rfl ?_
        refine Ev.iload_n (pc := 621) dL_law_621 rfl rfl ?_
        refine Ev.iconst (pc := 622) (v := 3) dL_law_622 ki_3 ?_
        refine Ev.iadd (pc := 623) dL_law_623 ?_
        obtain ⟨c168, h⟩ := ckA_elim h
        refine Ev.sld (pc := 624) dL_law_624 rfl c168 ?_
        obtain ⟨x169, σ170, g171, h⟩ := bd_elim h
        refine Ev.cVi (pc := 625) (k := 0) (av := [vI (xs (v3 + 1).toNatClampNeg), vI (xs (v3 + 2).toNatClampNeg), vI (xs (v3 + 3).toNatClampNeg)]) (rest := []) dL_law_625 ce_X9_still ml_L_84 rfl sh_0 cl_X9 sh_sc (Nat.le_of_ble_eq_true rfl) (Nat.le_of_ble_eq_true rfl) (r_X9_still g171) ?_
        refine Ev.aload_n (pc := 628) dL_law_628 rfl rfl ?_
        refine Ev.aload_n (pc := 629) dL_law_629 rfl rfl ?_
        refine Ev.iload_n (pc := 630) dL_law_630 rfl rfl ?_
        refine Ev.iconst (pc := 631) (v := 1) dL_law_631 ki_1 ?_
        refine Ev.iadd (pc := 632) dL_law_632 ?_
        obtain ⟨c172, h⟩ := ckA_elim h
        refine Ev.sld (pc := 633) dL_law_633 rfl c172 ?_
        refine Ev.aload_n (pc := 634) dL_law_634 rfl rfl ?_
        refine Ev.iload_n (pc := 635) dL_law_635 rfl rfl ?_
        refine Ev.iconst (pc := 636) (v := 2) dL_law_636 ki_2 ?_
        refine Ev.iadd (pc := 637) dL_law_637 ?_
        obtain ⟨c173, h⟩ := ckA_elim h
        refine Ev.sld (pc := 638) dL_law_638 rfl c173 ?_
        refine Ev.aload_n (pc := 639) dL_law_639 rfl rfl ?_
        refine Ev.iload_n (pc := 640) dL_law_640 rfl rfl ?_
        refine Ev.iconst (pc := 641) (v := 3) dL_law_641 ki_3 ?_
        refine Ev.iadd (pc := 642) dL_law_642 ?_
        obtain ⟨c174, h⟩ := ckA_elim h
        refine Ev.sld (pc := 643) dL_law_643 rfl c174 ?_
        obtain ⟨x175, σ176, g177, h⟩ := bd_elim h
        refine Ev.cVi (pc := 644) (k := 79) (av := [vI (xs (v3 + 1).toNatClampNeg), vI (xs (v3 + 2).toNatClampNeg), vI (xs (v3 + 3).toNatClampNeg)]) (rest := [vI x169]) dL_law_644 ce_X10_still ml_L_88 rfl sh_79 cl_X10 sh_sc (Nat.le_of_ble_eq_true rfl) (Nat.le_of_ble_eq_true rfl) (r_X10_still g177) ?_
        by_cases c178 : x169 = x175
        · replace h := (if_pos c178).symm.trans h
          refine Ev.icmp_eq_t (pc := 647) (tgt := 958) dL_law_647 rfl c178 ?_
          exact Ev.weak2 (lj_L_law_958 N L xs (l_L_law_18 N L xs n) ih _ _ _ _ h) (lsubS (lsubS (lsubS (lsubS lsubE))))
        · replace h := (if_neg c178).symm.trans h
          refine Ev.icmp_eq_f (pc := 647) dL_law_647 ⟨958, rfl⟩ c178 ?_
          refine Ev.iconst (pc := 650) (v := 0) dL_law_650 ki_0 ?_
          obtain ⟨h1, h2⟩ := oeq h
          subst h1
          subst h2
          exact Ev.ret_i (pc := 651) dL_law_651 rfl nb_0
      replace h := (if_neg c165).symm.trans h
      by_cases c179 : ((xs v3.toNatClampNeg) &&& 31) = 18
      · replace h := (if_pos c179).symm.trans h
        refine Ev.swC (pc := 32) (c := 18) (tgt := 652) dL_law_32 c179 (by decide) (by decide) rfl rfl ?_
        refine Ev.aload_n (pc := 652) dL_law_652 rfl rfl ?_
        refine Ev.aload_n (pc := 653) dL_law_653 rfl rfl ?_
        refine Ev.iload_n (pc := 654) dL_law_654 rfl rfl ?_
        refine Ev.iconst (pc := 655) (v := 1) dL_law_655 ki_1 ?_
        refine Ev.iadd (pc := 656) dL_law_656 ?_
        obtain ⟨c180, h⟩ := ckA_elim h
        refine Ev.sld (pc := 657) dL_law_657 rfl c180 ?_
        obtain ⟨x181, σ182, g183, h⟩ := bd_elim h
        refine Ev.cVi (pc := 658) (k := 0) (av := [vI (xs (v3 + 1).toNatClampNeg)]) (rest := []) dL_law_658 ce_X9_hands ml_L_89 rfl sh_0 cl_X9 sh_sc (Nat.le_of_ble_eq_true rfl) (Nat.le_of_ble_eq_true rfl) (r_X9_hands g183) ?_
        refine Ev.aload_n (pc := 661) dL_law_661 rfl rfl ?_
        refine Ev.aload_n (pc := 662) dL_law_662 rfl rfl ?_
        refine Ev.iload_n (pc := 663) dL_law_663 rfl rfl ?_
        refine Ev.iconst (pc := 664) (v := 1) dL_law_664 ki_1 ?_
        refine Ev.iadd (pc := 665) dL_law_665 ?_
        obtain ⟨c184, h⟩ := ckA_elim h
        refine Ev.sld (pc := 666) dL_law_666 rfl c184 ?_
        obtain ⟨x185, σ186, g187, h⟩ := bd_elim h
        refine Ev.cVi (pc := 667) (k := 79) (av := [vI (xs (v3 + 1).toNatClampNeg)]) (rest := [vI x181]) dL_law_667 ce_X10_hands ml_L_92 rfl sh_79 cl_X10 sh_sc (Nat.le_of_ble_eq_true rfl) (Nat.le_of_ble_eq_true rfl) (r_X10_hands g187) ?_
        by_cases c188 : x181 = x185
        · replace h := (if_pos c188).symm.trans h
          refine Ev.icmp_eq_t (pc := 670) (tgt := 958) dL_law_670 rfl c188 ?_
          exact Ev.weak2 (lj_L_law_958 N L xs (l_L_law_18 N L xs n) ih _ _ _ _ h) (lsubS (lsubS (lsubS (lsubS lsubE))))
        · replace h := (if_neg c188).symm.trans h
          refine Ev.icmp_eq_f (pc := 670) dL_law_670 ⟨958, rfl⟩ c188 ?_
          refine Ev.iconst (pc := 673) (v := 0) dL_law_673 ki_0 ?_
          obtain ⟨h1, h2⟩ := oeq h
          subst h1
          subst h2
          exact Ev.ret_i (pc := 674) dL_law_674 rfl nb_0
      replace h := (if_neg c179).symm.trans h
      by_cases c189 : ((xs v3.toNatClampNeg) &&& 31) = 19
      · replace h := (if_pos c189).symm.trans h
        refine Ev.swC (pc := 32) (c := 19) (tgt := 675) dL_law_32 c189 (by decide) (by decide) rfl rfl ?_
        refine Ev.aload_n (pc := 675) dL_law_675 rfl rfl ?_
        refine Ev.aload_n (pc := 676) dL_law_676 rfl rfl ?_
        refine Ev.iload_n (pc := 677) dL_law_677 rfl rfl ?_
        refine Ev.iconst (pc := 678) (v := 1) dL_law_678 ki_1 ?_
        refine Ev.iadd (pc := 679) dL_law_679 ?_
        obtain ⟨c190, h⟩ := ckA_elim h
        refine Ev.sld (pc := 680) dL_law_680 rfl c190 ?_
        refine Ev.aload_n (pc := 681) dL_law_681 rfl rfl ?_
        refine Ev.iload_n (pc := 682) dL_law_682 rfl rfl ?_
        refine Ev.iconst (pc := 683) (v := 2) dL_law_683 ki_2 ?_
        refine Ev.iadd (pc := 684) dL_law_684 ?_
        obtain ⟨c191, h⟩ := ckA_elim h
        refine Ev.sld (pc := 685) dL_law_685 rfl c191 ?_
        obtain ⟨x192, σ193, g194, h⟩ := bd_elim h
        refine Ev.cVi (pc := 686) (k := 0) (av := [vI (xs (v3 + 1).toNatClampNeg), vI (xs (v3 + 2).toNatClampNeg)]) (rest := []) dL_law_686 ce_X9_calendar ml_L_93 rfl sh_0 cl_X9 sh_sc (Nat.le_of_ble_eq_true rfl) (Nat.le_of_ble_eq_true rfl) (r_X9_calendar g194) ?_
        refine Ev.aload_n (pc := 689) dL_law_689 rfl rfl ?_
        refine Ev.aload_n (pc := 690) dL_law_690 rfl rfl ?_
        refine Ev.iload_n (pc := 691) dL_law_691 rfl rfl ?_
        refine Ev.iconst (pc := 692) (v := 1) dL_law_692 ki_1 ?_
        refine Ev.iadd (pc := 693) dL_law_693 ?_
        obtain ⟨c195, h⟩ := ckA_elim h
        refine Ev.sld (pc := 694) dL_law_694 rfl c195 ?_
        refine Ev.aload_n (pc := 695) dL_law_695 rfl rfl ?_
        refine Ev.iload_n (pc := 696) dL_law_696 rfl rfl ?_
        refine Ev.iconst (pc := 697) (v := 2) dL_law_697 ki_2 ?_
        refine Ev.iadd (pc := 698) dL_law_698 ?_
        obtain ⟨c196, h⟩ := ckA_elim h
        refine Ev.sld (pc := 699) dL_law_699 rfl c196 ?_
        obtain ⟨x197, σ198, g199, h⟩ := bd_elim h
        refine Ev.cVi (pc := 700) (k := 79) (av := [vI (xs (v3 + 1).toNatClampNeg), vI (xs (v3 + 2).toNatClampNeg)]) (rest := [vI x192]) dL_law_700 ce_X10_calendar ml_L_96 rfl sh_79 cl_X10 sh_sc (Nat.le_of_ble_eq_true rfl) (Nat.le_of_ble_eq_true rfl) (r_X10_calendar g199) ?_
        by_cases c200 : x192 = x197
        · replace h := (if_pos c200).symm.trans h
          refine Ev.icmp_eq_t (pc := 703) (tgt := 958) dL_law_703 rfl c200 ?_
          exact Ev.weak2 (lj_L_law_958 N L xs (l_L_law_18 N L xs n) ih _ _ _ _ h) (lsubS (lsubS (lsubS (lsubS lsubE))))
        · replace h := (if_neg c200).symm.trans h
          refine Ev.icmp_eq_f (pc := 703) dL_law_703 ⟨958, rfl⟩ c200 ?_
          refine Ev.iconst (pc := 706) (v := 0) dL_law_706 ki_0 ?_
          obtain ⟨h1, h2⟩ := oeq h
          subst h1
          subst h2
          exact Ev.ret_i (pc := 707) dL_law_707 rfl nb_0
      replace h := (if_neg c189).symm.trans h
      by_cases c201 : ((xs v3.toNatClampNeg) &&& 31) = 20
      · replace h := (if_pos c201).symm.trans h
        refine Ev.swC (pc := 32) (c := 20) (tgt := 708) dL_law_32 c201 (by decide) (by decide) rfl rfl ?_
        refine Ev.aload_n (pc := 708) dL_law_708 rfl rfl ?_
        refine Ev.aload_n (pc := 709) dL_law_709 rfl rfl ?_
        refine Ev.iload_n (pc := 710) dL_law_710 rfl rfl ?_
        refine Ev.iconst (pc := 711) (v := 1) dL_law_711 ki_1 ?_
        refine Ev.iadd (pc := 712) dL_law_712 ?_
        obtain ⟨c202, h⟩ := ckA_elim h
        refine Ev.sld (pc := 713) dL_law_713 rfl c202 ?_
        obtain ⟨x203, σ204, g205, h⟩ := bd_elim h
        refine Ev.cVi (pc := 714) (k := 0) (av := [vI (xs (v3 + 1).toNatClampNeg)]) (rest := []) dL_law_714 ce_X9_busiest ml_L_97 rfl sh_0 cl_X9 sh_sc (Nat.le_of_ble_eq_true rfl) (Nat.le_of_ble_eq_true rfl) (r_X9_busiest g205) ?_
        refine Ev.aload_n (pc := 717) dL_law_717 rfl rfl ?_
        refine Ev.aload_n (pc := 718) dL_law_718 rfl rfl ?_
        refine Ev.iload_n (pc := 719) dL_law_719 rfl rfl ?_
        refine Ev.iconst (pc := 720) (v := 1) dL_law_720 ki_1 ?_
        refine Ev.iadd (pc := 721) dL_law_721 ?_
        obtain ⟨c206, h⟩ := ckA_elim h
        refine Ev.sld (pc := 722) dL_law_722 rfl c206 ?_
        obtain ⟨x207, σ208, g209, h⟩ := bd_elim h
        refine Ev.cVi (pc := 723) (k := 79) (av := [vI (xs (v3 + 1).toNatClampNeg)]) (rest := [vI x203]) dL_law_723 ce_X10_busiest ml_L_100 rfl sh_79 cl_X10 sh_sc (Nat.le_of_ble_eq_true rfl) (Nat.le_of_ble_eq_true rfl) (r_X10_busiest g209) ?_
        by_cases c210 : x203 = x207
        · replace h := (if_pos c210).symm.trans h
          refine Ev.icmp_eq_t (pc := 726) (tgt := 958) dL_law_726 rfl c210 ?_
          exact Ev.weak2 (lj_L_law_958 N L xs (l_L_law_18 N L xs n) ih _ _ _ _ h) (lsubS (lsubS (lsubS (lsubS lsubE))))
        · replace h := (if_neg c210).symm.trans h
          refine Ev.icmp_eq_f (pc := 726) dL_law_726 ⟨958, rfl⟩ c210 ?_
          refine Ev.iconst (pc := 729) (v := 0) dL_law_729 ki_0 ?_
          obtain ⟨h1, h2⟩ := oeq h
          subst h1
          subst h2
          exact Ev.ret_i (pc := 730) dL_law_730 rfl nb_0
      replace h := (if_neg c201).symm.trans h
      by_cases c211 : ((xs v3.toNatClampNeg) &&& 31) = 21
      · replace h := (if_pos c211).symm.trans h
        refine Ev.swC (pc := 32) (c := 21) (tgt := 731) dL_law_32 c211 (by decide) (by decide) rfl rfl ?_
        refine Ev.aload_n (pc := 731) dL_law_731 rfl rfl ?_
        refine Ev.aload_n (pc := 732) dL_law_732 rfl rfl ?_
        refine Ev.iload_n (pc := 733) dL_law_733 rfl rfl ?_
        refine Ev.iconst (pc := 734) (v := 1) dL_law_734 ki_1 ?_
        refine Ev.iadd (pc := 735) dL_law_735 ?_
        obtain ⟨c212, h⟩ := ckA_elim h
        refine Ev.sld (pc := 736) dL_law_736 rfl c212 ?_
        refine Ev.aload_n (pc := 737) dL_law_737 rfl rfl ?_
        refine Ev.iload_n (pc := 738) dL_law_738 rfl rfl ?_
        refine Ev.iconst (pc := 739) (v := 2) dL_law_739 ki_2 ?_
        refine Ev.iadd (pc := 740) dL_law_740 ?_
        obtain ⟨c213, h⟩ := ckA_elim h
        refine Ev.sld (pc := 741) dL_law_741 rfl c213 ?_
        obtain ⟨x214, σ215, g216, h⟩ := bd_elim h
        refine Ev.cVi (pc := 742) (k := 0) (av := [vI (xs (v3 + 1).toNatClampNeg), vI (xs (v3 + 2).toNatClampNeg)]) (rest := []) dL_law_742 ce_X9_lives ml_L_101 rfl sh_0 cl_X9 sh_sc (Nat.le_of_ble_eq_true rfl) (Nat.le_of_ble_eq_true rfl) (r_X9_lives g216) ?_
        refine Ev.aload_n (pc := 745) dL_law_745 rfl rfl ?_
        refine Ev.aload_n (pc := 746) dL_law_746 rfl rfl ?_
        refine Ev.iload_n (pc := 747) dL_law_747 rfl rfl ?_
        refine Ev.iconst (pc := 748) (v := 1) dL_law_748 ki_1 ?_
        refine Ev.iadd (pc := 749) dL_law_749 ?_
        obtain ⟨c217, h⟩ := ckA_elim h
        refine Ev.sld (pc := 750) dL_law_750 rfl c217 ?_
        refine Ev.aload_n (pc := 751) dL_law_751 rfl rfl ?_
        refine Ev.iload_n (pc := 752) dL_law_752 rfl rfl ?_
        refine Ev.iconst (pc := 753) (v := 2) dL_law_753 ki_2 ?_
        refine Ev.iadd (pc := 754) dL_law_754 ?_
        obtain ⟨c218, h⟩ := ckA_elim h
        refine Ev.sld (pc := 755) dL_law_755 rfl c218 ?_
        obtain ⟨x219, σ220, g221, h⟩ := bd_elim h
        refine Ev.cVi (pc := 756) (k := 79) (av := [vI (xs (v3 + 1).toNatClampNeg), vI (xs (v3 + 2).toNatClampNeg)]) (rest := [vI x214]) dL_law_756 ce_X10_lives ml_L_104 rfl sh_79 cl_X10 sh_sc (Nat.le_of_ble_eq_true rfl) (Nat.le_of_ble_eq_true rfl) (r_X10_lives g221) ?_
        by_cases c222 : x214 = x219
        · replace h := (if_pos c222).symm.trans h
          refine Ev.icmp_eq_t (pc := 759) (tgt := 958) dL_law_759 rfl c222 ?_
          exact Ev.weak2 (lj_L_law_958 N L xs (l_L_law_18 N L xs n) ih _ _ _ _ h) (lsubS (lsubS (lsubS (lsubS lsubE))))
        · replace h := (if_neg c222).symm.trans h
          refine Ev.icmp_eq_f (pc := 759) dL_law_759 ⟨958, rfl⟩ c222 ?_
          refine Ev.iconst (pc := 762) (v := 0) dL_law_762 ki_0 ?_
          obtain ⟨h1, h2⟩ := oeq h
          subst h1
          subst h2
          exact Ev.ret_i (pc := 763) dL_law_763 rfl nb_0
      replace h := (if_neg c211).symm.trans h
      by_cases c223 : ((xs v3.toNatClampNeg) &&& 31) = 22
      · replace h := (if_pos c223).symm.trans h
        refine Ev.swC (pc := 32) (c := 22) (tgt := 764) dL_law_32 c223 (by decide) (by decide) rfl rfl ?_
        refine Ev.aload_n (pc := 764) dL_law_764 rfl rfl ?_
        refine Ev.aload_n (pc := 765) dL_law_765 rfl rfl ?_
        refine Ev.iload_n (pc := 766) dL_law_766 rfl rfl ?_
        refine Ev.iconst (pc := 767) (v := 1) dL_law_767 ki_1 ?_
        refine Ev.iadd (pc := 768) dL_law_768 ?_
        obtain ⟨c224, h⟩ := ckA_elim h
        refine Ev.sld (pc := 769) dL_law_769 rfl c224 ?_
        obtain ⟨x225, σ226, g227, h⟩ := bd_elim h
        refine Ev.cVi (pc := 770) (k := 0) (av := [vI (xs (v3 + 1).toNatClampNeg)]) (rest := []) dL_law_770 ce_X9_share ml_L_105 rfl sh_0 cl_X9 sh_sc (Nat.le_of_ble_eq_true rfl) (Nat.le_of_ble_eq_true rfl) (r_X9_share g227) ?_
        refine Ev.aload_n (pc := 773) dL_law_773 rfl rfl ?_
        refine Ev.aload_n (pc := 774) dL_law_774 rfl rfl ?_
        refine Ev.iload_n (pc := 775) dL_law_775 rfl rfl ?_
        refine Ev.iconst (pc := 776) (v := 1) dL_law_776 ki_1 ?_
        refine Ev.iadd (pc := 777) dL_law_777 ?_
        obtain ⟨c228, h⟩ := ckA_elim h
        refine Ev.sld (pc := 778) dL_law_778 rfl c228 ?_
        obtain ⟨x229, σ230, g231, h⟩ := bd_elim h
        refine Ev.cVi (pc := 779) (k := 79) (av := [vI (xs (v3 + 1).toNatClampNeg)]) (rest := [vI x225]) dL_law_779 ce_X10_share ml_L_108 rfl sh_79 cl_X10 sh_sc (Nat.le_of_ble_eq_true rfl) (Nat.le_of_ble_eq_true rfl) (r_X10_share g231) ?_
        by_cases c232 : x225 = x229
        · replace h := (if_pos c232).symm.trans h
          refine Ev.icmp_eq_t (pc := 782) (tgt := 958) dL_law_782 rfl c232 ?_
          exact Ev.weak2 (lj_L_law_958 N L xs (l_L_law_18 N L xs n) ih _ _ _ _ h) (lsubS (lsubS (lsubS (lsubS lsubE))))
        · replace h := (if_neg c232).symm.trans h
          refine Ev.icmp_eq_f (pc := 782) dL_law_782 ⟨958, rfl⟩ c232 ?_
          refine Ev.iconst (pc := 785) (v := 0) dL_law_785 ki_0 ?_
          obtain ⟨h1, h2⟩ := oeq h
          subst h1
          subst h2
          exact Ev.ret_i (pc := 786) dL_law_786 rfl nb_0
      replace h := (if_neg c223).symm.trans h
      by_cases c233 : ((xs v3.toNatClampNeg) &&& 31) = 23
      · replace h := (if_pos c233).symm.trans h
        refine Ev.swC (pc := 32) (c := 23) (tgt := 787) dL_law_32 c233 (by decide) (by decide) rfl rfl ?_
        refine Ev.aload_n (pc := 787) dL_law_787 rfl rfl ?_
        refine Ev.aload_n (pc := 788) dL_law_788 rfl rfl ?_
        refine Ev.iload_n (pc := 789) dL_law_789 rfl rfl ?_
        refine Ev.iconst (pc := 790) (v := 1) dL_law_790 ki_1 ?_
        refine Ev.iadd (pc := 791) dL_law_791 ?_
        obtain ⟨c234, h⟩ := ckA_elim h
        refine Ev.sld (pc := 792) dL_law_792 rfl c234 ?_
        refine Ev.aload_n (pc := 793) dL_law_793 rfl rfl ?_
        refine Ev.iload_n (pc := 794) dL_law_794 rfl rfl ?_
        refine Ev.iconst (pc := 795) (v := 2) dL_law_795 ki_2 ?_
        refine Ev.iadd (pc := 796) dL_law_796 ?_
        obtain ⟨c235, h⟩ := ckA_elim h
        refine Ev.sld (pc := 797) dL_law_797 rfl c235 ?_
        refine Ev.aload_n (pc := 798) dL_law_798 rfl rfl ?_
        refine Ev.iload_n (pc := 799) dL_law_799 rfl rfl ?_
        refine Ev.iconst (pc := 800) (v := 3) dL_law_800 ki_3 ?_
        refine Ev.iadd (pc := 801) dL_law_801 ?_
        obtain ⟨c236, h⟩ := ckA_elim h
        refine Ev.sld (pc := 802) dL_law_802 rfl c236 ?_
        obtain ⟨x237, σ238, g239, h⟩ := bd_elim h
        refine Ev.cVi (pc := 803) (k := 0) (av := [vI (xs (v3 + 1).toNatClampNeg), vI (xs (v3 + 2).toNatClampNeg), vI (xs (v3 + 3).toNatClampNeg)]) (rest := []) dL_law_803 ce_X9_let ml_L_109 rfl sh_0 cl_X9 sh_sc (Nat.le_of_ble_eq_true rfl) (Nat.le_of_ble_eq_true rfl) (r_X9_let g239) ?_
        refine Ev.aload_n (pc := 806) dL_law_806 rfl rfl ?_
        refine Ev.aload_n (pc := 807) dL_law_807 rfl rfl ?_
        refine Ev.iload_n (pc := 808) dL_law_808 rfl rfl ?_
        refine Ev.iconst (pc := 809) (v := 1) dL_law_809 ki_1 ?_
        refine Ev.iadd (pc := 810) dL_law_810 ?_
        obtain ⟨c240, h⟩ := ckA_elim h
        refine Ev.sld (pc := 811) dL_law_811 rfl c240 ?_
        refine Ev.aload_n (pc := 812) dL_law_812 rfl rfl ?_
        refine Ev.iload_n (pc := 813) dL_law_813 rfl rfl ?_
        refine Ev.iconst (pc := 814) (v := 2) dL_law_814 ki_2 ?_
        refine Ev.iadd (pc := 815) dL_law_815 ?_
        obtain ⟨c241, h⟩ := ckA_elim h
        refine Ev.sld (pc := 816) dL_law_816 rfl c241 ?_
        refine Ev.aload_n (pc := 817) dL_law_817 rfl rfl ?_
        refine Ev.iload_n (pc := 818) dL_law_818 rfl rfl ?_
        refine Ev.iconst (pc := 819) (v := 3) dL_law_819 ki_3 ?_
        refine Ev.iadd (pc := 820) dL_law_820 ?_
        obtain ⟨c242, h⟩ := ckA_elim h
        refine Ev.sld (pc := 821) dL_law_821 rfl c242 ?_
        obtain ⟨x243, σ244, g245, h⟩ := bd_elim h
        refine Ev.cVi (pc := 822) (k := 79) (av := [vI (xs (v3 + 1).toNatClampNeg), vI (xs (v3 + 2).toNatClampNeg), vI (xs (v3 + 3).toNatClampNeg)]) (rest := [vI x237]) dL_law_822 ce_X10_let ml_L_112 rfl sh_79 cl_X10 sh_sc (Nat.le_of_ble_eq_true rfl) (Nat.le_of_ble_eq_true rfl) (r_X10_let g245) ?_
        by_cases c246 : x237 = x243
        · replace h := (if_pos c246).symm.trans h
          refine Ev.icmp_eq_t (pc := 825) (tgt := 958) dL_law_825 rfl c246 ?_
          exact Ev.weak2 (lj_L_law_958 N L xs (l_L_law_18 N L xs n) ih _ _ _ _ h) (lsubS (lsubS (lsubS (lsubS lsubE))))
        · replace h := (if_neg c246).symm.trans h
          refine Ev.icmp_eq_f (pc := 825) dL_law_825 ⟨958, rfl⟩ c246 ?_
          refine Ev.iconst (pc := 828) (v := 0) dL_law_828 ki_0 ?_
          obtain ⟨h1, h2⟩ := oeq h
          subst h1
          subst h2
          exact Ev.ret_i (pc := 829) dL_law_829 rfl nb_0
      replace h := (if_neg c233).symm.trans h
      by_cases c247 : ((xs v3.toNatClampNeg) &&& 31) = 24
      · replace h := (if_pos c247).symm.trans h
        refine Ev.swC (pc := 32) (c := 24) (tgt := 830) dL_law_32 c247 (by decide) (by decide) rfl rfl ?_
        refine Ev.aload_n (pc := 830) dL_law_830 rfl rfl ?_
        refine Ev.aload_n (pc := 831) dL_law_831 rfl rfl ?_
        refine Ev.iload_n (pc := 832) dL_law_832 rfl rfl ?_
        refine Ev.iconst (pc := 833) (v := 1) dL_law_833 ki_1 ?_
        refine Ev.iadd (pc := 834) dL_law_834 ?_
        obtain ⟨c248, h⟩ := ckA_elim h
        refine Ev.sld (pc := 835) dL_law_835 rfl c248 ?_
        refine Ev.aload_n (pc := 836) dL_law_836 rfl rfl ?_
        refine Ev.iload_n (pc := 837) dL_law_837 rfl rfl ?_
        refine Ev.iconst (pc := 838) (v := 2) dL_law_838 ki_2 ?_
        refine Ev.iadd (pc := 839) dL_law_839 ?_
        obtain ⟨c249, h⟩ := ckA_elim h
        refine Ev.sld (pc := 840) dL_law_840 rfl c249 ?_
        refine Ev.cVi (pc := 841) (k := 0) (av := [vI (xs (v3 + 1).toNatClampNeg), vI (xs (v3 + 2).toNatClampNeg)]) (rest := []) dL_law_841 ce_X9_write ml_L_113 rfl sh_0 cl_X9 sh_sc (Nat.le_of_ble_eq_true rfl) (Nat.le_of_ble_eq_true rfl) (r_X9_write _ _ _) ?_
        refine Ev.nmQ (fun q250 e9 => ?_)
        replace h := bt_app h q250 e9
        refine Ev.aload_n (pc := 844) dL_law_844 rfl rfl ?_
        refine Ev.aload_n (pc := 845) dL_law_845 rfl rfl ?_
        refine Ev.iload_n (pc := 846) dL_law_846 rfl rfl ?_
        refine Ev.iconst (pc := 847) (v := 1) dL_law_847 ki_1 ?_
        refine Ev.iadd (pc := 848) dL_law_848 ?_
        obtain ⟨c251, h⟩ := ckA_elim h
        refine Ev.sld (pc := 849) dL_law_849 rfl c251 ?_
        refine Ev.aload_n (pc := 850) dL_law_850 rfl rfl ?_
        refine Ev.iload_n (pc := 851) dL_law_851 rfl rfl ?_
        refine Ev.iconst (pc := 852) (v := 2) dL_law_852 ki_2 ?_
        refine Ev.iadd (pc := 853) dL_law_853 ?_
        obtain ⟨c252, h⟩ := ckA_elim h
        refine Ev.sld (pc := 854) dL_law_854 rfl c252 ?_
        obtain ⟨x253, σ254, g255, h⟩ := bd_elim h
        refine Ev.cVi (pc := 855) (k := 79) (av := [vI (xs (v3 + 1).toNatClampNeg), vI (xs (v3 + 2).toNatClampNeg)]) (rest := [vI q250.1]) dL_law_855 ce_X10_write ml_L_116 rfl sh_79 cl_X10 sh_sc (Nat.le_of_ble_eq_true rfl) (Nat.le_of_ble_eq_true rfl) (r_X10_write g255) ?_
        by_cases c256 : q250.1 = x253
        · replace h := (if_pos c256).symm.trans h
          refine Ev.icmp_eq_t (pc := 858) (tgt := 958) dL_law_858 rfl c256 ?_
          exact Ev.weak2 (lj_L_law_958 N L xs (l_L_law_18 N L xs n) ih _ _ _ _ h) (lsubS (lsubS (lsubS (lsubS lsubE))))
        · replace h := (if_neg c256).symm.trans h
          refine Ev.icmp_eq_f (pc := 858) dL_law_858 ⟨958, rfl⟩ c256 ?_
          refine Ev.iconst (pc := 861) (v := 0) dL_law_861 ki_0 ?_
          obtain ⟨h1, h2⟩ := oeq h
          subst h1
          subst h2
          exact Ev.ret_i (pc := 862) dL_law_862 rfl nb_0
      replace h := (if_neg c247).symm.trans h
      by_cases c257 : ((xs v3.toNatClampNeg) &&& 31) = 25
      · replace h := (if_pos c257).symm.trans h
        refine Ev.swC (pc := 32) (c := 25) (tgt := 863) dL_law_32 c257 (by decide) (by decide) rfl rfl ?_
        refine Ev.aload_n (pc := 863) dL_law_863 rfl rfl ?_
        obtain ⟨x258, σ259, g260, h⟩ := bd_elim h
        refine Ev.cVi (pc := 864) (k := 0) (av := []) (rest := []) dL_law_864 ce_X9_judge ml_L_117 rfl sh_0 cl_X9 sh_sc (Nat.le_of_ble_eq_true rfl) (Nat.le_of_ble_eq_true rfl) (r_X9_judge g260) ?_
        refine Ev.aload_n (pc := 867) dL_law_867 rfl rfl ?_
        obtain ⟨x261, σ262, g263, h⟩ := bd_elim h
        refine Ev.cVi (pc := 868) (k := 79) (av := []) (rest := [vI x258]) dL_law_868 ce_X10_judge ml_L_120 rfl sh_79 cl_X10 sh_sc (Nat.le_of_ble_eq_true rfl) (Nat.le_of_ble_eq_true rfl) (r_X10_judge g263) ?_
        by_cases c264 : x258 = x261
        · replace h := (if_pos c264).symm.trans h
          refine Ev.icmp_eq_t (pc := 871) (tgt := 958) dL_law_871 rfl c264 ?_
          exact Ev.weak2 (lj_L_law_958 N L xs (l_L_law_18 N L xs n) ih _ _ _ _ h) (lsubS (lsubS (lsubS (lsubS lsubE))))
        · replace h := (if_neg c264).symm.trans h
          refine Ev.icmp_eq_f (pc := 871) dL_law_871 ⟨958, rfl⟩ c264 ?_
          refine Ev.iconst (pc := 874) (v := 0) dL_law_874 ki_0 ?_
          obtain ⟨h1, h2⟩ := oeq h
          subst h1
          subst h2
          exact Ev.ret_i (pc := 875) dL_law_875 rfl nb_0
      replace h := (if_neg c257).symm.trans h
      by_cases c265 : ((xs v3.toNatClampNeg) &&& 31) = 26
      · replace h := (if_pos c265).symm.trans h
        refine Ev.swC (pc := 32) (c := 26) (tgt := 876) dL_law_32 c265 (by decide) (by decide) rfl rfl ?_
        refine Ev.aload_n (pc := 876) dL_law_876 rfl rfl ?_
        refine Ev.cVi (pc := 877) (k := 0) (av := []) (rest := []) dL_law_877 ce_X9_tear ml_L_121 rfl sh_0 cl_X9 sh_sc (Nat.le_of_ble_eq_true rfl) (Nat.le_of_ble_eq_true rfl) (r_X9_tear  _) ?_
        refine Ev.nmQ (fun q266 e9 => ?_)
        replace h := bt_app h q266 e9
        refine Ev.aload_n (pc := 880) dL_law_880 rfl rfl ?_
        refine Ev.cVi (pc := 881) (k := 79) (av := []) (rest := [vI q266.1]) dL_law_881 ce_X10_tear ml_L_124 rfl sh_79 cl_X10 sh_sc (Nat.le_of_ble_eq_true rfl) (Nat.le_of_ble_eq_true rfl) (r_X10_tear  _) ?_
        refine Ev.nmQ (fun q267 e9 => ?_)
        replace h := bt_app h q267 e9
        by_cases c268 : q266.1 = q267.1
        · replace h := (if_pos c268).symm.trans h
          refine Ev.icmp_eq_t (pc := 884) (tgt := 958) dL_law_884 rfl c268 ?_
          exact Ev.weak2 (lj_L_law_958 N L xs (l_L_law_18 N L xs n) ih _ _ _ _ h) (lsubS (lsubS (lsubS (lsubS lsubE))))
        · replace h := (if_neg c268).symm.trans h
          refine Ev.icmp_eq_f (pc := 884) dL_law_884 ⟨958, rfl⟩ c268 ?_
          refine Ev.iconst (pc := 887) (v := 0) dL_law_887 ki_0 ?_
          obtain ⟨h1, h2⟩ := oeq h
          subst h1
          subst h2
          exact Ev.ret_i (pc := 888) dL_law_888 rfl nb_0
      replace h := (if_neg c265).symm.trans h
      by_cases c269 : ((xs v3.toNatClampNeg) &&& 31) = 27
      · replace h := (if_pos c269).symm.trans h
        refine Ev.swC (pc := 32) (c := 27) (tgt := 889) dL_law_32 c269 (by decide) (by decide) rfl rfl ?_
        refine Ev.aload_n (pc := 889) dL_law_889 rfl rfl ?_
        refine Ev.aload_n (pc := 890) dL_law_890 rfl rfl ?_
        refine Ev.iload_n (pc := 891) dL_law_891 rfl rfl ?_
        refine Ev.iconst (pc := 892) (v := 1) dL_law_892 ki_1 ?_
        refine Ev.iadd (pc := 893) dL_law_893 ?_
        obtain ⟨c270, h⟩ := ckA_elim h
        refine Ev.sld (pc := 894) dL_law_894 rfl c270 ?_
        refine Ev.cVi (pc := 895) (k := 0) (av := [vI (xs (v3 + 1).toNatClampNeg)]) (rest := []) dL_law_895 ce_X9_seed ml_L_125 rfl sh_0 cl_X9 sh_sc (Nat.le_of_ble_eq_true rfl) (Nat.le_of_ble_eq_true rfl) (r_X9_seed _ _) ?_
        refine Ev.nmQ (fun q271 e9 => ?_)
        replace h := bt_app h q271 e9
        refine Ev.aload_n (pc := 898) dL_law_898 rfl rfl ?_
        refine Ev.aload_n (pc := 899) dL_law_899 rfl rfl ?_
        refine Ev.iload_n (pc := 900) dL_law_900 rfl rfl ?_
        refine Ev.iconst (pc := 901) (v := 1) dL_law_901 ki_1 ?_
        refine Ev.iadd (pc := 902) dL_law_902 ?_
        obtain ⟨c272, h⟩ := ckA_elim h
        refine Ev.sld (pc := 903) dL_law_903 rfl c272 ?_
        refine Ev.cVi (pc := 904) (k := 79) (av := [vI (xs (v3 + 1).toNatClampNeg)]) (rest := [vI q271.1]) dL_law_904 ce_X10_seed ml_L_128 rfl sh_79 cl_X10 sh_sc (Nat.le_of_ble_eq_true rfl) (Nat.le_of_ble_eq_true rfl) (r_X10_seed _ _) ?_
        refine Ev.nmQ (fun q273 e9 => ?_)
        replace h := bt_app h q273 e9
        by_cases c274 : q271.1 = q273.1
        · replace h := (if_pos c274).symm.trans h
          refine Ev.icmp_eq_t (pc := 907) (tgt := 958) dL_law_907 rfl c274 ?_
          exact Ev.weak2 (lj_L_law_958 N L xs (l_L_law_18 N L xs n) ih _ _ _ _ h) (lsubS (lsubS (lsubS (lsubS lsubE))))
        · replace h := (if_neg c274).symm.trans h
          refine Ev.icmp_eq_f (pc := 907) dL_law_907 ⟨958, rfl⟩ c274 ?_
          refine Ev.iconst (pc := 910) (v := 0) dL_law_910 ki_0 ?_
          obtain ⟨h1, h2⟩ := oeq h
          subst h1
          subst h2
          exact Ev.ret_i (pc := 911) dL_law_911 rfl nb_0
      replace h := (if_neg c269).symm.trans h
      by_cases c275 : ((xs v3.toNatClampNeg) &&& 31) = 28
      · replace h := (if_pos c275).symm.trans h
        refine Ev.swC (pc := 32) (c := 28) (tgt := 912) dL_law_32 c275 (by decide) (by decide) rfl rfl ?_
        refine Ev.aload_n (pc := 912) dL_law_912 rfl rfl ?_
        refine Ev.aload_n (pc := 913) dL_law_913 rfl rfl ?_
        refine Ev.iload_n (pc := 914) dL_law_914 rfl rfl ?_
        refine Ev.iconst (pc := 915) (v := 1) dL_law_915 ki_1 ?_
        refine Ev.iadd (pc := 916) dL_law_916 ?_
        obtain ⟨c276, h⟩ := ckA_elim h
        refine Ev.sld (pc := 917) dL_law_917 rfl c276 ?_
        refine Ev.cVi (pc := 918) (k := 0) (av := [vI (xs (v3 + 1).toNatClampNeg)]) (rest := []) dL_law_918 ce_X9_image ml_L_129 rfl sh_0 cl_X9 sh_sc (Nat.le_of_ble_eq_true rfl) (Nat.le_of_ble_eq_true rfl) (r_X9_image _ _) ?_
        refine Ev.nmQ (fun q277 e9 => ?_)
        replace h := bt_app h q277 e9
        refine Ev.aload_n (pc := 921) dL_law_921 rfl rfl ?_
        refine Ev.aload_n (pc := 922) dL_law_922 rfl rfl ?_
        refine Ev.iload_n (pc := 923) dL_law_923 rfl rfl ?_
        refine Ev.iconst (pc := 924) (v := 1) dL_law_924 ki_1 ?_
        refine Ev.iadd (pc := 925) dL_law_925 ?_
        obtain ⟨c278, h⟩ := ckA_elim h
        refine Ev.sld (pc := 926) dL_law_926 rfl c278 ?_
        obtain ⟨x279, σ280, g281, h⟩ := bd_elim h
        refine Ev.cVi (pc := 927) (k := 79) (av := [vI (xs (v3 + 1).toNatClampNeg)]) (rest := [vI q277.1]) dL_law_927 ce_X10_image ml_L_132 rfl sh_79 cl_X10 sh_sc (Nat.le_of_ble_eq_true rfl) (Nat.le_of_ble_eq_true rfl) (r_X10_image g281) ?_
        by_cases c282 : q277.1 = x279
        · replace h := (if_pos c282).symm.trans h
          refine Ev.icmp_eq_t (pc := 930) (tgt := 958) dL_law_930 rfl c282 ?_
          exact Ev.weak2 (lj_L_law_958 N L xs (l_L_law_18 N L xs n) ih _ _ _ _ h) (lsubS (lsubS (lsubS (lsubS lsubE))))
        · replace h := (if_neg c282).symm.trans h
          refine Ev.icmp_eq_f (pc := 930) dL_law_930 ⟨958, rfl⟩ c282 ?_
          refine Ev.iconst (pc := 933) (v := 0) dL_law_933 ki_0 ?_
          obtain ⟨h1, h2⟩ := oeq h
          subst h1
          subst h2
          exact Ev.ret_i (pc := 934) dL_law_934 rfl nb_0
      replace h := (if_neg c275).symm.trans h
      by_cases c283 : ((xs v3.toNatClampNeg) &&& 31) = 29
      · replace h := (if_pos c283).symm.trans h
        refine Ev.swC (pc := 32) (c := 29) (tgt := 935) dL_law_32 c283 (by decide) (by decide) rfl rfl ?_
        refine Ev.aload_n (pc := 935) dL_law_935 rfl rfl ?_
        refine Ev.aload_n (pc := 936) dL_law_936 rfl rfl ?_
        refine Ev.iload_n (pc := 937) dL_law_937 rfl rfl ?_
        refine Ev.iconst (pc := 938) (v := 1) dL_law_938 ki_1 ?_
        refine Ev.iadd (pc := 939) dL_law_939 ?_
        obtain ⟨c284, h⟩ := ckA_elim h
        refine Ev.sld (pc := 940) dL_law_940 rfl c284 ?_
        refine Ev.cVi (pc := 941) (k := 0) (av := [vI (xs (v3 + 1).toNatClampNeg)]) (rest := []) dL_law_941 ce_X9_goBack ml_L_133 rfl sh_0 cl_X9 sh_sc (Nat.le_of_ble_eq_true rfl) (Nat.le_of_ble_eq_true rfl) (r_X9_goBack _ _) ?_
        refine Ev.nmQ (fun q285 e9 => ?_)
        replace h := bt_app h q285 e9
        refine Ev.aload_n (pc := 944) dL_law_944 rfl rfl ?_
        refine Ev.aload_n (pc := 945) dL_law_945 rfl rfl ?_
        refine Ev.iload_n (pc := 946) dL_law_946 rfl rfl ?_
        refine Ev.iconst (pc := 947) (v := 1) dL_law_947 ki_1 ?_
        refine Ev.iadd (pc := 948) dL_law_948 ?_
        obtain ⟨c286, h⟩ := ckA_elim h
        refine Ev.sld (pc := 949) dL_law_949 rfl c286 ?_
        obtain ⟨x287, σ288, g289, h⟩ := bd_elim h
        refine Ev.cVi (pc := 950) (k := 79) (av := [vI (xs (v3 + 1).toNatClampNeg)]) (rest := [vI q285.1]) dL_law_950 ce_X10_goBack ml_L_136 rfl sh_79 cl_X10 sh_sc (Nat.le_of_ble_eq_true rfl) (Nat.le_of_ble_eq_true rfl) (r_X10_goBack g289) ?_
        by_cases c290 : q285.1 = x287
        · replace h := (if_pos c290).symm.trans h
          refine Ev.icmp_eq_t (pc := 953) (tgt := 958) dL_law_953 rfl c290 ?_
          exact Ev.weak2 (lj_L_law_958 N L xs (l_L_law_18 N L xs n) ih _ _ _ _ h) (lsubS (lsubS (lsubS (lsubS lsubE))))
        · replace h := (if_neg c290).symm.trans h
          refine Ev.icmp_eq_f (pc := 953) dL_law_953 ⟨958, rfl⟩ c290 ?_
          refine Ev.iconst (pc := 956) (v := 0) dL_law_956 ki_0 ?_
          obtain ⟨h1, h2⟩ := oeq h
          subst h1
          subst h2
          exact Ev.ret_i (pc := 957) dL_law_957 rfl nb_0
      replace h := (if_neg c283).symm.trans h
      refine Ev.swD (pc := 32) (tgt := 958) (tl := [0, 1, 2, 3, 4, 5, 6, 7, 8, 9, 10, 11, 12, 13, 14, 15, 16, 17, 18, 19, 20, 21, 22, 23, 24, 25, 26, 27, 28, 29]) dL_law_32 (not_mem_cons9 (neI c3 rfl) (not_mem_cons9 (neI c11 rfl) (not_mem_cons9 (neI c19 rfl) (not_mem_cons9 (neI c21 rfl) (not_mem_cons9 (neI c31 rfl) (not_mem_cons9 (neI c40 rfl) (not_mem_cons9 (neI c52 rfl) (not_mem_cons9 (neI c64 rfl) (not_mem_cons9 (neI c71 rfl) (not_mem_cons9 (neI c81 rfl) (not_mem_cons9 (neI c91 rfl) (not_mem_cons9 (neI c101 rfl) (not_mem_cons9 (neI c111 rfl) (not_mem_cons9 (neI c121 rfl) (not_mem_cons9 (neI c131 rfl) (not_mem_cons9 (neI c141 rfl) (not_mem_cons9 (neI c153 rfl) (not_mem_cons9 (neI c165 rfl) (not_mem_cons9 (neI c179 rfl) (not_mem_cons9 (neI c189 rfl) (not_mem_cons9 (neI c201 rfl) (not_mem_cons9 (neI c211 rfl) (not_mem_cons9 (neI c223 rfl) (not_mem_cons9 (neI c233 rfl) (not_mem_cons9 (neI c247 rfl) (not_mem_cons9 (neI c257 rfl) (not_mem_cons9 (neI c265 rfl) (not_mem_cons9 (neI c269 rfl) (not_mem_cons9 (neI c275 rfl) (not_mem_cons9 (neI c283 rfl) (not_mem_nil9))))))))))))))))))))))))))))))) rfl rfl rfl ?_
      exact Ev.weak2 (lj_L_law_958 N L xs (l_L_law_18 N L xs n) ih _ _ _ _ h) (lsubS (lsubS (lsubS (lsubS lsubE))))
