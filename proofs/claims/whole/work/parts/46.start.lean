theorem nwf_at : NWF.map (fun q => Cond.fieldLinkNest q.1 q.2.1 q.2.2.1 q.2.2.2.1 q.2.2.2.2.1 q.2.2.2.2.2) = [29, 30, 32, 33, 35, 36, 37, 39, 40, 41, 42, 43, 45, 47, 49, 51, 52, 54, 55, 56, 58, 59, 61, 62, 63, 64, 65, 67, 68, 69, 70, 72, 73, 74, 75, 77, 78, 79, 81, 82, 83, 84, 128, 133, 155, 156, 157, 174, 206, 207, 226, 262, 291].filterMap (fun i => tables_1[i]?) := by decide +kernel
theorem nwm_at : NWM.map (fun q => Cond.methodLinkNest q.1 q.2.1 q.2.2.1 q.2.2.2) = [24, 122, 149, 165, 184, 201, 213, 251, 280, 285, 339, 344, 348, 355, 359, 367, 404, 412, 413, 426, 430, 434, 435, 436, 440, 444, 448, 460, 464, 472, 483, 488, 497, 501, 506, 510, 522, 526, 527, 528, 536, 543, 551, 559, 564, 588, 592, 595, 599, 608, 621, 629, 634, 635, 639, 644, 656, 657, 669, 682, 688, 696, 699, 700, 701, 702, 703, 715, 720, 726, 727, 735, 739, 749, 750, 758, 762, 763, 764, 778, 779, 780, 781, 786, 787, 792, 814, 818, 822, 831, 836, 840, 845, 849, 850, 851, 856, 857, 858, 859, 861, 862, 863, 864, 877, 881, 882, 883, 888, 892, 893].filterMap (fun i => tables_1[i]?) := by decide +kernel
theorem ao_at : Cond.arrayOver (.array .int) ∈ tables_1 := List.mem_of_getElem? (i := 170) (by decide +kernel)
theorem fm_mem {ps : List Nat} {w : Cond} (h : w ∈ ps.filterMap (fun i => tables_1[i]?)) : w ∈ tables_1 := by
  obtain ⟨i, -, hi⟩ := List.mem_filterMap.mp h
  exact List.mem_of_getElem? hi
theorem nw_of {A : Array Value} {s : State} (hts : ∀ w ∈ tables_1, w.before A s = true) : NWok s := by
  refine ⟨va_AOA.of (hts _ ao_at), fun q hq => va_Nw.of rfl (hts _ (fm_mem (nwf_at ▸ List.mem_map.mpr ⟨q, hq, rfl⟩))), fun q hq => va_Nw.of rfl (hts _ (fm_mem (nwm_at ▸ List.mem_map.mpr ⟨q, hq, rfl⟩)))⟩
theorem kn_of {A : Array Value} {s : State} (hts : ∀ w ∈ wsL_law, w.before A s = true) : ∀ k : Nat, ∃ (cC : ClassId) (iS : Nat → Nat), ∀ q : vw_C, vwCl[k]? = some q → u_Kn s q.1 q.2.1 q.2.2 cC iS
  | 0 => by
    obtain ⟨c, i, h⟩ := u_known (C := RX0) (T := TX0) (N := 5) (n := 5) hts inlX0 (hts _ (inr_2 _ (List.mem_of_getElem? (i := 22) rfl)))
    exact ⟨c, i, fun q hq => by cases hq; exact h⟩
  | 1 => by
    obtain ⟨c, i, h⟩ := u_known (C := RX1) (T := TX1) (N := 2) (n := 2) hts inlX1 (hts _ (inr_1 _ (List.mem_of_getElem? (i := 22) rfl)))
    exact ⟨c, i, fun q hq => by cases hq; exact h⟩
  | 2 => by
    obtain ⟨c, i, h⟩ := u_known (C := RX2) (T := TX2) (N := 1) (n := 1) hts inlX2 (hts _ (inr_2 _ (List.mem_of_getElem? (i := 10) rfl)))
    exact ⟨c, i, fun q hq => by cases hq; exact h⟩
  | 3 => by
    obtain ⟨c, i, h⟩ := u_known (C := RX3) (T := TX3) (N := 7) (n := 7) hts inlX3 (hts _ (inr_2 _ (List.mem_of_getElem? (i := 18) rfl)))
    exact ⟨c, i, fun q hq => by cases hq; exact h⟩
  | 4 => by
    obtain ⟨c, i, h⟩ := u_known (C := RX4) (T := TX4) (N := 3) (n := 3) hts inlX4 (hts _ (inr_2 _ (List.mem_of_getElem? (i := 6) rfl)))
    exact ⟨c, i, fun q hq => by cases hq; exact h⟩
  | 5 => by
    obtain ⟨c, i, h⟩ := u_known (C := RX5) (T := TX5) (N := 16) (n := 16) hts inlX5 (hts _ (inr_1 _ (List.mem_of_getElem? (i := 13) rfl)))
    exact ⟨c, i, fun q hq => by cases hq; exact h⟩
  | 6 => by
    obtain ⟨c, i, h⟩ := u_known (C := RX6) (T := TX6) (N := 3) (n := 3) hts inlX6 (hts _ (inr_2 _ (List.mem_of_getElem? (i := 2) rfl)))
    exact ⟨c, i, fun q hq => by cases hq; exact h⟩
  | 7 => by
    obtain ⟨c, i, h⟩ := u_known (C := RX7) (T := TX7) (N := 6) (n := 6) hts inlX7 (hts _ (inr_1 _ (List.mem_of_getElem? (i := 18) rfl)))
    exact ⟨c, i, fun q hq => by cases hq; exact h⟩
  | 8 => by
    obtain ⟨c, i, h⟩ := u_known (C := RX8) (T := TX8) (N := 10) (n := 10) hts inlX8 (hts _ (inr_2 _ (List.mem_of_getElem? (i := 14) rfl)))
    exact ⟨c, i, fun q hq => by cases hq; exact h⟩
  | 9 => by
    obtain ⟨c, i, h⟩ := u_known (C := RX9) (T := TX9) (N := 10) (n := 10) hts inlX9 (hts _ (inr_1 _ (List.mem_of_getElem? (i := 1) rfl)))
    exact ⟨c, i, fun q hq => by cases hq; exact h⟩
  | 10 => by
    obtain ⟨c, i, h⟩ := u_known (C := RX10) (T := TX10) (N := 45) (n := 45) hts inlX10 (hts _ (inr_1 _ (List.mem_of_getElem? (i := 4) rfl)))
    exact ⟨c, i, fun q hq => by cases hq; exact h⟩
  | k + 11 => ⟨0, fun _ => 0, fun q hq => by simp at hq⟩
theorem arr_of {A : Array Value} {s : State} {ty : FieldType} (h : (Cond.arrayClass ty).before A s = true) : ∃ cA : ClassId, ArrOfT s cA ty ∧ s.vm.findClass ("[" ++ ty.toString) = some cA := by
  obtain ⟨cA, kA, comp, h1, h2, h3⟩ := Cond.arrayClass_spec h
  exact ⟨cA, fun n z => ⟨fun k h => (by cases h), kA, h2, comp, h3⟩, h1⟩
/-- the law's walk, of whatever cells, out of an answer of its loop's function -/
theorem start_of {p : Program} {e : Env} {s : State} {m : MethodId} {below : List Frame} {meth : Method} {c : Code} (l : Launch) {b L N : Nat} {xs : Nat → Int32} {w : St} (hN : l_L_law_18 N L xs N 0 cz_2 = some (1, w)) (C0 : lw_At p s m meth c b L xs) : W p l e room_1 s m #[Value.ref b] below meth c s.heap [] 0 0 (lw_Z below #[Value.ref b] s) (entryFrame m ([Value.ref b] : List Value).toArray 4) := by
  obtain ⟨hx, hb, hr, hml, hown, hts, hX, hbl, hlocks, hgv⟩ := id C0
  have hE := law_start N hN
  have hts1 : ∀ w ∈ wsL_law, w.before #[Value.ref b] s = true := fun w h => hts w (wsL_law_in w h)
  have hts2 : ∀ w ∈ tables_1, w.before #[Value.ref b] s = true := fun w h => hts w (List.mem_append_right _ h)
  have hNW : NWok s := nw_of hts2
  have hkn := kn_of hts1
  obtain ⟨cI, hI1, hI2⟩ := arr_of (hts1 _ kArrI)
  obtain ⟨cZ, hZ1, hZ2⟩ := arr_of (hts1 _ kArrZ)
  obtain ⟨comp, cQ, kQ, -, -, hQ1, hQ2, hQ3⟩ := aoa_spec hNW.1
  obtain ⟨D, hK⟩ : ∃ D : va_G, va_K D vwCl (tysOf cI cZ cQ) s := by
    refine ⟨(fun k => Classical.choose (hkn k), fun k => Classical.choose (Classical.choose_spec (hkn k))), fun k q hq => Classical.choose_spec (Classical.choose_spec (hkn k)) q hq, fun k q hq => ?_⟩
    match k, hq with
    | 0, hq => cases hq; exact ⟨hI1, hI2⟩
    | 1, hq => cases hq; exact ⟨hZ1, hZ2⟩
    | 2, hq => cases hq; exact ⟨fun n z => ⟨fun k h => (by cases h), kQ, hQ1, comp, hQ2⟩, hQ3⟩
    | k + 3, hq => simp at hq
  have F : Fr (mdL L xs) 84 p l room_1 s m #[Value.ref b] meth c (fun q : Nat => s.heap.size ≤ q) D cI cZ cQ :=
    ⟨hx, hb, hml, hown, hts1, hNW, hK, fun _ h => h, Nat.le_of_ble_eq_true rfl, Nat.le_of_ble_eq_true rfl, fun h0 => absurd (show yL_law.name = "<init>" from h0) (by decide), rfl⟩
  have hl := lv_entry ([.ref b]) (n := 4) (Nat.le_of_ble_eq_true rfl)
  rw [lg_entry_eq]
  generalize (lg_sl ([.ref b]) ++ List.replicate (4 - (lg_sl ([.ref b])).length) Slot.unset).toArray = ls at hl ⊢
  have hlv : lvOk (fun _ => b) (mdL L xs).2.2.1 [some (vR SCI), none, none, none] ls := ⟨hl.1, hl.2.1, fun i v hi => by
    match i, hi with
    | 0, hi => cases hi; exact hl.2.2 (0, .ref b) (List.mem_cons_self)
    | 1, hi => cases hi
    | 2, hi => cases hi
    | 3, hi => cases hi
    | i + 4, hi => simp at hi⟩
  have hS : Sd (mdL L xs) s (fun q : Nat => s.heap.size ≤ q) D cI cZ cQ (fun _ => b) cs_0 cz_0 s.heap [] :=
    ⟨fun L0 xs0 h0 => by cases h0; exact ⟨hX, hbl, Nat.not_le.mpr hbl⟩, fun k q h => by simp [wsOf, cs_0] at h, ⟨fun i j p q h => by simp [wsOf, cs_0] at h, fun k q h => by simp [wsOf, cs_0] at h⟩, va_S.rf⟩
  refine hE.2 p l e room_1 s m #[Value.ref b] below meth c (fun q : Nat => s.heap.size ≤ q) D cI cZ cQ F 0 0 s.heap [] (fun _ => b) ls (lw_Z below #[Value.ref b] s) (Nat.le_of_ble_eq_true rfl) (Nat.le_of_ble_eq_true rfl) hlv hS (fun pcR H' locs' ad' ls' hR hAE hS' => ?_)
  refine W.widen (k := 600000) (n := 7302250) (Nat.le_of_ble_eq_true rfl) (Nat.le_of_ble_eq_true rfl) ?_
  refine va_forget (fun q hq => hS'.2.2.2.2.2 q hq) ?_
  rcases hR with ⟨hd, x, ty, h1, -, -⟩ | ⟨hd, h1, -⟩ | ⟨hd, ⟨q, h1⟩, -⟩
  · cases h1
    exact lw_ret hx hb hr hlocks hd
  · cases h1
  · cases h1
