/-! constructors: new cells -/
def shWf (sh : Sh) : Bool := sh.all fun c => c.2.2.all fun o => match o with
  | some (some r) => Nat.blt r sh.length
  | _ => true
def ad1 (ad : Nat → Nat) (n q : Nat) : Nat → Nat := fun i => if i = n then q else ad i
theorem ad1_ne {ad : Nat → Nat} {n q i : Nat} (h : ¬ i = n) : ad1 ad n q i = ad i := if_neg h
theorem ad1_eq {ad : Nat → Nat} {n q : Nat} : ad1 ad n q n = q := if_pos rfl
def okV (n : Nat) : MV → Bool
  | .inr (.inr (some r)) => !(r == n)
  | _ => true
def okL (n : Nat) (lv : List (Option MV)) (stk : List MV) : Bool := (lv.all fun o => match o with
  | some v => okV n v
  | none => true) && stk.all (okV n)
theorem mv_ne {ad : Nat → Nat} {n q : Nat} {v : MV} (h : okV n v = true) : mv (ad1 ad n q) v = mv ad v := by
  rcases v with x | y | _ | r
  · rfl
  · rfl
  · rfl
  · have hr : ¬ r = n := by simpa [okV] using h
    show va_rf (some _) = va_rf (some _)
    rw [ad1_ne hr]
theorem okL_lv {n : Nat} {lv : List (Option MV)} {stk : List MV} (h : okL n lv stk = true) {ad : Nat → Nat} {q i : Nat} {v : MV} (hv : lv[i]? = some (some v)) : mv (ad1 ad n q) v = mv ad v := by
  unfold okL at h
  rw [Bool.and_eq_true] at h
  exact mv_ne (List.all_eq_true.mp h.1 _ (List.mem_of_getElem? hv))
theorem okL_stk {n : Nat} {lv : List (Option MV)} {stk : List MV} (h : okL n lv stk = true) {ad : Nat → Nat} {q : Nat} : stk.map (mv (ad1 ad n q)) = stk.map (mv ad) := by
  unfold okL at h
  rw [Bool.and_eq_true] at h
  exact List.map_congr_left fun v hv => mv_ne (List.all_eq_true.mp h.2 v hv)
theorem ent_ne {cI cZ cQ : ClassId} {ad : Nat → Nat} {n q : Nat} {f : Nat → Int32} {c : Nat × Nat × List (Option (Option Nat))} (h : (c.2.2.all fun o => match o with
  | some (some r) => Nat.blt r n
  | _ => true) = true) : ent cI cZ cQ (ad1 ad n q) f c = ent cI cZ cQ ad f c := by
  obtain ⟨k, m, rs⟩ := c
  have hne : ∀ (i : Nat) (r : Nat), rs[i]? = some (some (some r)) → ¬ r = n := by
    intro i r hi
    have h1 := List.all_eq_true.mp h _ (List.mem_of_getElem? hi)
    have h2 : r < n := by simpa [Nat.blt_eq] using h1
    omega
  match k with
  | 0 => rfl
  | 1 => rfl
  | 2 =>
    show Sum.inl (cQ, m, _) = Sum.inl (cQ, m, _)
    have e : (fun i : Nat => ((rs[i]?).join).join.map (ad1 ad n q)) = fun i : Nat => ((rs[i]?).join).join.map ad := by
      funext i
      cases hi : rs[i]? with
      | none => rfl
      | some o =>
        cases o with
        | none => rfl
        | some o =>
          cases o with
          | none => rfl
          | some r =>
            show some _ = some _
            rw [ad1_ne (hne i r hi)]
    rw [e]
  | c + 3 =>
    show Sum.inr (c, _) = Sum.inr (c, _)
    have e : rs.mapIdx (fv (ad1 ad n q) f) = rs.mapIdx (fv ad f) := by
      apply List.ext_getElem?
      intro i
      rw [List.getElem?_mapIdx, List.getElem?_mapIdx]
      cases hi : rs[i]? with
      | none => rfl
      | some o =>
        cases o with
        | none => rfl
        | some o =>
          cases o with
          | none => rfl
          | some r =>
            show some (va_rf (some _)) = some (va_rf (some _))
            rw [ad1_ne (hne i r hi)]
    rw [e]
theorem wsOf_new {cI cZ cQ : ClassId} {ad : Nat → Nat} {q : Nat} {sh : Sh} {σ : St} (hw : shWf sh = true) (c : Nat × Nat × List (Option (Option Nat))) :
    wsOf cI cZ cQ (ad1 ad sh.length q) (sh ++ [c]) (clr σ sh.length) = wsOf cI cZ cQ ad sh σ ++ [(q, ent cI cZ cQ (ad1 ad sh.length q) (fun _ => 0) c)] := by
  have hall := List.all_eq_true.mp hw
  unfold wsOf
  rw [List.mapIdx_append]
  congr 1
  · apply List.ext_getElem?
    intro i
    rw [List.getElem?_mapIdx, List.getElem?_mapIdx]
    cases hi : sh[i]? with
    | none => rfl
    | some y =>
      have hl : i < sh.length := (List.getElem?_eq_some_iff.mp hi).1
      have hn : ¬ i = sh.length := by omega
      show some (_, _) = some (_, _)
      rw [ad1_ne hn, ent_ne (hall y (List.mem_of_getElem? hi))]
      simp [clr, hn]
  · simp [clr, ad1]
section NEW
variable {M : MD} {d pc : Nat} {lv : List (Option MV)} {stk : List MV} {sh sh1 : Sh} {σ σ1 : St} {r : Option MV × Sh × St}
/-- behind an instruction that makes one cell -/
theorem Ev.ofNew {pc' : Nat} {stk0 : List MV} {c : Nat × Nat × List (Option (Option Nat))} (h1 : sh ++ [c] = sh1) (h2 : clr σ sh.length = σ1) (hw : shWf sh = true) (hsc : sh.length < SCI) (hok : okL sh.length lv stk = true) (h : Ev M d pc' lv (vR sh.length :: stk) sh1 σ1 r)
    (hs : ∀ (p : Program) (l : Launch) (e : Env) (R : Room) (s : State) (m : MethodId) (args : Array Value) (below : List Frame) (meth : Method) (c0 : Code) (A : Nat → Prop) (D : va_G) (cI cZ cQ : ClassId), Fr M d p l R s m args meth c0 A D cI cZ cQ →
      ∀ (cells slots : Nat) (H : Heap) (locs : List Loc) (ad : Nat → Nat) (ls : Array Slot) (Q : State → Prop), cells + 1 ≤ R.cells → slots + c.2.1 ≤ R.slots → lvOk ad M.2.2.1 lv ls → Sd M s A D cI cZ cQ ad sh σ H locs →
      (∀ (q : Nat) (H' : Heap), va_P D vwCl (wsOf cI cZ cQ ad sh σ ++ [(q, ent cI cZ cQ (ad1 ad sh.length q) (fun _ => 0) c)]) H' → va_D A (wsOf cI cZ cQ ad sh σ ++ [(q, ent cI cZ cQ (ad1 ad sh.length q) (fun _ => 0) c)]) → va_S A s.heap H' locs →
        W p l e R s m args below meth c0 H' locs (cells + 1) (slots + c.2.1) Q (F0 m pc' ls (.ref q :: stk.map (mv ad)))) → W p l e R s m args below meth c0 H locs cells slots Q (F0 m pc ls (stk0.map (mv ad)))) : Ev M d pc lv stk0 sh σ r := by
  subst h1
  subst h2
  have e1 : (sh ++ [c]).length = sh.length + 1 := by simp
  have e2 : slo (sh ++ [c]) = slo sh + c.2.1 := by simp [slo]
  obtain ⟨⟨hl1, hl2⟩, hE⟩ := h
  rw [e1] at hl1
  rw [e2] at hl2
  refine ⟨⟨by omega, by omega⟩, ?_⟩
  intro p l e R s m args below meth c0 A D cI cZ cQ F cells slots H locs ad ls Q q1 q2 hL hS k
  refine hs p l e R s m args below meth c0 A D cI cZ cQ F cells slots H locs ad ls Q (by omega) (by omega) hL hS fun q H' hP' hD' hS' => ?_
  rw [← wsOf_new hw c] at hP' hD'
  have hsi : (ad1 ad sh.length q) SCI = ad SCI := ad1_ne (by omega)
  have key := hE p l e R s m args below meth c0 A D cI cZ cQ F (cells + 1) (slots + c.2.1) H' locs (ad1 ad sh.length q) ls Q (by rw [e1]; omega) (by rw [e2]; omega)
    ⟨hL.1, hL.2.1, fun i v hv => by rw [okL_lv hok hv]; exact hL.2.2 i v hv⟩ ⟨fun L0 xs0 hx0 => by rw [hsi]; exact hS.1 L0 xs0 hx0, hP', hD', hS'⟩
    (fun pcR H2 locs2 ad2 ls2 w1 w2 w3 => by
      have := k pcR H2 locs2 ad2 ls2 w1 (fun i hi => (w2 i (by rw [e1]; omega)).trans (ad1_ne (by omega))) w3
      have ec : cells + 1 + (r.2.1.length - (sh ++ [c]).length) = cells + (r.2.1.length - sh.length) := by rw [e1]; omega
      have es : slots + c.2.1 + (slo r.2.1 - slo (sh ++ [c])) = slots + (slo r.2.1 - slo sh) := by rw [e2]; omega
      rw [ec, es]
      exact this)
  have est : (vR sh.length :: stk).map (mv (ad1 ad sh.length q)) = .ref q :: stk.map (mv ad) := by
    rw [List.map_cons, okL_stk hok]
    show va_rf (some _) :: _ = _
    rw [ad1_eq]
    rfl
  rw [est] at key
  exact key
theorem Ev.newarr {n : Int32} {N' : Nat} (hd : decode M.2.1 pc = .ok (.newarray .int, 2)) (hn : ¬ n < 0) (hN : n.toNatClampNeg = N') (hb : N' ≤ 100000000) (h1 : sh ++ [(0, N', [])] = sh1) (h2 : clr σ sh.length = σ1) (hw : shWf sh = true) (hsc : sh.length < SCI) (hok : okL sh.length lv stk = true) (h : Ev M d (pc + 2) lv (vR sh.length :: stk) sh1 σ1 r) : Ev M d pc lv (vI n :: stk) sh σ r := by
  refine Ev.ofNew h1 h2 hw hsc hok h fun p l e R s m args below meth c0 A D cI cZ cQ F cells slots H locs ad ls Q q1 q2 hL hS kk => ?_
  have hK := F.2.2.2.2.2.2.1
  refine va_newa (atype := .int) (N' := N') F.1 F.2.1 (F.2.2.2.2.1 _ kArrI) rfl hK hS.2.1 hS.2.2.1 hS.2.2.2 F.2.2.2.2.2.2.2.1 (a0 := (N', .inl (fun _ => 0))) (fun cA => rfl) hn hN (by show N' * 4 ≤ _; omega) q1 q2 hd (fun q cA H1 hK1 hP1 hD1 hS1 => ?_)
  have e1 := va_nm_int (hK.2 0 _ rfl).2
  have e2 := va_nm_int (hK1.2 3 (cA, .int) rfl).2
  have e : cA = cI := Option.some.inj (e2.symm.trans e1)
  subst e
  exact kk q H1 hP1 hD1 hS1
theorem Ev.newarrZ {n : Int32} {N' : Nat} (hd : decode M.2.1 pc = .ok (.newarray .boolean, 2)) (hn : ¬ n < 0) (hN : n.toNatClampNeg = N') (hb : N' ≤ 100000000) (h1 : sh ++ [(1, N', [])] = sh1) (h2 : clr σ sh.length = σ1) (hw : shWf sh = true) (hsc : sh.length < SCI) (hok : okL sh.length lv stk = true) (h : Ev M d (pc + 2) lv (vR sh.length :: stk) sh1 σ1 r) : Ev M d pc lv (vI n :: stk) sh σ r := by
  refine Ev.ofNew h1 h2 hw hsc hok h fun p l e R s m args below meth c0 A D cI cZ cQ F cells slots H locs ad ls Q q1 q2 hL hS kk => ?_
  have hK := F.2.2.2.2.2.2.1
  refine va_newa (atype := .boolean) (N' := N') F.1 F.2.1 (F.2.2.2.2.1 _ kArrZ) rfl hK hS.2.1 hS.2.2.1 hS.2.2.2 F.2.2.2.2.2.2.2.1 (a0 := (N', .inl (fun _ => 0))) (fun cA => rfl) hn hN (by show N' * 1 ≤ _; omega) q1 q2 hd (fun q cA H1 hK1 hP1 hD1 hS1 => ?_)
  have e1 := va_nm_boolean (hK.2 1 _ rfl).2
  have e2 := va_nm_boolean (hK1.2 3 (cA, .boolean) rfl).2
  have e : cA = cZ := Option.some.inj (e2.symm.trans e1)
  subst e
  exact kk q H1 hP1 hD1 hS1
/-- a class whose objects are made -/
def LkN (own : String) (idx ci : Nat) (rs : List (Option (Option Nat))) : Prop := ∃ q : vw_C, vwCl[ci]? = some q ∧ Cond.classLink own idx q.1 ∈ wsL_law ∧ Cond.instantiable q.1 q.2.2 ∈ wsL_law ∧ Cond.initialized q.1 ∈ wsL_law ∧ ∃ ty : Nat → FieldType, (∀ k, k < q.2.2 → parseFieldDescriptor (q.2.1 k).2.2.1 = some (ty k)) ∧ ((List.range q.2.2).all fun j => match rs[j]? with
  | some none => decide (defaultValue (ty j) = .int 0)
  | some (some none) => decide (defaultValue (ty j) = .null)
  | _ => false) = true ∧ q.2.2 = rs.length
theorem Ev.newobj {idx ci : Nat} {rs : List (Option (Option Nat))} (hd : decode M.2.1 pc = .ok (.new idx, 3)) (hl : LkN M.1.cls idx ci rs) (h1 : sh ++ [(ci + 3, rs.length, rs)] = sh1) (h2 : clr σ sh.length = σ1) (hw : shWf sh = true) (hsc : sh.length < SCI) (hok : okL sh.length lv stk = true) (h : Ev M d (pc + 3) lv (vR sh.length :: stk) sh1 σ1 r) : Ev M d pc lv stk sh σ r := by
  refine Ev.ofNew h1 h2 hw hsc hok h fun p l e R s m args below meth c0 A D cI cZ cQ F cells slots H locs ad ls Q q1 q2 hL hS kk => ?_
  have hK := F.2.2.2.2.2.2.1
  obtain ⟨⟨C, T, N⟩, hc, hk1, hk2, hk3, ty, ht, hdef, hlen⟩ := hl
  dsimp only at hk1 hk2 hk3 ht hdef hlen
  subst hlen
  have hr : ∀ (ad' : Nat → Nat) (j : Nat), j < rs.length → defaultValue (ty j) = vp_V (rs.mapIdx (fv ad' (fun _ => 0))) j := by
    intro ad' j hj
    have h3 := List.all_eq_true.mp hdef j (List.mem_range.mpr hj)
    unfold vp_V
    rw [List.getD_eq_getElem?_getD, List.getElem?_mapIdx]
    split at h3
    · next hh => rw [hh]; exact of_decide_eq_true h3
    · next hh => rw [hh]; exact of_decide_eq_true h3
    · cases h3
  refine va_new (ci := ci) F.1 F.2.1 F.2.2.2.2.1 (cl_in ci _ hc) ty ht F.2.2.2.1 (F.2.2.2.2.1 _ hk1) (F.2.2.2.2.1 _ hk2) (F.2.2.2.2.1 _ hk3) hK hS.2.1 hS.2.2.1 hS.2.2.2 F.2.2.2.2.2.2.2.1 hc (fs := rs.mapIdx (fv ad (fun _ => 0))) (hr ad) q1 q2 hd (fun q H1 hP1 hD1 hS1 => ?_)
  have e : ent cI cZ cQ (ad1 ad sh.length q) (fun _ => 0) (ci + 3, rs.length, rs) = .inr (ci, rs.mapIdx (fv ad (fun _ => 0))) := by
    show Sum.inr (ci, _) = Sum.inr (ci, _)
    have e2 : rs.mapIdx (fv (ad1 ad sh.length q) (fun _ => 0)) = rs.mapIdx (fv ad (fun _ => 0)) := by
      apply List.ext_getElem?
      intro i
      rw [List.getElem?_mapIdx, List.getElem?_mapIdx]
      cases hi : rs[i]? with
      | none => rfl
      | some o =>
        have hj : i < rs.length := (List.getElem?_eq_some_iff.mp hi).1
        have h3 := List.all_eq_true.mp hdef i (List.mem_range.mpr hj)
        rw [hi] at h3
        cases o with
        | none => rfl
        | some o =>
          cases o with
          | none => rfl
          | some r => cases h3
    rw [e2]
  have kk := kk q
  rw [e] at kk
  exact kk H1 hP1 hD1 hS1
theorem kObjM {own : String} {idx : Nat} (h : Cond.methodLink own idx objectInit ∈ wsL_law) : Cond.methodLink own idx objectInit ∈ wsL_law := h
theorem Ev.objI {idx k : Nat} (hd : decode M.2.1 pc = .ok (.invokespecial idx, 3)) (hl : Cond.methodLink M.1.cls idx objectInit ∈ wsL_law) (hd1 : 1 ≤ d) (hr : (stk.map cat).sum ≤ 8) (h : Ev M d (pc + 3) lv stk sh σ r) : Ev M d pc lv (vR k :: stk) sh σ r :=
  Ev.mk0 h fun p l e R s m args below meth c0 A D cI cZ cQ F cells slots H locs ad ls Q _ _ hL hS kk => by
    refine W.objInit (a := ad k) (rest := stk.map (mv ad)) F.1 F.2.1 F.2.2.2.1 (F.2.2.2.2.1 _ hl) (F.2.2.2.2.1 _ kObj1) (F.2.2.2.2.1 _ kObj2) rfl (hL.1.trans F.2.2.1.symm) rfl hd (Nat.le_trans hd1 F.2.2.2.2.2.2.2.2.1) ?_ kk
    have h1 := F.2.2.2.2.2.2.2.2.2.1
    have h2 : (((stk.map (mv ad)).map fun v => v.category).sum) ≤ 8 := by rw [mv_cats]; exact hr
    show 2 * 0 + _ + 12 ≤ _
    omega
theorem Ev.putF {idx ci j k n : Nat} {rs : List (Option (Option Nat))} {q : Option Nat} {ty : FieldType} (hd : decode M.2.1 pc = .ok (.putfield idx, 3)) (hl : LkI M.1.cls idx ci j ty) (hty : ty.isReference = true) (hini : M.1.name = "<init>") (hk : sh[k]? = some (ci + 3, n, rs)) (hr : ∃ z, rs[j]? = some (some z)) (h1 : sh.set k (ci + 3, n, rs.set j (some q)) = sh1) (h : Ev M d (pc + 3) lv stk sh1 σ r) : Ev M d pc lv (.inr (.inr q) :: vR k :: stk) sh σ r := by
  subst h1
  have el : (sh.set k (ci + 3, n, rs.set j (some q))).length = sh.length := by simp
  have hkl : k < sh.length := (List.getElem?_eq_some_iff.mp hk).1
  have es : slo (sh.set k (ci + 3, n, rs.set j (some q))) = slo sh := by
    unfold slo
    rw [List.map_set]
    congr 1
    apply List.ext_getElem?
    intro i
    by_cases hi : i = k
    · subst hi
      rw [List.getElem?_set_self (by simpa using hkl), List.getElem?_map, hk]
      rfl
    · rw [List.getElem?_set_ne (fun e => hi e.symm)]
  obtain ⟨⟨hl1, hl2⟩, hE⟩ := h
  rw [el] at hl1
  rw [es] at hl2
  refine ⟨⟨hl1, hl2⟩, ?_⟩
  intro p l e R s m args below meth c0 A D cI cZ cQ F cells slots H locs ad ls Q q1 q2 hL hS kk
  obtain ⟨⟨C, T, N⟩, hc, hj, hlk, hfin, hown, hpt⟩ := hl
  obtain ⟨ty0, ht1, ht2⟩ := cl_ty ci _ hc
  have he : (wsOf cI cZ cQ ad sh σ)[k]? = some (ad k, .inr (ci, rs.mapIdx (fv ad (σ k)))) := wsOf_at hk
  obtain ⟨z, hz⟩ := hr
  have hjl : j < (rs.mapIdx (fv ad (σ k))).length := by
    have := (List.getElem?_eq_some_iff.mp hz).1
    simpa using this
  have hfit := fit_ref hty (q.map ad)
  refine va_putF F.1 F.2.1 F.2.2.2.2.1 (cl_in ci _ hc) ty0 ht1 ht2 F.2.2.2.1 F.2.2.2.2.2.2.1 hS.2.1 hS.2.2.1 hS.2.2.2 k he hc j hj (F.2.2.2.2.1 _ hlk) (fun _ h => h) hfin (F.2.2.2.2.2.2.2.2.2.2.1 hini) hown hpt hfit.1 hfit.2 hjl hd (fun H1 locs1 h1 h2 h3 => ?_)
  have ew : (wsOf cI cZ cQ ad sh σ).set k (ad k, .inr (ci, (rs.mapIdx (fv ad (σ k))).set j (mv ad (.inr (.inr q))))) = wsOf cI cZ cQ ad (sh.set k (ci + 3, n, rs.set j (some q))) σ := by
    rw [show mv ad (.inr (.inr q)) = va_rf (q.map ad) from rfl, fv_ref ad (σ k) rs j q ⟨z, hz⟩]
    apply List.ext_getElem?
    intro i
    by_cases hi : i = k
    · subst hi
      rw [List.getElem?_set_self (by simpa [wsOf] using hkl), wsOf_at (List.getElem?_set_self hkl)]
      rfl
    · rw [List.getElem?_set_ne (fun e => hi e.symm)]
      simp only [wsOf, List.getElem?_mapIdx]
      rw [List.getElem?_set_ne (fun e => hi e.symm)]
  rw [ew] at h1 h2
  have key := hE p l e R s m args below meth c0 A D cI cZ cQ F cells slots H1 locs1 ad ls Q (by rw [el]; exact q1) (by rw [es]; exact q2) hL ⟨hS.1, h1, h2, h3⟩ (fun pcR H2 locs2 ad2 ls2 w1 w2 w3 => by
    rw [el, es]
    exact kk pcR H2 locs2 ad2 ls2 w1 (fun i hi => w2 i (by rw [el]; exact hi)) w3)
  exact key
end NEW
def ltV (n n1 : Nat) : MV → Bool
  | .inr (.inr (some r)) => Nat.blt r n || Nat.ble n1 r
  | _ => true
def ltL (n n1 : Nat) (lv : List (Option MV)) (stk : List MV) : Bool := (lv.all fun o => match o with
  | some v => ltV n n1 v
  | none => true) && stk.all (ltV n n1)
theorem ltV_eq {sh sh1 : Sh} {ad ad' : Nat → Nat} {v : MV} (hA : AE sh sh1 ad ad') (h : ltV sh.length sh1.length v = true) : mv ad' v = mv ad v := by
  rcases v with x | y | _ | r
  · rfl
  · rfl
  · rfl
  · have hr : r < sh.length ∨ sh1.length ≤ r := by
      simp only [ltV, Bool.or_eq_true, Nat.blt_eq, Nat.ble_eq] at h
      exact h
    show va_rf (some _) = va_rf (some _)
    rw [hA r hr]
theorem ltL_ok {sh sh1 : Sh} {lv : List (Option MV)} {rest : List MV} (h : ltL sh.length sh1.length lv rest = true) (ad ad' : Nat → Nat) (hA : AE sh sh1 ad ad') : (∀ (i : Nat) (u : MV), lv[i]? = some (some u) → mv ad' u = mv ad u) ∧ rest.map (mv ad') = rest.map (mv ad) := by
  unfold ltL at h
  rw [Bool.and_eq_true] at h
  refine ⟨fun i u hu => ltV_eq hA ?_, List.map_congr_left fun v hv => ltV_eq hA (List.all_eq_true.mp h.2 v hv)⟩
  exact List.all_eq_true.mp h.1 _ (List.mem_of_getElem? hu)
theorem Ev.cI {M N : MD} {d d' pc n idx : Nat} {lv : List (Option MV)} {sh sh1 : Sh} {σ σ1 : St} {r : Option MV × Sh × St} {k : Nat} {av rest : List MV} (hd : decode M.2.1 pc = .ok (.invokespecial idx, 3)) (hc : CeI N n) (hl : LkM M.1.cls idx N.1) (hn : av.length = n) (hr : (rest.map cat).sum ≤ 8) (hd' : d' + 1 ≤ d) (hsc : sh1.length ≤ SCI) (hok : ltL sh.length sh1.length lv rest = true) (hR : Rn N d' (vR k :: av) sh σ (none, sh1, σ1)) (h : Ev M d (pc + 3) lv rest sh1 σ1 r) : Ev M d pc lv (av.reverse ++ vR k :: rest) sh σ r :=
  callI0 hd hc hl hn hr hd' (Or.inr hsc) (ltL_ok hok) hR h
theorem clr_eq {σ : St} {k : Nat} (h : σ k = fun _ => 0) : clr σ k = σ := by
  funext a
  unfold clr
  by_cases e : a = k
  · subst e
    rw [if_pos rfl, h]
  · rw [if_neg e]
theorem sbLS {v : MV} {t l : List (Option MV)} (h : sbL t l) : sbL (some v :: t) (some v :: l) := ⟨rfl, h⟩
/-! ===== BEGIN new T[n][m]: the outer array a place, the inner ones among the pooled ===== -/
/-- f, but v at every address of l -/
def vr_up {α : Type} (f : Nat → α) (l : List Nat) (v : α) : Nat → α := fun a => if a ∈ l then v else f a
theorem vr_up_in {α : Type} {f : Nat → α} {l : List Nat} {v : α} {a : Nat} (h : a ∈ l) : vr_up f l v a = v := if_pos h
theorem vr_up_ne {α : Type} {f : Nat → α} {l : List Nat} {v : α} {a : Nat} (h : a ∉ l) : vr_up f l v a = f a := if_neg h
theorem vr_rows {L l : List Nat} {f : Nat → va_E} {e : va_E} (h : ∀ a, a ∈ l → a ∉ L) : va_pl L f ++ l.map (fun a => (a, e)) = va_pl (L ++ l) (vr_up f l e) := by
  unfold va_pl
  rw [List.map_append]
  congr 1
  · apply List.map_congr_left
    intro a ha
    rw [vr_up_ne (fun q => h a q ha)]
  · apply List.map_congr_left
    intro a ha
    rw [vr_up_in ha]
theorem vr_lay {X rows : va_W} {x : Nat × va_E} {pl : va_W} {D : va_G} {cl : List vw_C} {H : Heap} (hP : va_P D cl (((X ++ pl) ++ [x]) ++ rows) H) : va_P D cl ((X ++ [x]) ++ (pl ++ rows)) H := by
  rw [List.append_assoc (X ++ pl)] at hP
  have h := va_P.swap hP
  rw [← List.append_assoc X] at h
  have h2 := va_P.swap h
  rw [List.append_assoc (X ++ [x])] at h2
  exact h2
theorem vr_layD {X rows : va_W} {x : Nat × va_E} {pl : va_W} {A : Nat → Prop} (hD : va_D A (((X ++ pl) ++ [x]) ++ rows)) : va_D A ((X ++ [x]) ++ (pl ++ rows)) := by
  rw [List.append_assoc (X ++ pl)] at hD
  have h := va_D.swap hD
  rw [← List.append_assoc X] at h
  have h2 := va_D.swap h
  rw [List.append_assoc (X ++ [x])] at h2
  exact h2
theorem vr_outer (c : ClassId) (N h0 : Nat) : ∀ i : Nat, Jvm.Free.Multi.outerC c N h0 i = arrV c N (fun j => va_rf (if j < i then some (h0 + 1 + j) else none))
  | 0 => by
    show ({ cls := c, slots := Array.replicate N .null, vm := .none } : Cell) = _
    rw [arrV_new]
    refine congrArg (arrV c N) (funext fun j => ?_)
    simp [va_rf]
  | i + 1 => by
    show (Jvm.Free.Multi.outerC c N h0 i).setSlot i (.ref (h0 + 1 + i)) = _
    rw [vr_outer c N h0 i, arrV_store]
    refine congrArg (arrV c N) (funext fun j => ?_)
    by_cases e : j = i
    · subst e
      simp [updV, va_rf]
    · by_cases h : j < i
      · simp [updV, e, h, Nat.lt_succ_of_lt h]
      · simp [updV, e, h, show ¬ j < i + 1 by omega]
section VGM
variable {p : Program} {l : Launch} {e : Env} {R : Room} {s : State} {m : MethodId} {args : Array Value} {below : List Frame} {meth : Method} {c : Code} {H : Heap} {locs : List Loc} {cells slots : Nat} {Q : State → Prop}
variable {cc : ByteArray} {pc : Nat} {ls : Array Slot} {rest : List Value} {D : va_G} {cl : List vw_C} {A : Nat → Prop} {a : Nat} {tys : List (ClassId × FieldType)} {ws : va_W} {H0 : Heap}
theorem va_mna {X : va_W} {L : List Nat} {f : Nat → va_E} {cc : ByteArray} (hexec : p.tables.exec = Jvm.exec) (hb : c.code = cc) {own : String} {index : Nat} {ty : FieldType} {cy : ClassId} (hown : s.vm.findClass own = some m.cls) (hclink : (Cond.classLink own index ("[" ++ (FieldType.array ty).toString)).before args s = true) (hover : va_AOA ty s) (harr : (Cond.arrayClass ty).before args s = true) (hcy : s.vm.findClass (FieldType.array ty).toString = some cy)
    (hK : va_K D cl tys s) (hP : va_P D cl (X ++ va_pl L f) H) (hD : va_D A (X ++ va_pl L f)) (hS : va_S A H0 H locs) (hA : ∀ q, H0.size ≤ q → A q) {n k : Int32} {N' K' : Nat} {z : vp_A} (hn : ¬ n < 0) (hk : ¬ k < 0) (hN : n.toNatClampNeg = N') (hM : k.toNatClampNeg = K')
    (hb1 : N' * 4 ≤ 536870912) (hb2 : K' * componentBytes ty ≤ 536870912) (hb3 : K' ≤ 536870912) (hdf : fits ty (defaultValue ty) = true) (hdd : (defaultValue ty).isDefault = true) (hcells : cells + (1 + N') ≤ R.cells) (hslots : slots + (N' + N' * K') ≤ R.slots) (hz : ∀ c : ClassId, Jvm.Free.Multi.innerC c K' (defaultValue ty) = vp_cell c z) (hdg : decode cc pc = .ok (.multianewarray index 2, 4))
    (kk : ∀ (q : Nat) (r : Nat → Nat) (cA : ClassId) (H1 : Heap), (∀ i j : Nat, i < N' → j < N' → r i = r j → i = j) → (∀ i : Nat, i < N' → r i ∉ L) → va_K D cl (tys ++ [(cA, .array ty)]) s →
      va_P D cl ((X ++ [(q, .inl (cA, N', .inr (.inr (.inr (.inr (fun i => if i < N' then some (r i) else none))))))]) ++ va_pl (L ++ (List.range N').map r) (vr_up f ((List.range N').map r) (.inl (cy, z)))) H1 → va_D A ((X ++ [(q, .inl (cA, N', .inr (.inr (.inr (.inr (fun i => if i < N' then some (r i) else none))))))]) ++ va_pl (L ++ (List.range N').map r) (vr_up f ((List.range N').map r) (.inl (cy, z)))) → va_S A H0 H1 locs →
      W p l e R s m args below meth c H1 locs (cells + 1 + N') (slots + N' + N' * K') Q (F0 m (pc + 4) ls (.ref q :: rest))) : W p l e R s m args below meth c H locs cells slots Q (F0 m pc ls (.int k :: .int n :: rest)) := by
  subst hN
  subst hM
  intro T hT Xs
  obtain ⟨vm₁, cA, comp, -, fA, fC, hO, -, X', step⟩ := Xs.multianewarray2F hexec hown hclink (va_AOA.use hover) harr (g := F0 m pc ls (.int k :: .int n :: rest)) rfl (by rw [hb]; exact hdg) rfl hn hk hb1 hb2 hb3 hdf hdd hcells hslots
  have ec : some cy = some comp := hcy.symm.trans fC
  cases ec
  generalize hF : Jvm.Free.Multi.fill (T.setVm vm₁) cA cy n.toNatClampNeg k.toNatClampNeg (defaultValue ty) n.toNatClampNeg = F at X' step
  have hTh : (T.setVm vm₁).heap = H := hT
  obtain ⟨f1, f2, -, -⟩ := Jvm.Free.Multi.fill_facts (T.setVm vm₁) cA cy n.toNatClampNeg k.toNatClampNeg (defaultValue ty) n.toNatClampNeg
  rw [hF, hTh] at f1 f2
  have hold : ∀ x : Nat, x < H.size → F.heap[x]? = H[x]? := fun x hx => by
    have := Jvm.Free.Multi.fill_old (T.setVm vm₁) cA cy n.toNatClampNeg k.toNatClampNeg (defaultValue ty) (a := x) (by rw [hTh]; exact hx) n.toNatClampNeg
    rw [hF, hTh] at this
    exact this
  have hrow : ∀ j : Nat, j < n.toNatClampNeg → F.heap[H.size + 1 + j]? = some (vp_cell cy z) := fun j hj => by
    have := Jvm.Free.Multi.fill_inner (T.setVm vm₁) cA cy n.toNatClampNeg k.toNatClampNeg (defaultValue ty) n.toNatClampNeg j hj
    rw [hF, hTh, hz] at this
    exact this
  have hout : Jvm.Free.Multi.outerC cA n.toNatClampNeg H.size n.toNatClampNeg = vp_cell cA (n.toNatClampNeg, .inr (.inr (.inr (.inr (fun i => if i < n.toNatClampNeg then some (H.size + 1 + i) else none))))) := by
    rw [vp_cell_q]
    exact vr_outer cA n.toNatClampNeg H.size n.toNatClampNeg
  rw [hout] at f2
  have hlt : ∀ a, a ∈ L → a < H.size := fun a ha => by
    obtain ⟨k9, hk9⟩ := va_pl_get (X := X) (f := f) ha
    exact (hP k9 _ hk9).lt
  have hnl : ∀ i : Nat, i < n.toNatClampNeg → H.size + 1 + i ∉ L := fun i _ h => by
    have := hlt _ h
    omega
  have hnm : ∀ a, a ∈ (List.range n.toNatClampNeg).map (fun i => H.size + 1 + i) → a ∉ L := fun a ha h => by
    obtain ⟨i, -, rfl⟩ := List.mem_map.mp ha
    have := hlt _ h
    omega
  have hP0 : va_P D cl (X ++ va_pl L f) F.heap := hP.kept (fun k9 x hx => hold x.1 ((hP k9 x hx).lt))
  have hP1 : va_P D cl ((X ++ va_pl L f) ++ [(H.size, .inl (cA, n.toNatClampNeg, .inr (.inr (.inr (.inr (fun i => if i < n.toNatClampNeg then some (H.size + 1 + i) else none))))))]) F.heap := hP0.app (fun k9 x hx => by
    have h0 : k9 < 1 := (List.getElem?_eq_some_iff.mp hx).1
    rw [show k9 = 0 by omega] at hx
    cases hx
    exact f2)
  have hP2 : va_P D cl (((X ++ va_pl L f) ++ [(H.size, .inl (cA, n.toNatClampNeg, .inr (.inr (.inr (.inr (fun i => if i < n.toNatClampNeg then some (H.size + 1 + i) else none))))))]) ++ ((List.range n.toNatClampNeg).map (fun i => H.size + 1 + i)).map (fun a => (a, .inl (cy, z)))) F.heap := hP1.app (fun k9 x hx => by
    obtain ⟨a, ha, rfl⟩ := List.mem_map.mp (List.mem_of_getElem? hx)
    obtain ⟨i, hi, rfl⟩ := List.mem_map.mp ha
    exact hrow i (List.mem_range.mp hi))
  have hD2 : va_D A (((X ++ va_pl L f) ++ [(H.size, .inl (cA, n.toNatClampNeg, .inr (.inr (.inr (.inr (fun i => if i < n.toNatClampNeg then some (H.size + 1 + i) else none))))))]) ++ ((List.range n.toNatClampNeg).map (fun i => H.size + 1 + i)).map (fun a => (a, .inl (cy, z)))) := by
    have hD1 := hD.push (e := .inl (cA, n.toNatClampNeg, .inr (.inr (.inr (.inr (fun i => if i < n.toNatClampNeg then some (H.size + 1 + i) else none)))))) hP rfl (hA _ hS.1)
    generalize hW1 : (X ++ va_pl L f) ++ [(H.size, .inl (cA, n.toNatClampNeg, .inr (.inr (.inr (.inr (fun i => if i < n.toNatClampNeg then some (H.size + 1 + i) else none))))))] = W1 at hD1 hP1 ⊢
    have hle : ∀ (k9 : Nat) (x : Nat × va_E), W1[k9]? = some x → x.1 ≤ H.size := fun k9 x hx => by
      rw [← hW1] at hx
      by_cases hl : k9 < (X ++ va_pl L f).length
      · rw [List.getElem?_append_left hl] at hx
        exact Nat.le_of_lt ((hP k9 x hx).lt)
      · rw [List.getElem?_append_right (by omega)] at hx
        have h0 : k9 - (X ++ va_pl L f).length < 1 := (List.getElem?_eq_some_iff.mp hx).1
        rw [show k9 - (X ++ va_pl L f).length = 0 by omega] at hx
        cases hx
        exact Nat.le_refl _
    have hr : ∀ (k9 : Nat) (x : Nat × va_E), (((List.range n.toNatClampNeg).map (fun i => H.size + 1 + i)).map (fun a => ((a, .inl (cy, z)) : Nat × va_E)))[k9]? = some x → x.1 = H.size + 1 + k9 := fun k9 x hx => by
      rw [List.getElem?_map, List.getElem?_map] at hx
      by_cases h9 : k9 < n.toNatClampNeg
      · rw [List.getElem?_range h9] at hx
        cases hx
        rfl
      · have hn0 : (List.range n.toNatClampNeg)[k9]? = none := List.getElem?_eq_none (by rw [List.length_range]; omega)
        rw [hn0] at hx
        cases hx
    refine ⟨fun i j x y hi hj hxy => ?_, fun k9 x hx => ?_⟩
    · by_cases h1 : i < W1.length <;> by_cases h2 : j < W1.length
      · rw [List.getElem?_append_left h1] at hi
        rw [List.getElem?_append_left h2] at hj
        exact hD1.1 i j x y hi hj hxy
      · rw [List.getElem?_append_left h1] at hi
        rw [List.getElem?_append_right (by omega)] at hj
        have := hle _ _ hi
        have := hr _ _ hj
        omega
      · rw [List.getElem?_append_right (by omega)] at hi
        rw [List.getElem?_append_left h2] at hj
        have := hle _ _ hj
        have := hr _ _ hi
        omega
      · rw [List.getElem?_append_right (by omega)] at hi hj
        have := hr _ _ hi
        have := hr _ _ hj
        omega
    · by_cases h1 : k9 < W1.length
      · rw [List.getElem?_append_left h1] at hx
        exact hD1.2 k9 x hx
      · rw [List.getElem?_append_right (by omega)] at hx
        have := hr _ _ hx
        exact hA _ (by have := hS.1; omega)
  have hAr : ArrOfT s cA (.array ty) := fun N9 z9 => by
    obtain ⟨-, k9, hk9, cm9, hkk9⟩ := (hO 0 0 0).1
    exact ⟨(fun q hq => by cases hq), k9, hk9, cm9, hkk9⟩
  have hK2 : va_K D cl (tys ++ [(cA, .array ty)]) s := ⟨hK.1, fun k9 x hx => by
    by_cases hl : k9 < tys.length
    · rw [List.getElem?_append_left hl] at hx
      exact hK.2 k9 x hx
    · rw [List.getElem?_append_right (by omega)] at hx
      have h0 : k9 - tys.length < 1 := (List.getElem?_eq_some_iff.mp hx).1
      rw [show k9 - tys.length = 0 by omega] at hx
      cases hx
      exact ⟨hAr, fA⟩⟩
  obtain ⟨t, a1, b1⟩ := kk H.size (fun i => H.size + 1 + i) cA F.heap (fun i j _ _ h => by have h9 : H.size + 1 + i = H.size + 1 + j := h; omega) hnl hK2 (by rw [← vr_rows hnm]; exact vr_lay hP2) (by rw [← vr_rows hnm]; exact vr_layD hD2) ⟨by rw [f1]; have := hS.1; omega, fun x h1 h2 => (hold x (Nat.lt_of_lt_of_le h1 hS.1)).trans (hS.2.1 x h1 h2), hS.2.2⟩ F rfl X'
  refine ⟨t, step t ?_, b1⟩
  have e : T.heap.size = H.size := by rw [hT]
  rw [e]
  exact a1
end VGM
/-! ===== END ===== -/

/-! new int[n][k] -/
def clrm (σ : St) (n c : Nat) : St := fun a => if n ≤ a ∧ a ≤ n + c then fun _ => 0 else σ a
theorem clrm_eq {σ : St} {n c : Nat} (h : ∀ a, n ≤ a → a ≤ n + c → σ a = fun _ => 0) : clrm σ n c = σ := by
  funext a
  unfold clrm
  by_cases e : n ≤ a ∧ a ≤ n + c
  · rw [if_pos e, h a e.1 e.2]
  · rw [if_neg e]
def adm (ad r : Nat → Nat) (n c q : Nat) : Nat → Nat := fun i => if i = n then q else if n < i ∧ i ≤ n + c then r (i - n - 1) else ad i
def rws (n c : Nat) : List (Option (Option Nat)) := (List.range c).map fun i => some (some (n + 1 + i))
theorem okL_adm {n c : Nat} {v : MV} {ad r : Nat → Nat} {q : Nat} (h : ltV n (n + 1 + c) v = true) : mv (adm ad r n c q) v = mv ad v := by
  rcases v with x | y | _ | k
  · rfl
  · rfl
  · rfl
  · have hr : k < n ∨ n + 1 + c ≤ k := by
      simp only [ltV, Bool.or_eq_true, Nat.blt_eq, Nat.ble_eq] at h
      exact h
    show va_rf (some _) = va_rf (some _)
    unfold adm
    rw [if_neg (by omega), if_neg (by omega)]
theorem ent_adm {cI cZ cQ : ClassId} {ad r : Nat → Nat} {n k q : Nat} {f : Nat → Int32} {c : Nat × Nat × List (Option (Option Nat))} (h : (c.2.2.all fun o => match o with
  | some (some r) => Nat.blt r n
  | _ => true) = true) : ent cI cZ cQ (adm ad r n k q) f c = ent cI cZ cQ ad f c := by
  obtain ⟨kd, m, rs⟩ := c
  have hne : ∀ (i : Nat) (z : Nat), rs[i]? = some (some (some z)) → adm ad r n k q z = ad z := by
    intro i z hi
    have h1 := List.all_eq_true.mp h _ (List.mem_of_getElem? hi)
    have h2 : z < n := by simpa [Nat.blt_eq] using h1
    unfold adm
    rw [if_neg (by omega), if_neg (by omega)]
  match kd with
  | 0 => rfl
  | 1 => rfl
  | 2 =>
    show Sum.inl (cQ, m, _) = Sum.inl (cQ, m, _)
    have e : (fun i : Nat => ((rs[i]?).join).join.map (adm ad r n k q)) = fun i : Nat => ((rs[i]?).join).join.map ad := by
      funext i
      cases hi : rs[i]? with
      | none => rfl
      | some o =>
        cases o with
        | none => rfl
        | some o =>
          cases o with
          | none => rfl
          | some z =>
            show some _ = some _
            rw [hne i z hi]
    rw [e]
  | c + 3 =>
    show Sum.inr (c, _) = Sum.inr (c, _)
    have e : rs.mapIdx (fv (adm ad r n k q) f) = rs.mapIdx (fv ad f) := by
      apply List.ext_getElem?
      intro i
      rw [List.getElem?_mapIdx, List.getElem?_mapIdx]
      cases hi : rs[i]? with
      | none => rfl
      | some o =>
        cases o with
        | none => rfl
        | some o =>
          cases o with
          | none => rfl
          | some z =>
            show some (va_rf (some _)) = some (va_rf (some _))
            rw [hne i z hi]
    rw [e]
theorem wsOf_mna {cI cZ cQ : ClassId} {ad r : Nat → Nat} {q n' k' : Nat} {sh : Sh} {σ : St} (f0 : Nat → va_E) (hw : shWf sh = true) :
    wsOf cI cZ cQ (adm ad r sh.length n' q) (sh ++ ((2, n', rws sh.length n') :: List.replicate n' (0, k', []))) (clrm σ sh.length n') = (wsOf cI cZ cQ ad sh σ ++ [(q, .inl (cQ, n', .inr (.inr (.inr (.inr (fun i => if i < n' then some (r i) else none))))))]) ++ va_pl ([] ++ (List.range n').map r) (vr_up f0 ((List.range n').map r) (.inl (cI, (k', .inl (fun _ => 0))))) := by
  have hall := List.all_eq_true.mp hw
  rw [List.append_assoc]
  unfold wsOf
  rw [List.mapIdx_append]
  congr 1
  · apply List.ext_getElem?
    intro i
    rw [List.getElem?_mapIdx, List.getElem?_mapIdx]
    cases hi : sh[i]? with
    | none => rfl
    | some y =>
      have hl : i < sh.length := (List.getElem?_eq_some_iff.mp hi).1
      show some (_, _) = some (_, _)
      rw [ent_adm (hall y (List.mem_of_getElem? hi))]
      have e1 : adm ad r sh.length n' q i = ad i := by
        unfold adm
        rw [if_neg (by omega), if_neg (by omega)]
      have e2 : clrm σ sh.length n' i = σ i := by
        unfold clrm
        rw [if_neg (by omega)]
      rw [e1, e2]
  · rw [List.mapIdx_cons]
    show _ :: _ = _ :: _
    congr 1
    · have e1 : adm ad r sh.length n' q (0 + sh.length) = q := by
        unfold adm
        rw [if_pos (by omega)]
      rw [e1]
      show (q, Sum.inl (cQ, n', _)) = (q, Sum.inl (cQ, n', _))
      have e : (fun i : Nat => (((rws sh.length n')[i]?).join).join.map (adm ad r sh.length n' q)) = fun i : Nat => if i < n' then some (r i) else none := by
        funext i
        unfold rws
        rw [List.getElem?_map]
        by_cases hi : i < n'
        · rw [List.getElem?_range hi, if_pos hi]
          show some (adm ad r sh.length n' q (sh.length + 1 + i)) = _
          unfold adm
          rw [if_neg (by omega), if_pos (by omega)]
          congr 2
          omega
        · rw [List.getElem?_eq_none (by rw [List.length_range]; omega), if_neg hi]
          rfl
      rw [e]
    · show _ = va_pl ((List.range n').map r) _
      unfold va_pl
      apply List.ext_getElem?
      intro i
      rw [List.getElem?_mapIdx, List.getElem?_replicate, List.getElem?_map, List.getElem?_map]
      by_cases hi : i < n'
      · rw [if_pos hi, List.getElem?_range hi]
        show some (_, _) = some (_, _)
        have e1 : adm ad r sh.length n' q (i + 1 + sh.length) = r i := by
          unfold adm
          rw [if_neg (by omega), if_pos (by omega)]
          congr 1
          omega
        have e2 : clrm σ sh.length n' (i + 1 + sh.length) = fun _ => 0 := by
          unfold clrm
          rw [if_pos (by omega)]
        rw [e1, e2, vr_up_in (List.mem_map.mpr ⟨i, List.mem_range.mpr hi, rfl⟩)]
        rfl
      · rw [if_neg hi, List.getElem?_eq_none (by rw [List.length_range]; omega)]
        rfl
theorem sum_rep9 (n k : Nat) : (List.replicate n k).sum = n * k := by
  induction n with
  | zero => simp
  | succ n ih =>
    rw [List.replicate_succ, List.sum_cons, ih, Nat.succ_mul]
    omega
theorem slo_mna (sh : Sh) (n' k' : Nat) (rs : List (Option (Option Nat))) : slo (sh ++ ((2, n', rs) :: List.replicate n' (0, k', []))) = slo sh + n' + n' * k' := by
  unfold slo
  rw [List.map_append, List.map_cons, List.map_replicate, List.sum_append, List.sum_cons]
  show _ + (n' + (List.replicate n' k').sum) = _
  rw [sum_rep9]
  omega
theorem Ev.mna {M : MD} {d pc idx : Nat} {lv : List (Option MV)} {stk : List MV} {sh sh1 : Sh} {σ σ1 : St} {r : Option MV × Sh × St} {n k : Int32} {n' k' : Nat} (hd : decode M.2.1 pc = .ok (.multianewarray idx 2, 4)) (hl : Cond.classLink M.1.cls idx ("[" ++ (FieldType.array .int).toString) ∈ wsL_law) (hn : ¬ n < 0) (hk : ¬ k < 0) (hN : n.toNatClampNeg = n') (hK' : k.toNatClampNeg = k') (hb1 : n' ≤ 1000) (hb2 : k' ≤ 1000)
    (h1 : sh ++ ((2, n', rws sh.length n') :: List.replicate n' (0, k', [])) = sh1) (h2 : clrm σ sh.length n' = σ1) (hw : shWf sh = true) (hsc : sh.length + n' < SCI) (hok : ltL sh.length (sh.length + 1 + n') lv stk = true) (h : Ev M d (pc + 4) lv (vR sh.length :: stk) sh1 σ1 r) : Ev M d pc lv (vI k :: vI n :: stk) sh σ r := by
  subst h1
  subst h2
  have e1 : (sh ++ ((2, n', rws sh.length n') :: List.replicate n' (0, k', []))).length = sh.length + 1 + n' := by simp; omega
  have e2 := slo_mna sh n' k' (rws sh.length n')
  obtain ⟨⟨hl1, hl2⟩, hE⟩ := h
  rw [e1] at hl1
  rw [e2] at hl2
  refine ⟨⟨by omega, by omega⟩, ?_⟩
  intro p l e R s m args below meth c0 A D cI cZ cQ F cells slots H locs ad ls Q q1 q2 hL hS kk
  have hK := F.2.2.2.2.2.2.1
  have hcy : s.vm.findClass (FieldType.array .int).toString = some cI := by
    have h3 := va_nm_int (hK.2 0 _ rfl).2
    have e : (FieldType.array .int).toString = "[I" := by decide +kernel
    rw [e]
    exact h3
  have hP0 : va_P D vwCl (wsOf cI cZ cQ ad sh σ ++ va_pl [] (fun _ => (.inl (cI, (0, .inl (fun _ => 0))) : va_E))) H := by
    have := hS.2.1
    simpa [va_pl] using this
  have hD0 : va_D A (wsOf cI cZ cQ ad sh σ ++ va_pl [] (fun _ => (.inl (cI, (0, .inl (fun _ => 0))) : va_E))) := by
    have := hS.2.2.1
    simpa [va_pl] using this
  unfold ltL at hok
  rw [Bool.and_eq_true] at hok
  refine va_mna (ty := .int) (cy := cI) (L := []) (f := fun _ => .inl (cI, (0, .inl (fun _ => 0)))) (N' := n') (K' := k') (z := (k', .inl (fun _ => 0))) F.1 F.2.1 F.2.2.2.1 (F.2.2.2.2.1 _ hl) F.2.2.2.2.2.1.1 (F.2.2.2.2.1 _ kArrI) hcy hK hP0 hD0 hS.2.2.2 F.2.2.2.2.2.2.2.1 hn hk hN hK' (by omega) (by show k' * 4 ≤ _; omega) (by omega) rfl rfl (by omega) (by rw [e2] at *; omega) (fun c => ?_) hd (fun q rr cA H1 hinj hnL hK1 hP1 hD1 hS1 => ?_)
  · show ({ cls := c, slots := Array.replicate k' (.int 0), vm := .none } : Cell) = _
    rw [arrV_new]
    rfl
  have hcA : cA = cQ := by
    have h3 := (hK.2 2 _ rfl).2
    have h4 := (hK1.2 3 (cA, .array .int) rfl).2
    exact Option.some.inj (h4.symm.trans h3)
  subst hcA
  rw [← wsOf_mna (ad := ad) (r := rr) (q := q) (k' := k') (σ := σ) _ hw] at hP1 hD1
  have hsi : adm ad rr sh.length n' q SCI = ad SCI := by
    unfold adm
    rw [if_neg (by omega), if_neg (by omega)]
  have key := hE p l e R s m args below meth c0 A D cI cZ cA F (cells + 1 + n') (slots + n' + n' * k') H1 locs (adm ad rr sh.length n' q) ls Q (by rw [e1]; omega) (by rw [e2]; omega)
    ⟨hL.1, hL.2.1, fun i v hv => by rw [okL_adm (List.all_eq_true.mp hok.1 _ (List.mem_of_getElem? hv))]; exact hL.2.2 i v hv⟩ ⟨fun L0 xs0 hx0 => by rw [hsi]; exact hS.1 L0 xs0 hx0, hP1, hD1, hS1⟩
    (fun pcR H2 locs2 ad2 ls2 w1 w2 w3 => by
      have := kk pcR H2 locs2 ad2 ls2 w1 (fun i hi => (w2 i (by rw [e1]; omega)).trans (by unfold adm; rw [if_neg (by omega), if_neg (by omega)])) w3
      have ec : cells + 1 + n' + (r.2.1.length - (sh ++ ((2, n', rws sh.length n') :: List.replicate n' (0, k', []))).length) = cells + (r.2.1.length - sh.length) := by rw [e1]; omega
      have es : slots + n' + n' * k' + (slo r.2.1 - slo (sh ++ ((2, n', rws sh.length n') :: List.replicate n' (0, k', [])))) = slots + (slo r.2.1 - slo sh) := by rw [e2]; omega
      rw [ec, es]
      exact this)
  have est : (vR sh.length :: stk).map (mv (adm ad rr sh.length n' q)) = .ref q :: stk.map (mv ad) := by
    rw [List.map_cons, List.map_congr_left fun v hv => okL_adm (List.all_eq_true.mp hok.2 v hv)]
    show va_rf (some (adm ad rr sh.length n' q sh.length)) :: _ = _
    unfold adm
    rw [if_pos rfl]
    rfl
  rw [est] at key
  exact key

