/-! stores into locals -/
def lgb (lv : List (Option MV)) : Nat → Bool
  | 0 => false
  | i + 1 => match lv[i]? with
    | some (some (.inr (.inl _))) => true
    | _ => false
def prs (ad : Nat → Nat) (lv : List (Option MV)) : List (Nat × Value) := (List.range lv.length).filterMap fun i => match lv[i]? with
  | some (some v) => some (i, mv ad v)
  | _ => none
theorem prs_mem {ad : Nat → Nat} {lv : List (Option MV)} {i : Nat} {v : MV} (h : lv[i]? = some (some v)) : (i, mv ad v) ∈ prs ad lv := by
  refine List.mem_filterMap.mpr ⟨i, List.mem_range.mpr (List.getElem?_eq_some_iff.mp h).1, ?_⟩
  rw [h]
theorem prs_of {ad : Nat → Nat} {lv : List (Option MV)} {q : Nat × Value} (h : q ∈ prs ad lv) : ∃ v, lv[q.1]? = some (some v) ∧ q.2 = mv ad v := by
  obtain ⟨i, -, hi⟩ := List.mem_filterMap.mp h
  split at hi
  · next v hv =>
    cases hi
    exact ⟨v, hv, rfl⟩
  · cases hi
theorem lvOk.has {ad : Nat → Nat} {nL : Nat} {lv : List (Option MV)} {ls : Array Slot} (h : lvOk ad nL lv ls) : lv_has ls nL (prs ad lv) := ⟨h.1, h.2.1, fun q hq => by
  obtain ⟨v, h1, h2⟩ := prs_of hq
  rw [h2]
  exact h.2.2 _ _ h1⟩
theorem lgb_cat {ad : Nat → Nat} {lv : List (Option MV)} {i j : Nat} {u : MV} (hp : lgb lv i = false) (hj : lv[j]? = some (some u)) : (j + 1 == i && (mv ad u).category == 2) = false := by
  by_cases e : j + 1 = i
  · subst e
    rw [mv_cat]
    rcases u with x | y | z
    · simp [cat]
    · simp [lgb, hj] at hp
    · simp [cat]
  · simp [e]
theorem lvOk.put1 {ad : Nat → Nat} {nL : Nat} {lv : List (Option MV)} {ls : Array Slot} {i : Nat} {v : MV} {w : Value} (hp : lgb lv i = false) (hw : w = mv ad v) (h : lv_has ls nL ((i, w) :: (prs ad lv).filter (fun q => !(q.1 == i) && !(q.1 + 1 == i && q.2.category == 2)))) : lvOk ad nL (lv.set i (some v)) ls := by
  subst hw
  refine ⟨h.1, h.2.1, fun j u hj => ?_⟩
  by_cases hji : j = i
  · subst hji
    have hl : j < lv.length := by
      have := (List.getElem?_eq_some_iff.mp hj).1
      simpa using this
    rw [List.getElem?_set_self hl] at hj
    cases hj
    exact h.2.2 (j, mv ad v) List.mem_cons_self
  · rw [List.getElem?_set_ne (fun e => hji e.symm)] at hj
    refine h.2.2 (j, mv ad u) (List.mem_cons_of_mem _ (List.mem_filter.mpr ⟨prs_mem hj, ?_⟩))
    have h1 : (j == i) = false := by simpa using hji
    have h2 := lgb_cat (ad := ad) hp hj
    simp only [h1, h2]
    rfl
theorem lvOk.put2 {ad : Nat → Nat} {nL : Nat} {lv : List (Option MV)} {ls : Array Slot} {i : Nat} {v : MV} {w : Value} (hp : lgb lv i = false) (hw : w = mv ad v) (h : lv_has ls nL ((i, w) :: (prs ad lv).filter (fun q => !(q.1 == i) && (!(q.1 == i + 1) && !(q.1 + 1 == i && q.2.category == 2))))) : lvOk ad nL ((lv.set i (some v)).set (i + 1) none) ls := by
  subst hw
  refine ⟨h.1, h.2.1, fun j u hj => ?_⟩
  by_cases hj1 : j = i + 1
  · subst hj1
    have hl : i + 1 < (lv.set i (some v)).length := (List.getElem?_eq_some_iff.mp hj).1 |> fun q => by simpa using q
    rw [List.getElem?_set_self hl] at hj
    cases hj
  rw [List.getElem?_set_ne (fun e => hj1 e.symm)] at hj
  by_cases hji : j = i
  · subst hji
    have hl : j < lv.length := by
      have := (List.getElem?_eq_some_iff.mp hj).1
      simpa using this
    rw [List.getElem?_set_self hl] at hj
    cases hj
    exact h.2.2 (j, mv ad v) List.mem_cons_self
  · rw [List.getElem?_set_ne (fun e => hji e.symm)] at hj
    refine h.2.2 (j, mv ad u) (List.mem_cons_of_mem _ (List.mem_filter.mpr ⟨prs_mem hj, ?_⟩))
    have h1 : (j == i) = false := by simpa using hji
    have h3 : (j == i + 1) = false := by simpa using hj1
    have h2 := lgb_cat (ad := ad) hp hj
    simp only [h1, h2, h3]
    rfl
section ST
variable {M : MD} {d pc : Nat} {lv lv' : List (Option MV)} {stk : List MV} {sh : Sh} {σ : St} {r : Option MV × Sh × St}
theorem Ev.istore_n {k : Fin 4} {i : Nat} {x : Int32} (hd : decode M.2.1 pc = .ok (.istore_n k, 1)) (hi : (k : Nat) = i) (hn : i < M.2.2.1) (hp : lgb lv i = false) (hl : lv.set i (some (vI x)) = lv') (h : Ev M d (pc + 1) lv' stk sh σ r) : Ev M d pc lv (vI x :: stk) sh σ r :=
  Ev.mk1 h fun p l e R s m args below meth c A D cI cZ cQ F cells slots H locs ad ls Q hL hS k => lv_istore_n F.1 F.2.1 hd hi hL.has hn rfl (fun ls' hl' => k H locs ls' (hl ▸ lvOk.put1 hp rfl hl') hS)
theorem Ev.istore {i : Nat} {x : Int32} (hd : decode M.2.1 pc = .ok (.istore i, 2)) (hn : i < M.2.2.1) (hp : lgb lv i = false) (hl : lv.set i (some (vI x)) = lv') (h : Ev M d (pc + 2) lv' stk sh σ r) : Ev M d pc lv (vI x :: stk) sh σ r :=
  Ev.mk1 h fun p l e R s m args below meth c A D cI cZ cQ F cells slots H locs ad ls Q hL hS k => lv_istore F.1 F.2.1 hd hL.has hn rfl (fun ls' hl' => k H locs ls' (hl ▸ lvOk.put1 hp rfl hl') hS)
theorem Ev.astore_n {k : Fin 4} {i q : Nat} (hd : decode M.2.1 pc = .ok (.astore_n k, 1)) (hi : (k : Nat) = i) (hn : i < M.2.2.1) (hp : lgb lv i = false) (hl : lv.set i (some (vR q)) = lv') (h : Ev M d (pc + 1) lv' stk sh σ r) : Ev M d pc lv (vR q :: stk) sh σ r :=
  Ev.mk1 h fun p l e R s m args below meth c A D cI cZ cQ F cells slots H locs ad ls Q hL hS k => lv_astore_n F.1 F.2.1 hd hi hL.has hn rfl (fun ls' hl' => k H locs ls' (hl ▸ lvOk.put1 hp rfl hl') hS)
theorem Ev.astore {i q : Nat} (hd : decode M.2.1 pc = .ok (.astore i, 2)) (hn : i < M.2.2.1) (hp : lgb lv i = false) (hl : lv.set i (some (vR q)) = lv') (h : Ev M d (pc + 2) lv' stk sh σ r) : Ev M d pc lv (vR q :: stk) sh σ r :=
  Ev.mk1 h fun p l e R s m args below meth c A D cI cZ cQ F cells slots H locs ad ls Q hL hS k => lv_astore F.1 F.2.1 hd hL.has hn rfl (fun ls' hl' => k H locs ls' (hl ▸ lvOk.put1 hp rfl hl') hS)
theorem Ev.lstore_n {k : Fin 4} {i : Nat} {x : Int64} (hd : decode M.2.1 pc = .ok (.lstore_n k, 1)) (hi : (k : Nat) = i) (hn : i + 1 < M.2.2.1) (hp : lgb lv i = false) (hl : (lv.set i (some (vL x))).set (i + 1) none = lv') (h : Ev M d (pc + 1) lv' stk sh σ r) : Ev M d pc lv (vL x :: stk) sh σ r :=
  Ev.mk1 h fun p l e R s m args below meth c A D cI cZ cQ F cells slots H locs ad ls Q hL hS k => lv_lstore_n F.1 F.2.1 hd hi hL.has hn rfl (fun ls' hl' => k H locs ls' (hl ▸ lvOk.put2 hp rfl hl') hS)
theorem Ev.lstore {i : Nat} {x : Int64} (hd : decode M.2.1 pc = .ok (.lstore i, 2)) (hn : i + 1 < M.2.2.1) (hp : lgb lv i = false) (hl : (lv.set i (some (vL x))).set (i + 1) none = lv') (h : Ev M d (pc + 2) lv' stk sh σ r) : Ev M d pc lv (vL x :: stk) sh σ r :=
  Ev.mk1 h fun p l e R s m args below meth c A D cI cZ cQ F cells slots H locs ad ls Q hL hS k => lv_lstore F.1 F.2.1 hd hL.has hn rfl (fun ls' hl' => k H locs ls' (hl ▸ lvOk.put2 hp rfl hl') hS)
theorem Ev.iinc {i : Nat} {n : Int} {x v : Int32} (hd : decode M.2.1 pc = .ok (.iinc i n, 3)) (hl0 : lv[i]? = some (some (vI x))) (hv : x + Int32.ofInt n = v) (hn : i < M.2.2.1) (hp : lgb lv i = false) (hl : lv.set i (some (vI v)) = lv') (h : Ev M d (pc + 3) lv' stk sh σ r) : Ev M d pc lv stk sh σ r :=
  Ev.mk1 h fun p l e R s m args below meth c A D cI cZ cQ F cells slots H locs ad ls Q hL hS k => (List.getElem?_of_mem (prs_mem (ad := ad) hl0)).elim fun _ hk => lv_iinc F.1 F.2.1 hd hL.has hk hv hn rfl (fun ls' hl' => k H locs ls' (hl ▸ lvOk.put1 hp rfl hl') hS)
end ST
/-! fields -/
theorem cl_in : ∀ (ci : Nat) (q : vw_C), vwCl[ci]? = some q → ∀ w ∈ u_ws q.1 q.2.1 q.2.2, w ∈ wsL_law
  | 0, _, h => by cases h; exact inlX0
  | 1, _, h => by cases h; exact inlX1
  | 2, _, h => by cases h; exact inlX2
  | 3, _, h => by cases h; exact inlX3
  | 4, _, h => by cases h; exact inlX4
  | 5, _, h => by cases h; exact inlX5
  | 6, _, h => by cases h; exact inlX6
  | 7, _, h => by cases h; exact inlX7
  | 8, _, h => by cases h; exact inlX8
  | 9, _, h => by cases h; exact inlX9
  | 10, _, h => by cases h; exact inlX10
  | _ + 11, _, h => by simp at h
theorem cl_ty : ∀ (ci : Nat) (q : vw_C), vwCl[ci]? = some q → ∃ ty0 : Nat → FieldType, (∀ k, k < q.2.2 → parseFieldDescriptor (q.2.1 k).2.2.1 = some (ty0 k)) ∧ (∀ a, a < q.2.2 → ∀ b, b < q.2.2 → a ≠ b → (q.2.1 a).2.1 ≠ (q.2.1 b).2.1)
  | 0, _, h => by cases h; exact ⟨_, tyX0_ok, nmX0⟩
  | 1, _, h => by cases h; exact ⟨_, tyX1_ok, nmX1⟩
  | 2, _, h => by cases h; exact ⟨_, tyX2_ok, nmX2⟩
  | 3, _, h => by cases h; exact ⟨_, tyX3_ok, nmX3⟩
  | 4, _, h => by cases h; exact ⟨_, tyX4_ok, nmX4⟩
  | 5, _, h => by cases h; exact ⟨_, tyX5_ok, nmX5⟩
  | 6, _, h => by cases h; exact ⟨_, tyX6_ok, nmX6⟩
  | 7, _, h => by cases h; exact ⟨_, tyX7_ok, nmX7⟩
  | 8, _, h => by cases h; exact ⟨_, tyX8_ok, nmX8⟩
  | 9, _, h => by cases h; exact ⟨_, tyX9_ok, nmX9⟩
  | 10, _, h => by cases h; exact ⟨_, tyX10_ok, nmX10⟩
  | _ + 11, _, h => by simp at h
def LkF (own : String) (idx ci j : Nat) : Prop := ∃ q : vw_C, vwCl[ci]? = some q ∧ j < q.2.2 ∧ (Cond.fieldLink own idx (q.2.1 j).1 (q.2.1 j).2.1 (q.2.1 j).2.2.1 ∈ wsL_law ∨ ∃ host, (own, idx, (q.2.1 j).1, (q.2.1 j).2.1, (q.2.1 j).2.2.1, host) ∈ NWF)
/-- a field that may be written anywhere, of a type -/
def LkP (own : String) (idx ci j : Nat) (ty : FieldType) : Prop := ∃ q : vw_C, vwCl[ci]? = some q ∧ j < q.2.2 ∧ (Cond.fieldLink own idx (q.2.1 j).1 (q.2.1 j).2.1 (q.2.1 j).2.2.1 ∈ wsL_law ∨ ∃ host, (own, idx, (q.2.1 j).1, (q.2.1 j).2.1, (q.2.1 j).2.2.1, host) ∈ NWF) ∧ (q.2.1 j).2.2.2 = false ∧ parseFieldDescriptor (q.2.1 j).2.2.1 = some ty
/-- a final field, of a type of references, that its own class writes -/
def LkI (own : String) (idx ci j : Nat) (ty : FieldType) : Prop := ∃ q : vw_C, vwCl[ci]? = some q ∧ j < q.2.2 ∧ Cond.fieldLink own idx (q.2.1 j).1 (q.2.1 j).2.1 (q.2.1 j).2.2.1 ∈ wsL_law ∧ (q.2.1 j).2.2.2 = true ∧ (q.2.1 j).1 = own ∧ parseFieldDescriptor (q.2.1 j).2.2.1 = some ty
theorem fit_ref {ty : FieldType} (h : ty.isReference = true) (r : Option Nat) : narrow ty (va_rf r) = va_rf r ∧ fits ty (va_rf r) = true := by
  cases ty with
  | object n => cases r <;> exact ⟨rfl, rfl⟩
  | array t => cases r <;> exact ⟨rfl, rfl⟩
  | _ => exact absurd h (by decide)
section FLD
variable {M : MD} {d pc : Nat} {lv : List (Option MV)} {stk : List MV} {sh : Sh} {σ : St} {r : Option MV × Sh × St}
theorem Ev.get0 {idx ci j k n : Nat} {rs : List (Option (Option Nat))} (v : MV) (hd : decode M.2.1 pc = .ok (.getfield idx, 3)) (hl : LkF M.1.cls idx ci j) (hk : sh[k]? = some (ci + 3, n, rs)) (hv : ∀ ad : Nat → Nat, (rs.mapIdx (fv ad (σ k)))[j]? = some (mv ad v)) (h : Ev M d (pc + 3) lv (v :: stk) sh σ r) : Ev M d pc lv (vR k :: stk) sh σ r := by
  refine Ev.mk0 h fun p l e R s m args below meth c A D cI cZ cQ F cells slots H locs ad ls Q _ _ hL hS kk => ?_
  obtain ⟨⟨C, T, N⟩, hc, hj, hlk⟩ := hl
  have he : (wsOf cI cZ cQ ad sh σ)[k]? = some (ad k, .inr (ci, rs.mapIdx (fv ad (σ k)))) := wsOf_at hk
  rcases hlk with hlk | ⟨host, hlk⟩
  · exact va_get F.1 F.2.1 F.2.2.2.2.1 (cl_in ci _ hc) F.2.2.2.1 F.2.2.2.2.2.2.1 hS.2.1 k he hc j hj (F.2.2.2.2.1 _ hlk) (fun _ h => h) (hv ad) hd kk
  · exact va_getN F.1 F.2.1 F.2.2.2.2.1 (cl_in ci _ hc) F.2.2.2.1 F.2.2.2.2.2.2.1 hS.2.1 k he hc j hj (va_Nw.use rfl (F.2.2.2.2.2.1.2.1 _ hlk)) (fun _ h => h) (hv ad) hd kk
theorem Ev.getI {idx ci j k n : Nat} {rs : List (Option (Option Nat))} (hd : decode M.2.1 pc = .ok (.getfield idx, 3)) (hl : LkF M.1.cls idx ci j) (hk : sh[k]? = some (ci + 3, n, rs)) (hr : rs[j]? = some none) (h : Ev M d (pc + 3) lv (vI (σ k j) :: stk) sh σ r) : Ev M d pc lv (vR k :: stk) sh σ r :=
  Ev.get0 _ hd hl hk (fun ad => by rw [List.getElem?_mapIdx, hr]; rfl) h
theorem Ev.getR {idx ci j k n : Nat} {rs : List (Option (Option Nat))} {q : Option Nat} (hd : decode M.2.1 pc = .ok (.getfield idx, 3)) (hl : LkF M.1.cls idx ci j) (hk : sh[k]? = some (ci + 3, n, rs)) (hr : rs[j]? = some (some q)) (h : Ev M d (pc + 3) lv (.inr (.inr q) :: stk) sh σ r) : Ev M d pc lv (vR k :: stk) sh σ r :=
  Ev.get0 _ hd hl hk (fun ad => by rw [List.getElem?_mapIdx, hr]; rfl) h
theorem Ev.putI {idx ci j k n : Nat} {rs : List (Option (Option Nat))} {ty : FieldType} {x : Int32} (hd : decode M.2.1 pc = .ok (.putfield idx, 3)) (hl : LkP M.1.cls idx ci j ty) (hk : sh[k]? = some (ci + 3, n, rs)) (hr : rs[j]? = some none) (hn : narrow ty (.int x) = .int x) (hf : fits ty (.int x) = true) (h : Ev M d (pc + 3) lv stk sh (st σ k j x) r) : Ev M d pc lv (vI x :: vR k :: stk) sh σ r := by
  refine Ev.mk1 h fun p l e R s m args below meth c A D cI cZ cQ F cells slots H locs ad ls Q hL hS kk => ?_
  obtain ⟨⟨C, T, N⟩, hc, hj, hlk, hfin, hty⟩ := hl
  obtain ⟨ty0, ht1, ht2⟩ := cl_ty ci _ hc
  have he : (wsOf cI cZ cQ ad sh σ)[k]? = some (ad k, .inr (ci, rs.mapIdx (fv ad (σ k)))) := wsOf_at hk
  have hjl : j < (rs.mapIdx (fv ad (σ k))).length := by
    have := (List.getElem?_eq_some_iff.mp hr).1
    simpa using this
  have e : (wsOf cI cZ cQ ad sh σ).set k (ad k, .inr (ci, (rs.mapIdx (fv ad (σ k))).set j (mv ad (vI x)))) = wsOf cI cZ cQ ad sh (st σ k j x) := by
    rw [show mv ad (vI x) = Value.int x from rfl, fv_st ad (σ k) rs hr x]
    exact wsOf_st hk
  rcases hlk with hlk | ⟨host, hlk⟩
  · refine va_put F.1 F.2.1 F.2.2.2.2.1 (cl_in ci _ hc) ty0 ht1 ht2 F.2.2.2.1 F.2.2.2.2.2.2.1 hS.2.1 hS.2.2.1 hS.2.2.2 k he hc j hj (F.2.2.2.2.1 _ hlk) (fun _ h => h) hfin hty hn hf hjl hd (fun H1 locs1 h1 h2 h3 => ?_)
    rw [e] at h1 h2
    exact kk H1 locs1 ls hL ⟨hS.1, h1, h2, h3⟩
  · refine va_putN F.1 F.2.1 F.2.2.2.2.1 (cl_in ci _ hc) ty0 ht1 ht2 F.2.2.2.1 F.2.2.2.2.2.2.1 hS.2.1 hS.2.2.1 hS.2.2.2 k he hc j hj (va_Nw.use rfl (F.2.2.2.2.2.1.2.1 _ hlk)) (fun _ h => h) hfin hty hn hf hjl hd (fun H1 locs1 h1 h2 h3 => ?_)
    rw [e] at h1 h2
    exact kk H1 locs1 ls hL ⟨hS.1, h1, h2, h3⟩
/-! arrays -/
theorem Ev.iald {k n : Nat} {rs : List (Option (Option Nat))} {i : Int32} (hd : decode M.2.1 pc = .ok (.iaload, 1)) (hk : sh[k]? = some (0, n, rs)) (hin : vp_in i n) (h : Ev M d (pc + 1) lv (vI (σ k i.toNatClampNeg) :: stk) sh σ r) : Ev M d pc lv (vI i :: vR k :: stk) sh σ r :=
  Ev.mk0 h fun p l e R s m args below meth c A D cI cZ cQ F cells slots H locs ad ls Q _ _ hL hS kk =>
    va_iald F.1 F.2.1 F.2.2.2.2.2.2.1 hS.2.1 k 0 (wsOf_at hk) rfl hin hd kk
theorem Ev.zald {k n : Nat} {rs : List (Option (Option Nat))} {i : Int32} (hd : decode M.2.1 pc = .ok (.baload, 1)) (hk : sh[k]? = some (1, n, rs)) (hin : vp_in i n) (h : Ev M d (pc + 1) lv (vI (σ k i.toNatClampNeg) :: stk) sh σ r) : Ev M d pc lv (vI i :: vR k :: stk) sh σ r :=
  Ev.mk0 h fun p l e R s m args below meth c A D cI cZ cQ F cells slots H locs ad ls Q _ _ hL hS kk =>
    va_zald F.1 F.2.1 F.2.2.2.2.2.2.1 hS.2.1 k 1 (wsOf_at hk) rfl hin hd kk
theorem Ev.iast {k n : Nat} {rs : List (Option (Option Nat))} {i x : Int32} (hd : decode M.2.1 pc = .ok (.iastore, 1)) (hk : sh[k]? = some (0, n, rs)) (hin : vp_in i n) (h : Ev M d (pc + 1) lv stk sh (st σ k i.toNatClampNeg x) r) : Ev M d pc lv (vI x :: vI i :: vR k :: stk) sh σ r := by
  refine Ev.mk1 h fun p l e R s m args below meth c A D cI cZ cQ F cells slots H locs ad ls Q hL hS kk => ?_
  refine va_iast F.1 F.2.1 F.2.2.2.2.2.2.1 hS.2.1 hS.2.2.1 hS.2.2.2 k 0 (wsOf_at hk) rfl hin hd (fun H1 locs1 h1 h2 h3 => ?_)
  have e : (wsOf cI cZ cQ ad sh σ).set k (ad k, .inl (cI, n, .inl (upd (σ k) i.toNatClampNeg x))) = wsOf cI cZ cQ ad sh (st σ k i.toNatClampNeg x) := wsOf_st hk
  rw [e] at h1 h2
  exact kk H1 locs1 ls hL ⟨hS.1, h1, h2, h3⟩
theorem Ev.zast {k n : Nat} {rs : List (Option (Option Nat))} {i x : Int32} (hd : decode M.2.1 pc = .ok (.bastore, 1)) (hk : sh[k]? = some (1, n, rs)) (hin : vp_in i n) (h : Ev M d (pc + 1) lv stk sh (st σ k i.toNatClampNeg (vp_nar .boolean x)) r) : Ev M d pc lv (vI x :: vI i :: vR k :: stk) sh σ r := by
  refine Ev.mk1 h fun p l e R s m args below meth c A D cI cZ cQ F cells slots H locs ad ls Q hL hS kk => ?_
  refine va_zast F.1 F.2.1 F.2.2.2.2.2.2.1 hS.2.1 hS.2.2.1 hS.2.2.2 k 1 (wsOf_at hk) rfl hin hd (fun H1 locs1 h1 h2 h3 => ?_)
  have e : (wsOf cI cZ cQ ad sh σ).set k (ad k, .inl (cZ, n, .inl (upd (σ k) i.toNatClampNeg (vp_nar .boolean x)))) = wsOf cI cZ cQ ad sh (st σ k i.toNatClampNeg (vp_nar .boolean x)) := wsOf_st hk
  rw [e] at h1 h2
  exact kk H1 locs1 ls hL ⟨hS.1, h1, h2, h3⟩
theorem Ev.aald {k n : Nat} {rs : List (Option (Option Nat))} {i : Int32} (hd : decode M.2.1 pc = .ok (.aaload, 1)) (hk : sh[k]? = some (2, n, rs)) (hin : vp_in i n) (h : Ev M d (pc + 1) lv (.inr (.inr ((rs[i.toNatClampNeg]?).join).join) :: stk) sh σ r) : Ev M d pc lv (vI i :: vR k :: stk) sh σ r := by
  refine Ev.mk0 h fun p l e R s m args below meth c A D cI cZ cQ F cells slots H locs ad ls Q _ _ hL hS kk => ?_
  have hlt : i.toNatClampNeg < n := Nat.not_le.mp fun q => hin (Or.inr q)
  have hK := F.2.2.2.2.2.2.1
  have he : (wsOf cI cZ cQ ad sh σ)[k]? = some (ad k, .inl (cQ, n, .inr (.inr (.inr (.inr (fun i => ((rs[i]?).join).join.map ad)))))) := wsOf_at hk
  exact W.aald (v := va_rf ((((rs[i.toNatClampNeg]?).join).join).map ad)) (ty := .array .int) F.1 F.2.1 (hS.2.1 k _ he) ((hK.2 2 _ rfl).1 n (fun j => va_rf (((rs[j]?).join).join.map ad))) rfl (fun q => by cases q) (by show ¬ (i < 0 ∨ (arrV _ _ _).slots.size ≤ _); rw [arrV_size]; exact hin) (by show (arrV _ _ _).slots[_]? = _; rw [arrV_read _ _ hlt]) rfl rfl hd kk
theorem Ev.alen {k n : Nat} {rs : List (Option (Option Nat))} {v : Int32} (hd : decode M.2.1 pc = .ok (.arraylength, 1)) (hk : sh[k]? = some (0, n, rs)) (hv : Int32.ofNat n = v) (h : Ev M d (pc + 1) lv (vI v :: stk) sh σ r) : Ev M d pc lv (vR k :: stk) sh σ r :=
  Ev.mk0 h fun p l e R s m args below meth c A D cI cZ cQ F cells slots H locs ad ls Q _ _ hL hS kk =>
    va_alen F.1 F.2.1 F.2.2.2.2.2.2.1 hS.2.1 k 0 (wsOf_at hk) rfl hv hd kk
theorem Ev.alenQ {k n : Nat} {rs : List (Option (Option Nat))} {v : Int32} (hd : decode M.2.1 pc = .ok (.arraylength, 1)) (hk : sh[k]? = some (2, n, rs)) (hv : Int32.ofNat n = v) (h : Ev M d (pc + 1) lv (vI v :: stk) sh σ r) : Ev M d pc lv (vR k :: stk) sh σ r :=
  Ev.mk0 h fun p l e R s m args below meth c A D cI cZ cQ F cells slots H locs ad ls Q _ _ hL hS kk =>
    va_alen F.1 F.2.1 F.2.2.2.2.2.2.1 hS.2.1 k 2 (wsOf_at hk) rfl hv hd kk
theorem Ev.sld {L : Nat} {xs : Nat → Int32} {i : Int32} (hd : decode M.2.1 pc = .ok (.iaload, 1)) (hsc : M.2.2.2.2 = some (L, xs)) (hin : vp_in i L) (h : Ev M d (pc + 1) lv (vI (xs i.toNatClampNeg) :: stk) sh σ r) : Ev M d pc lv (vI i :: vR SCI :: stk) sh σ r :=
  Ev.mk0 h fun p l e R s m args below meth c A D cI cZ cQ F cells slots H locs ad ls Q _ _ hL hS kk =>
    va_sld F.1 F.2.1 (hS.1 _ _ hsc).1 (hS.1 _ _ hsc).2.1 (hS.1 _ _ hsc).2.2 hS.2.2.2 hin hd kk
theorem Ev.slen {L : Nat} {xs : Nat → Int32} {v : Int32} (hd : decode M.2.1 pc = .ok (.arraylength, 1)) (hsc : M.2.2.2.2 = some (L, xs)) (hv : Int32.ofNat L = v) (h : Ev M d (pc + 1) lv (vI v :: stk) sh σ r) : Ev M d pc lv (vR SCI :: stk) sh σ r :=
  Ev.mk0 h fun p l e R s m args below meth c A D cI cZ cQ F cells slots H locs ad ls Q _ _ hL hS kk => by
    subst hv
    exact va_slen F.1 F.2.1 (hS.1 _ _ hsc).1 (hS.1 _ _ hsc).2.1 (hS.1 _ _ hsc).2.2 hS.2.2.2 hd kk
end FLD
