/-! A small machine above the kit's worlds: a world is a list of cells, each cell its kind, length, references; all whole numbers in one function of cell and place. -/
abbrev St : Type := Nat → Nat → Int32
abbrev Sh : Type := List (Nat × Nat × List (Option (Option Nat)))
abbrev MV : Type := Int32 ⊕ Int64 ⊕ Option Nat
abbrev vI (x : Int32) : MV := .inl x
abbrev vL (x : Int64) : MV := .inr (.inl x)
abbrev vR (r : Nat) : MV := .inr (.inr (some r))
abbrev vN : MV := .inr (.inr none)
abbrev SCI : Nat := 999999
def mv (ad : Nat → Nat) : MV → Value
  | .inl x => .int x
  | .inr (.inl y) => .long y
  | .inr (.inr r) => va_rf (r.map ad)
def cat : MV → Nat
  | .inl _ => 1
  | .inr (.inl _) => 2
  | .inr (.inr _) => 1
theorem mv_cat (ad : Nat → Nat) (v : MV) : (mv ad v).category = cat v := by
  rcases v with x | y | r
  · rfl
  · rfl
  · cases r <;> rfl
theorem mv_cats (ad : Nat → Nat) (l : List MV) : ((l.map (mv ad)).map fun v => v.category) = l.map cat := by
  rw [List.map_map]
  exact List.map_congr_left fun v _ => mv_cat ad v
/-- a store into one place of one cell -/
def st (σ : St) (k j : Nat) (x : Int32) : St := fun a => if a = k then upd (σ k) j x else σ a
/-- a new cell: all 0 -/
def clr (σ : St) (k : Nat) : St := fun a => if a = k then fun _ => 0 else σ a
def slo (sh : Sh) : Nat := (sh.map fun q => q.2.1).sum
def fv (ad : Nat → Nat) (f : Nat → Int32) (j : Nat) : Option (Option Nat) → Value
  | none => .int (f j)
  | some r => va_rf (r.map ad)
def ent (cI cZ cQ : ClassId) (ad : Nat → Nat) (f : Nat → Int32) (q : Nat × Nat × List (Option (Option Nat))) : va_E := match q.1 with
  | 0 => .inl (cI, q.2.1, .inl f)
  | 1 => .inl (cZ, q.2.1, .inl f)
  | 2 => .inl (cQ, q.2.1, .inr (.inr (.inr (.inr (fun i => ((q.2.2[i]?).join).join.map ad)))))
  | c + 3 => .inr (c, q.2.2.mapIdx (fv ad f))
def wsOf (cI cZ cQ : ClassId) (ad : Nat → Nat) (sh : Sh) (σ : St) : va_W := sh.mapIdx fun k q => (ad k, ent cI cZ cQ ad (σ k) q)
theorem wsOf_at {cI cZ cQ : ClassId} {ad : Nat → Nat} {sh : Sh} {σ : St} {k : Nat} {q : Nat × Nat × List (Option (Option Nat))} (h : sh[k]? = some q) : (wsOf cI cZ cQ ad sh σ)[k]? = some (ad k, ent cI cZ cQ ad (σ k) q) := by
  simp [wsOf, h]
theorem wsOf_st {cI cZ cQ : ClassId} {ad : Nat → Nat} {sh : Sh} {σ : St} {k j : Nat} {x : Int32} {q : Nat × Nat × List (Option (Option Nat))} (h : sh[k]? = some q) : (wsOf cI cZ cQ ad sh σ).set k (ad k, ent cI cZ cQ ad (upd (σ k) j x) q) = wsOf cI cZ cQ ad sh (st σ k j x) := by
  apply List.ext_getElem?
  intro i
  by_cases hi : i = k
  · subst hi
    have hl : i < sh.length := (List.getElem?_eq_some_iff.mp h).1
    rw [List.getElem?_set_self (by simpa [wsOf] using hl)]
    simp [wsOf, h, st]
  · rw [List.getElem?_set_ne (fun e => hi e.symm)]
    simp only [wsOf, List.getElem?_mapIdx]
    cases sh[i]? with
    | none => rfl
    | some y => simp [st, hi]
theorem fv_st (ad : Nat → Nat) (f : Nat → Int32) (rs : List (Option (Option Nat))) {j : Nat} (hj : rs[j]? = some none) (x : Int32) : (rs.mapIdx (fv ad f)).set j (.int x) = rs.mapIdx (fv ad (upd f j x)) := by
  apply List.ext_getElem?
  intro i
  by_cases hi : i = j
  · subst hi
    have hl : i < rs.length := (List.getElem?_eq_some_iff.mp hj).1
    rw [List.getElem?_set_self (by simpa using hl)]
    simp [hj, fv, upd]
  · rw [List.getElem?_set_ne (fun e => hi e.symm)]
    simp only [List.getElem?_mapIdx]
    rcases rs[i]? with _ | _ | r
    · rfl
    · simp [fv, upd, hi]
    · rfl
theorem fv_ref (ad : Nat → Nat) (f : Nat → Int32) (rs : List (Option (Option Nat))) (j : Nat) (r : Option Nat) (hj : ∃ z, rs[j]? = some (some z)) : (rs.mapIdx (fv ad f)).set j (va_rf (r.map ad)) = (rs.set j (some r)).mapIdx (fv ad f) := by
  obtain ⟨z, hj⟩ := hj
  apply List.ext_getElem?
  intro i
  have hl : j < rs.length := (List.getElem?_eq_some_iff.mp hj).1
  by_cases hi : i = j
  · subst hi
    rw [List.getElem?_set_self (by simpa using hl)]
    rw [List.getElem?_mapIdx, List.getElem?_set_self hl]
    rfl
  · rw [List.getElem?_set_ne (fun e => hi e.symm)]
    simp only [List.getElem?_mapIdx]
    rw [List.getElem?_set_ne (fun e => hi e.symm)]
/-- two address maps alike but at the cells that came between two worlds -/
def AE (sh sh1 : Sh) (ad ad' : Nat → Nat) : Prop := ∀ i, (i < sh.length ∨ sh1.length ≤ i) → ad' i = ad i
theorem AE.rf {sh sh1 : Sh} {ad : Nat → Nat} : AE sh sh1 ad ad := fun _ _ => rfl
theorem AE.tr {sh sh1 sh2 : Sh} {ad ad1 ad2 : Nat → Nat} (h : AE sh sh1 ad ad1) (hl : sh.length ≤ sh1.length) (hl2 : sh1.length ≤ sh2.length) (h1 : AE sh1 sh2 ad1 ad2) : AE sh sh2 ad ad2 := fun i hi => (h1 i (hi.imp (fun q => Nat.lt_of_lt_of_le q hl) id)).trans (h i (hi.imp id (fun q => Nat.le_trans hl2 q)))
theorem AE.eq {sh : Sh} {ad ad' : Nat → Nat} (h : AE sh sh ad ad') : ad' = ad := funext fun i => h i (Nat.lt_or_ge i sh.length)
/-- a method: its name, its code, its locals, its answer, the script that it may read -/
abbrev MD : Type := MethodName × ByteArray × Nat × Option FieldType × Option (Nat × (Nat → Int32))
abbrev tysOf (cI cZ cQ : ClassId) : List (ClassId × FieldType) := [(cI, .int), (cZ, .boolean), (cQ, .array .int)]
/-! the class of arrays of int rows, as the tables have it -/
def va_AOA (ty : FieldType) (U : State) : Prop := (Cond.arrayOver (.array ty)).before #[] U = true
theorem va_AOA.use {ty : FieldType} {A : Array Value} {U : State} (h : va_AOA ty U) : (Cond.arrayOver (.array ty)).before A U = true := h
theorem va_AOA.of {ty : FieldType} {A : Array Value} {U : State} (h : (Cond.arrayOver (.array ty)).before A U = true) : va_AOA ty U := h
theorem aoa_spec {U : State} {t : FieldType} (h : va_AOA t U) :
    ∃ comp c k, U.vm.findClass (FieldType.array t).toString = some comp ∧ (U.vm.classes.findIdx? fun (x : Class) => match x.kind with | .array component _ => component == comp | _ => false) = some c ∧ U.vm.classes[c]? = some k ∧ k.kind = .array comp (.array t) ∧ U.vm.findClass ("[" ++ (FieldType.array t).toString) = some c := by
  unfold va_AOA Cond.before Cond.holds at h
  simp only [Cond.value, beq_iff_eq] at h
  cases hc : U.vm.findClass (FieldType.array t).toString with
  | none => simp [hc] at h
  | some comp =>
    simp only [hc, Option.bind_some, Option.bind_eq_some_iff, Option.map_eq_some_iff] at h
    obtain ⟨c, hi, k, hk, hb⟩ := h
    obtain ⟨hlt, hp, -⟩ := Array.findIdx?_eq_some_iff_getElem.mp hi
    have hkk : U.vm.classes[c] = k := (Array.getElem?_eq_some_iff.mp hk).2
    rw [hkk] at hp
    cases hkind : k.kind with
    | array component ty =>
      rw [hkind] at hb hp
      simp at hb hp
      exact ⟨comp, c, k, rfl, hi, hk, by rw [hkind, hp, hb.1], hb.2⟩
    | _ => rw [hkind] at hb; simp at hb
theorem va_AOA.moved {t : FieldType} {u U : State} (hvm : u.vm.Alike U.vm) (h : va_AOA t u) : va_AOA t U := by
  obtain ⟨comp, c, k, h1, h2, h3, h4, h5⟩ := aoa_spec h
  obtain ⟨k', hk', he⟩ := hvm.2.2 _ _ h3
  have hi : (U.vm.classes.findIdx? fun (x : Class) => match x.kind with | .array component _ => component == comp | _ => false) = some c := by
    refine (va_idx_bare U.vm comp).symm.trans ?_
    first | rw [hvm.bare_eq] | rw [← hvm.bare_eq]
    exact (va_idx_bare u.vm comp).trans h2
  have hkind : k'.kind = .array comp (.array t) := by rw [he]; exact h4
  have f1 : U.vm.findClass (FieldType.array t).toString = some comp := by rw [hvm.findClass]; exact h1
  have f2 : U.vm.findClass ("[" ++ (FieldType.array t).toString) = some c := by rw [hvm.findClass]; exact h5
  unfold va_AOA Cond.before Cond.holds
  simp only [Cond.value]
  rw [f1, Option.bind_some]
  refine (congrArg (fun o : Option Nat => (o.bind (fun c => (U.vm.classes[c]?).map fun (k : Class) => match k.kind with | .array _ ty => decide (ty = FieldType.array t) && decide (U.vm.findClass ("[" ++ (FieldType.array t).toString) = some c) | _ => false) == some true)) hi).trans ?_
  simp [hk', hkind, f2]
def NWok (U : State) : Prop := va_AOA .int U ∧ (∀ q ∈ NWF, va_Nw (.fieldLinkNest q.1 q.2.1 q.2.2.1 q.2.2.2.1 q.2.2.2.2.1 q.2.2.2.2.2) U) ∧ ∀ q ∈ NWM, va_Nw (.methodLinkNest q.1 q.2.1 q.2.2.1 q.2.2.2) U
theorem NWok.warm {s U : State} (hW : s.WarmedH U.vm) (h : NWok s) : NWok U := ⟨h.1.moved hW.alike, fun q hq => va_Nw.warmF hW (h.2.1 q hq), fun q hq => va_Nw.warmM hW (h.2.2 q hq)⟩
theorem NWok.same {u U : State} (hv : u.vm = U.vm) (h : NWok u) : NWok U := ⟨h.1.moved (hv ▸ Vm.Alike.refl u.vm), fun q hq => va_Nw.same rfl hv (h.2.1 q hq), fun q hq => va_Nw.same rfl hv (h.2.2 q hq)⟩
def Fr (M : MD) (d : Nat) (p : Program) (l : Launch) (R : Room) (s : State) (m : MethodId) (args : Array Value) (meth : Method) (c : Code) (A : Nat → Prop) (D : va_G) (cI cZ cQ : ClassId) : Prop :=
  p.tables.exec = Jvm.exec ∧ c.code = M.2.1 ∧ c.maxLocals = M.2.2.1 ∧ s.vm.findClass M.1.cls = some m.cls ∧ (∀ w ∈ wsL_law, w.before args s = true) ∧ NWok s ∧ va_K D vwCl (tysOf cI cZ cQ) s ∧ (∀ q, s.heap.size ≤ q → A q) ∧ d ≤ R.frames ∧ d * 64 ≤ R.locals ∧ (M.1.name = "<init>" → meth.name = "<init>") ∧ l = l
def lvOk (ad : Nat → Nat) (nL : Nat) (lv : List (Option MV)) (ls : Array Slot) : Prop := ls.size = nL ∧ lv_wf ls ∧ ∀ (i : Nat) (v : MV), lv[i]? = some (some v) → ls[i]? = some (Slot.val (mv ad v))
def scOk (M : MD) (ad : Nat → Nat) (s : State) (A : Nat → Prop) : Prop := ∀ L xs, M.2.2.2.2 = some (L, xs) → va_X (ad SCI) L xs s s.heap ∧ ad SCI < s.heap.size ∧ ¬ A (ad SCI)
def isRet (M : MD) (pc : Nat) (v : Option MV) : Prop :=
  (decode M.2.1 pc = .ok (.ireturn, 1) ∧ ∃ x ty, v = some (.inl x) ∧ M.2.2.2.1 = some ty ∧ narrow ty (.int x) = .int x) ∨ (decode M.2.1 pc = .ok (.return_, 1) ∧ v = none ∧ M.2.2.2.1 = none) ∨ (decode M.2.1 pc = .ok (.areturn, 1) ∧ (∃ r, v = some (.inr (.inr r))) ∧ M.2.2.2.1 = some (.array .int))
/-- what holds in a frame at a world -/
def Sd (M : MD) (s : State) (A : Nat → Prop) (D : va_G) (cI cZ cQ : ClassId) (ad : Nat → Nat) (sh : Sh) (σ : St) (H : Heap) (locs : List Loc) : Prop :=
  scOk M ad s A ∧ va_P D vwCl (wsOf cI cZ cQ ad sh σ) H ∧ va_D A (wsOf cI cZ cQ ad sh σ) ∧ va_S A s.heap H locs
/-- from here the method comes to its return, with the answer, the world's cells and numbers -/
def Ev (M : MD) (d pc : Nat) (lv : List (Option MV)) (stk : List MV) (sh : Sh) (σ : St) (r : Option MV × Sh × St) : Prop :=
  (sh.length ≤ r.2.1.length ∧ slo sh ≤ slo r.2.1) ∧
  ∀ (p : Program) (l : Launch) (e : Env) (R : Room) (s : State) (m : MethodId) (args : Array Value) (below : List Frame) (meth : Method) (c : Code) (A : Nat → Prop) (D : va_G) (cI cZ cQ : ClassId), Fr M d p l R s m args meth c A D cI cZ cQ →
  ∀ (cells slots : Nat) (H : Heap) (locs : List Loc) (ad : Nat → Nat) (ls : Array Slot) (Q : State → Prop), cells + (r.2.1.length - sh.length) ≤ R.cells → slots + (slo r.2.1 - slo sh) ≤ R.slots → lvOk ad M.2.2.1 lv ls → Sd M s A D cI cZ cQ ad sh σ H locs →
  (∀ (pcR : Nat) (H' : Heap) (locs' : List Loc) (ad' : Nat → Nat) (ls' : Array Slot), isRet M pcR r.1 → AE sh r.2.1 ad ad' → Sd M s A D cI cZ cQ ad' r.2.1 r.2.2 H' locs' → W p l e R s m args below meth c H' locs' (cells + (r.2.1.length - sh.length)) (slots + (slo r.2.1 - slo sh)) Q (F0 m pcR ls' (r.1.toList.map (mv ad')))) →
  W p l e R s m args below meth c H locs cells slots Q (F0 m pc ls (stk.map (mv ad)))
section EV
variable {M : MD} {d pc : Nat} {lv : List (Option MV)} {stk : List MV} {sh : Sh} {σ : St} {r : Option MV × Sh × St}
/-- a step that changes neither cells nor locals -/
theorem Ev.mk0 {pc' : Nat} {stk' : List MV} (h : Ev M d pc' lv stk' sh σ r)
    (hs : ∀ (p : Program) (l : Launch) (e : Env) (R : Room) (s : State) (m : MethodId) (args : Array Value) (below : List Frame) (meth : Method) (c : Code) (A : Nat → Prop) (D : va_G) (cI cZ cQ : ClassId), Fr M d p l R s m args meth c A D cI cZ cQ →
      ∀ (cells slots : Nat) (H : Heap) (locs : List Loc) (ad : Nat → Nat) (ls : Array Slot) (Q : State → Prop), cells ≤ R.cells → slots ≤ R.slots → lvOk ad M.2.2.1 lv ls → Sd M s A D cI cZ cQ ad sh σ H locs →
      W p l e R s m args below meth c H locs cells slots Q (F0 m pc' ls (stk'.map (mv ad))) → W p l e R s m args below meth c H locs cells slots Q (F0 m pc ls (stk.map (mv ad)))) : Ev M d pc lv stk sh σ r :=
  ⟨h.1, fun p l e R s m args below meth c A D cI cZ cQ F cells slots H locs ad ls Q h1 h2 hl hS k =>
    hs p l e R s m args below meth c A D cI cZ cQ F cells slots H locs ad ls Q (by omega) (by omega) hl hS (h.2 p l e R s m args below meth c A D cI cZ cQ F cells slots H locs ad ls Q h1 h2 hl hS k)⟩
/-- a step that changes locals, numbers -/
theorem Ev.mk1 {pc' : Nat} {lv' : List (Option MV)} {stk' : List MV} {σ' : St} (h : Ev M d pc' lv' stk' sh σ' r)
    (hs : ∀ (p : Program) (l : Launch) (e : Env) (R : Room) (s : State) (m : MethodId) (args : Array Value) (below : List Frame) (meth : Method) (c : Code) (A : Nat → Prop) (D : va_G) (cI cZ cQ : ClassId), Fr M d p l R s m args meth c A D cI cZ cQ →
      ∀ (cells slots : Nat) (H : Heap) (locs : List Loc) (ad : Nat → Nat) (ls : Array Slot) (Q : State → Prop), lvOk ad M.2.2.1 lv ls → Sd M s A D cI cZ cQ ad sh σ H locs →
      (∀ (H' : Heap) (locs' : List Loc) (ls' : Array Slot), lvOk ad M.2.2.1 lv' ls' → Sd M s A D cI cZ cQ ad sh σ' H' locs' → W p l e R s m args below meth c H' locs' cells slots Q (F0 m pc' ls' (stk'.map (mv ad)))) → W p l e R s m args below meth c H locs cells slots Q (F0 m pc ls (stk.map (mv ad)))) : Ev M d pc lv stk sh σ r :=
  ⟨h.1, fun p l e R s m args below meth c A D cI cZ cQ F cells slots H locs ad ls Q h1 h2 hl hS k =>
    hs p l e R s m args below meth c A D cI cZ cQ F cells slots H locs ad ls Q hl hS (fun H' locs' ls' hl' hS' => h.2 p l e R s m args below meth c A D cI cZ cQ F cells slots H' locs' ad ls' Q h1 h2 hl' hS' k)⟩
/-- fewer locals are known -/
theorem Ev.weak {lv' : List (Option MV)} (h : Ev M d pc lv' stk sh σ r) (hw : ∀ (i : Nat) (v : MV), lv'[i]? = some (some v) → lv[i]? = some (some v)) : Ev M d pc lv stk sh σ r :=
  ⟨h.1, fun p l e R s m args below meth c A D cI cZ cQ F cells slots H locs ad ls Q h1 h2 hl hS k => h.2 p l e R s m args below meth c A D cI cZ cQ F cells slots H locs ad ls Q h1 h2 ⟨hl.1, hl.2.1, fun i v hv => hl.2.2 i v (hw i v hv)⟩ hS k⟩
theorem Ev.ret_i {x : Int32} {ty : FieldType} (hd : decode M.2.1 pc = .ok (.ireturn, 1)) (ht : M.2.2.2.1 = some ty) (hn : narrow ty (.int x) = .int x) : Ev M d pc lv [vI x] sh σ (some (vI x), sh, σ) :=
  ⟨⟨Nat.le_refl _, Nat.le_refl _⟩, fun p l e R s m args below meth c A D cI cZ cQ F cells slots H locs ad ls Q _ _ hl hS k => by
    have := k pc H locs ad ls (Or.inl ⟨hd, x, ty, rfl, ht, hn⟩) AE.rf hS
    simpa using this⟩
theorem Ev.ret_v (hd : decode M.2.1 pc = .ok (.return_, 1)) (ht : M.2.2.2.1 = none) : Ev M d pc lv [] sh σ (none, sh, σ) :=
  ⟨⟨Nat.le_refl _, Nat.le_refl _⟩, fun p l e R s m args below meth c A D cI cZ cQ F cells slots H locs ad ls Q _ _ hl hS k => by
    have := k pc H locs ad ls (Or.inr (Or.inl ⟨hd, rfl, ht⟩)) AE.rf hS
    simpa using this⟩
theorem Ev.ret_a {q : Option Nat} (hd : decode M.2.1 pc = .ok (.areturn, 1)) (ht : M.2.2.2.1 = some (.array .int)) : Ev M d pc lv [.inr (.inr q)] sh σ (some (.inr (.inr q)), sh, σ) :=
  ⟨⟨Nat.le_refl _, Nat.le_refl _⟩, fun p l e R s m args below meth c A D cI cZ cQ F cells slots H locs ad ls Q _ _ hl hS k => by
    have := k pc H locs ad ls (Or.inr (Or.inr ⟨hd, ⟨q, rfl⟩, ht⟩)) AE.rf hS
    simpa using this⟩
end EV
