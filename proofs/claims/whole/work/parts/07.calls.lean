/-! calls -/
theorem rem32 (x y : Int32) : x - x / y * y = x % y := by
  apply Int32.toInt_inj.mp
  have h := Int.tmod_add_mul_tdiv x.toInt y.toInt
  have hb : (x % y).toInt = (x % y).toInt.bmod (2 ^ 32) := by
    rw [Int.bmod_eq_of_le (by have := (x % y).le_toInt; omega) (by have := (x % y).toInt_lt; omega)]
  rw [hb, Int32.toInt_sub, Int32.toInt_mul, Int32.toInt_div, Int32.toInt_mod]
  rw [Int.bmod_mul_bmod, Int.sub_bmod_bmod]
  congr 1
  have := Int.mul_comm (x.toInt.tdiv y.toInt) y.toInt
  omega
/-- the words of a method -/
def wsM (M : MD) : List Cond := .code M.1 M.2.1 M.2.2.1 M.2.2.2.1 :: wsL_law
def PcM (D : va_G) (cI cZ cQ : ClassId) (ad : Nat → Nat) (sz : Nat) (sh : Sh) (σ : St) (av : List MV) : Array Value → State → Prop :=
  va_Pc (av.map (mv ad)) (fun U => U.heap.size = sz ∧ va_P D vwCl (wsOf cI cZ cQ ad sh σ) U.heap ∧ va_K D vwCl (tysOf cI cZ cQ) U ∧ va_D (fun _ => True) (wsOf cI cZ cQ ad sh σ) ∧ NWok U)
def QcM (D : va_G) (cI cZ cQ : ClassId) (ad : Nat → Nat) (sz : Nat) (sh : Sh) (σ : St) (r : Option MV × Sh × St) : Array Value → State → Outcome → State → Prop := fun _ st oc t =>
  ∃ ad', oc = .returned (r.1.map (mv ad')) ∧ AE sh r.2.1 ad ad' ∧ va_P D vwCl (wsOf cI cZ cQ ad' r.2.1 r.2.2) t.heap ∧ va_D (va_A (wsOf cI cZ cQ ad sh σ) sz) (wsOf cI cZ cQ ad' r.2.1 r.2.2) ∧ va_F (va_A (wsOf cI cZ cQ ad sh σ) sz) st t
/-- the method, called with these arguments in this world, returns, with that answer and world -/
def Rn (M : MD) (d : Nat) (av : List MV) (sh : Sh) (σ : St) (r : Option MV × Sh × St) : Prop :=
  (sh.length ≤ r.2.1.length ∧ slo sh ≤ slo r.2.1) ∧ ∀ (l : Launch) (D : va_G) (cI cZ cQ : ClassId) (ad : Nat → Nat) (sz : Nat),
    Met l M.1 (wsM M) { frames := d, cells := r.2.1.length - sh.length, slots := slo r.2.1 - slo sh, locals := d * 64 } (PcM D cI cZ cQ ad sz sh σ av) (QcM D cI cZ cQ ad sz sh σ r) (r.2.1.length - sh.length) (slo r.2.1 - slo sh) (va_A (wsOf cI cZ cQ ad sh σ) sz)
/-- the locals at a method's entry -/
def lvE : List MV → Nat → List (Option MV)
  | [], n => List.replicate n none
  | .inr (.inl y) :: t, n => some (.inr (.inl y)) :: none :: lvE t (n - 2)
  | v :: t, n => some v :: lvE t (n - 1)
theorem lvE_mem (ad : Nat → Nat) : ∀ (av : List MV) (n o i : Nat) (v : MV), (lvE av n)[i]? = some (some v) → (o + i, mv ad v) ∈ lv_args o (av.map (mv ad))
  | [], n, o, i, v, h => by
    simp only [lvE, List.getElem?_replicate] at h
    split at h <;> cases h
  | .inl x :: t, n, o, 0, v, h => by
    cases h
    exact List.mem_cons_self
  | .inl x :: t, n, o, i + 1, v, h => by
    have h1 := lvE_mem ad t (n - 1) (o + 1) i v h
    have e : o + 1 + i = o + (i + 1) := by omega
    rw [e] at h1
    exact List.mem_cons_of_mem _ h1
  | .inr (.inr q) :: t, n, o, 0, v, h => by
    cases h
    exact List.mem_cons_self
  | .inr (.inr q) :: t, n, o, i + 1, v, h => by
    have h1 := lvE_mem ad t (n - 1) (o + 1) i v h
    have e : o + 1 + i = o + (i + 1) := by omega
    rw [e] at h1
    refine List.mem_cons_of_mem _ ?_
    cases q <;> exact h1
  | .inr (.inl y) :: t, n, o, 0, v, h => by
    cases h
    exact List.mem_cons_self
  | .inr (.inl y) :: t, n, o, 1, v, h => by cases h
  | .inr (.inl y) :: t, n, o, i + 2, v, h => by
    have h1 := lvE_mem ad t (n - 2) (o + 2) i v h
    have e : o + 2 + i = o + (i + 2) := by omega
    rw [e] at h1
    exact List.mem_cons_of_mem _ h1
/-- what the tables say of a method -/
def CeS (N : MD) (n : Nat) : Prop := Cond.code N.1 N.2.1 N.2.2.1 N.2.2.2.1 ∈ wsL_law ∧ Cond.initialized N.1.cls ∈ wsL_law ∧ (N.1.cls ≠ "java/lang/invoke/MethodHandle" ∧ N.1.cls ≠ "java/lang/invoke/VarHandle") ∧ (parseMethodDescriptor N.1.desc).map (fun q => q.parameters.length) = some n ∧ plainFor N.1 = true ∧ N.2.2.1 ≤ 40 ∧ N.2.2.2.2 = none
def CeV (N : MD) (n : Nat) : Prop := CeS N n ∧ Cond.instanceMethod N.1 ∈ wsL_law ∧ Cond.selects N.1.cls N.1 N.1 ∈ wsL_law
def CeT (N : MD) (n : Nat) : Prop := CeS N n ∧ Cond.static N.1 ∈ wsL_law
def CeI (N : MD) (n : Nat) : Prop := CeS N n ∧ Cond.instanceMethod N.1 ∈ wsL_law ∧ N.1.name = "<init>" ∧ N.2.2.2.1 = none
def LkM (own : String) (idx : Nat) (y : MethodName) : Prop := Cond.methodLink own idx y ∈ wsL_law ∨ ∃ host, (own, idx, y, host) ∈ NWM
theorem TW_good : wsL_law.all goodWord = true := by decide +kernel
theorem wsM_good {N : MD} (h : Cond.code N.1 N.2.1 N.2.2.1 N.2.2.2.1 ∈ wsL_law) : GoodIn wsL_law (wsM N) := by
  intro w hw
  have hm : w ∈ wsL_law := by
    rcases List.mem_cons.mp hw with rfl | q
    · exact h
    · exact q
  exact ⟨hm, good_of_word (List.all_eq_true.mp TW_good w hm)⟩
theorem Met.ofWF {l : Launch} {y : MethodName} {ws ws' : List Cond} {rm : Room} {Pc : Array Value → State → Prop} {Qc : Array Value → State → Outcome → State → Prop} {mc ms : Nat} {free : Addr → Prop} {cc : ByteArray} {maxL : Nat} {ret : Option FieldType}
    (hy : plainFor y = true) (hw : ws = Cond.code y cc maxL ret :: ws')
    (body : ∀ p e s m args below meth c s₁, BodyLoose p l y (headSpec ws rm) cc maxL ret e s m args below meth c s₁ → c.maxLocals = maxL → Pc args s →
      W p l e (headSpec ws rm).room s m args below meth c s.heap [] 0 0 (MQ below Qc args s mc ms free) (entryFrame m args maxL)) : Met l y ws rm Pc Qc mc ms free := by
  refine MetFree.of_bodySF (code := cc) (maxLocals := maxL) (ret := ret) hy ?_ ?_
  · intro args s m h hn
    obtain ⟨meth, c, h1, h2, h3, h4, h5, h6, -, -⟩ := Cond.code_spec hn (atoms_spec (ws := ws) h _ (by rw [hw]; exact List.mem_cons_self))
    exact ⟨meth, c, h1, h2, h3, h4, h5, h6⟩
  · intro p e s m args below meth c s₁ B hml hP _
    have hh0 : s₁.heap = s.heap := by rw [B.state]; rfl
    obtain ⟨t, a1, o, b1, b2, b3⟩ := body p e s m args below meth c s₁ B hml hP s₁ hh0 (Stand.of_body B)
    exact ⟨t, o, a1, b1, b2, ⟨b3.1, b3.2⟩⟩
/-- a method from its entry -/
theorem Rn.of {M : MD} {d : Nat} {av : List MV} {sh : Sh} {σ : St} {r : Option MV × Sh × St} {n : Nat} (hc : CeS M n) (hcat : (av.map cat).sum ≤ M.2.2.1) (h : Ev M d 0 (lvE av M.2.2.1) [] sh σ r) : Rn M d av sh σ r := by
  refine ⟨h.1, fun l D cI cZ cQ ad sz => Met.ofWF (cc := M.2.1) (maxL := M.2.2.1) (ret := M.2.2.2.1) hc.2.2.2.2.1 rfl ?_⟩
  intro p e s m args below meth c s₁ B hml hv
  obtain ⟨rfl, hsz, hP, hK, hD0, hN⟩ := hv
  have hts := atoms_spec (ws := wsM M) B.pre
  have hown : s.vm.findClass M.1.cls = some m.cls := findClass_of_methodNamed B.named
  have hlocks := B.notSynchronized
  have hin : meth.name = M.1.name := (name_of_methodNamed B.named B.method).1
  subst hsz
  have hD := hD0.self (sz := s.heap.size)
  have hlen : (lg_sl (av.map (mv ad))).length ≤ M.2.2.1 := by
    refine Nat.le_trans (Nat.le_of_eq ?_) hcat
    clear hP hD0 hts B hcat hD h
    induction av with
    | nil => rfl
    | cons v t ih =>
      have e : lg_sl ((v :: t).map (mv ad)) = (if (mv ad v).category = 2 then [.val (mv ad v), .second] else [.val (mv ad v)]) ++ lg_sl (t.map (mv ad)) := rfl
      rw [e, List.length_append, ih, List.map_cons, List.sum_cons, mv_cat]
      rcases v with x | y | q <;> rfl
  have hl := lv_entry (av.map (mv ad)) (n := M.2.2.1) hlen
  rw [lg_entry_eq]
  generalize (lg_sl (av.map (mv ad)) ++ List.replicate (M.2.2.1 - (lg_sl (av.map (mv ad))).length) Slot.unset).toArray = ls at hl ⊢
  have hlv : lvOk ad M.2.2.1 (lvE av M.2.2.1) ls := ⟨hl.1, hl.2.1, fun i v hi => by
    have := hl.2.2 _ (lvE_mem ad av M.2.2.1 0 i v hi)
    simpa using this⟩
  have hsc : scOk M ad s (va_A (wsOf cI cZ cQ ad sh σ) s.heap.size) := fun L xs hx => by
    rw [hc.2.2.2.2.2.2] at hx
    cases hx
  have F : Fr M d p l { frames := d, cells := r.2.1.length - sh.length, slots := slo r.2.1 - slo sh, locals := d * 64 } s m (av.map (mv ad)).toArray meth c (va_A (wsOf cI cZ cQ ad sh σ) s.heap.size) D cI cZ cQ :=
    ⟨B.exec, B.bytes, hml, hown, fun w hw => hts w (List.mem_cons_of_mem _ hw), hN, hK, fun q hq => Or.inr hq, Nat.le_refl _, Nat.le_refl _, fun h0 => hin.trans h0, rfl⟩
  have key := h.2 p l e { frames := d, cells := r.2.1.length - sh.length, slots := slo r.2.1 - slo sh, locals := d * 64 } s m (av.map (mv ad)).toArray below meth c (va_A (wsOf cI cZ cQ ad sh σ) s.heap.size) D cI cZ cQ F 0 0 s.heap [] ad ls (MQ below (QcM D cI cZ cQ ad s.heap.size sh σ r) (av.map (mv ad)).toArray s (r.2.1.length - sh.length) (slo r.2.1 - slo sh) (va_A (wsOf cI cZ cQ ad sh σ) s.heap.size)) (by simp) (by simp) hlv ⟨hsc, hP, hD, va_S.rf⟩
  refine key fun pcR H' locs' ad' ls' hR hAE hS' => ?_
  rw [Nat.zero_add, Nat.zero_add]
  have hq : ∀ (v : Option Value), v = r.1.map (mv ad') → ∀ t : State, t.heap = H' → s.WarmedH t.vm → QcM D cI cZ cQ ad s.heap.size sh σ r (av.map (mv ad)).toArray s (.returned v) t := fun v hv t ht _ =>
    ⟨ad', by rw [hv], hAE, by rw [ht]; exact hS'.2.1, hS'.2.2.1, hS'.2.2.2.F ht⟩
  rcases hR with ⟨hd, x, ty, hx, ht, hn⟩ | ⟨hd, hx, ht⟩ | ⟨hd, ⟨q, hx⟩, ht⟩
  · rw [hx]
    exact W.zret B.exec B.bytes (B.returns.trans ht) hn (hq _ (by rw [hx]; rfl)) hS'.2.2.2.2.2 hd
  · rw [hx]
    exact W.vret B.exec B.bytes (B.returns.trans ht) (hq _ (by rw [hx]; rfl)) hS'.2.2.2.2.2 hd
  · rw [hx]
    refine W.aret B.exec B.bytes (B.returns.trans ht) (Or.inr ⟨_, rfl⟩) ?_ (hq _ (by rw [hx]; rfl)) hS'.2.2.2.2.2 hd
    cases q with
    | none => exact Or.inl rfl
    | some q => exact Or.inr ⟨_, rfl⟩
section CALL
variable {M N : MD} {d d' pc n idx : Nat} {lv : List (Option MV)} {sh : Sh} {σ σ1 : St} {r : Option MV × Sh × St} {av rest : List MV} {v : Option MV}
theorem PcM_blind {D : va_G} {cI cZ cQ : ClassId} {ad : Nat → Nat} {sz : Nat} : FrameBlind (PcM D cI cZ cQ ad sz sh σ av) := fun a U g mk q => by
  obtain ⟨q0, q1, qP, qK, qD, qN⟩ := q
  exact ⟨q0, q1, qP, va_K.moved (u := U) (U := U.calling g mk a) (Vm.Alike.refl U.vm) qK, qD, NWok.same (u := U) rfl qN⟩
/-- behind a call -/
theorem Ev.ofRun {sh1 : Sh} {stk : List MV} (hle : sh.length ≤ sh1.length ∧ slo sh ≤ slo sh1) (hsc : SCI < sh.length ∨ sh1.length ≤ SCI)
    (hok : ∀ ad ad' : Nat → Nat, AE sh sh1 ad ad' → (∀ (i : Nat) (u : MV), lv[i]? = some (some u) → mv ad' u = mv ad u) ∧ rest.map (mv ad') = rest.map (mv ad))
    (h : Ev M d (pc + 3) lv (v.toList ++ rest) sh1 σ1 r)
    (hs : ∀ (p : Program) (l : Launch) (e : Env) (R : Room) (s : State) (m : MethodId) (args : Array Value) (below : List Frame) (meth : Method) (c : Code) (A : Nat → Prop) (D : va_G) (cI cZ cQ : ClassId), Fr M d p l R s m args meth c A D cI cZ cQ →
      ∀ (cells slots : Nat) (H : Heap) (locs : List Loc) (ad : Nat → Nat) (ls : Array Slot), cells + (sh1.length - sh.length) ≤ R.cells → slots + (slo sh1 - slo sh) ≤ R.slots → lvOk ad M.2.2.1 lv ls → Sd M s A D cI cZ cQ ad sh σ H locs →
      va_Run p l e R s m args below meth c H locs cells slots (sh1.length - sh.length) (slo sh1 - slo sh) (F0 m pc ls (stk.map (mv ad))) (rest.map (mv ad)) (QcM D cI cZ cQ ad H.size sh σ (v, sh1, σ1) #[]) (va_A (wsOf cI cZ cQ ad sh σ) H.size)) :
    Ev M d pc lv stk sh σ r := by
  refine ⟨⟨Nat.le_trans hle.1 h.1.1, Nat.le_trans hle.2 h.1.2⟩, ?_⟩
  intro p l e R s m args below meth c A D cI cZ cQ F cells slots H locs ad ls Q h1 h2 hL hS k
  obtain ⟨hle1, hle2⟩ := hle
  obtain ⟨⟨hl1, hl2⟩, hE⟩ := h
  have hr := hs p l e R s m args below meth c A D cI cZ cQ F cells slots H locs ad ls (by omega) (by omega) hL hS
  intro T hT X
  obtain ⟨v', st₀, t, T', L, h0, X', hL', e1, e2, ⟨ad', hv, hae, hP', hD', hF⟩, go⟩ := hr T hT X
  cases hv
  have hA := F.2.2.2.2.2.2.2.1
  obtain ⟨ok1, ok2⟩ := hok ad ad' hae
  have hsce : ad' SCI = ad SCI := hae _ hsc
  have hfree : ∀ q, va_A (wsOf cI cZ cQ ad sh σ) H.size q → A q := by
    intro q hq
    rcases hq with ⟨k0, en, hk0⟩ | hq
    · exact hS.2.2.1.2 k0 _ hk0
    · exact hA q (Nat.le_trans hS.2.2.2.1 hq)
  have hF1 : H.size ≤ t.heap.size := by
    have := hF.1
    rw [h0] at this
    exact this
  have hF2 : ∀ q : Nat, q < H.size → ¬ va_A (wsOf cI cZ cQ ad sh σ) H.size q → t.heap[q]? = H[q]? := fun q h1 h2 => by
    have := hF.2 q (by rw [h0]; exact h1) h2
    rw [h0] at this
    exact this
  have hS' : Sd M s A D cI cZ cQ ad' sh1 σ1 T'.heap (locs ++ L) := by
    rw [e1]
    refine ⟨fun L0 xs0 hx0 => by rw [hsce]; exact hS.1 L0 xs0 hx0, hP', hD'.weaken (fun _ q _ h => hfree q.1 h), Nat.le_trans hS.2.2.2.1 hF1, fun q h1 h2 => ?_, fun q hq => ?_⟩
    · rw [hF2 q (Nat.lt_of_lt_of_le h1 hS.2.2.2.1) (fun z => h2 (hfree q z))]
      exact hS.2.2.2.2.1 q h1 h2
    · rcases List.mem_append.mp hq with h | h
      · exact hS.2.2.2.2.2 q h
      · exact hfree _ (hL' q h)
  have ec : cells + (sh1.length - sh.length) + (r.2.1.length - sh1.length) = cells + (r.2.1.length - sh.length) := by omega
  have es : slots + (slo sh1 - slo sh) + (slo r.2.1 - slo sh1) = slots + (slo r.2.1 - slo sh) := by omega
  have key := hE p l e R s m args below meth c A D cI cZ cQ F (cells + (sh1.length - sh.length)) (slots + (slo sh1 - slo sh)) T'.heap (locs ++ L) ad' ls Q (by omega) (by omega) ⟨hL.1, hL.2.1, fun i u hu => by rw [ok1 i u hu]; exact hL.2.2 i u hu⟩ hS'
    (fun pcR H' locs' ad2 ls' q1 q2 q3 => by
      rw [ec, es]
      exact k pcR H' locs' ad2 ls' q1 (hae.tr hle1 hl1 q2) q3)
  obtain ⟨t2, a1, b1⟩ := key T' rfl X'
  refine ⟨t2, go t2 ?_, b1⟩
  have e3 : (v.map (mv ad')).toList ++ rest.map (mv ad) = (v.toList ++ rest).map (mv ad') := by
    rw [List.map_append, ok2]
    cases v <;> rfl
  show Steps p.tables e below (T'.setTop (F0 m (pc + 3) ls ((v.map (mv ad')).toList ++ rest.map (mv ad)))) t2
  rw [e3]
  exact a1
theorem ok_same (ad ad' : Nat → Nat) (h : AE sh sh ad ad') : (∀ (i : Nat) (u : MV), lv[i]? = some (some u) → mv ad' u = mv ad u) ∧ rest.map (mv ad') = rest.map (mv ad) := by
  rw [h.eq]
  exact ⟨fun _ _ _ => rfl, rfl⟩
theorem room_of {d d' x : Nat} {R : Room} (h : d' + 1 ≤ d) (hx : x ≤ 40) (h1 : d ≤ R.frames) (h2 : d * 64 ≤ R.locals) : d' + 1 ≤ R.frames ∧ 8 + (x + 11) + d' * 64 ≤ R.locals := by omega
theorem callB_of2 {p : Program} {l : Launch} {R : Room} {s : State} {m : MethodId} {args : Array Value} {meth : Method} {c : Code} {A : Nat → Prop} {D : va_G} {cI cZ cQ : ClassId} (F : Fr M d p l R s m args meth c A D cI cZ cQ) (hc : CeS N n) (hd' : d' + 1 ≤ d) (hl : Cond.methodLink M.1.cls idx N.1 ∈ wsL_law) (mc ms : Nat) :
    CallB R s args M.1.cls idx N.1 N.2.1 N.2.2.1 N.2.2.2.1 (wsM N) { frames := d', cells := mc, slots := ms, locals := d' * 64 } mc ms n :=
  callB_of n F.2.2.2.2.1 (wsM_good hc.1) rfl rfl rfl (F.2.2.2.2.1 _ hc.2.1) (F.2.2.2.2.1 _ hl) ⟨hc.2.2.1.1, hc.2.2.1.2, hc.2.2.2.1⟩ (room_of hd' hc.2.2.2.2.2.1 F.2.2.2.2.2.2.2.2.1 F.2.2.2.2.2.2.2.2.2.1)
theorem callN_of2 {p : Program} {l : Launch} {R : Room} {s : State} {m : MethodId} {args : Array Value} {meth : Method} {c : Code} {A : Nat → Prop} {D : va_G} {cI cZ cQ : ClassId} {host : String} (F : Fr M d p l R s m args meth c A D cI cZ cQ) (hc : CeS N n) (hd' : d' + 1 ≤ d) (hl : (M.1.cls, idx, N.1, host) ∈ NWM) (mc ms : Nat) :
    va_CN R s args M.1.cls idx N.1 host N.2.1 N.2.2.1 N.2.2.2.1 (wsM N) { frames := d', cells := mc, slots := ms, locals := d' * 64 } mc ms n :=
  va_cnB n F.2.2.2.2.1 (wsM_good hc.1) rfl rfl rfl (F.2.2.2.2.2.1.2.2 _ hl) (F.2.2.2.2.1 _ hc.2.1) ⟨hc.2.2.1.1, hc.2.2.1.2, hc.2.2.2.1⟩ (room_of hd' hc.2.2.2.2.2.1 F.2.2.2.2.2.2.2.2.1 F.2.2.2.2.2.2.2.2.2.1)
theorem lsz {ad : Nat → Nat} {nL : Nat} {ls : Array Slot} (h : lvOk ad nL lv ls) : ls.size = nL := h.1
theorem callV0 {sh1 : Sh} {ci k nn : Nat} {rs : List (Option (Option Nat))} (hd : decode M.2.1 pc = .ok (.invokevirtual idx, 3)) (hc : CeV N n) (hl : LkM M.1.cls idx N.1) (hn : av.length = n) (hk : sh[k]? = some (ci + 3, nn, rs)) (hcl : ∃ q, vwCl[ci]? = some q ∧ q.1 = N.1.cls) (hr : (rest.map cat).sum ≤ 8) (hd' : d' + 1 ≤ d) (hsc : SCI < sh.length ∨ sh1.length ≤ SCI)
    (hok : ∀ ad ad' : Nat → Nat, AE sh sh1 ad ad' → (∀ (i : Nat) (u : MV), lv[i]? = some (some u) → mv ad' u = mv ad u) ∧ rest.map (mv ad') = rest.map (mv ad))
    (hR : Rn N d' (vR k :: av) sh σ (v, sh1, σ1)) (h : Ev M d (pc + 3) lv (v.toList ++ rest) sh1 σ1 r) : Ev M d pc lv (av.reverse ++ vR k :: rest) sh σ r := by
  refine Ev.ofRun hR.1 hsc hok h fun p l e R s m args below meth c A D cI cZ cQ F cells slots H locs ad ls h1 h2 hL hS => ?_
  have hM := hR.2 l D cI cZ cQ ad H.size
  obtain ⟨⟨C, T, NN⟩, hcq, hce⟩ := hcl
  have he : (wsOf cI cZ cQ ad sh σ)[k]? = some (ad k, .inr (ci, rs.mapIdx (fv ad (σ k)))) := wsOf_at hk
  have hrecv := va_recv F.2.2.2.2.2.2.1 hS.2.1 hcq he
  rw [hce] at hrecv
  have hp : PreV s H N.1.cls (ad k) (PcM D cI cZ cQ ad H.size sh σ (vR k :: av)) (av.map (mv ad)) := ⟨PcM_blind, hrecv, fun U hU hW => ⟨rfl, by rw [hU], by rw [hU]; exact hS.2.1, va_K.moved hW.alike F.2.2.2.2.2.2.1, hS.2.2.1.weaken (fun _ _ _ _ => trivial), NWok.warm hW F.2.2.2.2.2.1⟩⟩
  have est : (av.reverse ++ vR k :: rest).map (mv ad) = (av.map (mv ad)).reverse ++ .ref (ad k) :: rest.map (mv ad) := by
    rw [List.map_append, List.map_reverse]
    rfl
  rw [est]
  rcases hl with hl | ⟨host, hl⟩
  · exact va_runV (As := av.map (mv ad)) (rest := rest.map (mv ad)) ⟨F.1, F.2.1, F.2.2.1, F.2.2.2.1, F.2.2.2.2.1⟩ hM ⟨callB_of2 F hc.1 hd' hl _ _, F.2.2.2.2.1 _ hc.2.1, F.2.2.2.2.1 _ hc.2.2⟩ hp rfl (by rw [List.length_map]; exact hn) (lsz hL) rfl (lv_room (by rw [mv_cats]; exact hr)) hd ⟨h1, h2⟩
  · exact va_runVN (As := av.map (mv ad)) (rest := rest.map (mv ad)) ⟨F.1, F.2.1, F.2.2.1, F.2.2.2.1, F.2.2.2.2.1⟩ hM ⟨callN_of2 F hc.1 hd' hl _ _, F.2.2.2.2.1 _ hc.2.1, F.2.2.2.2.1 _ hc.2.2⟩ hp rfl (by rw [List.length_map]; exact hn) (lsz hL) rfl (lv_room (by rw [mv_cats]; exact hr)) hd ⟨h1, h2⟩
theorem callT0 {sh1 : Sh} (hd : decode M.2.1 pc = .ok (.invokestatic idx, 3)) (hc : CeT N n) (hl : LkM M.1.cls idx N.1) (hn : av.length = n) (hr : (rest.map cat).sum ≤ 8) (hd' : d' + 1 ≤ d) (hsc : SCI < sh.length ∨ sh1.length ≤ SCI)
    (hok : ∀ ad ad' : Nat → Nat, AE sh sh1 ad ad' → (∀ (i : Nat) (u : MV), lv[i]? = some (some u) → mv ad' u = mv ad u) ∧ rest.map (mv ad') = rest.map (mv ad))
    (hR : Rn N d' av sh σ (v, sh1, σ1)) (h : Ev M d (pc + 3) lv (v.toList ++ rest) sh1 σ1 r) : Ev M d pc lv (av.reverse ++ rest) sh σ r := by
  refine Ev.ofRun hR.1 hsc hok h fun p l e R s m args below meth c A D cI cZ cQ F cells slots H locs ad ls h1 h2 hL hS => ?_
  have hM := hR.2 l D cI cZ cQ ad H.size
  have hp : PreS s H (PcM D cI cZ cQ ad H.size sh σ av) (av.map (mv ad)) := ⟨PcM_blind, fun U hU hW => ⟨rfl, by rw [hU], by rw [hU]; exact hS.2.1, va_K.moved hW.alike F.2.2.2.2.2.2.1, hS.2.2.1.weaken (fun _ _ _ _ => trivial), NWok.warm hW F.2.2.2.2.2.1⟩⟩
  have est : (av.reverse ++ rest).map (mv ad) = (av.map (mv ad)).reverse ++ rest.map (mv ad) := by
    rw [List.map_append, List.map_reverse]
  rw [est]
  rcases hl with hl | ⟨host, hl⟩
  · exact va_runS (As := av.map (mv ad)) (rest := rest.map (mv ad)) ⟨F.1, F.2.1, F.2.2.1, F.2.2.2.1, F.2.2.2.2.1⟩ hM ⟨callB_of2 F hc.1 hd' hl _ _, F.2.2.2.2.1 _ hc.2⟩ hp rfl (by rw [List.length_map]; exact hn) (lsz hL) rfl (lv_room (by rw [mv_cats]; exact hr)) hd ⟨h1, h2⟩
  · exact va_runSN (As := av.map (mv ad)) (rest := rest.map (mv ad)) ⟨F.1, F.2.1, F.2.2.1, F.2.2.2.1, F.2.2.2.2.1⟩ hM ⟨callN_of2 F hc.1 hd' hl _ _, F.2.2.2.2.1 _ hc.2, trivial⟩ hp rfl (by rw [List.length_map]; exact hn) (lsz hL) rfl (lv_room (by rw [mv_cats]; exact hr)) hd ⟨h1, h2⟩
theorem callI0 {sh1 : Sh} {k : Nat} (hd : decode M.2.1 pc = .ok (.invokespecial idx, 3)) (hc : CeI N n) (hl : LkM M.1.cls idx N.1) (hn : av.length = n) (hr : (rest.map cat).sum ≤ 8) (hd' : d' + 1 ≤ d) (hsc : SCI < sh.length ∨ sh1.length ≤ SCI)
    (hok : ∀ ad ad' : Nat → Nat, AE sh sh1 ad ad' → (∀ (i : Nat) (u : MV), lv[i]? = some (some u) → mv ad' u = mv ad u) ∧ rest.map (mv ad') = rest.map (mv ad))
    (hR : Rn N d' (vR k :: av) sh σ (v, sh1, σ1)) (h : Ev M d (pc + 3) lv (v.toList ++ rest) sh1 σ1 r) : Ev M d pc lv (av.reverse ++ vR k :: rest) sh σ r := by
  refine Ev.ofRun hR.1 hsc hok h fun p l e R s m args below meth c A D cI cZ cQ F cells slots H locs ad ls h1 h2 hL hS => ?_
  have hM := hR.2 l D cI cZ cQ ad H.size
  have hp : PreS s H (PcM D cI cZ cQ ad H.size sh σ (vR k :: av)) (.ref (ad k) :: av.map (mv ad)) := ⟨PcM_blind, fun U hU hW => ⟨rfl, by rw [hU], by rw [hU]; exact hS.2.1, va_K.moved hW.alike F.2.2.2.2.2.2.1, hS.2.2.1.weaken (fun _ _ _ _ => trivial), NWok.warm hW F.2.2.2.2.2.1⟩⟩
  have est : (av.reverse ++ vR k :: rest).map (mv ad) = (av.map (mv ad)).reverse ++ .ref (ad k) :: rest.map (mv ad) := by
    rw [List.map_append, List.map_reverse]
    rfl
  rw [est]
  rcases hl with hl | ⟨host, hl⟩
  · have cb := callB_of2 F hc.1 hd' hl (sh1.length - sh.length) (slo sh1 - slo sh)
    rw [hc.2.2.2] at cb
    exact va_runI (As := av.map (mv ad)) (rest := rest.map (mv ad)) ⟨F.1, F.2.1, F.2.2.1, F.2.2.2.1, F.2.2.2.2.1⟩ hM ⟨cb, hc.2.2.1, F.2.2.2.2.1 _ hc.2.1⟩ hp rfl (by rw [List.length_map]; exact hn) (lsz hL) rfl (lv_room (by rw [mv_cats]; exact hr)) hd ⟨h1, h2⟩
  · have cb := callN_of2 F hc.1 hd' hl (sh1.length - sh.length) (slo sh1 - slo sh)
    rw [hc.2.2.2] at cb
    exact va_runIN (As := av.map (mv ad)) (rest := rest.map (mv ad)) ⟨F.1, F.2.1, F.2.2.1, F.2.2.2.1, F.2.2.2.2.1⟩ hM ⟨cb, hc.2.2.1, F.2.2.2.2.1 _ hc.2.1⟩ hp rfl (by rw [List.length_map]; exact hn) (lsz hL) rfl (lv_room (by rw [mv_cats]; exact hr)) hd ⟨h1, h2⟩
/-- an instance method that makes no cell -/
theorem Ev.callV {ci k nn : Nat} {rs : List (Option (Option Nat))} (hd : decode M.2.1 pc = .ok (.invokevirtual idx, 3)) (hc : CeV N n) (hl : LkM M.1.cls idx N.1) (hn : av.length = n) (hk : sh[k]? = some (ci + 3, nn, rs)) (hcl : ∃ q, vwCl[ci]? = some q ∧ q.1 = N.1.cls) (hsc : sh.length ≤ SCI) (hr : (rest.map cat).sum ≤ 8) (hd' : d' + 1 ≤ d) (hR : Rn N d' (vR k :: av) sh σ (v, sh, σ1)) (h : Ev M d (pc + 3) lv (v.toList ++ rest) sh σ1 r) : Ev M d pc lv (av.reverse ++ vR k :: rest) sh σ r :=
  callV0 hd hc hl hn hk hcl hr hd' (Or.inr hsc) ok_same hR h
/-- a static method that makes no cell -/
theorem Ev.callT (hd : decode M.2.1 pc = .ok (.invokestatic idx, 3)) (hc : CeT N n) (hl : LkM M.1.cls idx N.1) (hn : av.length = n) (hsc : sh.length ≤ SCI) (hr : (rest.map cat).sum ≤ 8) (hd' : d' + 1 ≤ d) (hR : Rn N d' av sh σ (v, sh, σ1)) (h : Ev M d (pc + 3) lv (v.toList ++ rest) sh σ1 r) : Ev M d pc lv (av.reverse ++ rest) sh σ r :=
  callT0 hd hc hl hn hr hd' (Or.inr hsc) ok_same hR h
end CALL
