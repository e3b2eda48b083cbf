/-! given, ripe; the askings of keeper, promise, fell -/
def Rl0 (D : LD) (r : RD) (σ : St) : Prop := LandOk D ∧ LandA D σ ∧ LandB D σ ∧ RowA D r (σ 24) ∧ RowB D r (σ 80) 0 ∧ RowIn D r
theorem Rl0.ho {D : LD} {r : RD} {σ : St} (h : Rl0 D r σ) : LandOk D := h.1
theorem Rl0.ha {D : LD} {r : RD} {σ : St} (h : Rl0 D r σ) : LandA D σ := h.2.1
theorem Rl0.hb {D : LD} {r : RD} {σ : St} (h : Rl0 D r σ) : LandB D σ := h.2.2.1
theorem Rl0.ra {D : LD} {r : RD} {σ : St} (h : Rl0 D r σ) : RowA D r (σ 24) := h.2.2.2.1
theorem Rl0.rb {D : LD} {r : RD} {σ : St} (h : Rl0 D r σ) : RowB D r (σ 80) 0 := h.2.2.2.2.1
theorem Rl0.ri {D : LD} {r : RD} {σ : St} (h : Rl0 D r σ) : RowIn D r := h.2.2.2.2.2
/-- one side alone -/
def RlA (D : LD) (r : RD) (σ : St) : Prop := LandOk D ∧ LandA D σ ∧ RowA D r (σ 24) ∧ RowIn D r
def RlB (D : LD) (r : RD) (σ : St) : Prop := LandOk D ∧ LandB D σ ∧ RowB D r (σ 80) 0 ∧ RowIn D r
def RlZ (D : LD) (r : RD) : Prop := LandOk D ∧ RowIn D r
theorem RlA.ho {D : LD} {r : RD} {σ : St} (h : RlA D r σ) : LandOk D := h.1
theorem RlA.ha {D : LD} {r : RD} {σ : St} (h : RlA D r σ) : LandA D σ := h.2.1
theorem RlA.ra {D : LD} {r : RD} {σ : St} (h : RlA D r σ) : RowA D r (σ 24) := h.2.2.1
theorem RlA.ri {D : LD} {r : RD} {σ : St} (h : RlA D r σ) : RowIn D r := h.2.2.2
theorem RlA.z {D : LD} {r : RD} {σ : St} (h : RlA D r σ) : RlZ D r := ⟨h.1, h.2.2.2⟩
theorem RlB.ho {D : LD} {r : RD} {σ : St} (h : RlB D r σ) : LandOk D := h.1
theorem RlB.hb {D : LD} {r : RD} {σ : St} (h : RlB D r σ) : LandB D σ := h.2.1
theorem RlB.rb {D : LD} {r : RD} {σ : St} (h : RlB D r σ) : RowB D r (σ 80) 0 := h.2.2.1
theorem RlB.ri {D : LD} {r : RD} {σ : St} (h : RlB D r σ) : RowIn D r := h.2.2.2
theorem RlB.z {D : LD} {r : RD} {σ : St} (h : RlB D r σ) : RlZ D r := ⟨h.1, h.2.2.2⟩
theorem RlZ.ho {D : LD} {r : RD} (h : RlZ D r) : LandOk D := h.1
theorem RlZ.ri {D : LD} {r : RD} (h : RlZ D r) : RowIn D r := h.2
theorem Rl0.a {D : LD} {r : RD} {σ : St} (h : Rl0 D r σ) : RlA D r σ := ⟨h.ho, h.ha, h.ra, h.ri⟩
theorem Rl0.b {D : LD} {r : RD} {σ : St} (h : Rl0 D r σ) : RlB D r σ := ⟨h.ho, h.hb, h.rb, h.ri⟩
theorem Rl0.z {D : LD} {r : RD} {σ : St} (h : Rl0 D r σ) : RlZ D r := ⟨h.ho, h.ri⟩
/-- the day on which one grows ripe, and one; 0: never as things stand -/
def ripV (D : LD) (r : RD) (p : Nat) : Nat := if gvn D r p = 0 then 0 else rip D (gvn D r p - 1) (D 3 p) + 1
theorem oI_pos {a : Nat} (h : a ≠ 0) : oI a = nI (a - 1) := by
  match a, h with
  | a + 1, _ => rfl
theorem oI_neg {a : Nat} (ha : a < 2 ^ 31) : oI a = -1 ↔ a = 0 := by
  match a with
  | 0 => simp [oI]
  | a + 1 => exact ⟨fun e => absurd e (nI_neg1 (by omega)), fun e => absurd e (by omega)⟩
section ASK
variable {D : LD} {r : RD} {σ : St} {N : Nat}
theorem LandOk.pr (h : LandOk D) {p : Nat} (hp : p < nP D) : D 2 p < nT D ∧ (1 ≤ D 3 p ∧ D 3 p ≤ 60) ∧ D 4 p ≤ 9 ∧ (1 ≤ D 5 p ∧ D 5 p ≤ 9) ∧ (D 6 p = 9 ∨ D 6 p < p) ∧ D 10 p < nK D := h.2.2.2.2.1 p hp
theorem gvn_le (ho : LandOk D) (ri : RowIn D r) {p : Nat} (hp : p < nP D) : gvn D r p ≤ 10001 := by
  unfold gvn
  have h := ho.pr hp
  by_cases h9 : D 6 p = 9
  · rw [if_pos h9]
    omega
  · rw [if_neg h9]
    by_cases h1 : r 1 (D 6 p) = 1
    · rw [if_pos h1]
      exact (ri.2.1 (D 6 p) (by omega)).2.1
    · rw [if_neg h1]
      omega
theorem a_given (h : RlA D r σ) {p : Nat} (hp : p < nP D) : p_X1_givenOn_23 (nI p) σ = oI (gvn D r p) := by
  have h7 := h.ho.p7
  have hq := h.ho.pr hp
  unfold p_X1_givenOn_23 bt gvn
  rw [at_nI (by omega) (by decide), (h.ha.2.2.2.1 p hp).2.2.2.2.2]
  by_cases h9 : D 6 p = 9
  · rw [if_pos h9, h9]
    rfl
  · have hg : D 6 p < nP D := by omega
    have e : gI (D 6 p) = nI (D 6 p) := if_neg h9
    rw [if_neg h9, e]
    have e1 : p_X1_how_23 (nI (D 6 p)) σ = nI (r 1 (D 6 p)) := a_how h.ho h.ra hg
    have e2 : p_X1_endedOn (nI (D 6 p)) σ = oI (r 2 (D 6 p)) := a_ended h.ho h.ra hg
    show (if nI (D 6 p) = -1 then 0 else if p_X1_how_23 (nI (D 6 p)) σ = 1 then p_X1_endedOn (nI (D 6 p)) σ else -1) = _
    rw [if_neg (nI_neg1 (by omega)), e1, e2]
    have hr := (h.ri.2.1 (D 6 p) hg).1
    by_cases h1 : r 1 (D 6 p) = 1
    · have hn : nI (r 1 (D 6 p)) = (1 : Int32) := by
        rw [h1]
        rfl
      rw [if_pos h1, if_pos hn]
    · have hn : ¬ nI (r 1 (D 6 p)) = 1 := fun e => h1 ((nI_eq (a := r 1 (D 6 p)) (b := 1) (by omega) (by omega)).mp e)
      rw [if_neg h1, if_neg hn]
      rfl
theorem a_ripeOn (h : RlA D r σ) {p : Nat} (hp : p < nP D) : o_X1_ripeOn_23 N (nI p) σ = some (oI (ripV D r p), σ) := by
  have h7 := h.ho.p7
  have hq := h.ho.pr hp
  have hg := gvn_le h.ho h.ri hp
  unfold o_X1_ripeOn_23 bt ripV
  rw [a_given h hp]
  by_cases h0 : gvn D r p = 0
  · rw [if_pos h0, h0]
    rfl
  · rw [if_neg h0, oI_pos h0]
    dsimp only
    rw [if_neg (nI_neg1 (by omega)), at_nI (by omega) (by decide), (h.ha.2.2.2.1 p hp).2.2.1, a_ripe h.ho h.ha (by omega) (by omega), bd_some]
    rfl
theorem b_ripe (ho : LandOk D) (hb : LandB D σ) (ri : RowIn D r) {x : Nat} (hx : x ≤ 1300) (hr : RowB D r (σ 80) x) {p : Nat} (hp : p < nP D) (hN : 7000 ≤ N) :
    o_X10_ripe N (nI x) (nI p) σ = some (oI (ripV D r p), σ) := by
  have h7 := ho.p7
  have hq := ho.pr hp
  have hg := gvn_le ho ri hp
  unfold o_X10_ripe ripV
  have e : nI x + 21 + nI p = nI (x + 21 + p) := by
    show nI x + nI 21 + nI p = _
    rw [nI_add, nI_add]
  rw [e, b_cka _ (by omega) (by decide), w_nI (c := σ 80) (by omega), (hr.2.1 p hp).2.2.2]
  by_cases h0 : gvn D r p = 0
  · rw [if_pos h0, h0]
    rfl
  · rw [if_neg h0, oI_pos h0]
    have hnn : (0 : Int32) ≤ nI (gvn D r p - 1) := nI_le (a := 0) (by omega) (by omega)
    rw [if_pos hnn, b_cka _ (by omega) (by decide), b_cka _ (by omega) (by decide), w_nI (c := σ 88) (by omega), (hb.2.2.2.1 p hp).2.2.1, b_ripeBy ho hb (by omega) (by omega) (by omega) hN, bd_some]
    rfl
theorem b_isPromise_in (hb : LandB D σ) (ho : LandOk D) {k : Nat} (hk : k < nP D) : o_X10_isPromise N (nI k) σ = some (1, σ) := by
  have h3 := ho.p7
  unfold o_X10_isPromise
  rw [hb.1.2.2.2, b_in_lt hk (by omega)]
  rfl
theorem b_isPromise_out (hb : LandB D σ) (ho : LandOk D) {x : Int32} (hx : x < 0 ∨ nI (nP D) ≤ x) : o_X10_isPromise N x σ = some (0, σ) := by
  have h3 := ho.p7
  unfold o_X10_isPromise
  rw [hb.1.2.2.2, b_in_out hx (by omega)]
  rfl
theorem b_isTown_in (hb : LandB D σ) (ho : LandOk D) {k : Nat} (hk : k < nT D) : o_X10_isTown N (nI k) σ = some (1, σ) := by
  have h3 := ho.t5
  unfold o_X10_isTown
  rw [hb.1.1, b_in_lt hk (by omega)]
  rfl
theorem b_isTown_out (hb : LandB D σ) (ho : LandOk D) {x : Int32} (hx : x < 0 ∨ nI (nT D) ≤ x) : o_X10_isTown N x σ = some (0, σ) := by
  have h3 := ho.t5
  unfold o_X10_isTown
  rw [hb.1.1, b_in_out hx (by omega)]
  rfl
theorem a_hasTown_in (ha : LandA D σ) (ho : LandOk D) {k : Nat} (hk : k < nT D) : p_X5_hasTown (nI k) σ = 1 := by
  have h3 := ho.t5
  unfold p_X5_hasTown
  rw [ha.1.1, if_neg (nI_pos (by omega)), if_neg (nI_ge hk (by omega))]
theorem a_hasTown_out (ha : LandA D σ) {x : Int32} (hx : x < 0 ∨ nI (nT D) ≤ x) : p_X5_hasTown x σ = 0 := by
  unfold p_X5_hasTown j_X5_hasTown_16
  rw [ha.1.1]
  by_cases h : x < 0
  · rw [if_pos h]
  · rw [if_neg h, if_pos (hx.resolve_left h)]
theorem b_at {c j : Nat} {β : Type} (n : Nat) (f : Int32 → Option β) (h : c + j < n) (hn : n < 2 ^ 31) (σ : St) (a : Nat) : ckA (nI c + nI j) n (f (σ a (nI c + nI j).toNatClampNeg)) = f (σ a (c + j)) := by
  rw [nI_add, b_cka _ h hn, w_nI (c := σ a) (by omega)]
theorem one_ne : ¬ (1 : Int32) = 0 := by decide
/-- keeper: both answer alike, and leave all as it is -/
theorem e_keeper (h : Rl0 D r σ) (hN : 7000 ≤ N) (a1 a2 : Int32) : ∃ v, o_X9_keeper N a1 a2 σ = some (v, σ) ∧ o_X10_keeper N a1 a2 σ = some (v, σ) := by
  have h3 := h.ho.k3
  rcases a_has (n := nK D) (by omega) a1 with ⟨k, hk, rfl⟩ | hx
  · unfold o_X9_keeper o_X10_keeper
    rw [a_hasKeeper_in h.ha h.ho hk, b_isKeeper_in h.hb h.ho hk, if_neg one_ne, bd_some, if_neg one_ne]
    have b28 : σ 80 (28 + k) = nI (r 4 k) := by
      have e := (h.rb.2.2.1 k hk).1
      rw [Nat.zero_add] at e
      exact e
    have b31 : σ 80 (31 + k) = nI (r 5 k) := by
      have e := (h.rb.2.2.1 k hk).2
      rw [Nat.zero_add] at e
      exact e
    by_cases e0 : a2 = 0
    · rw [if_pos e0, if_pos e0, a_town h.ho h.ra hk]
      refine ⟨_, rfl, ?_⟩
      rw [show (28 : Int32) + nI k = nI (28 + k) from nI_add 28 k, b_cka _ (by omega) (by decide), w_nI (c := σ 80) (by omega), b28]
    rw [if_neg e0, if_neg e0]
    by_cases e1 : a2 = 1
    · rw [if_pos e1, if_pos e1, at_nI (by omega) (by decide), (h.ha.2.2.1 k hk).1]
      refine ⟨_, rfl, ?_⟩
      rw [b_cka _ (by omega) (by decide), w_nI (c := σ 85) (by omega), (h.hb.2.2.1 k hk).1]
    rw [if_neg e1, if_neg e1]
    by_cases e2 : a2 = 2
    · rw [if_pos e2, if_pos e2, a_there h.ho h.ra hk]
      refine ⟨_, rfl, ?_⟩
      rw [show (31 : Int32) + nI k = nI (31 + k) from nI_add 31 k, b_cka _ (by omega) (by decide), w_nI (c := σ 80) (by omega), b31]
    rw [if_neg e2, if_neg e2]
    by_cases e3 : a2 = 3
    · rw [if_pos e3, if_pos e3, a_heldBy h.ho h.ha h.ra (by omega), b_ofKeeper h.ho h.hb h.rb (by omega)]
      exact ⟨_, rfl, rfl⟩
    rw [if_neg e3, if_neg e3]
    exact ⟨_, rfl, rfl⟩
  · unfold o_X9_keeper o_X10_keeper
    rw [a_hasKeeper_out h.ha hx, b_isKeeper_out h.hb h.ho hx, bd_some]
    exact ⟨_, rfl, rfl⟩
theorem e_fell (h : Rl0 D r σ) (a1 : Int32) : o_X10_fell N a1 σ = some (p_X9_fell a1 σ, σ) := by
  rcases a_has (n := 3) (by omega) a1 with ⟨f, hf, rfl⟩ | hx
  · unfold o_X10_fell p_X9_fell p_X1_fellOn
    have e1 : p_X10_in (nI f).toInt64 0 2 σ = 1 := b_in_lt hf (by omega) σ
    have e2 : nI f < (3 : Int32) := (nI_lt_iff (a := f) (b := 3) (by omega) (by omega)).mpr hf
    have e3 : (34 : Int32) + nI f = nI (34 + f) := nI_add 34 f
    have e4 : (28 : Int32) + nI f = nI (28 + f) := nI_add 28 f
    have b34 : σ 80 (34 + f) = nI (r 6 f) := by
      have e := h.rb.2.2.2 f hf
      rw [Nat.zero_add] at e
      exact e
    rw [e1, if_neg one_ne, if_neg (nI_pos (by omega)), if_pos e2, e3, e4, b_cka _ (by omega) (by decide), w_nI (c := σ 80) (by omega), at_nI (by omega) (by decide), b34, h.ra.2.2.2 f hf]
  · unfold o_X10_fell p_X9_fell j_X9_fell_9
    have e1 : p_X10_in a1.toInt64 0 2 σ = 0 := b_in_out (n := 3) hx (by omega) σ
    rw [e1, if_pos rfl]
    by_cases h0 : a1 < 0
    · rw [if_pos h0]
    · have h3 : ¬ a1 < (3 : Int32) := Int32.not_lt.mpr (hx.resolve_left h0)
      rw [if_neg h0, if_neg h3]
theorem e_promise (h : Rl0 D r σ) (hN : 7000 ≤ N) (a1 a2 : Int32) : ∃ v, o_X9_promise N a1 a2 σ = some (v, σ) ∧ o_X10_promise N a1 a2 σ = some (v, σ) := by
  have h3 := h.ho.p7
  rcases a_has (n := nP D) (by omega) a1 with ⟨k, hk, rfl⟩ | hx
  · have hla := h.ha.2.2.2.1 k hk
    have hlb := h.hb.2.2.2.1 k hk
    have hq := h.ho.pr hk
    unfold o_X9_promise o_X10_promise
    rw [a_hasPromise_in h.ha h.ho hk, b_isPromise_in h.hb h.ho hk, if_neg one_ne, bd_some, if_neg one_ne]
    by_cases e0 : a2 = 0
    · rw [if_pos e0, if_pos e0, a_holder h.ho h.ra hk]
      refine ⟨_, rfl, ?_⟩
      rw [show (14 : Int32) + nI k = nI (14 + k) from nI_add 14 k, b_cka _ (by omega) (by decide), w_nI (c := σ 80) (by omega), b_whose h.rb hk]
    rw [if_neg e0, if_neg e0]
    by_cases e1 : a2 = 1
    · rw [if_pos e1, if_pos e1, at_nI (by omega) (by decide), hla.2.1]
      refine ⟨_, rfl, ?_⟩
      rw [b_cka _ (by omega) (by decide), w_nI (c := σ 87) (by omega), hlb.2.1]
    rw [if_neg e1, if_neg e1]
    by_cases e2 : a2 = 2
    · rw [if_pos e2, if_pos e2, at_nI (by omega) (by decide), hla.2.2.1]
      refine ⟨_, rfl, ?_⟩
      rw [b_cka _ (by omega) (by decide), w_nI (c := σ 88) (by omega), hlb.2.2.1]
    rw [if_neg e2, if_neg e2]
    by_cases e3 : a2 = 3
    · rw [if_pos e3, if_pos e3, at_nI (by omega) (by decide), hla.2.2.2.1]
      refine ⟨_, rfl, ?_⟩
      rw [b_cka _ (by omega) (by decide), w_nI (c := σ 89) (by omega), hlb.2.2.2.1]
    rw [if_neg e3, if_neg e3]
    by_cases e4 : a2 = 4
    · rw [if_pos e4, if_pos e4, at_nI (by omega) (by decide), hla.2.2.2.2.1]
      refine ⟨_, rfl, ?_⟩
      rw [b_cka _ (by omega) (by decide), w_nI (c := σ 90) (by omega), hlb.2.2.2.2.1]
    rw [if_neg e4, if_neg e4]
    by_cases e5 : a2 = 5
    · rw [if_pos e5, if_pos e5, at_nI (by omega) (by decide), hla.2.2.2.2.2]
      refine ⟨_, rfl, ?_⟩
      rw [b_cka _ (by omega) (by decide), b_cka _ (by omega) (by decide), w_nI (c := σ 91) (by omega), hlb.2.2.2.2.2]
      unfold gI
      by_cases h9 : D 6 k = 9
      · have hn : nI (D 6 k) = (9 : Int32) := by
          rw [h9]
          rfl
        rw [if_pos h9, if_pos hn]
      · have hn : ¬ nI (D 6 k) = 9 := fun e => h9 ((nI_eq (a := D 6 k) (b := 9) (by omega) (by omega)).mp e)
        rw [if_neg h9, if_neg hn]
    rw [if_neg e5, if_neg e5]
    by_cases e6 : a2 = 6
    · rw [if_pos e6, if_pos e6, a_how h.ho h.ra hk]
      refine ⟨_, rfl, ?_⟩
      rw [b_cka _ (by omega) (by decide), w_nI (c := σ 80) (by omega), b_how h.rb hk]
    rw [if_neg e6, if_neg e6]
    by_cases e7 : a2 = 7
    · rw [if_pos e7, if_pos e7, a_ripeOn h.a hk, show o_X10_ripe N 0 (nI k) σ = some (oI (ripV D r k), σ) from b_ripe h.ho h.hb h.ri (x := 0) (by omega) h.rb hk hN]
      exact ⟨_, rfl, rfl⟩
    rw [if_neg e7, if_neg e7]
    by_cases e8 : a2 = 8
    · rw [if_pos e8, if_pos e8, a_ended h.ho h.ra hk]
      refine ⟨_, rfl, ?_⟩
      have b7 : σ 80 (7 + k) = oI (r 2 k) := by
        have e := (h.rb.2.1 k hk).2.1
        rw [show 0 + 7 + k = 7 + k from rfl] at e
        exact e
      rw [show (7 : Int32) + nI k = nI (7 + k) from nI_add 7 k, b_cka _ (by omega) (by decide), w_nI (c := σ 80) (by omega), b7]
    rw [if_neg e8, if_neg e8]
    exact ⟨_, rfl, rfl⟩
  · unfold o_X9_promise o_X10_promise
    rw [a_hasPromise_out h.ha hx, b_isPromise_out h.hb h.ho hx, bd_some]
    exact ⟨_, rfl, rfl⟩
end ASK
