/-! the world behind the constructors: a cell, its kind, its places -/
def SH : Sh := [(12, 10, [some (some 1), some (some 11), some (some 21), some (some 23), some (some 25), some (some 57), some (some 62), some (some 63), some (some 69), some (some 74)]), (8, 16, [none, none, none, none, none, none, none, some (some 2), some (some 3), some (some 4), some (some 5), some (some 6), some (some 7), some (some 8), some (some 9), some (some 10)]), (0, 3, []), (0, 3, []), (0, 7, []), (0, 7, []), (0, 7, []), (0, 7, []), (0, 7, []), (0, 7, []), (0, 25, []), (8, 16, [none, none, none, none, none, none, none, some (some 12), some (some 13), some (some 14), some (some 15), some (some 16), some (some 17), some (some 18), some (some 19), some (some 20)]), (0, 3, []), (0, 3, []), (0, 7, []), (0, 7, []), (0, 7, []), (0, 7, []), (0, 7, []), (0, 7, []), (0, 25, []), (10, 6, [some (some 22), none, none, none, none, none]), (0, 250, []), (4, 2, [some (some 1), some (some 24)]), (0, 31, []), (9, 3, [some (some 26), none, none]), (2, 30, [some (some 27), some (some 28), some (some 29), some (some 30), some (some 31), some (some 32), some (some 33), some (some 34), some (some 35), some (some 36), some (some 37), some (some 38), some (some 39), some (some 40), some (some 41), some (some 42), some (some 43), some (some 44), some (some 45), some (some 46), some (some 47), some (some 48), some (some 49), some (some 50), some (some 51), some (some 52), some (some 53), some (some 54), some (some 55), some (some 56)]), (0, 31, []), (0, 31, []), (0, 31, []), (0, 31, []), (0, 31, []), (0, 31, []), (0, 31, []), (0, 31, []), (0, 31, []), (0, 31, []), (0, 31, []), (0, 31, []), (0, 31, []), (0, 31, []), (0, 31, []), (0, 31, []), (0, 31, []), (0, 31, []), (0, 31, []), (0, 31, []), (0, 31, []), (0, 31, []), (0, 31, []), (0, 31, []), (0, 31, []), (0, 31, []), (0, 31, []), (0, 31, []), (0, 31, []), (0, 31, []), (7, 3, [some (some 58), some (some 61), none]), (2, 2, [some (some 59), some (some 60)]), (0, 31, []), (0, 31, []), (0, 2, []), (5, 1, [none]), (11, 10, [some (some 1), some (some 23), some (some 64), some (some 65), some (some 66), some (some 67), some (some 68), none, none, none]), (0, 8, []), (0, 8, []), (0, 8, []), (0, 8, []), (0, 8, []), (6, 7, [some (some 1), some (some 23), some (some 63), some (some 70), some (some 71), some (some 72), some (some 73)]), (0, 128, []), (0, 3, []), (0, 7, []), (0, 7, []), (3, 5, [some (some 1), some (some 77), some (some 75), some (some 76), none]), (0, 20, []), (0, 20, []), (4, 2, [some (some 1), some (some 78)]), (0, 31, []), (13, 45, [some (some 80), some (some 81), none, none, none, none, none, none, none, none, some (some 82), some (some 83), some (some 84), some (some 85), some (some 86), some (some 87), some (some 88), some (some 89), some (some 90), some (some 91), some (some 92), none, some (some 93), none, none, none, none, none, none, none, none, none, some (some 94), some (some 95), some (some 96), some (some 97), some (some 98), none, none, some (some 99), some (some 100), some (some 101), some (some 102), some (some 103), none]), (0, 1360, []), (1, 2, []), (0, 50, []), (0, 25, []), (0, 6, []), (0, 6, []), (0, 14, []), (0, 14, []), (0, 14, []), (0, 14, []), (0, 14, []), (0, 14, []), (0, 6, []), (0, 250, []), (0, 8, []), (0, 9, []), (0, 9, []), (0, 9, []), (0, 9, []), (0, 384, []), (0, 3, []), (0, 3, []), (0, 20, []), (0, 20, [])]
theorem sh_sc : SH.length ≤ SCI := by decide
theorem sh_0 : SH[0]? = some (12, 10, [some (some 1), some (some 11), some (some 21), some (some 23), some (some 25), some (some 57), some (some 62), some (some 63), some (some 69), some (some 74)]) := rfl
theorem sh_1 : SH[1]? = some (8, 16, [none, none, none, none, none, none, none, some (some 2), some (some 3), some (some 4), some (some 5), some (some 6), some (some 7), some (some 8), some (some 9), some (some 10)]) := rfl
theorem sh_2 : SH[2]? = some (0, 3, []) := rfl
theorem sh_3 : SH[3]? = some (0, 3, []) := rfl
theorem sh_4 : SH[4]? = some (0, 7, []) := rfl
theorem sh_5 : SH[5]? = some (0, 7, []) := rfl
theorem sh_6 : SH[6]? = some (0, 7, []) := rfl
theorem sh_7 : SH[7]? = some (0, 7, []) := rfl
theorem sh_8 : SH[8]? = some (0, 7, []) := rfl
theorem sh_9 : SH[9]? = some (0, 7, []) := rfl
theorem sh_10 : SH[10]? = some (0, 25, []) := rfl
theorem sh_11 : SH[11]? = some (8, 16, [none, none, none, none, none, none, none, some (some 12), some (some 13), some (some 14), some (some 15), some (some 16), some (some 17), some (some 18), some (some 19), some (some 20)]) := rfl
theorem sh_12 : SH[12]? = some (0, 3, []) := rfl
theorem sh_13 : SH[13]? = some (0, 3, []) := rfl
theorem sh_14 : SH[14]? = some (0, 7, []) := rfl
theorem sh_15 : SH[15]? = some (0, 7, []) := rfl
theorem sh_16 : SH[16]? = some (0, 7, []) := rfl
theorem sh_17 : SH[17]? = some (0, 7, []) := rfl
theorem sh_18 : SH[18]? = some (0, 7, []) := rfl
theorem sh_19 : SH[19]? = some (0, 7, []) := rfl
theorem sh_20 : SH[20]? = some (0, 25, []) := rfl
theorem sh_21 : SH[21]? = some (10, 6, [some (some 22), none, none, none, none, none]) := rfl
theorem sh_22 : SH[22]? = some (0, 250, []) := rfl
theorem sh_23 : SH[23]? = some (4, 2, [some (some 1), some (some 24)]) := rfl
theorem sh_24 : SH[24]? = some (0, 31, []) := rfl
theorem sh_25 : SH[25]? = some (9, 3, [some (some 26), none, none]) := rfl
theorem sh_26 : SH[26]? = some (2, 30, [some (some 27), some (some 28), some (some 29), some (some 30), some (some 31), some (some 32), some (some 33), some (some 34), some (some 35), some (some 36), some (some 37), some (some 38), some (some 39), some (some 40), some (some 41), some (some 42), some (some 43), some (some 44), some (some 45), some (some 46), some (some 47), some (some 48), some (some 49), some (some 50), some (some 51), some (some 52), some (some 53), some (some 54), some (some 55), some (some 56)]) := rfl
theorem sh_57 : SH[57]? = some (7, 3, [some (some 58), some (some 61), none]) := rfl
theorem sh_58 : SH[58]? = some (2, 2, [some (some 59), some (some 60)]) := rfl
theorem sh_61 : SH[61]? = some (0, 2, []) := rfl
theorem sh_62 : SH[62]? = some (5, 1, [none]) := rfl
theorem sh_63 : SH[63]? = some (11, 10, [some (some 1), some (some 23), some (some 64), some (some 65), some (some 66), some (some 67), some (some 68), none, none, none]) := rfl
theorem sh_64 : SH[64]? = some (0, 8, []) := rfl
theorem sh_65 : SH[65]? = some (0, 8, []) := rfl
theorem sh_66 : SH[66]? = some (0, 8, []) := rfl
theorem sh_67 : SH[67]? = some (0, 8, []) := rfl
theorem sh_68 : SH[68]? = some (0, 8, []) := rfl
theorem sh_69 : SH[69]? = some (6, 7, [some (some 1), some (some 23), some (some 63), some (some 70), some (some 71), some (some 72), some (some 73)]) := rfl
theorem sh_70 : SH[70]? = some (0, 128, []) := rfl
theorem sh_71 : SH[71]? = some (0, 3, []) := rfl
theorem sh_72 : SH[72]? = some (0, 7, []) := rfl
theorem sh_73 : SH[73]? = some (0, 7, []) := rfl
theorem sh_74 : SH[74]? = some (3, 5, [some (some 1), some (some 77), some (some 75), some (some 76), none]) := rfl
theorem sh_75 : SH[75]? = some (0, 20, []) := rfl
theorem sh_76 : SH[76]? = some (0, 20, []) := rfl
theorem sh_77 : SH[77]? = some (4, 2, [some (some 1), some (some 78)]) := rfl
theorem sh_78 : SH[78]? = some (0, 31, []) := rfl
theorem sh_79 : SH[79]? = some (13, 45, [some (some 80), some (some 81), none, none, none, none, none, none, none, none, some (some 82), some (some 83), some (some 84), some (some 85), some (some 86), some (some 87), some (some 88), some (some 89), some (some 90), some (some 91), some (some 92), none, some (some 93), none, none, none, none, none, none, none, none, none, some (some 94), some (some 95), some (some 96), some (some 97), some (some 98), none, none, some (some 99), some (some 100), some (some 101), some (some 102), some (some 103), none]) := rfl
theorem sh_80 : SH[80]? = some (0, 1360, []) := rfl
theorem sh_81 : SH[81]? = some (1, 2, []) := rfl
theorem sh_82 : SH[82]? = some (0, 50, []) := rfl
theorem sh_83 : SH[83]? = some (0, 25, []) := rfl
theorem sh_84 : SH[84]? = some (0, 6, []) := rfl
theorem sh_85 : SH[85]? = some (0, 6, []) := rfl
theorem sh_86 : SH[86]? = some (0, 14, []) := rfl
theorem sh_87 : SH[87]? = some (0, 14, []) := rfl
theorem sh_88 : SH[88]? = some (0, 14, []) := rfl
theorem sh_89 : SH[89]? = some (0, 14, []) := rfl
theorem sh_90 : SH[90]? = some (0, 14, []) := rfl
theorem sh_91 : SH[91]? = some (0, 14, []) := rfl
theorem sh_92 : SH[92]? = some (0, 6, []) := rfl
theorem sh_93 : SH[93]? = some (0, 250, []) := rfl
theorem sh_95 : SH[95]? = some (0, 9, []) := rfl
theorem sh_96 : SH[96]? = some (0, 9, []) := rfl
theorem sh_97 : SH[97]? = some (0, 9, []) := rfl
theorem sh_98 : SH[98]? = some (0, 9, []) := rfl
theorem sh_99 : SH[99]? = some (0, 384, []) := rfl
theorem sh_100 : SH[100]? = some (0, 3, []) := rfl
theorem sh_101 : SH[101]? = some (0, 3, []) := rfl
theorem sh_102 : SH[102]? = some (0, 20, []) := rfl
theorem sh_103 : SH[103]? = some (0, 20, []) := rfl
theorem ki_m1 : Int32.ofInt (-1) = (-1) := rfl
theorem ki_0 : Int32.ofInt 0 = 0 := rfl
theorem ki_1 : Int32.ofInt 1 = 1 := rfl
theorem ki_2 : Int32.ofInt 2 = 2 := rfl
theorem ki_3 : Int32.ofInt 3 = 3 := rfl
theorem ki_4 : Int32.ofInt 4 = 4 := rfl
theorem ki_5 : Int32.ofInt 5 = 5 := rfl
theorem ki_6 : Int32.ofInt 6 = 6 := rfl
theorem ki_7 : Int32.ofInt 7 = 7 := rfl
theorem ki_8 : Int32.ofInt 8 = 8 := rfl
theorem ki_9 : Int32.ofInt 9 = 9 := rfl
theorem ki_10 : Int32.ofInt 10 = 10 := rfl
theorem ki_11 : Int32.ofInt 11 = 11 := rfl
theorem ki_12 : Int32.ofInt 12 = 12 := rfl
theorem ki_13 : Int32.ofInt 13 = 13 := rfl
theorem ki_14 : Int32.ofInt 14 = 14 := rfl
theorem ki_15 : Int32.ofInt 15 = 15 := rfl
theorem ki_16 : Int32.ofInt 16 = 16 := rfl
theorem ki_17 : Int32.ofInt 17 = 17 := rfl
theorem ki_18 : Int32.ofInt 18 = 18 := rfl
theorem ki_19 : Int32.ofInt 19 = 19 := rfl
theorem ki_20 : Int32.ofInt 20 = 20 := rfl
theorem ki_21 : Int32.ofInt 21 = 21 := rfl
theorem ki_22 : Int32.ofInt 22 = 22 := rfl
theorem ki_23 : Int32.ofInt 23 = 23 := rfl
theorem ki_24 : Int32.ofInt 24 = 24 := rfl
theorem ki_25 : Int32.ofInt 25 = 25 := rfl
theorem ki_26 : Int32.ofInt 26 = 26 := rfl
theorem ki_27 : Int32.ofInt 27 = 27 := rfl
theorem ki_28 : Int32.ofInt 28 = 28 := rfl
theorem ki_29 : Int32.ofInt 29 = 29 := rfl
theorem ki_31 : Int32.ofInt 31 = 31 := rfl
theorem ki_107 : Int32.ofInt 107 = 107 := rfl
theorem ki_112 : Int32.ofInt 112 = 112 := rfl
theorem ki_114 : Int32.ofInt 114 = 114 := rfl
theorem ki_116 : Int32.ofInt 116 = 116 := rfl
theorem ki_119 : Int32.ofInt 119 = 119 := rfl
theorem ki_128 : Int32.ofInt 128 = 128 := rfl
theorem kb_m10 : (Int8.ofInt (-10)).toInt32 = (-10) := rfl
theorem kb_7 : (Int8.ofInt 7).toInt32 = 7 := rfl
theorem kb_8 : (Int8.ofInt 8).toInt32 = 8 := rfl
theorem kb_9 : (Int8.ofInt 9).toInt32 = 9 := rfl
theorem kb_10 : (Int8.ofInt 10).toInt32 = 10 := rfl
theorem kb_14 : (Int8.ofInt 14).toInt32 = 14 := rfl
theorem kb_15 : (Int8.ofInt 15).toInt32 = 15 := rfl
theorem kb_16 : (Int8.ofInt 16).toInt32 = 16 := rfl
theorem kb_20 : (Int8.ofInt 20).toInt32 = 20 := rfl
theorem kb_21 : (Int8.ofInt 21).toInt32 = 21 := rfl
theorem kb_22 : (Int8.ofInt 22).toInt32 = 22 := rfl
theorem kb_25 : (Int8.ofInt 25).toInt32 = 25 := rfl
theorem kb_28 : (Int8.ofInt 28).toInt32 = 28 := rfl
theorem kb_30 : (Int8.ofInt 30).toInt32 = 30 := rfl
theorem kb_31 : (Int8.ofInt 31).toInt32 = 31 := rfl
theorem kb_32 : (Int8.ofInt 32).toInt32 = 32 := rfl
theorem kb_34 : (Int8.ofInt 34).toInt32 = 34 := rfl
theorem kb_37 : (Int8.ofInt 37).toInt32 = 37 := rfl
theorem kb_38 : (Int8.ofInt 38).toInt32 = 38 := rfl
theorem kb_40 : (Int8.ofInt 40).toInt32 = 40 := rfl
theorem kb_48 : (Int8.ofInt 48).toInt32 = 48 := rfl
theorem kb_50 : (Int8.ofInt 50).toInt32 = 50 := rfl
theorem kb_57 : (Int8.ofInt 57).toInt32 = 57 := rfl
theorem kb_59 : (Int8.ofInt 59).toInt32 = 59 := rfl
theorem kb_60 : (Int8.ofInt 60).toInt32 = 60 := rfl
theorem kb_63 : (Int8.ofInt 63).toInt32 = 63 := rfl
theorem kb_80 : (Int8.ofInt 80).toInt32 = 80 := rfl
theorem kb_98 : (Int8.ofInt 98).toInt32 = 98 := rfl
theorem kb_99 : (Int8.ofInt 99).toInt32 = 99 := rfl
theorem kb_107 : (Int8.ofInt 107).toInt32 = 107 := rfl
theorem kb_112 : (Int8.ofInt 112).toInt32 = 112 := rfl
theorem kb_114 : (Int8.ofInt 114).toInt32 = 114 := rfl
theorem kb_116 : (Int8.ofInt 116).toInt32 = 116 := rfl
theorem kb_119 : (Int8.ofInt 119).toInt32 = 119 := rfl
theorem kb_127 : (Int8.ofInt 127).toInt32 = 127 := rfl
theorem ks_128 : (Int16.ofInt 128).toInt32 = 128 := rfl
theorem ks_160 : (Int16.ofInt 160).toInt32 = 160 := rfl
theorem ks_200 : (Int16.ofInt 200).toInt32 = 200 := rfl
theorem ks_250 : (Int16.ofInt 250).toInt32 = 250 := rfl
theorem ks_255 : (Int16.ofInt 255).toInt32 = 255 := rfl
theorem ks_384 : (Int16.ofInt 384).toInt32 = 384 := rfl
theorem ks_1000 : (Int16.ofInt 1000).toInt32 = 1000 := rfl
theorem ks_9000 : (Int16.ofInt 9000).toInt32 = 9000 := rfl
theorem ks_9999 : (Int16.ofInt 9999).toInt32 = 9999 := rfl
theorem kL_0 : Int64.ofNat 0 = 0 := rfl
theorem kL_1 : Int64.ofNat 1 = 1 := rfl
theorem kn_25 : Int32.ofNat 25 = 25 := rfl
theorem kn_31 : Int32.ofNat 31 = 31 := rfl
theorem kn_128 : Int32.ofNat 128 = 128 := rfl
theorem in_0_2 : vp_in 0 2 := by unfold vp_in; decide
theorem in_0_6 : vp_in 0 6 := by unfold vp_in; decide
theorem in_1_2 : vp_in 1 2 := by unfold vp_in; decide
theorem in_1_6 : vp_in 1 6 := by unfold vp_in; decide
theorem in_2_6 : vp_in 2 6 := by unfold vp_in; decide
theorem in_3_6 : vp_in 3 6 := by unfold vp_in; decide
theorem in_4_6 : vp_in 4 6 := by unfold vp_in; decide
theorem in_5_6 : vp_in 5 6 := by unfold vp_in; decide
theorem in_37_1360 : vp_in 37 1360 := by unfold vp_in; decide
theorem in_38_1360 : vp_in 38 1360 := by unfold vp_in; decide
/-! words for the printed functions, and how a walk meets them -/
theorem lt9 {a b : Nat} (h : Nat.ble (a + 1) b = true) : a < b := Nat.le_of_ble_eq_true h
def bt {α β : Type} (x : α) (f : α → β) : β := f x
theorem bt_app {α β : Type} {x : α} {f : α → β} {v : β} (h : bt x f = v) (y : α) (e : y = x) : f y = v := by rw [e]; exact h
theorem bt_elim {α β : Type} {x : α} {f : α → β} {v : β} (h : bt x f = v) : ∃ y, y = x ∧ f y = v := ⟨x, rfl, h⟩
def bd {α β : Type} (o : Option (α × St)) (f : α → St → Option β) : Option β := match o with
  | none => none
  | some q => f q.1 q.2
theorem bd_elim {α β : Type} {o : Option (α × St)} {f : α → St → Option β} {v : β} (h : bd o f = some v) : ∃ x σ, o = some (x, σ) ∧ f x σ = some v := by
  cases o with
  | none => cases h
  | some q => exact ⟨q.1, q.2, rfl, h⟩
theorem bd_some {α β : Type} (x : α) (σ : St) (f : α → St → Option β) : bd (some (x, σ)) f = f x σ := rfl
def ckA {β : Type} (i : Int32) (n : Nat) (o : Option β) : Option β := if i < 0 ∨ n ≤ i.toNatClampNeg then none else o
theorem ckA_elim {β : Type} {i : Int32} {n : Nat} {o : Option β} {v : β} (h : ckA i n o = some v) : vp_in i n ∧ o = some v := by
  unfold ckA at h
  by_cases c : i < 0 ∨ n ≤ i.toNatClampNeg
  · rw [if_pos c] at h
    cases h
  · rw [if_neg c] at h
    exact ⟨c, h⟩
theorem ckA_in {β : Type} {i : Int32} {n : Nat} (o : Option β) (c : vp_in i n) : ckA i n o = o := if_neg c
def ckDI {β : Type} (y : Int32) (o : Option β) : Option β := if y = 0 then none else o
theorem ckDI_elim {β : Type} {y : Int32} {o : Option β} {v : β} (h : ckDI y o = some v) : ¬ y = 0 ∧ o = some v := by
  unfold ckDI at h
  by_cases c : y = 0
  · rw [if_pos c] at h
    cases h
  · rw [if_neg c] at h
    exact ⟨c, h⟩
def ckDL {β : Type} (y : Int64) (o : Option β) : Option β := if y = 0 then none else o
theorem ckDL_elim {β : Type} {y : Int64} {o : Option β} {v : β} (h : ckDL y o = some v) : ¬ y = 0 ∧ o = some v := by
  unfold ckDL at h
  by_cases c : y = 0
  · rw [if_pos c] at h
    cases h
  · rw [if_neg c] at h
    exact ⟨c, h⟩
def ckB {β : Type} (x : Int32) (o : Option β) : Option β := if x = 0 ∨ x = 1 then o else none
theorem ckB_elim {β : Type} {x : Int32} {o : Option β} {v : β} (h : ckB x o = some v) : (narrow .boolean (.int x) = .int x ∧ fits .boolean (.int x) = true) ∧ o = some v := by
  unfold ckB at h
  by_cases c : x = 0 ∨ x = 1
  · rw [if_pos c] at h
    refine ⟨?_, h⟩
    rcases c with rfl | rfl <;> exact ⟨rfl, rfl⟩
  · rw [if_neg c] at h
    cases h
theorem oeq {α : Type} {a b : α} {σ w : St} (h : some (a, σ) = some (b, w)) : a = b ∧ σ = w := by
  cases h
  exact ⟨rfl, rfl⟩
theorem nb_0 : narrow .boolean (.int 0) = .int 0 := rfl
theorem nb_1 : narrow .boolean (.int 1) = .int 1 := rfl
def sbL : List (Option MV) → List (Option MV) → Prop
  | [], _ => True
  | none :: t, l => sbL t l.tail
  | some v :: t, l => l.head? = some (some v) ∧ sbL t l.tail
theorem lsubE {l : List (Option MV)} : sbL [] l := trivial
theorem lsubN {o : Option MV} {t l : List (Option MV)} (h : sbL t l) : sbL (none :: t) (o :: l) := h
theorem lsubS {v : MV} {t l : List (Option MV)} (h : sbL t l) : sbL (some v :: t) (some v :: l) := ⟨rfl, h⟩
theorem sbL_get : ∀ (t l : List (Option MV)), sbL t l → ∀ (i : Nat) (v : MV), t[i]? = some (some v) → l[i]? = some (some v)
  | [], l, _, i, v, h => by simp at h
  | none :: t, l, hl, 0, v, h => by cases h
  | none :: t, l, hl, i + 1, v, h => by
    have h1 := sbL_get t l.tail hl i v h
    cases l with
    | nil => simp at h1
    | cons a b => exact h1
  | some u :: t, l, hl, 0, v, h => by
    cases h
    cases l with
    | nil => cases hl.1
    | cons a b => exact hl.1
  | some u :: t, l, hl, i + 1, v, h => by
    have h1 := sbL_get t l.tail hl.2 i v h
    cases l with
    | nil => simp at h1
    | cons a b => exact h1
theorem Ev.weak2 {M : MD} {d pc : Nat} {lv lv' : List (Option MV)} {stk : List MV} {sh : Sh} {σ : St} {r : Option MV × Sh × St} (h : Ev M d pc lv' stk sh σ r) (hw : sbL lv' lv) : Ev M d pc lv stk sh σ r := h.weak (sbL_get _ _ hw)
theorem Ev.nmI {M : MD} {d pc : Nat} {lv : List (Option MV)} {stk : List MV} {sh : Sh} {σ : St} {r : Option MV × Sh × St} {e : Int32} (k : ∀ y, y = e → Ev M d pc lv (vI y :: stk) sh σ r) : Ev M d pc lv (vI e :: stk) sh σ r := k e rfl
theorem Ev.nmL {M : MD} {d pc : Nat} {lv : List (Option MV)} {stk : List MV} {sh : Sh} {σ : St} {r : Option MV × Sh × St} {e : Int64} (k : ∀ y, y = e → Ev M d pc lv (vL y :: stk) sh σ r) : Ev M d pc lv (vL e :: stk) sh σ r := k e rfl
theorem Ev.nmS {M : MD} {d pc : Nat} {lv : List (Option MV)} {stk : List MV} {sh : Sh} {σ : St} {r : Option MV × Sh × St} (k : ∀ τ, τ = σ → Ev M d pc lv stk sh τ r) : Ev M d pc lv stk sh σ r := k σ rfl
theorem Ev.nmQ {M : MD} {d pc : Nat} {lv : List (Option MV)} {stk : List MV} {sh : Sh} {r : Option MV × Sh × St} {q0 : Int32 × St} (k : ∀ q, q = q0 → Ev M d pc lv (vI q.1 :: stk) sh q.2 r) : Ev M d pc lv (vI q0.1 :: stk) sh q0.2 r := k q0 rfl
theorem neI {x c : Int32} {n : Int} (h : ¬ x = c) (hc : c.toInt = n) : ¬ x.toInt = n := fun e => h (Int32.toInt_inj.mp (e.trans hc.symm))
theorem not_mem_nil9 {x : Int} : x ∉ ([] : List Int) := List.not_mem_nil
theorem not_mem_cons9 {x a : Int} {l : List Int} (h : ¬ x = a) (hl : x ∉ l) : x ∉ a :: l := fun q => (List.mem_cons.mp q).elim h hl
theorem Ev.swC {M : MD} {d pc : Nat} {lv : List (Option MV)} {stk : List MV} {sh : Sh} {σ : St} {r : Option MV × Sh × St} {dflt lo hi : Int} {offs : Array Int} {len : Nat} {x c : Int32} {off : Int} {tgt : Nat} (hd : decode M.2.1 pc = .ok (.tableswitch dflt lo hi offs, len)) (hc : x = c) (h1 : ¬ c.toInt < lo) (h2 : ¬ hi < c.toInt) (ho : offs[(c.toInt - lo).toNat]? = some off) (ht : (pc : Int) + off = (tgt : Int)) (h : Ev M d tgt lv stk sh σ r) : Ev M d pc lv (vI x :: stk) sh σ r := by
  subst hc
  exact Ev.swIn hd h1 h2 ho ht h
theorem Ev.swD {M : MD} {d pc : Nat} {lv : List (Option MV)} {stk : List MV} {sh : Sh} {σ : St} {r : Option MV × Sh × St} {dflt lo hi : Int} {offs : Array Int} {len : Nat} {x : Int32} {tgt : Nat} {tl : List Int} (hd : decode M.2.1 pc = .ok (.tableswitch dflt lo hi offs, len)) (hx : x.toInt ∉ tl) (hs : ((offs.size : Int) == hi - lo + 1) = true) (hofs : ((List.range offs.size).all fun i => offs[i]? == some dflt || tl.contains (lo + (i : Int))) = true) (ht : (pc : Int) + dflt = (tgt : Int)) (h : Ev M d tgt lv stk sh σ r) : Ev M d pc lv (vI x :: stk) sh σ r := by
  by_cases h1 : x.toInt < lo
  · exact Ev.swOut hd (Or.inl h1) ht h
  by_cases h2 : hi < x.toInt
  · exact Ev.swOut hd (Or.inr h2) ht h
  have hs' : (offs.size : Int) = hi - lo + 1 := by simpa using hs
  have hi' : (x.toInt - lo).toNat < offs.size := by omega
  have := List.all_eq_true.mp hofs _ (List.mem_range.mpr hi')
  rw [Bool.or_eq_true] at this
  rcases this with q | q
  · exact Ev.swIn hd h1 h2 (by simpa using q) ht h
  · exfalso
    have e : lo + (((x.toInt - lo).toNat : Nat) : Int) = x.toInt := by omega
    rw [e] at q
    exact hx (by simpa using q)
section CALLS2
variable {M N : MD} {d d' pc n idx : Nat} {lv : List (Option MV)} {sh : Sh} {σ σ1 : St} {r : Option MV × Sh × St}
theorem Ev.cVi {ci k nn : Nat} {rs : List (Option (Option Nat))} {x : Int32} {av rest : List MV} (hd : decode M.2.1 pc = .ok (.invokevirtual idx, 3)) (hc : CeV N n) (hl : LkM M.1.cls idx N.1) (hn : av.length = n) (hk : sh[k]? = some (ci + 3, nn, rs)) (hcl : ∃ q, vwCl[ci]? = some q ∧ q.1 = N.1.cls) (hsc : sh.length ≤ SCI) (hr : (rest.map cat).sum ≤ 8) (hd' : d' + 1 ≤ d) (hR : Rn N d' (vR k :: av) sh σ (some (vI x), sh, σ1)) (h : Ev M d (pc + 3) lv (vI x :: rest) sh σ1 r) : Ev M d pc lv (av.reverse ++ vR k :: rest) sh σ r := Ev.callV hd hc hl hn hk hcl hsc hr hd' hR h
theorem Ev.cVq {ci k nn : Nat} {rs : List (Option (Option Nat))} {x : Option Nat} {av rest : List MV} (hd : decode M.2.1 pc = .ok (.invokevirtual idx, 3)) (hc : CeV N n) (hl : LkM M.1.cls idx N.1) (hn : av.length = n) (hk : sh[k]? = some (ci + 3, nn, rs)) (hcl : ∃ q, vwCl[ci]? = some q ∧ q.1 = N.1.cls) (hsc : sh.length ≤ SCI) (hr : (rest.map cat).sum ≤ 8) (hd' : d' + 1 ≤ d) (hR : Rn N d' (vR k :: av) sh σ (some (.inr (.inr x)), sh, σ1)) (h : Ev M d (pc + 3) lv (.inr (.inr x) :: rest) sh σ1 r) : Ev M d pc lv (av.reverse ++ vR k :: rest) sh σ r := Ev.callV hd hc hl hn hk hcl hsc hr hd' hR h
theorem Ev.cVv {ci k nn : Nat} {rs : List (Option (Option Nat))} {av rest : List MV} (hd : decode M.2.1 pc = .ok (.invokevirtual idx, 3)) (hc : CeV N n) (hl : LkM M.1.cls idx N.1) (hn : av.length = n) (hk : sh[k]? = some (ci + 3, nn, rs)) (hcl : ∃ q, vwCl[ci]? = some q ∧ q.1 = N.1.cls) (hsc : sh.length ≤ SCI) (hr : (rest.map cat).sum ≤ 8) (hd' : d' + 1 ≤ d) (hR : Rn N d' (vR k :: av) sh σ (none, sh, σ1)) (h : Ev M d (pc + 3) lv rest sh σ1 r) : Ev M d pc lv (av.reverse ++ vR k :: rest) sh σ r := Ev.callV hd hc hl hn hk hcl hsc hr hd' hR h
theorem Ev.cTi {x : Int32} {av rest : List MV} (hd : decode M.2.1 pc = .ok (.invokestatic idx, 3)) (hc : CeT N n) (hl : LkM M.1.cls idx N.1) (hn : av.length = n) (hsc : sh.length ≤ SCI) (hr : (rest.map cat).sum ≤ 8) (hd' : d' + 1 ≤ d) (hR : Rn N d' av sh σ (some (vI x), sh, σ1)) (h : Ev M d (pc + 3) lv (vI x :: rest) sh σ1 r) : Ev M d pc lv (av.reverse ++ rest) sh σ r := Ev.callT hd hc hl hn hsc hr hd' hR h
theorem Ev.cTq {x : Option Nat} {av rest : List MV} (hd : decode M.2.1 pc = .ok (.invokestatic idx, 3)) (hc : CeT N n) (hl : LkM M.1.cls idx N.1) (hn : av.length = n) (hsc : sh.length ≤ SCI) (hr : (rest.map cat).sum ≤ 8) (hd' : d' + 1 ≤ d) (hR : Rn N d' av sh σ (some (.inr (.inr x)), sh, σ1)) (h : Ev M d (pc + 3) lv (.inr (.inr x) :: rest) sh σ1 r) : Ev M d pc lv (av.reverse ++ rest) sh σ r := Ev.callT hd hc hl hn hsc hr hd' hR h
theorem Ev.cTv {av rest : List MV} (hd : decode M.2.1 pc = .ok (.invokestatic idx, 3)) (hc : CeT N n) (hl : LkM M.1.cls idx N.1) (hn : av.length = n) (hsc : sh.length ≤ SCI) (hr : (rest.map cat).sum ≤ 8) (hd' : d' + 1 ≤ d) (hR : Rn N d' av sh σ (none, sh, σ1)) (h : Ev M d (pc + 3) lv rest sh σ1 r) : Ev M d pc lv (av.reverse ++ rest) sh σ r := Ev.callT hd hc hl hn hsc hr hd' hR h
end CALLS2
/-! reading and writing a row where it has such a place -/
def at_ (σ : St) (k n : Nat) (i : Int32) : Int32 := if i < 0 then 0 else if Int32.ofNat n ≤ i then 0 else σ k i.toNatClampNeg
def put_ (σ : St) (k n : Nat) (i x : Int32) : St := if i < 0 then σ else if Int32.ofNat n ≤ i then σ else st σ k i.toNatClampNeg x
def rwA_ (b n : Nat) (i : Int32) : Option Nat := if i < 0 then none else if Int32.ofNat n ≤ i then none else some (b + i.toNatClampNeg)
/-- the first places of one row into another -/
def cp_ (σ : St) (a b n : Nat) : St := fun k => if k = b then fun j => if j < n then σ a j else σ b j else σ k
def cpO_ (σ : St) (a b : Option Nat) (n m : Nat) : St := match a, b with
  | some a, some b => cp_ σ a b (min n m)
  | _, _ => σ
theorem in_of {i : Int32} {n : Nat} (hn : n < 2 ^ 31) (h1 : ¬ i < 0) (h2 : ¬ Int32.ofNat n ≤ i) : vp_in i n := by
  intro h
  rcases h with h | h
  · exact h1 h
  · apply h2
    rw [Int32.le_iff_toInt_le]
    have h3 : (Int32.ofNat n).toInt = n := Int32.toInt_ofNat_of_lt hn
    rw [h3]
    have h4 : i.toNatClampNeg = i.toInt.toNat := rfl
    rw [h4] at h
    have h5 : 0 ≤ i.toInt := by
      have := h1
      rw [Int32.lt_iff_toInt_lt] at this
      simpa using this
    omega
theorem hs_some {k c n : Nat} {rs : List (Option (Option Nat))} (h : SH[k]? = some (c, n, rs)) : ∀ q, some k = some q → ∃ rs, SH[q]? = some (c, n, rs) := fun q e => by
  cases e
  exact ⟨_, h⟩

