/-! the shapes of the two worlds; support for the walks -/
def SX : List ZShp := [(0, 9, [some 1, some 12, none, some 23, none, some 27, some 28, some 40, some 50, some 64, some 67, some 70, some 85]), (0, 2, [some 2, some 3, none, some 4, none, some 5, none]), (2, 7, []), (2, 7, []), (1, 16, []), (3, 2, zz_rw1 6 6), (0, 1, [none, none, none]), (0, 1, [none, none, none]), (0, 1, [none, none, none]), (0, 1, [none, none, none]), (0, 1, [none, none, none]), (0, 1, [none, none, none]), (0, 2, [some 13, some 14, none, some 15, none, some 16, none]), (2, 7, []), (2, 7, []), (1, 16, []), (3, 2, zz_rw1 17 6), (0, 1, [none, none, none]), (0, 1, [none, none, none]), (0, 1, [none, none, none]), (0, 1, [none, none, none]), (0, 1, [none, none, none]), (0, 1, [none, none, none]), (0, 7, [some 24, some 25, some 26, none, none, none, none]), (1, 60, []), (2, 7, []), (2, 7, []), (3, 3, zz_rw2 86 4), (0, 6, [some 29, some 30, some 31, some 39, none, none, none]), (2, 7, []), (2, 7, []), (3, 4, zz_rw1 32 7), (2, 4, []), (2, 4, []), (2, 4, []), (2, 4, []), (2, 4, []), (2, 4, []), (2, 4, []), (1, 7, []), (0, 0, [some 41, some 49, none, none]), (3, 4, zz_rw1 42 7), (2, 7, []), (2, 7, []), (2, 7, []), (2, 7, []), (2, 7, []), (2, 7, []), (2, 7, []), (2, 7, []), (0, 5, [some 51, some 52]), (2, 7, []), (0, 6, [some 53, some 54, some 55, some 63, none, none, none]), (2, 7, []), (2, 7, []), (3, 4, zz_rw1 56 7), (2, 4, []), (2, 4, []), (2, 4, []), (2, 4, []), (2, 4, []), (2, 4, []), (2, 4, []), (1, 7, []), (0, 4, [none, some 65, some 66, none, none]), (1, 101, []), (1, 101, []), (0, 4, [none, some 68, some 69, none, none]), (1, 101, []), (1, 101, []), (0, 3, [some 71, some 72, some 84, none]), (2, 7, []), (0, 6, [some 73, some 74, some 75, some 83, none, none, none]), (2, 7, []), (2, 7, []), (3, 4, zz_rw1 76 7), (2, 4, []), (2, 4, []), (2, 4, []), (2, 4, []), (2, 4, []), (2, 4, []), (2, 4, []), (1, 7, []), (1, 201, []), (2, 7, []), (0, 8, [some 87, none, none]), (2, 30, []), (0, 8, [some 89, none, none]), (2, 30, []), (0, 8, [some 91, none, none]), (2, 30, []), (0, 8, [some 93, none, none]), (2, 30, [])]
theorem sX_0 : SX[0]? = some (0, 9, [some 1, some 12, none, some 23, none, some 27, some 28, some 40, some 50, some 64, some 67, some 70, some 85]) := rfl
theorem sX_1 : SX[1]? = some (0, 2, [some 2, some 3, none, some 4, none, some 5, none]) := rfl
theorem sX_2 : SX[2]? = some (2, 7, []) := rfl
theorem sX_3 : SX[3]? = some (2, 7, []) := rfl
theorem sX_4 : SX[4]? = some (1, 16, []) := rfl
theorem sX_5 : SX[5]? = some (3, 2, zz_rw1 6 6) := rfl
theorem sX_6 : SX[6]? = some (0, 1, [none, none, none]) := rfl
theorem sX_7 : SX[7]? = some (0, 1, [none, none, none]) := rfl
theorem sX_8 : SX[8]? = some (0, 1, [none, none, none]) := rfl
theorem sX_9 : SX[9]? = some (0, 1, [none, none, none]) := rfl
theorem sX_10 : SX[10]? = some (0, 1, [none, none, none]) := rfl
theorem sX_11 : SX[11]? = some (0, 1, [none, none, none]) := rfl
theorem sX_12 : SX[12]? = some (0, 2, [some 13, some 14, none, some 15, none, some 16, none]) := rfl
theorem sX_13 : SX[13]? = some (2, 7, []) := rfl
theorem sX_14 : SX[14]? = some (2, 7, []) := rfl
theorem sX_15 : SX[15]? = some (1, 16, []) := rfl
theorem sX_16 : SX[16]? = some (3, 2, zz_rw1 17 6) := rfl
theorem sX_17 : SX[17]? = some (0, 1, [none, none, none]) := rfl
theorem sX_18 : SX[18]? = some (0, 1, [none, none, none]) := rfl
theorem sX_19 : SX[19]? = some (0, 1, [none, none, none]) := rfl
theorem sX_20 : SX[20]? = some (0, 1, [none, none, none]) := rfl
theorem sX_21 : SX[21]? = some (0, 1, [none, none, none]) := rfl
theorem sX_22 : SX[22]? = some (0, 1, [none, none, none]) := rfl
theorem sX_23 : SX[23]? = some (0, 7, [some 24, some 25, some 26, none, none, none, none]) := rfl
theorem sX_24 : SX[24]? = some (1, 60, []) := rfl
theorem sX_25 : SX[25]? = some (2, 7, []) := rfl
theorem sX_26 : SX[26]? = some (2, 7, []) := rfl
theorem sX_27 : SX[27]? = some (3, 3, zz_rw2 86 4) := rfl
theorem sX_28 : SX[28]? = some (0, 6, [some 29, some 30, some 31, some 39, none, none, none]) := rfl
theorem sX_29 : SX[29]? = some (2, 7, []) := rfl
theorem sX_30 : SX[30]? = some (2, 7, []) := rfl
theorem sX_31 : SX[31]? = some (3, 4, zz_rw1 32 7) := rfl
theorem sX_32 : SX[32]? = some (2, 4, []) := rfl
theorem sX_33 : SX[33]? = some (2, 4, []) := rfl
theorem sX_34 : SX[34]? = some (2, 4, []) := rfl
theorem sX_35 : SX[35]? = some (2, 4, []) := rfl
theorem sX_36 : SX[36]? = some (2, 4, []) := rfl
theorem sX_37 : SX[37]? = some (2, 4, []) := rfl
theorem sX_38 : SX[38]? = some (2, 4, []) := rfl
theorem sX_39 : SX[39]? = some (1, 7, []) := rfl
theorem sX_40 : SX[40]? = some (0, 0, [some 41, some 49, none, none]) := rfl
theorem sX_41 : SX[41]? = some (3, 4, zz_rw1 42 7) := rfl
theorem sX_42 : SX[42]? = some (2, 7, []) := rfl
theorem sX_43 : SX[43]? = some (2, 7, []) := rfl
theorem sX_44 : SX[44]? = some (2, 7, []) := rfl
theorem sX_45 : SX[45]? = some (2, 7, []) := rfl
theorem sX_46 : SX[46]? = some (2, 7, []) := rfl
theorem sX_47 : SX[47]? = some (2, 7, []) := rfl
theorem sX_48 : SX[48]? = some (2, 7, []) := rfl
theorem sX_49 : SX[49]? = some (2, 7, []) := rfl
theorem sX_50 : SX[50]? = some (0, 5, [some 51, some 52]) := rfl
theorem sX_51 : SX[51]? = some (2, 7, []) := rfl
theorem sX_52 : SX[52]? = some (0, 6, [some 53, some 54, some 55, some 63, none, none, none]) := rfl
theorem sX_53 : SX[53]? = some (2, 7, []) := rfl
theorem sX_54 : SX[54]? = some (2, 7, []) := rfl
theorem sX_55 : SX[55]? = some (3, 4, zz_rw1 56 7) := rfl
theorem sX_56 : SX[56]? = some (2, 4, []) := rfl
theorem sX_57 : SX[57]? = some (2, 4, []) := rfl
theorem sX_58 : SX[58]? = some (2, 4, []) := rfl
theorem sX_59 : SX[59]? = some (2, 4, []) := rfl
theorem sX_60 : SX[60]? = some (2, 4, []) := rfl
theorem sX_61 : SX[61]? = some (2, 4, []) := rfl
theorem sX_62 : SX[62]? = some (2, 4, []) := rfl
theorem sX_63 : SX[63]? = some (1, 7, []) := rfl
theorem sX_64 : SX[64]? = some (0, 4, [none, some 65, some 66, none, none]) := rfl
theorem sX_65 : SX[65]? = some (1, 101, []) := rfl
theorem sX_66 : SX[66]? = some (1, 101, []) := rfl
theorem sX_67 : SX[67]? = some (0, 4, [none, some 68, some 69, none, none]) := rfl
theorem sX_68 : SX[68]? = some (1, 101, []) := rfl
theorem sX_69 : SX[69]? = some (1, 101, []) := rfl
theorem sX_70 : SX[70]? = some (0, 3, [some 71, some 72, some 84, none]) := rfl
theorem sX_71 : SX[71]? = some (2, 7, []) := rfl
theorem sX_72 : SX[72]? = some (0, 6, [some 73, some 74, some 75, some 83, none, none, none]) := rfl
theorem sX_73 : SX[73]? = some (2, 7, []) := rfl
theorem sX_74 : SX[74]? = some (2, 7, []) := rfl
theorem sX_75 : SX[75]? = some (3, 4, zz_rw1 76 7) := rfl
theorem sX_76 : SX[76]? = some (2, 4, []) := rfl
theorem sX_77 : SX[77]? = some (2, 4, []) := rfl
theorem sX_78 : SX[78]? = some (2, 4, []) := rfl
theorem sX_79 : SX[79]? = some (2, 4, []) := rfl
theorem sX_80 : SX[80]? = some (2, 4, []) := rfl
theorem sX_81 : SX[81]? = some (2, 4, []) := rfl
theorem sX_82 : SX[82]? = some (2, 4, []) := rfl
theorem sX_83 : SX[83]? = some (1, 7, []) := rfl
theorem sX_84 : SX[84]? = some (1, 201, []) := rfl
theorem sX_85 : SX[85]? = some (2, 7, []) := rfl
theorem sX_86 : SX[86]? = some (0, 8, [some 87, none, none]) := rfl
theorem sX_87 : SX[87]? = some (2, 30, []) := rfl
theorem sX_88 : SX[88]? = some (0, 8, [some 89, none, none]) := rfl
theorem sX_89 : SX[89]? = some (2, 30, []) := rfl
theorem sX_90 : SX[90]? = some (0, 8, [some 91, none, none]) := rfl
theorem sX_91 : SX[91]? = some (2, 30, []) := rfl
theorem sX_92 : SX[92]? = some (0, 8, [some 93, none, none]) := rfl
theorem sX_93 : SX[93]? = some (2, 30, []) := rfl
def SM : List ZShp := [(0, 10, [some 1, some 2, none, none, none, some 3, some 4, some 5, none, none, none, some 6, some 7, some 8, some 9, some 10, none, some 11, some 12, none, some 13, some 14, none, none, none, none, some 15, some 16, some 17, some 18, none, none]), (1, 51, []), (1, 51, []), (2, 7, []), (2, 7, []), (2, 7, []), (2, 42, []), (2, 6, []), (1, 7, []), (1, 101, []), (1, 101, []), (2, 63, []), (2, 7, []), (1, 60, []), (1, 14, []), (1, 4, []), (1, 4, []), (2, 120, []), (2, 30, [])]
theorem sM_0 : SM[0]? = some (0, 10, [some 1, some 2, none, none, none, some 3, some 4, some 5, none, none, none, some 6, some 7, some 8, some 9, some 10, none, some 11, some 12, none, some 13, some 14, none, none, none, none, some 15, some 16, some 17, some 18, none, none]) := rfl
theorem sM_1 : SM[1]? = some (1, 51, []) := rfl
theorem sM_2 : SM[2]? = some (1, 51, []) := rfl
theorem sM_3 : SM[3]? = some (2, 7, []) := rfl
theorem sM_4 : SM[4]? = some (2, 7, []) := rfl
theorem sM_5 : SM[5]? = some (2, 7, []) := rfl
theorem sM_6 : SM[6]? = some (2, 42, []) := rfl
theorem sM_7 : SM[7]? = some (2, 6, []) := rfl
theorem sM_8 : SM[8]? = some (1, 7, []) := rfl
theorem sM_9 : SM[9]? = some (1, 101, []) := rfl
theorem sM_10 : SM[10]? = some (1, 101, []) := rfl
theorem sM_11 : SM[11]? = some (2, 63, []) := rfl
theorem sM_12 : SM[12]? = some (2, 7, []) := rfl
theorem sM_13 : SM[13]? = some (1, 60, []) := rfl
theorem sM_14 : SM[14]? = some (1, 14, []) := rfl
theorem sM_15 : SM[15]? = some (1, 4, []) := rfl
theorem sM_16 : SM[16]? = some (1, 4, []) := rfl
theorem sM_17 : SM[17]? = some (2, 120, []) := rfl
theorem sM_18 : SM[18]? = some (2, 30, []) := rfl
def zT_Factor (t : Nat) : Prop := SX[t]? = some (0, 1, [none, none, none])
def zT_Tray (t : Nat) : Prop := SX[t]? = some (0, 8, [some (t + 1), none, none]) ∧ SX[t + 1]? = some (2, 30, [])
def zT_Table (t : Nat) : Prop := SX[t]? = some (0, 6, [some (t + 1), some (t + 2), some (t + 3), some (t + 11), none, none, none]) ∧ SX[t + 1]? = some (2, 7, []) ∧ SX[t + 2]? = some (2, 7, []) ∧ SX[t + 3]? = some (3, 4, zz_rw1 (t + 4) 7) ∧ (∀ i, i < 7 → SX[t + 4 + i]? = some (2, 4, [])) ∧ SX[t + 11]? = some (1, 7, [])
def zT_Spans (t : Nat) : Prop := SX[t]? = some (0, 4, [none, some (t + 1), some (t + 2), none, none]) ∧ SX[t + 1]? = some (1, 101, []) ∧ SX[t + 2]? = some (1, 101, [])
theorem zcX_28 : zT_Table 28 := ⟨rfl, rfl, rfl, rfl, by decide, rfl⟩
theorem zcX_52 : zT_Table 52 := ⟨rfl, rfl, rfl, rfl, by decide, rfl⟩
theorem zcX_72 : zT_Table 72 := ⟨rfl, rfl, rfl, rfl, by decide, rfl⟩
theorem zcX_64 : zT_Spans 64 := ⟨rfl, rfl, rfl⟩
theorem zcX_67 : zT_Spans 67 := ⟨rfl, rfl, rfl⟩
theorem sXr_6 : ∀ i, i < 6 → zT_Factor (6 + i) := by unfold zT_Factor; decide
theorem sXr_17 : ∀ i, i < 6 → zT_Factor (17 + i) := by unfold zT_Factor; decide
theorem sXr_86a : ∀ i, i < 4 → SX[86 + 2 * i]? = some (0, 8, [some (86 + 2 * i + 1), none, none]) := by decide
theorem sXr_86b : ∀ i, i < 4 → SX[86 + 2 * i + 1]? = some (2, 30, []) := by decide
theorem sXr_86 : ∀ i, i < 4 → zT_Tray (86 + 2 * i) := fun i hi => ⟨sXr_86a i hi, sXr_86b i hi⟩
theorem sXr_42 : ∀ i, i < 7 → SX[42 + i]? = some (2, 7, []) := by decide
theorem sXr_32 : ∀ i, i < 7 → SX[32 + i]? = some (2, 4, []) := by decide
theorem sXr_56 : ∀ i, i < 7 → SX[56 + i]? = some (2, 4, []) := by decide
theorem sXr_76 : ∀ i, i < 7 → SX[76 + i]? = some (2, 4, []) := by decide
theorem zv_b_m100 : (Int8.ofInt (-100)).toInt32 = -100 := by decide
theorem zv_b_m11 : (Int8.ofInt (-11)).toInt32 = -11 := by decide
theorem zv_b_m12 : (Int8.ofInt (-12)).toInt32 = -12 := by decide
theorem zv_b_m13 : (Int8.ofInt (-13)).toInt32 = -13 := by decide
theorem zv_b_m14 : (Int8.ofInt (-14)).toInt32 = -14 := by decide
theorem zv_b_m2 : (Int8.ofInt (-2)).toInt32 = -2 := by decide
theorem zv_b_m21 : (Int8.ofInt (-21)).toInt32 = -21 := by decide
theorem zv_b_m3 : (Int8.ofInt (-3)).toInt32 = -3 := by decide
theorem zv_b_m4 : (Int8.ofInt (-4)).toInt32 = -4 := by decide
theorem zv_b_m7 : (Int8.ofInt (-7)).toInt32 = -7 := by decide
theorem zv_b_m99 : (Int8.ofInt (-99)).toInt32 = -99 := by decide
theorem zv_b_10 : (Int8.ofInt (10)).toInt32 = 10 := by decide
theorem zv_b_100 : (Int8.ofInt (100)).toInt32 = 100 := by decide
theorem zv_b_101 : (Int8.ofInt (101)).toInt32 = 101 := by decide
theorem zv_b_115 : (Int8.ofInt (115)).toInt32 = 115 := by decide
theorem zv_b_127 : (Int8.ofInt (127)).toInt32 = 127 := by decide
theorem zv_b_14 : (Int8.ofInt (14)).toInt32 = 14 := by decide
theorem zv_b_15 : (Int8.ofInt (15)).toInt32 = 15 := by decide
theorem zv_b_16 : (Int8.ofInt (16)).toInt32 = 16 := by decide
theorem zv_b_20 : (Int8.ofInt (20)).toInt32 = 20 := by decide
theorem zv_b_21 : (Int8.ofInt (21)).toInt32 = 21 := by decide
theorem zv_b_30 : (Int8.ofInt (30)).toInt32 = 30 := by decide
theorem zv_b_32 : (Int8.ofInt (32)).toInt32 = 32 := by decide
theorem zv_b_33 : (Int8.ofInt (33)).toInt32 = 33 := by decide
theorem zv_b_39 : (Int8.ofInt (39)).toInt32 = 39 := by decide
theorem zv_b_40 : (Int8.ofInt (40)).toInt32 = 40 := by decide
theorem zv_b_41 : (Int8.ofInt (41)).toInt32 = 41 := by decide
theorem zv_b_42 : (Int8.ofInt (42)).toInt32 = 42 := by decide
theorem zv_b_43 : (Int8.ofInt (43)).toInt32 = 43 := by decide
theorem zv_b_45 : (Int8.ofInt (45)).toInt32 = 45 := by decide
theorem zv_b_48 : (Int8.ofInt (48)).toInt32 = 48 := by decide
theorem zv_b_49 : (Int8.ofInt (49)).toInt32 = 49 := by decide
theorem zv_b_50 : (Int8.ofInt (50)).toInt32 = 50 := by decide
theorem zv_b_51 : (Int8.ofInt (51)).toInt32 = 51 := by decide
theorem zv_b_54 : (Int8.ofInt (54)).toInt32 = 54 := by decide
theorem zv_b_57 : (Int8.ofInt (57)).toInt32 = 57 := by decide
theorem zv_b_6 : (Int8.ofInt (6)).toInt32 = 6 := by decide
theorem zv_b_60 : (Int8.ofInt (60)).toInt32 = 60 := by decide
theorem zv_b_7 : (Int8.ofInt (7)).toInt32 = 7 := by decide
theorem zv_b_75 : (Int8.ofInt (75)).toInt32 = 75 := by decide
theorem zv_b_99 : (Int8.ofInt (99)).toInt32 = 99 := by decide
theorem zv_i_m1 : Int32.ofInt (-1) = -1 := by decide
theorem zv_i_0 : Int32.ofInt (0) = 0 := by decide
theorem zv_i_1 : Int32.ofInt (1) = 1 := by decide
theorem zv_i_2 : Int32.ofInt (2) = 2 := by decide
theorem zv_i_3 : Int32.ofInt (3) = 3 := by decide
theorem zv_i_4 : Int32.ofInt (4) = 4 := by decide
theorem zv_l_0 : Int64.ofNat ((0 : Fin 2) : Nat) = 0 := by decide
theorem zv_l_1 : Int64.ofNat ((1 : Fin 2) : Nat) = 1 := by decide
theorem zv_s_m1600 : (Int16.ofInt (-1600)).toInt32 = -1600 := by decide
theorem zv_s_1000 : (Int16.ofInt (1000)).toInt32 = 1000 := by decide
theorem zv_s_10000 : (Int16.ofInt (10000)).toInt32 = 10000 := by decide
theorem zv_s_1600 : (Int16.ofInt (1600)).toInt32 = 1600 := by decide
theorem zv_s_200 : (Int16.ofInt (200)).toInt32 = 200 := by decide
theorem zv_s_201 : (Int16.ofInt (201)).toInt32 = 201 := by decide
theorem zM_go {S : List ZShp} {y : MethodName} {bytes : ByteArray} {maxL : Nat} {ret : Option FieldType} {d : Nat} {As : List Value} {μ : ZMem} {Φ : Option Value → ZMem → Prop} {own : String} (ho : y.cls = own) (hy : plainName y.cls = true) (hlen : (lg_sl As).length ≤ maxL) (hb : ∀ E : ZCx, zz_Ok E bytes maxL own ret d S → zZ E Φ 0 (lv_args 0 As) [] μ) : zM S y bytes maxL ret d As μ Φ := zM_intro hy hlen (fun E hE => hb E (ho ▸ hE))
theorem zn {α : Type} {e : α} {F G : α → Prop} (h : nm e F) (k : ∀ v, F v → G v) : G e := k e h
theorem zin {i : Int32} {n : Nat} (h : ¬ (i < 0 ∨ n ≤ i.toNatClampNeg)) : vp_in i n := h
theorem z_join {α : Type} {K : α} {F : α → Prop} {G : Prop} {P : α → Prop} (h : nm K F) (hP : P K) (k : ∀ J, P J → F J → G) : G := k K hP h
theorem z_loop1 {A : Type} {body : A → (A → Prop) → Prop} {P : A → Prop} (hs : ∀ k : A → Prop, (∀ a, k a → P a) → ∀ a, body a k → P a) : ∀ n a, lpz1 body n a → P a := by
  intro n
  induction n with
  | zero => intro a hh; exact hh.elim
  | succ n ih => intro a hh; exact hs _ ih a hh
theorem z_loop2 {A B : Type} {body : A → B → (A → B → Prop) → Prop} {P : A → B → Prop} (hs : ∀ k : A → B → Prop, (∀ a b, k a b → P a b) → ∀ a b, body a b k → P a b) : ∀ n a b, lpz2 body n a b → P a b := by
  intro n
  induction n with
  | zero => intro a b hh; exact hh.elim
  | succ n ih => intro a b hh; exact hs _ ih a b hh
theorem z_loop3 {A B C : Type} {body : A → B → C → (A → B → C → Prop) → Prop} {P : A → B → C → Prop} (hs : ∀ k : A → B → C → Prop, (∀ a b c, k a b c → P a b c) → ∀ a b c, body a b c k → P a b c) : ∀ n a b c, lpz3 body n a b c → P a b c := by
  intro n
  induction n with
  | zero => intro a b c hh; exact hh.elim
  | succ n ih => intro a b c hh; exact hs _ ih a b c hh
theorem z_loop4 {A B C D : Type} {body : A → B → C → D → (A → B → C → D → Prop) → Prop} {P : A → B → C → D → Prop} (hs : ∀ k : A → B → C → D → Prop, (∀ a b c d, k a b c d → P a b c d) → ∀ a b c d, body a b c d k → P a b c d) : ∀ n a b c d, lpz4 body n a b c d → P a b c d := by
  intro n
  induction n with
  | zero => intro a b c d hh; exact hh.elim
  | succ n ih => intro a b c d hh; exact hs _ ih a b c d hh
theorem z_loop5 {A B C D E : Type} {body : A → B → C → D → E → (A → B → C → D → E → Prop) → Prop} {P : A → B → C → D → E → Prop} (hs : ∀ k : A → B → C → D → E → Prop, (∀ a b c d e, k a b c d e → P a b c d e) → ∀ a b c d e, body a b c d e k → P a b c d e) : ∀ n a b c d e, lpz5 body n a b c d e → P a b c d e := by
  intro n
  induction n with
  | zero => intro a b c d e hh; exact hh.elim
  | succ n ih => intro a b c d e hh; exact hs _ ih a b c d e hh
theorem z_loop6 {A B C D E F : Type} {body : A → B → C → D → E → F → (A → B → C → D → E → F → Prop) → Prop} {P : A → B → C → D → E → F → Prop} (hs : ∀ k : A → B → C → D → E → F → Prop, (∀ a b c d e f, k a b c d e f → P a b c d e f) → ∀ a b c d e f, body a b c d e f k → P a b c d e f) : ∀ n a b c d e f, lpz6 body n a b c d e f → P a b c d e f := by
  intro n
  induction n with
  | zero => intro a b c d e f hh; exact hh.elim
  | succ n ih => intro a b c d e f hh; exact hs _ ih a b c d e f hh
theorem z_loop7 {A B C D E F G : Type} {body : A → B → C → D → E → F → G → (A → B → C → D → E → F → G → Prop) → Prop} {P : A → B → C → D → E → F → G → Prop} (hs : ∀ k : A → B → C → D → E → F → G → Prop, (∀ a b c d e f g, k a b c d e f g → P a b c d e f g) → ∀ a b c d e f g, body a b c d e f g k → P a b c d e f g) : ∀ n a b c d e f g, lpz7 body n a b c d e f g → P a b c d e f g := by
  intro n
  induction n with
  | zero => intro a b c d e f g hh; exact hh.elim
  | succ n ih => intro a b c d e f g hh; exact hs _ ih a b c d e f g hh
theorem z_loop8 {A B C D E F G H : Type} {body : A → B → C → D → E → F → G → H → (A → B → C → D → E → F → G → H → Prop) → Prop} {P : A → B → C → D → E → F → G → H → Prop} (hs : ∀ k : A → B → C → D → E → F → G → H → Prop, (∀ a b c d e f g h, k a b c d e f g h → P a b c d e f g h) → ∀ a b c d e f g h, body a b c d e f g h k → P a b c d e f g h) : ∀ n a b c d e f g h, lpz8 body n a b c d e f g h → P a b c d e f g h := by
  intro n
  induction n with
  | zero => intro a b c d e f g h hh; exact hh.elim
  | succ n ih => intro a b c d e f g h hh; exact hs _ ih a b c d e f g h hh
def zzPI (Φ : Int32 → Prop) (μ0 : ZMem) : Option Value → ZMem → Prop := fun r μ => ∃ v, r = some (.int v) ∧ μ = μ0 ∧ Φ v
def zzPJ (Φ : Int64 → Prop) (μ0 : ZMem) : Option Value → ZMem → Prop := fun r μ => ∃ v, r = some (.long v) ∧ μ = μ0 ∧ Φ v
theorem zk_PI {E : ZCx} {Φ : Option Value → ZMem → Prop} {pc : Nat} {lv : List (Nat × Value)} {st : List Value} {μ : ZMem} {Ψ : Int32 → Prop} (k : ∀ v, Ψ v → zZ E Φ pc lv (.int v :: st) μ) : ∀ r μ', zzPI Ψ μ r μ' → zZ E Φ pc lv (r.toList ++ st) μ' := by
  rintro r μ' ⟨v, rfl, rfl, h⟩
  exact k v h
theorem zk_PJ {E : ZCx} {Φ : Option Value → ZMem → Prop} {pc : Nat} {lv : List (Nat × Value)} {st : List Value} {μ : ZMem} {Ψ : Int64 → Prop} (k : ∀ v, Ψ v → zZ E Φ pc lv (.long v :: st) μ) : ∀ r μ', zzPJ Ψ μ r μ' → zZ E Φ pc lv (r.toList ++ st) μ' := by
  rintro r μ' ⟨v, rfl, rfl, h⟩
  exact k v h
/-- a truth value -/
def zbool (v : Int32) : Prop := v = 0 ∨ v = 1
theorem zb_n {v : Int32} (h : zbool v) : narrow .boolean (.int v) = .int v := by rcases h with rfl | rfl <;> decide
theorem zb_f {v : Int32} (h : zbool v) : fits .boolean (.int v) = true := by rcases h with rfl | rfl <;> decide
theorem zz_rw1_at {b n j : Nat} (h : j < n) : (zz_rw1 b n)[j]? = some (some (b + j)) := by simp [zz_rw1, h]
theorem zz_rw2_at {b n j : Nat} (h : j < n) : (zz_rw2 b n)[j]? = some (some (b + 2 * j)) := by simp [zz_rw2, h]
theorem z_aald1 {E : ZCx} {cc : ByteArray} {nL : Nat} {own : String} {rt : Option FieldType} {d : Nat} {S : List ZShp} {Φ : Option Value → ZMem → Prop} {pc : Nat} {lv : List (Nat × Value)} {st : List Value} {μ : ZMem} (hE : zz_Ok E cc nL own rt d S) {a w n b : Nat} {i : Int32} {C : FieldType} (hd : decode cc pc = .ok (.aaload, 1)) (hs : S[a]? = some (3, w, zz_rw1 b n)) (hw : ∀ cy : Nat → ClassId, (zz_tys cy)[w]? = some (cy w, C)) (hC : C.isReference = true) (hin : vp_in i n) (k : zZ E Φ (pc + 1) lv (.ref (b + i.toNatClampNeg) :: st) μ) : zZ E Φ pc lv (.int i :: .ref a :: st) μ := z_aald (b := b) hE hd hs hw hC (fun j hj => zz_rw1_at hj) hin k
theorem z_aald2 {E : ZCx} {cc : ByteArray} {nL : Nat} {own : String} {rt : Option FieldType} {d : Nat} {S : List ZShp} {Φ : Option Value → ZMem → Prop} {pc : Nat} {lv : List (Nat × Value)} {st : List Value} {μ : ZMem} (hE : zz_Ok E cc nL own rt d S) {a w n b : Nat} {i : Int32} {C : FieldType} (hd : decode cc pc = .ok (.aaload, 1)) (hs : S[a]? = some (3, w, zz_rw2 b n)) (hw : ∀ cy : Nat → ClassId, (zz_tys cy)[w]? = some (cy w, C)) (hC : C.isReference = true) (hin : vp_in i n) (k : zZ E Φ (pc + 1) lv (.ref (b + 2 * i.toNatClampNeg) :: st) μ) : zZ E Φ pc lv (.int i :: .ref a :: st) μ := z_aald (b := b) hE hd hs hw hC (fun j hj => zz_rw2_at hj) hin k
theorem zlc_tri (x y : Int64) : (x < y ∧ lg_cmp x y = -1) ∨ (x = y ∧ lg_cmp x y = 0) ∨ (y < x ∧ lg_cmp x y = 1) := by
  unfold lg_cmp
  by_cases h1 : y < x
  · exact Or.inr (Or.inr ⟨h1, by simp [h1]⟩)
  · by_cases h2 : x = y
    · exact Or.inr (Or.inl ⟨h2, by subst h2; simp [h1]⟩)
    · have h3 : x < y := by
        rcases Int64.lt_or_eq_of_le (Int64.not_lt.mp h1) with h | h
        · exact h
        · exact absurd h h2
      exact Or.inl ⟨h3, by simp [h1, h2, h3]⟩
theorem zlc_lt (x y : Int64) : lg_cmp x y < 0 ↔ x < y := by
  rcases zlc_tri x y with ⟨h, e⟩ | ⟨h, e⟩ | ⟨h, e⟩ <;> rw [e]
  · exact ⟨fun _ => h, fun _ => by decide⟩
  · subst h; exact ⟨fun q => absurd q (by decide), fun q => absurd q Int64.lt_irrefl⟩
  · exact ⟨fun q => absurd q (by decide), fun q => absurd (Int64.lt_trans q h) Int64.lt_irrefl⟩
theorem zlc_gt (x y : Int64) : 0 < lg_cmp x y ↔ y < x := by
  rcases zlc_tri x y with ⟨h, e⟩ | ⟨h, e⟩ | ⟨h, e⟩ <;> rw [e]
  · exact ⟨fun q => absurd q (by decide), fun q => absurd (Int64.lt_trans q h) Int64.lt_irrefl⟩
  · subst h; exact ⟨fun q => absurd q (by decide), fun q => absurd q Int64.lt_irrefl⟩
  · exact ⟨fun _ => h, fun _ => by decide⟩
theorem zlc_eq (x y : Int64) : lg_cmp x y = 0 ↔ x = y := by
  rcases zlc_tri x y with ⟨h, e⟩ | ⟨h, e⟩ | ⟨h, e⟩ <;> rw [e]
  · exact ⟨fun q => absurd q (by decide), fun q => by subst q; exact absurd h Int64.lt_irrefl⟩
  · exact ⟨fun _ => h, fun _ => rfl⟩
  · exact ⟨fun q => absurd q (by decide), fun q => by subst q; exact absurd h Int64.lt_irrefl⟩
theorem zlc_ge (x y : Int64) : 0 ≤ lg_cmp x y ↔ y ≤ x := by
  rw [← Int32.not_lt, zlc_lt, Int64.not_lt]
theorem zlc_le (x y : Int64) : lg_cmp x y ≤ 0 ↔ x ≤ y := by
  rw [← Int32.not_lt, zlc_gt, Int64.not_lt]
theorem z_ljmp_eq {E : ZCx} {cc : ByteArray} {nL : Nat} {own : String} {rt : Option FieldType} {d : Nat} {S : List ZShp} {Φ : Option Value → ZMem → Prop} {pc : Nat} {lv : List (Nat × Value)} {st : List Value} {μ : ZMem} (hE : zz_Ok E cc nL own rt d S) {x y : Int64} {off : Int} {tgt : Nat} {A B : Prop} (hd : decode cc pc = .ok (.lcmp, 1)) (hd2 : decode cc (pc + 1) = .ok (.ifCond .eq off, 3)) (ht : ((pc + 1 : Nat) : Int) + off = (tgt : Int)) (h : (x = y → A) ∧ (¬ x = y → B)) (kt : A → zZ E Φ tgt lv st μ) (kf : B → zZ E Φ (pc + 1 + 3) lv st μ) : zZ E Φ pc lv (.long y :: .long x :: st) μ := by
  refine z_lcmp hE hd (z_if_eq (A := A) (B := B) hE hd2 ht ⟨fun q => h.1 ?_, fun q => h.2 ?_⟩ kt kf)
  · exact (zlc_eq x y).mp q
  · exact fun r => q ((zlc_eq x y).mpr r)
theorem z_ljmp_ne {E : ZCx} {cc : ByteArray} {nL : Nat} {own : String} {rt : Option FieldType} {d : Nat} {S : List ZShp} {Φ : Option Value → ZMem → Prop} {pc : Nat} {lv : List (Nat × Value)} {st : List Value} {μ : ZMem} (hE : zz_Ok E cc nL own rt d S) {x y : Int64} {off : Int} {tgt : Nat} {A B : Prop} (hd : decode cc pc = .ok (.lcmp, 1)) (hd2 : decode cc (pc + 1) = .ok (.ifCond .ne off, 3)) (ht : ((pc + 1 : Nat) : Int) + off = (tgt : Int)) (h : (¬ x = y → A) ∧ (x = y → B)) (kt : A → zZ E Φ tgt lv st μ) (kf : B → zZ E Φ (pc + 1 + 3) lv st μ) : zZ E Φ pc lv (.long y :: .long x :: st) μ := by
  refine z_lcmp hE hd (z_if_ne (A := A) (B := B) hE hd2 ht ⟨fun q => h.1 ?_, fun q => h.2 ?_⟩ kt kf)
  · exact fun r => q ((zlc_eq x y).mpr r)
  · exact (zlc_eq x y).mp q
theorem z_ljmp_lt {E : ZCx} {cc : ByteArray} {nL : Nat} {own : String} {rt : Option FieldType} {d : Nat} {S : List ZShp} {Φ : Option Value → ZMem → Prop} {pc : Nat} {lv : List (Nat × Value)} {st : List Value} {μ : ZMem} (hE : zz_Ok E cc nL own rt d S) {x y : Int64} {off : Int} {tgt : Nat} {A B : Prop} (hd : decode cc pc = .ok (.lcmp, 1)) (hd2 : decode cc (pc + 1) = .ok (.ifCond .lt off, 3)) (ht : ((pc + 1 : Nat) : Int) + off = (tgt : Int)) (h : (x < y → A) ∧ (¬ x < y → B)) (kt : A → zZ E Φ tgt lv st μ) (kf : B → zZ E Φ (pc + 1 + 3) lv st μ) : zZ E Φ pc lv (.long y :: .long x :: st) μ := by
  refine z_lcmp hE hd (z_if_lt (A := A) (B := B) hE hd2 ht ⟨fun q => h.1 ?_, fun q => h.2 ?_⟩ kt kf)
  · exact (zlc_lt x y).mp q
  · exact fun r => q ((zlc_lt x y).mpr r)
theorem z_ljmp_ge {E : ZCx} {cc : ByteArray} {nL : Nat} {own : String} {rt : Option FieldType} {d : Nat} {S : List ZShp} {Φ : Option Value → ZMem → Prop} {pc : Nat} {lv : List (Nat × Value)} {st : List Value} {μ : ZMem} (hE : zz_Ok E cc nL own rt d S) {x y : Int64} {off : Int} {tgt : Nat} {A B : Prop} (hd : decode cc pc = .ok (.lcmp, 1)) (hd2 : decode cc (pc + 1) = .ok (.ifCond .ge off, 3)) (ht : ((pc + 1 : Nat) : Int) + off = (tgt : Int)) (h : (y ≤ x → A) ∧ (¬ y ≤ x → B)) (kt : A → zZ E Φ tgt lv st μ) (kf : B → zZ E Φ (pc + 1 + 3) lv st μ) : zZ E Φ pc lv (.long y :: .long x :: st) μ := by
  refine z_lcmp hE hd (z_if_ge (A := A) (B := B) hE hd2 ht ⟨fun q => h.1 ?_, fun q => h.2 ?_⟩ kt kf)
  · exact (zlc_ge x y).mp q
  · exact fun r => q ((zlc_ge x y).mpr r)
theorem z_ljmp_gt {E : ZCx} {cc : ByteArray} {nL : Nat} {own : String} {rt : Option FieldType} {d : Nat} {S : List ZShp} {Φ : Option Value → ZMem → Prop} {pc : Nat} {lv : List (Nat × Value)} {st : List Value} {μ : ZMem} (hE : zz_Ok E cc nL own rt d S) {x y : Int64} {off : Int} {tgt : Nat} {A B : Prop} (hd : decode cc pc = .ok (.lcmp, 1)) (hd2 : decode cc (pc + 1) = .ok (.ifCond .gt off, 3)) (ht : ((pc + 1 : Nat) : Int) + off = (tgt : Int)) (h : (y < x → A) ∧ (¬ y < x → B)) (kt : A → zZ E Φ tgt lv st μ) (kf : B → zZ E Φ (pc + 1 + 3) lv st μ) : zZ E Φ pc lv (.long y :: .long x :: st) μ := by
  refine z_lcmp hE hd (z_if_gt (A := A) (B := B) hE hd2 ht ⟨fun q => h.1 ?_, fun q => h.2 ?_⟩ kt kf)
  · exact (zlc_gt x y).mp q
  · exact fun r => q ((zlc_gt x y).mpr r)
theorem z_ljmp_le {E : ZCx} {cc : ByteArray} {nL : Nat} {own : String} {rt : Option FieldType} {d : Nat} {S : List ZShp} {Φ : Option Value → ZMem → Prop} {pc : Nat} {lv : List (Nat × Value)} {st : List Value} {μ : ZMem} (hE : zz_Ok E cc nL own rt d S) {x y : Int64} {off : Int} {tgt : Nat} {A B : Prop} (hd : decode cc pc = .ok (.lcmp, 1)) (hd2 : decode cc (pc + 1) = .ok (.ifCond .le off, 3)) (ht : ((pc + 1 : Nat) : Int) + off = (tgt : Int)) (h : (x ≤ y → A) ∧ (¬ x ≤ y → B)) (kt : A → zZ E Φ tgt lv st μ) (kf : B → zZ E Φ (pc + 1 + 3) lv st μ) : zZ E Φ pc lv (.long y :: .long x :: st) μ := by
  refine z_lcmp hE hd (z_if_le (A := A) (B := B) hE hd2 ht ⟨fun q => h.1 ?_, fun q => h.2 ?_⟩ kt kf)
  · exact (zlc_le x y).mp q
  · exact fun r => q ((zlc_le x y).mpr r)
