theorem gw_inN {k n : Nat} (h : Nat.blt k n = true) : gw_in (k : Int) n := ⟨Int.natCast_nonneg k, Int.ofNat_lt.mpr (by simpa [Nat.blt_eq] using h)⟩
theorem gw_bi {c : Prop} [Decidable c] {a b : Int} (ha : gw_b a) (hb : gw_b b) : gw_b (if c then a else b) := by split <;> assumption
theorem gw_b0 : gw_b 0 := Or.inl rfl
theorem gw_b1 : gw_b 1 := Or.inr rfl
theorem gw_d1 {d : Nat} (h : 8 ≤ d) : Nat.ble 1 d = true := Nat.ble_eq_true_of_le (Nat.le_trans (by decide) h)
theorem sh_0 : gw_SH[0]? = some (0, 11, [some 4, some 25, none, some 46, some 48, some 61, some 65, some 83, none, some 1, none, some 2, none, some 101, some 104, some 3]) := rfl
theorem sh_1 : gw_SH[1]? = some (1, 3600, []) := rfl
theorem sh_2 : gw_SH[2]? = some (1, 4, []) := rfl
theorem sh_3 : gw_SH[3]? = some (5, 4, [some 109, some 111, some 113, some 115]) := rfl
theorem sh_4 : gw_SH[4]? = some (0, 6, [none, some 5, some 18, some 22, some 23]) := rfl
theorem sh_5 : gw_SH[5]? = some (0, 3, [some 6, some 7, some 8, some 9]) := rfl
theorem sh_6 : gw_SH[6]? = some (1, 4, []) := rfl
theorem sh_7 : gw_SH[7]? = some (4, 4, [some 10, some 11, some 12, some 13]) := rfl
theorem sh_8 : gw_SH[8]? = some (4, 4, [some 14, some 15, some 16, some 17]) := rfl
theorem sh_9 : gw_SH[9]? = some (1, 8, []) := rfl
theorem sh_10 : gw_SH[10]? = some (1, 8, []) := rfl
theorem sh_11 : gw_SH[11]? = some (1, 8, []) := rfl
theorem sh_12 : gw_SH[12]? = some (1, 8, []) := rfl
theorem sh_13 : gw_SH[13]? = some (1, 8, []) := rfl
theorem sh_14 : gw_SH[14]? = some (1, 8, []) := rfl
theorem sh_15 : gw_SH[15]? = some (1, 8, []) := rfl
theorem sh_16 : gw_SH[16]? = some (1, 8, []) := rfl
theorem sh_17 : gw_SH[17]? = some (1, 8, []) := rfl
theorem sh_18 : gw_SH[18]? = some (0, 5, [none, some 19, some 20, some 21]) := rfl
theorem sh_19 : gw_SH[19]? = some (1, 10, []) := rfl
theorem sh_20 : gw_SH[20]? = some (1, 10, []) := rfl
theorem sh_21 : gw_SH[21]? = some (3, 10, []) := rfl
theorem sh_22 : gw_SH[22]? = some (1, 5, []) := rfl
theorem sh_23 : gw_SH[23]? = some (0, 8, [some 24, none, none, none, none, none, none, none]) := rfl
theorem sh_24 : gw_SH[24]? = some (1, 144, []) := rfl
theorem sh_25 : gw_SH[25]? = some (0, 6, [none, some 26, some 39, some 43, some 44]) := rfl
theorem sh_26 : gw_SH[26]? = some (0, 3, [some 27, some 28, some 29, some 30]) := rfl
theorem sh_27 : gw_SH[27]? = some (1, 4, []) := rfl
theorem sh_28 : gw_SH[28]? = some (4, 4, [some 31, some 32, some 33, some 34]) := rfl
theorem sh_29 : gw_SH[29]? = some (4, 4, [some 35, some 36, some 37, some 38]) := rfl
theorem sh_30 : gw_SH[30]? = some (1, 8, []) := rfl
theorem sh_31 : gw_SH[31]? = some (1, 8, []) := rfl
theorem sh_32 : gw_SH[32]? = some (1, 8, []) := rfl
theorem sh_33 : gw_SH[33]? = some (1, 8, []) := rfl
theorem sh_34 : gw_SH[34]? = some (1, 8, []) := rfl
theorem sh_35 : gw_SH[35]? = some (1, 8, []) := rfl
theorem sh_36 : gw_SH[36]? = some (1, 8, []) := rfl
theorem sh_37 : gw_SH[37]? = some (1, 8, []) := rfl
theorem sh_38 : gw_SH[38]? = some (1, 8, []) := rfl
theorem sh_39 : gw_SH[39]? = some (0, 5, [none, some 40, some 41, some 42]) := rfl
theorem sh_40 : gw_SH[40]? = some (1, 10, []) := rfl
theorem sh_41 : gw_SH[41]? = some (1, 10, []) := rfl
theorem sh_42 : gw_SH[42]? = some (3, 10, []) := rfl
theorem sh_43 : gw_SH[43]? = some (1, 5, []) := rfl
theorem sh_44 : gw_SH[44]? = some (0, 8, [some 45, none, none, none, none, none, none, none]) := rfl
theorem sh_45 : gw_SH[45]? = some (1, 144, []) := rfl
theorem sh_46 : gw_SH[46]? = some (0, 9, [some 47, none, none, none]) := rfl
theorem sh_47 : gw_SH[47]? = some (2, 80, []) := rfl
theorem sh_48 : gw_SH[48]? = some (0, 3, [some 49, some 50, some 51, some 52]) := rfl
theorem sh_49 : gw_SH[49]? = some (1, 4, []) := rfl
theorem sh_50 : gw_SH[50]? = some (4, 4, [some 53, some 54, some 55, some 56]) := rfl
theorem sh_51 : gw_SH[51]? = some (4, 4, [some 57, some 58, some 59, some 60]) := rfl
theorem sh_52 : gw_SH[52]? = some (1, 8, []) := rfl
theorem sh_53 : gw_SH[53]? = some (1, 8, []) := rfl
theorem sh_54 : gw_SH[54]? = some (1, 8, []) := rfl
theorem sh_55 : gw_SH[55]? = some (1, 8, []) := rfl
theorem sh_56 : gw_SH[56]? = some (1, 8, []) := rfl
theorem sh_57 : gw_SH[57]? = some (1, 8, []) := rfl
theorem sh_58 : gw_SH[58]? = some (1, 8, []) := rfl
theorem sh_59 : gw_SH[59]? = some (1, 8, []) := rfl
theorem sh_60 : gw_SH[60]? = some (1, 8, []) := rfl
theorem sh_61 : gw_SH[61]? = some (0, 5, [none, some 62, some 63, some 64]) := rfl
theorem sh_62 : gw_SH[62]? = some (1, 10, []) := rfl
theorem sh_63 : gw_SH[63]? = some (1, 10, []) := rfl
theorem sh_64 : gw_SH[64]? = some (3, 10, []) := rfl
theorem sh_65 : gw_SH[65]? = some (0, 10, [some 66, some 71, some 75, some 76, none, none, none, none, none, none, some 77, some 78, some 79, some 80, some 81, some 82]) := rfl
theorem sh_66 : gw_SH[66]? = some (0, 4, [none, some 67, some 68, some 69, some 70]) := rfl
theorem sh_67 : gw_SH[67]? = some (1, 100, []) := rfl
theorem sh_68 : gw_SH[68]? = some (1, 100, []) := rfl
theorem sh_69 : gw_SH[69]? = some (1, 100, []) := rfl
theorem sh_70 : gw_SH[70]? = some (1, 100, []) := rfl
theorem sh_71 : gw_SH[71]? = some (0, 5, [none, some 72, some 73, some 74]) := rfl
theorem sh_72 : gw_SH[72]? = some (1, 10, []) := rfl
theorem sh_73 : gw_SH[73]? = some (1, 10, []) := rfl
theorem sh_74 : gw_SH[74]? = some (3, 10, []) := rfl
theorem sh_75 : gw_SH[75]? = some (1, 5, []) := rfl
theorem sh_76 : gw_SH[76]? = some (0, 2, [none, none, none, none, none, none]) := rfl
theorem sh_77 : gw_SH[77]? = some (1, 10, []) := rfl
theorem sh_78 : gw_SH[78]? = some (1, 10, []) := rfl
theorem sh_79 : gw_SH[79]? = some (1, 10, []) := rfl
theorem sh_80 : gw_SH[80]? = some (1, 10, []) := rfl
theorem sh_81 : gw_SH[81]? = some (1, 10, []) := rfl
theorem sh_82 : gw_SH[82]? = some (1, 10, []) := rfl
theorem sh_83 : gw_SH[83]? = some (0, 10, [some 84, some 89, some 93, some 94, none, none, none, none, none, none, some 95, some 96, some 97, some 98, some 99, some 100]) := rfl
theorem sh_84 : gw_SH[84]? = some (0, 4, [none, some 85, some 86, some 87, some 88]) := rfl
theorem sh_85 : gw_SH[85]? = some (1, 100, []) := rfl
theorem sh_86 : gw_SH[86]? = some (1, 100, []) := rfl
theorem sh_87 : gw_SH[87]? = some (1, 100, []) := rfl
theorem sh_88 : gw_SH[88]? = some (1, 100, []) := rfl
theorem sh_89 : gw_SH[89]? = some (0, 5, [none, some 90, some 91, some 92]) := rfl
theorem sh_90 : gw_SH[90]? = some (1, 10, []) := rfl
theorem sh_91 : gw_SH[91]? = some (1, 10, []) := rfl
theorem sh_92 : gw_SH[92]? = some (3, 10, []) := rfl
theorem sh_93 : gw_SH[93]? = some (1, 5, []) := rfl
theorem sh_94 : gw_SH[94]? = some (0, 2, [none, none, none, none, none, none]) := rfl
theorem sh_95 : gw_SH[95]? = some (1, 10, []) := rfl
theorem sh_96 : gw_SH[96]? = some (1, 10, []) := rfl
theorem sh_97 : gw_SH[97]? = some (1, 10, []) := rfl
theorem sh_98 : gw_SH[98]? = some (1, 10, []) := rfl
theorem sh_99 : gw_SH[99]? = some (1, 10, []) := rfl
theorem sh_100 : gw_SH[100]? = some (1, 10, []) := rfl
theorem sh_101 : gw_SH[101]? = some (0, 1, [none, some 102, some 103]) := rfl
theorem sh_102 : gw_SH[102]? = some (1, 8, []) := rfl
theorem sh_103 : gw_SH[103]? = some (1, 8, []) := rfl
theorem sh_104 : gw_SH[104]? = some (0, 0, [none, some 105, some 106, some 107, some 108, none]) := rfl
theorem sh_105 : gw_SH[105]? = some (1, 6, []) := rfl
theorem sh_106 : gw_SH[106]? = some (1, 6, []) := rfl
theorem sh_107 : gw_SH[107]? = some (1, 6, []) := rfl
theorem sh_108 : gw_SH[108]? = some (1, 6, []) := rfl
theorem sh_109 : gw_SH[109]? = some (0, 7, [none, none, some 110]) := rfl
theorem sh_110 : gw_SH[110]? = some (1, 24, []) := rfl
theorem sh_111 : gw_SH[111]? = some (0, 7, [none, none, some 112]) := rfl
theorem sh_112 : gw_SH[112]? = some (1, 24, []) := rfl
theorem sh_113 : gw_SH[113]? = some (0, 7, [none, none, some 114]) := rfl
theorem sh_114 : gw_SH[114]? = some (1, 24, []) := rfl
theorem sh_115 : gw_SH[115]? = some (0, 7, [none, none, some 116]) := rfl
theorem sh_116 : gw_SH[116]? = some (1, 24, []) := rfl
def gw_isMarks (b : Nat) : Prop := b = 5 ∨ b = 26 ∨ b = 48
theorem shMarks_0 {b : Nat} (h : gw_isMarks b) : gw_SH[b]? = some (0, 3, [some (b + 1), some (b + 2), some (b + 3), some (b + 4)]) := by rcases h with rfl | rfl | rfl <;> rfl
theorem shMarks_1 {b : Nat} (h : gw_isMarks b) : gw_SH[b + 1]? = some (1, 4, []) := by rcases h with rfl | rfl | rfl <;> rfl
theorem shMarks_2 {b : Nat} (h : gw_isMarks b) : gw_SH[b + 2]? = some (4, 4, [some (b + 5), some (b + 6), some (b + 7), some (b + 8)]) := by rcases h with rfl | rfl | rfl <;> rfl
theorem shMarks_3 {b : Nat} (h : gw_isMarks b) : gw_SH[b + 3]? = some (4, 4, [some (b + 9), some (b + 10), some (b + 11), some (b + 12)]) := by rcases h with rfl | rfl | rfl <;> rfl
theorem shMarks_4 {b : Nat} (h : gw_isMarks b) : gw_SH[b + 4]? = some (1, 8, []) := by rcases h with rfl | rfl | rfl <;> rfl
theorem shMarks_5 {b : Nat} (h : gw_isMarks b) : gw_SH[b + 5]? = some (1, 8, []) := by rcases h with rfl | rfl | rfl <;> rfl
theorem shMarks_6 {b : Nat} (h : gw_isMarks b) : gw_SH[b + 6]? = some (1, 8, []) := by rcases h with rfl | rfl | rfl <;> rfl
theorem shMarks_7 {b : Nat} (h : gw_isMarks b) : gw_SH[b + 7]? = some (1, 8, []) := by rcases h with rfl | rfl | rfl <;> rfl
theorem shMarks_8 {b : Nat} (h : gw_isMarks b) : gw_SH[b + 8]? = some (1, 8, []) := by rcases h with rfl | rfl | rfl <;> rfl
theorem shMarks_9 {b : Nat} (h : gw_isMarks b) : gw_SH[b + 9]? = some (1, 8, []) := by rcases h with rfl | rfl | rfl <;> rfl
theorem shMarks_10 {b : Nat} (h : gw_isMarks b) : gw_SH[b + 10]? = some (1, 8, []) := by rcases h with rfl | rfl | rfl <;> rfl
theorem shMarks_11 {b : Nat} (h : gw_isMarks b) : gw_SH[b + 11]? = some (1, 8, []) := by rcases h with rfl | rfl | rfl <;> rfl
theorem shMarks_12 {b : Nat} (h : gw_isMarks b) : gw_SH[b + 12]? = some (1, 8, []) := by rcases h with rfl | rfl | rfl <;> rfl
def gw_isPeople (b : Nat) : Prop := b = 18 ∨ b = 39 ∨ b = 61 ∨ b = 71 ∨ b = 89
theorem shPeople_0 {b : Nat} (h : gw_isPeople b) : gw_SH[b]? = some (0, 5, [none, some (b + 1), some (b + 2), some (b + 3)]) := by rcases h with rfl | rfl | rfl | rfl | rfl <;> rfl
theorem shPeople_1 {b : Nat} (h : gw_isPeople b) : gw_SH[b + 1]? = some (1, 10, []) := by rcases h with rfl | rfl | rfl | rfl | rfl <;> rfl
theorem shPeople_2 {b : Nat} (h : gw_isPeople b) : gw_SH[b + 2]? = some (1, 10, []) := by rcases h with rfl | rfl | rfl | rfl | rfl <;> rfl
theorem shPeople_3 {b : Nat} (h : gw_isPeople b) : gw_SH[b + 3]? = some (3, 10, []) := by rcases h with rfl | rfl | rfl | rfl | rfl <;> rfl
def gw_isPlan (b : Nat) : Prop := b = 4 ∨ b = 25
theorem shPlan_0 {b : Nat} (h : gw_isPlan b) : gw_SH[b]? = some (0, 6, [none, some (b + 1), some (b + 14), some (b + 18), some (b + 19)]) := by rcases h with rfl | rfl <;> rfl
theorem shPlan_1 {b : Nat} (h : gw_isPlan b) : gw_SH[b + 1]? = some (0, 3, [some (b + 2), some (b + 3), some (b + 4), some (b + 5)]) := by rcases h with rfl | rfl <;> rfl
theorem shPlan_2 {b : Nat} (h : gw_isPlan b) : gw_SH[b + 2]? = some (1, 4, []) := by rcases h with rfl | rfl <;> rfl
theorem shPlan_3 {b : Nat} (h : gw_isPlan b) : gw_SH[b + 3]? = some (4, 4, [some (b + 6), some (b + 7), some (b + 8), some (b + 9)]) := by rcases h with rfl | rfl <;> rfl
theorem shPlan_4 {b : Nat} (h : gw_isPlan b) : gw_SH[b + 4]? = some (4, 4, [some (b + 10), some (b + 11), some (b + 12), some (b + 13)]) := by rcases h with rfl | rfl <;> rfl
theorem shPlan_5 {b : Nat} (h : gw_isPlan b) : gw_SH[b + 5]? = some (1, 8, []) := by rcases h with rfl | rfl <;> rfl
theorem shPlan_6 {b : Nat} (h : gw_isPlan b) : gw_SH[b + 6]? = some (1, 8, []) := by rcases h with rfl | rfl <;> rfl
theorem shPlan_7 {b : Nat} (h : gw_isPlan b) : gw_SH[b + 7]? = some (1, 8, []) := by rcases h with rfl | rfl <;> rfl
theorem shPlan_8 {b : Nat} (h : gw_isPlan b) : gw_SH[b + 8]? = some (1, 8, []) := by rcases h with rfl | rfl <;> rfl
theorem shPlan_9 {b : Nat} (h : gw_isPlan b) : gw_SH[b + 9]? = some (1, 8, []) := by rcases h with rfl | rfl <;> rfl
theorem shPlan_10 {b : Nat} (h : gw_isPlan b) : gw_SH[b + 10]? = some (1, 8, []) := by rcases h with rfl | rfl <;> rfl
theorem shPlan_11 {b : Nat} (h : gw_isPlan b) : gw_SH[b + 11]? = some (1, 8, []) := by rcases h with rfl | rfl <;> rfl
theorem shPlan_12 {b : Nat} (h : gw_isPlan b) : gw_SH[b + 12]? = some (1, 8, []) := by rcases h with rfl | rfl <;> rfl
theorem shPlan_13 {b : Nat} (h : gw_isPlan b) : gw_SH[b + 13]? = some (1, 8, []) := by rcases h with rfl | rfl <;> rfl
theorem shPlan_14 {b : Nat} (h : gw_isPlan b) : gw_SH[b + 14]? = some (0, 5, [none, some (b + 15), some (b + 16), some (b + 17)]) := by rcases h with rfl | rfl <;> rfl
theorem shPlan_15 {b : Nat} (h : gw_isPlan b) : gw_SH[b + 15]? = some (1, 10, []) := by rcases h with rfl | rfl <;> rfl
theorem shPlan_16 {b : Nat} (h : gw_isPlan b) : gw_SH[b + 16]? = some (1, 10, []) := by rcases h with rfl | rfl <;> rfl
theorem shPlan_17 {b : Nat} (h : gw_isPlan b) : gw_SH[b + 17]? = some (3, 10, []) := by rcases h with rfl | rfl <;> rfl
theorem shPlan_18 {b : Nat} (h : gw_isPlan b) : gw_SH[b + 18]? = some (1, 5, []) := by rcases h with rfl | rfl <;> rfl
theorem shPlan_19 {b : Nat} (h : gw_isPlan b) : gw_SH[b + 19]? = some (0, 8, [some (b + 20), none, none, none, none, none, none, none]) := by rcases h with rfl | rfl <;> rfl
theorem shPlan_20 {b : Nat} (h : gw_isPlan b) : gw_SH[b + 20]? = some (1, 144, []) := by rcases h with rfl | rfl <;> rfl
def gw_isSquare (b : Nat) : Prop := b = 23 ∨ b = 44
theorem shSquare_0 {b : Nat} (h : gw_isSquare b) : gw_SH[b]? = some (0, 8, [some (b + 1), none, none, none, none, none, none, none]) := by rcases h with rfl | rfl <;> rfl
theorem shSquare_1 {b : Nat} (h : gw_isSquare b) : gw_SH[b + 1]? = some (1, 144, []) := by rcases h with rfl | rfl <;> rfl
def gw_isPath (b : Nat) : Prop := b = 66 ∨ b = 84
theorem shPath_0 {b : Nat} (h : gw_isPath b) : gw_SH[b]? = some (0, 4, [none, some (b + 1), some (b + 2), some (b + 3), some (b + 4)]) := by rcases h with rfl | rfl <;> rfl
theorem shPath_1 {b : Nat} (h : gw_isPath b) : gw_SH[b + 1]? = some (1, 100, []) := by rcases h with rfl | rfl <;> rfl
theorem shPath_2 {b : Nat} (h : gw_isPath b) : gw_SH[b + 2]? = some (1, 100, []) := by rcases h with rfl | rfl <;> rfl
theorem shPath_3 {b : Nat} (h : gw_isPath b) : gw_SH[b + 3]? = some (1, 100, []) := by rcases h with rfl | rfl <;> rfl
theorem shPath_4 {b : Nat} (h : gw_isPath b) : gw_SH[b + 4]? = some (1, 100, []) := by rcases h with rfl | rfl <;> rfl
def gw_isHalt (b : Nat) : Prop := b = 76 ∨ b = 94
theorem shHalt_0 {b : Nat} (h : gw_isHalt b) : gw_SH[b]? = some (0, 2, [none, none, none, none, none, none]) := by rcases h with rfl | rfl <;> rfl
def gw_isWalk (b : Nat) : Prop := b = 65 ∨ b = 83
theorem shWalk_0 {b : Nat} (h : gw_isWalk b) : gw_SH[b]? = some (0, 10, [some (b + 1), some (b + 6), some (b + 10), some (b + 11), none, none, none, none, none, none, some (b + 12), some (b + 13), some (b + 14), some (b + 15), some (b + 16), some (b + 17)]) := by rcases h with rfl | rfl <;> rfl
theorem shWalk_1 {b : Nat} (h : gw_isWalk b) : gw_SH[b + 1]? = some (0, 4, [none, some (b + 2), some (b + 3), some (b + 4), some (b + 5)]) := by rcases h with rfl | rfl <;> rfl
theorem shWalk_2 {b : Nat} (h : gw_isWalk b) : gw_SH[b + 2]? = some (1, 100, []) := by rcases h with rfl | rfl <;> rfl
theorem shWalk_3 {b : Nat} (h : gw_isWalk b) : gw_SH[b + 3]? = some (1, 100, []) := by rcases h with rfl | rfl <;> rfl
theorem shWalk_4 {b : Nat} (h : gw_isWalk b) : gw_SH[b + 4]? = some (1, 100, []) := by rcases h with rfl | rfl <;> rfl
theorem shWalk_5 {b : Nat} (h : gw_isWalk b) : gw_SH[b + 5]? = some (1, 100, []) := by rcases h with rfl | rfl <;> rfl
theorem shWalk_6 {b : Nat} (h : gw_isWalk b) : gw_SH[b + 6]? = some (0, 5, [none, some (b + 7), some (b + 8), some (b + 9)]) := by rcases h with rfl | rfl <;> rfl
theorem shWalk_7 {b : Nat} (h : gw_isWalk b) : gw_SH[b + 7]? = some (1, 10, []) := by rcases h with rfl | rfl <;> rfl
theorem shWalk_8 {b : Nat} (h : gw_isWalk b) : gw_SH[b + 8]? = some (1, 10, []) := by rcases h with rfl | rfl <;> rfl
theorem shWalk_9 {b : Nat} (h : gw_isWalk b) : gw_SH[b + 9]? = some (3, 10, []) := by rcases h with rfl | rfl <;> rfl
theorem shWalk_10 {b : Nat} (h : gw_isWalk b) : gw_SH[b + 10]? = some (1, 5, []) := by rcases h with rfl | rfl <;> rfl
theorem shWalk_11 {b : Nat} (h : gw_isWalk b) : gw_SH[b + 11]? = some (0, 2, [none, none, none, none, none, none]) := by rcases h with rfl | rfl <;> rfl
theorem shWalk_12 {b : Nat} (h : gw_isWalk b) : gw_SH[b + 12]? = some (1, 10, []) := by rcases h with rfl | rfl <;> rfl
theorem shWalk_13 {b : Nat} (h : gw_isWalk b) : gw_SH[b + 13]? = some (1, 10, []) := by rcases h with rfl | rfl <;> rfl
theorem shWalk_14 {b : Nat} (h : gw_isWalk b) : gw_SH[b + 14]? = some (1, 10, []) := by rcases h with rfl | rfl <;> rfl
theorem shWalk_15 {b : Nat} (h : gw_isWalk b) : gw_SH[b + 15]? = some (1, 10, []) := by rcases h with rfl | rfl <;> rfl
theorem shWalk_16 {b : Nat} (h : gw_isWalk b) : gw_SH[b + 16]? = some (1, 10, []) := by rcases h with rfl | rfl <;> rfl
theorem shWalk_17 {b : Nat} (h : gw_isWalk b) : gw_SH[b + 17]? = some (1, 10, []) := by rcases h with rfl | rfl <;> rfl
def gw_isSheet (b : Nat) : Prop := b = 109 ∨ b = 111 ∨ b = 113 ∨ b = 115
theorem shSheet_0 {b : Nat} (h : gw_isSheet b) : gw_SH[b]? = some (0, 7, [none, none, some (b + 1)]) := by rcases h with rfl | rfl | rfl | rfl <;> rfl
theorem shSheet_1 {b : Nat} (h : gw_isSheet b) : gw_SH[b + 1]? = some (1, 24, []) := by rcases h with rfl | rfl | rfl | rfl <;> rfl
theorem gw_row4 {c : Nat} {i : Int} (h : gw_in i 4) : ([some c, some (c + 1), some (c + 2), some (c + 3)] : List (Option Nat))[i.toNat]? = some (some (c + i.toNat)) := by
  obtain ⟨h0, h1⟩ := h
  have h2 : i.toNat = 0 ∨ i.toNat = 1 ∨ i.toNat = 2 ∨ i.toNat = 3 := by omega
  rcases h2 with e | e | e | e <;> rw [e] <;> rfl
theorem gw_rowS {i : Int} (h : gw_in i 4) : ([some 109, some 111, some 113, some 115] : List (Option Nat))[i.toNat]? = some (some (109 + 2 * i.toNat)) := by
  obtain ⟨h0, h1⟩ := h
  have h2 : i.toNat = 0 ∨ i.toNat = 1 ∨ i.toNat = 2 ∨ i.toNat = 3 := by omega
  rcases h2 with e | e | e | e <;> rw [e] <;> rfl
theorem shMarks_row5 {b : Nat} {i : Int} (hb : gw_isMarks b) (h : gw_in i 4) : gw_SH[b + 5 + i.toNat]? = some (1, 8, []) := by
  obtain ⟨h0, h1⟩ := h
  have h2 : i.toNat = 0 ∨ i.toNat = 1 ∨ i.toNat = 2 ∨ i.toNat = 3 := by omega
  rcases hb with rfl | rfl | rfl <;> rcases h2 with e | e | e | e <;> rw [e] <;> rfl
theorem shMarks_row9 {b : Nat} {i : Int} (hb : gw_isMarks b) (h : gw_in i 4) : gw_SH[b + 9 + i.toNat]? = some (1, 8, []) := by
  obtain ⟨h0, h1⟩ := h
  have h2 : i.toNat = 0 ∨ i.toNat = 1 ∨ i.toNat = 2 ∨ i.toNat = 3 := by omega
  rcases hb with rfl | rfl | rfl <;> rcases h2 with e | e | e | e <;> rw [e] <;> rfl
theorem gw_isSheet_of {i : Int} (h : gw_in i 4) : gw_isSheet (109 + 2 * i.toNat) := by
  obtain ⟨h0, h1⟩ := h
  unfold gw_isSheet
  omega
theorem isMarks_5 : gw_isMarks 5 := by unfold gw_isMarks; decide
theorem isMarks_26 : gw_isMarks 26 := by unfold gw_isMarks; decide
theorem isMarks_48 : gw_isMarks 48 := by unfold gw_isMarks; decide
theorem F_3_9 : gw_FL RX3 9 3 0 := ⟨RX3, TX3, 4, rfl, by decide, inX3, fl_3_9⟩
theorem F_4_32 : gw_FL RX4 32 3 0 := ⟨RX3, TX3, 4, rfl, by decide, inX3, fl_4_32⟩
theorem F_6_68 : gw_FL RX6 68 3 0 := ⟨RX3, TX3, 4, rfl, by decide, inX3, fl_6_68⟩
theorem F_11_115 : gw_FL RX11 115 3 0 := ⟨RX3, TX3, 4, rfl, by decide, inX3, fl_11_115⟩
theorem F_3_17 : gw_FL RX3 17 3 1 := ⟨RX3, TX3, 4, rfl, by decide, inX3, fl_3_17⟩
theorem F_6_64 : gw_FL RX6 64 3 1 := ⟨RX3, TX3, 4, rfl, by decide, inX3, fl_6_64⟩
theorem F_4_37 : gw_FL RX4 37 3 1 := ⟨RX3, TX3, 4, rfl, by decide, inX3, fl_4_37⟩
theorem F_3_20 : gw_FL RX3 20 3 2 := ⟨RX3, TX3, 4, rfl, by decide, inX3, fl_3_20⟩
theorem F_4_45 : gw_FL RX4 45 3 2 := ⟨RX3, TX3, 4, rfl, by decide, inX3, fl_4_45⟩
theorem F_6_75 : gw_FL RX6 75 3 2 := ⟨RX3, TX3, 4, rfl, by decide, inX3, fl_6_75⟩
theorem F_3_23 : gw_FL RX3 23 3 3 := ⟨RX3, TX3, 4, rfl, by decide, inX3, fl_3_23⟩
theorem F_6_78 : gw_FL RX6 78 3 3 := ⟨RX3, TX3, 4, rfl, by decide, inX3, fl_6_78⟩
theorem F_5_9 : gw_FL RX5 9 5 0 := ⟨RX5, TX5, 4, rfl, by decide, inX5, fl_5_9⟩
theorem P_5_9 : gw_FP RX5 9 5 0 .int := ⟨RX5, TX5, 4, tyX5, rfl, by decide, inX5, fl_5_9, tyX5_ok, nmX5, rfl, rfl⟩
theorem F_10_105 : gw_FL RX10 105 5 0 := ⟨RX5, TX5, 4, rfl, by decide, inX5, fl_10_105⟩
theorem P_10_105 : gw_FP RX10 105 5 0 .int := ⟨RX5, TX5, 4, tyX5, rfl, by decide, inX5, fl_10_105, tyX5_ok, nmX5, rfl, rfl⟩
theorem F_11_180 : gw_FL RX11 180 5 0 := ⟨RX5, TX5, 4, rfl, by decide, inX5, fl_11_180⟩
theorem P_11_180 : gw_FP RX11 180 5 0 .int := ⟨RX5, TX5, 4, tyX5, rfl, by decide, inX5, fl_11_180, tyX5_ok, nmX5, rfl, rfl⟩
theorem F_5_15 : gw_FL RX5 15 5 1 := ⟨RX5, TX5, 4, rfl, by decide, inX5, fl_5_15⟩
theorem F_10_163 : gw_FL RX10 163 5 1 := ⟨RX5, TX5, 4, rfl, by decide, inX5, fl_10_163⟩
theorem F_11_138 : gw_FL RX11 138 5 1 := ⟨RX5, TX5, 4, rfl, by decide, inX5, fl_11_138⟩
theorem F_5_19 : gw_FL RX5 19 5 2 := ⟨RX5, TX5, 4, rfl, by decide, inX5, fl_5_19⟩
theorem F_10_176 : gw_FL RX10 176 5 2 := ⟨RX5, TX5, 4, rfl, by decide, inX5, fl_10_176⟩
theorem F_5_22 : gw_FL RX5 22 5 3 := ⟨RX5, TX5, 4, rfl, by decide, inX5, fl_5_22⟩
theorem F_10_159 : gw_FL RX10 159 5 3 := ⟨RX5, TX5, 4, rfl, by decide, inX5, fl_10_159⟩
theorem F_11_144 : gw_FL RX11 144 5 3 := ⟨RX5, TX5, 4, rfl, by decide, inX5, fl_11_144⟩
theorem F_8_9 : gw_FL RX8 9 8 0 := ⟨RX8, TX8, 8, rfl, by decide, inX8, fl_8_9⟩
theorem F_6_61 : gw_FL RX6 61 8 0 := ⟨RX8, TX8, 8, rfl, by decide, inX8, fl_6_61⟩
theorem F_8_15 : gw_FL RX8 15 8 1 := ⟨RX8, TX8, 8, rfl, by decide, inX8, fl_8_15⟩
theorem P_8_15 : gw_FP RX8 15 8 1 .int := ⟨RX8, TX8, 8, tyX8, rfl, by decide, inX8, fl_8_15, tyX8_ok, nmX8, rfl, rfl⟩
theorem F_8_19 : gw_FL RX8 19 8 2 := ⟨RX8, TX8, 8, rfl, by decide, inX8, fl_8_19⟩
theorem P_8_19 : gw_FP RX8 19 8 2 .int := ⟨RX8, TX8, 8, tyX8, rfl, by decide, inX8, fl_8_19, tyX8_ok, nmX8, rfl, rfl⟩
theorem F_8_22 : gw_FL RX8 22 8 3 := ⟨RX8, TX8, 8, rfl, by decide, inX8, fl_8_22⟩
theorem P_8_22 : gw_FP RX8 22 8 3 .int := ⟨RX8, TX8, 8, tyX8, rfl, by decide, inX8, fl_8_22, tyX8_ok, nmX8, rfl, rfl⟩
theorem F_8_25 : gw_FL RX8 25 8 4 := ⟨RX8, TX8, 8, rfl, by decide, inX8, fl_8_25⟩
theorem P_8_25 : gw_FP RX8 25 8 4 .int := ⟨RX8, TX8, 8, tyX8, rfl, by decide, inX8, fl_8_25, tyX8_ok, nmX8, rfl, rfl⟩
theorem F_8_28 : gw_FL RX8 28 8 5 := ⟨RX8, TX8, 8, rfl, by decide, inX8, fl_8_28⟩
theorem P_8_28 : gw_FP RX8 28 8 5 .int := ⟨RX8, TX8, 8, tyX8, rfl, by decide, inX8, fl_8_28, tyX8_ok, nmX8, rfl, rfl⟩
theorem F_8_31 : gw_FL RX8 31 8 6 := ⟨RX8, TX8, 8, rfl, by decide, inX8, fl_8_31⟩
theorem P_8_31 : gw_FP RX8 31 8 6 .int := ⟨RX8, TX8, 8, tyX8, rfl, by decide, inX8, fl_8_31, tyX8_ok, nmX8, rfl, rfl⟩
theorem F_8_34 : gw_FL RX8 34 8 7 := ⟨RX8, TX8, 8, rfl, by decide, inX8, fl_8_34⟩
theorem P_8_34 : gw_FP RX8 34 8 7 .int := ⟨RX8, TX8, 8, tyX8, rfl, by decide, inX8, fl_8_34, tyX8_ok, nmX8, rfl, rfl⟩
theorem F_6_9 : gw_FL RX6 9 6 0 := ⟨RX6, TX6, 5, rfl, by decide, inX6, fl_6_9⟩
theorem P_6_9 : gw_FP RX6 9 6 0 .int := ⟨RX6, TX6, 5, tyX6, rfl, by decide, inX6, fl_6_9, tyX6_ok, nmX6, rfl, rfl⟩
theorem F_10_79 : gw_FL RX10 79 6 0 := ⟨RX6, TX6, 5, rfl, by decide, inX6, fl_10_79⟩
theorem P_10_79 : gw_FP RX10 79 6 0 .int := ⟨RX6, TX6, 5, tyX6, rfl, by decide, inX6, fl_10_79, tyX6_ok, nmX6, rfl, rfl⟩
theorem F_11_96 : gw_FL RX11 96 6 0 := ⟨RX6, TX6, 5, rfl, by decide, inX6, fl_11_96⟩
theorem P_11_96 : gw_FP RX11 96 6 0 .int := ⟨RX6, TX6, 5, tyX6, rfl, by decide, inX6, fl_11_96, tyX6_ok, nmX6, rfl, rfl⟩
theorem F_6_18 : gw_FL RX6 18 6 1 := ⟨RX6, TX6, 5, rfl, by decide, inX6, fl_6_18⟩
theorem F_10_73 : gw_FL RX10 73 6 1 := ⟨RX6, TX6, 5, rfl, by decide, inX6, fl_10_73⟩
theorem F_11_108 : gw_FL RX11 108 6 1 := ⟨RX6, TX6, 5, rfl, by decide, inX6, fl_11_108⟩
theorem F_6_25 : gw_FL RX6 25 6 2 := ⟨RX6, TX6, 5, rfl, by decide, inX6, fl_6_25⟩
theorem F_10_86 : gw_FL RX10 86 6 2 := ⟨RX6, TX6, 5, rfl, by decide, inX6, fl_10_86⟩
theorem F_11_128 : gw_FL RX11 128 6 2 := ⟨RX6, TX6, 5, rfl, by decide, inX6, fl_11_128⟩
theorem F_6_38 : gw_FL RX6 38 6 3 := ⟨RX6, TX6, 5, rfl, by decide, inX6, fl_6_38⟩
theorem F_10_91 : gw_FL RX10 91 6 3 := ⟨RX6, TX6, 5, rfl, by decide, inX6, fl_10_91⟩
theorem F_11_154 : gw_FL RX11 154 6 3 := ⟨RX6, TX6, 5, rfl, by decide, inX6, fl_11_154⟩
theorem F_6_44 : gw_FL RX6 44 6 4 := ⟨RX6, TX6, 5, rfl, by decide, inX6, fl_6_44⟩
theorem F_9_9 : gw_FL RX9 9 9 0 := ⟨RX9, TX9, 4, rfl, by decide, inX9, fl_9_9⟩
theorem F_9_15 : gw_FL RX9 15 9 1 := ⟨RX9, TX9, 4, rfl, by decide, inX9, fl_9_15⟩
theorem P_9_15 : gw_FP RX9 15 9 1 .int := ⟨RX9, TX9, 4, tyX9, rfl, by decide, inX9, fl_9_15, tyX9_ok, nmX9, rfl, rfl⟩
theorem F_9_19 : gw_FL RX9 19 9 2 := ⟨RX9, TX9, 4, rfl, by decide, inX9, fl_9_19⟩
theorem P_9_19 : gw_FP RX9 19 9 2 .int := ⟨RX9, TX9, 4, tyX9, rfl, by decide, inX9, fl_9_19, tyX9_ok, nmX9, rfl, rfl⟩
theorem F_9_22 : gw_FL RX9 22 9 3 := ⟨RX9, TX9, 4, rfl, by decide, inX9, fl_9_22⟩
theorem P_9_22 : gw_FP RX9 22 9 3 .int := ⟨RX9, TX9, 4, tyX9, rfl, by decide, inX9, fl_9_22, tyX9_ok, nmX9, rfl, rfl⟩
theorem F_4_9 : gw_FL RX4 9 4 0 := ⟨RX4, TX4, 5, rfl, by decide, inX4, fl_4_9⟩
theorem P_4_9 : gw_FP RX4 9 4 0 .int := ⟨RX4, TX4, 5, tyX4, rfl, by decide, inX4, fl_4_9, tyX4_ok, nmX4, rfl, rfl⟩
theorem F_10_108 : gw_FL RX10 108 4 0 := ⟨RX4, TX4, 5, rfl, by decide, inX4, fl_10_108⟩
theorem P_10_108 : gw_FP RX10 108 4 0 .int := ⟨RX4, TX4, 5, tyX4, rfl, by decide, inX4, fl_10_108, tyX4_ok, nmX4, rfl, rfl⟩
theorem F_4_15 : gw_FL RX4 15 4 1 := ⟨RX4, TX4, 5, rfl, by decide, inX4, fl_4_15⟩
theorem F_10_131 : gw_FL RX10 131 4 1 := ⟨RX4, TX4, 5, rfl, by decide, inX4, fl_10_131⟩
theorem F_4_19 : gw_FL RX4 19 4 2 := ⟨RX4, TX4, 5, rfl, by decide, inX4, fl_4_19⟩
theorem F_4_22 : gw_FL RX4 22 4 3 := ⟨RX4, TX4, 5, rfl, by decide, inX4, fl_4_22⟩
theorem F_10_183 : gw_FL RX10 183 4 3 := ⟨RX4, TX4, 5, rfl, by decide, inX4, fl_10_183⟩
theorem F_4_25 : gw_FL RX4 25 4 4 := ⟨RX4, TX4, 5, rfl, by decide, inX4, fl_4_25⟩
theorem F_10_186 : gw_FL RX10 186 4 4 := ⟨RX4, TX4, 5, rfl, by decide, inX4, fl_10_186⟩
theorem F_2_7 : gw_FL RX2 7 2 0 := ⟨RX2, TX2, 6, rfl, by decide, inX2, fl_2_7⟩
theorem P_2_7 : gw_FP RX2 7 2 0 .boolean := ⟨RX2, TX2, 6, tyX2, rfl, by decide, inX2, fl_2_7, tyX2_ok, nmX2, rfl, rfl⟩
theorem F_10_138 : gw_FL RX10 138 2 0 := ⟨RX2, TX2, 6, rfl, by decide, inX2, fl_10_138⟩
theorem P_10_138 : gw_FP RX10 138 2 0 .boolean := ⟨RX2, TX2, 6, tyX2, rfl, by decide, inX2, fl_10_138, tyX2_ok, nmX2, rfl, rfl⟩
theorem F_2_13 : gw_FL RX2 13 2 1 := ⟨RX2, TX2, 6, rfl, by decide, inX2, fl_2_13⟩
theorem P_2_13 : gw_FP RX2 13 2 1 .boolean := ⟨RX2, TX2, 6, tyX2, rfl, by decide, inX2, fl_2_13, tyX2_ok, nmX2, rfl, rfl⟩
theorem F_10_134 : gw_FL RX10 134 2 1 := ⟨RX2, TX2, 6, rfl, by decide, inX2, fl_10_134⟩
theorem P_10_134 : gw_FP RX10 134 2 1 .boolean := ⟨RX2, TX2, 6, tyX2, rfl, by decide, inX2, fl_10_134, tyX2_ok, nmX2, rfl, rfl⟩
theorem F_2_16 : gw_FL RX2 16 2 2 := ⟨RX2, TX2, 6, rfl, by decide, inX2, fl_2_16⟩
theorem P_2_16 : gw_FP RX2 16 2 2 .int := ⟨RX2, TX2, 6, tyX2, rfl, by decide, inX2, fl_2_16, tyX2_ok, nmX2, rfl, rfl⟩
theorem F_10_144 : gw_FL RX10 144 2 2 := ⟨RX2, TX2, 6, rfl, by decide, inX2, fl_10_144⟩
theorem P_10_144 : gw_FP RX10 144 2 2 .int := ⟨RX2, TX2, 6, tyX2, rfl, by decide, inX2, fl_10_144, tyX2_ok, nmX2, rfl, rfl⟩
theorem F_2_20 : gw_FL RX2 20 2 3 := ⟨RX2, TX2, 6, rfl, by decide, inX2, fl_2_20⟩
theorem P_2_20 : gw_FP RX2 20 2 3 .int := ⟨RX2, TX2, 6, tyX2, rfl, by decide, inX2, fl_2_20, tyX2_ok, nmX2, rfl, rfl⟩
theorem F_10_147 : gw_FL RX10 147 2 3 := ⟨RX2, TX2, 6, rfl, by decide, inX2, fl_10_147⟩
theorem P_10_147 : gw_FP RX10 147 2 3 .int := ⟨RX2, TX2, 6, tyX2, rfl, by decide, inX2, fl_10_147, tyX2_ok, nmX2, rfl, rfl⟩
theorem F_2_23 : gw_FL RX2 23 2 4 := ⟨RX2, TX2, 6, rfl, by decide, inX2, fl_2_23⟩
theorem P_2_23 : gw_FP RX2 23 2 4 .int := ⟨RX2, TX2, 6, tyX2, rfl, by decide, inX2, fl_2_23, tyX2_ok, nmX2, rfl, rfl⟩
theorem F_10_156 : gw_FL RX10 156 2 4 := ⟨RX2, TX2, 6, rfl, by decide, inX2, fl_10_156⟩
theorem P_10_156 : gw_FP RX10 156 2 4 .int := ⟨RX2, TX2, 6, tyX2, rfl, by decide, inX2, fl_10_156, tyX2_ok, nmX2, rfl, rfl⟩
theorem F_2_26 : gw_FL RX2 26 2 5 := ⟨RX2, TX2, 6, rfl, by decide, inX2, fl_2_26⟩
theorem P_2_26 : gw_FP RX2 26 2 5 .int := ⟨RX2, TX2, 6, tyX2, rfl, by decide, inX2, fl_2_26, tyX2_ok, nmX2, rfl, rfl⟩
theorem F_10_153 : gw_FL RX10 153 2 5 := ⟨RX2, TX2, 6, rfl, by decide, inX2, fl_10_153⟩
theorem P_10_153 : gw_FP RX10 153 2 5 .int := ⟨RX2, TX2, 6, tyX2, rfl, by decide, inX2, fl_10_153, tyX2_ok, nmX2, rfl, rfl⟩
theorem F_10_12 : gw_FL RX10 12 10 0 := ⟨RX10, TX10, 16, rfl, by decide, inX10, fl_10_12⟩
theorem F_10_21 : gw_FL RX10 21 10 1 := ⟨RX10, TX10, 16, rfl, by decide, inX10, fl_10_21⟩
theorem F_11_239 : gw_FL RX11 239 10 1 := ⟨RX10, TX10, 16, rfl, by decide, inX10, fl_11_239⟩
theorem F_10_25 : gw_FL RX10 25 10 2 := ⟨RX10, TX10, 16, rfl, by decide, inX10, fl_10_25⟩
theorem F_10_32 : gw_FL RX10 32 10 3 := ⟨RX10, TX10, 16, rfl, by decide, inX10, fl_10_32⟩
theorem F_10_36 : gw_FL RX10 36 10 4 := ⟨RX10, TX10, 16, rfl, by decide, inX10, fl_10_36⟩
theorem P_10_36 : gw_FP RX10 36 10 4 .int := ⟨RX10, TX10, 16, tyX10, rfl, by decide, inX10, fl_10_36, tyX10_ok, nmX10, rfl, rfl⟩
theorem F_11_348 : gw_FL RX11 348 10 4 := ⟨RX10, TX10, 16, rfl, by decide, inX10, fl_11_348⟩
theorem P_11_348 : gw_FP RX11 348 10 4 .int := ⟨RX10, TX10, 16, tyX10, rfl, by decide, inX10, fl_11_348, tyX10_ok, nmX10, rfl, rfl⟩
theorem F_10_40 : gw_FL RX10 40 10 5 := ⟨RX10, TX10, 16, rfl, by decide, inX10, fl_10_40⟩
theorem P_10_40 : gw_FP RX10 40 10 5 .int := ⟨RX10, TX10, 16, tyX10, rfl, by decide, inX10, fl_10_40, tyX10_ok, nmX10, rfl, rfl⟩
theorem F_11_217 : gw_FL RX11 217 10 5 := ⟨RX10, TX10, 16, rfl, by decide, inX10, fl_11_217⟩
theorem P_11_217 : gw_FP RX11 217 10 5 .int := ⟨RX10, TX10, 16, tyX10, rfl, by decide, inX10, fl_11_217, tyX10_ok, nmX10, rfl, rfl⟩
theorem F_10_43 : gw_FL RX10 43 10 6 := ⟨RX10, TX10, 16, rfl, by decide, inX10, fl_10_43⟩
theorem P_10_43 : gw_FP RX10 43 10 6 .int := ⟨RX10, TX10, 16, tyX10, rfl, by decide, inX10, fl_10_43, tyX10_ok, nmX10, rfl, rfl⟩
theorem F_11_223 : gw_FL RX11 223 10 6 := ⟨RX10, TX10, 16, rfl, by decide, inX10, fl_11_223⟩
theorem P_11_223 : gw_FP RX11 223 10 6 .int := ⟨RX10, TX10, 16, tyX10, rfl, by decide, inX10, fl_11_223, tyX10_ok, nmX10, rfl, rfl⟩
theorem F_10_46 : gw_FL RX10 46 10 7 := ⟨RX10, TX10, 16, rfl, by decide, inX10, fl_10_46⟩
theorem P_10_46 : gw_FP RX10 46 10 7 .int := ⟨RX10, TX10, 16, tyX10, rfl, by decide, inX10, fl_10_46, tyX10_ok, nmX10, rfl, rfl⟩
theorem F_10_49 : gw_FL RX10 49 10 8 := ⟨RX10, TX10, 16, rfl, by decide, inX10, fl_10_49⟩
theorem P_10_49 : gw_FP RX10 49 10 8 .int := ⟨RX10, TX10, 16, tyX10, rfl, by decide, inX10, fl_10_49, tyX10_ok, nmX10, rfl, rfl⟩
theorem F_10_52 : gw_FL RX10 52 10 9 := ⟨RX10, TX10, 16, rfl, by decide, inX10, fl_10_52⟩
theorem P_10_52 : gw_FP RX10 52 10 9 .int := ⟨RX10, TX10, 16, tyX10, rfl, by decide, inX10, fl_10_52, tyX10_ok, nmX10, rfl, rfl⟩
theorem F_10_55 : gw_FL RX10 55 10 10 := ⟨RX10, TX10, 16, rfl, by decide, inX10, fl_10_55⟩
theorem F_11_351 : gw_FL RX11 351 10 10 := ⟨RX10, TX10, 16, rfl, by decide, inX10, fl_11_351⟩
theorem F_10_58 : gw_FL RX10 58 10 11 := ⟨RX10, TX10, 16, rfl, by decide, inX10, fl_10_58⟩
theorem F_10_61 : gw_FL RX10 61 10 12 := ⟨RX10, TX10, 16, rfl, by decide, inX10, fl_10_61⟩
theorem F_11_190 : gw_FL RX11 190 10 12 := ⟨RX10, TX10, 16, rfl, by decide, inX10, fl_11_190⟩
theorem F_10_64 : gw_FL RX10 64 10 13 := ⟨RX10, TX10, 16, rfl, by decide, inX10, fl_10_64⟩
theorem F_11_193 : gw_FL RX11 193 10 13 := ⟨RX10, TX10, 16, rfl, by decide, inX10, fl_11_193⟩
theorem F_10_67 : gw_FL RX10 67 10 14 := ⟨RX10, TX10, 16, rfl, by decide, inX10, fl_10_67⟩
theorem F_11_196 : gw_FL RX11 196 10 14 := ⟨RX10, TX10, 16, rfl, by decide, inX10, fl_11_196⟩
theorem F_10_70 : gw_FL RX10 70 10 15 := ⟨RX10, TX10, 16, rfl, by decide, inX10, fl_10_70⟩
theorem F_11_199 : gw_FL RX11 199 10 15 := ⟨RX10, TX10, 16, rfl, by decide, inX10, fl_11_199⟩
theorem F_1_9 : gw_FL RX1 9 1 0 := ⟨RX1, TX1, 3, rfl, by decide, inX1, fl_1_9⟩
theorem P_1_9 : gw_FP RX1 9 1 0 .int := ⟨RX1, TX1, 3, tyX1, rfl, by decide, inX1, fl_1_9, tyX1_ok, nmX1, rfl, rfl⟩
theorem F_1_15 : gw_FL RX1 15 1 1 := ⟨RX1, TX1, 3, rfl, by decide, inX1, fl_1_15⟩
theorem F_1_19 : gw_FL RX1 19 1 2 := ⟨RX1, TX1, 3, rfl, by decide, inX1, fl_1_19⟩
theorem F_11_294 : gw_FL RX11 294 1 2 := ⟨RX1, TX1, 3, rfl, by decide, inX1, fl_11_294⟩
theorem F_0_9 : gw_FL RX0 9 0 0 := ⟨RX0, TX0, 6, rfl, by decide, inX0, fl_0_9⟩
theorem P_0_9 : gw_FP RX0 9 0 0 .int := ⟨RX0, TX0, 6, tyX0, rfl, by decide, inX0, fl_0_9, tyX0_ok, nmX0, rfl, rfl⟩
theorem F_0_15 : gw_FL RX0 15 0 1 := ⟨RX0, TX0, 6, rfl, by decide, inX0, fl_0_15⟩
theorem F_0_19 : gw_FL RX0 19 0 2 := ⟨RX0, TX0, 6, rfl, by decide, inX0, fl_0_19⟩
theorem F_0_22 : gw_FL RX0 22 0 3 := ⟨RX0, TX0, 6, rfl, by decide, inX0, fl_0_22⟩
theorem F_0_25 : gw_FL RX0 25 0 4 := ⟨RX0, TX0, 6, rfl, by decide, inX0, fl_0_25⟩
theorem F_0_28 : gw_FL RX0 28 0 5 := ⟨RX0, TX0, 6, rfl, by decide, inX0, fl_0_28⟩
theorem P_0_28 : gw_FP RX0 28 0 5 .int := ⟨RX0, TX0, 6, tyX0, rfl, by decide, inX0, fl_0_28, tyX0_ok, nmX0, rfl, rfl⟩
theorem F_7_9 : gw_FL RX7 9 7 0 := ⟨RX7, TX7, 3, rfl, by decide, inX7, fl_7_9⟩
theorem P_7_9 : gw_FP RX7 9 7 0 .int := ⟨RX7, TX7, 3, tyX7, rfl, by decide, inX7, fl_7_9, tyX7_ok, nmX7, rfl, rfl⟩
theorem F_7_15 : gw_FL RX7 15 7 1 := ⟨RX7, TX7, 3, rfl, by decide, inX7, fl_7_15⟩
theorem P_7_15 : gw_FP RX7 15 7 1 .int := ⟨RX7, TX7, 3, tyX7, rfl, by decide, inX7, fl_7_15, tyX7_ok, nmX7, rfl, rfl⟩
theorem F_7_18 : gw_FL RX7 18 7 2 := ⟨RX7, TX7, 3, rfl, by decide, inX7, fl_7_18⟩
theorem F_11_10 : gw_FL RX11 10 11 0 := ⟨RX11, TX11, 16, rfl, by decide, inX11, fl_11_10⟩
theorem F_11_16 : gw_FL RX11 16 11 1 := ⟨RX11, TX11, 16, rfl, by decide, inX11, fl_11_16⟩
theorem F_11_19 : gw_FL RX11 19 11 2 := ⟨RX11, TX11, 16, rfl, by decide, inX11, fl_11_19⟩
theorem P_11_19 : gw_FP RX11 19 11 2 .boolean := ⟨RX11, TX11, 16, tyX11, rfl, by decide, inX11, fl_11_19, tyX11_ok, nmX11, rfl, rfl⟩
theorem F_11_26 : gw_FL RX11 26 11 3 := ⟨RX11, TX11, 16, rfl, by decide, inX11, fl_11_26⟩
theorem F_11_33 : gw_FL RX11 33 11 4 := ⟨RX11, TX11, 16, rfl, by decide, inX11, fl_11_33⟩
theorem F_11_40 : gw_FL RX11 40 11 5 := ⟨RX11, TX11, 16, rfl, by decide, inX11, fl_11_40⟩
theorem F_11_47 : gw_FL RX11 47 11 6 := ⟨RX11, TX11, 16, rfl, by decide, inX11, fl_11_47⟩
theorem F_11_51 : gw_FL RX11 51 11 7 := ⟨RX11, TX11, 16, rfl, by decide, inX11, fl_11_51⟩
theorem F_11_54 : gw_FL RX11 54 11 8 := ⟨RX11, TX11, 16, rfl, by decide, inX11, fl_11_54⟩
theorem P_11_54 : gw_FP RX11 54 11 8 .boolean := ⟨RX11, TX11, 16, tyX11, rfl, by decide, inX11, fl_11_54, tyX11_ok, nmX11, rfl, rfl⟩
theorem F_11_57 : gw_FL RX11 57 11 9 := ⟨RX11, TX11, 16, rfl, by decide, inX11, fl_11_57⟩
theorem F_11_61 : gw_FL RX11 61 11 10 := ⟨RX11, TX11, 16, rfl, by decide, inX11, fl_11_61⟩
theorem P_11_61 : gw_FP RX11 61 11 10 .int := ⟨RX11, TX11, 16, tyX11, rfl, by decide, inX11, fl_11_61, tyX11_ok, nmX11, rfl, rfl⟩
theorem F_11_65 : gw_FL RX11 65 11 11 := ⟨RX11, TX11, 16, rfl, by decide, inX11, fl_11_65⟩
theorem F_11_68 : gw_FL RX11 68 11 12 := ⟨RX11, TX11, 16, rfl, by decide, inX11, fl_11_68⟩
theorem P_11_68 : gw_FP RX11 68 11 12 .int := ⟨RX11, TX11, 16, tyX11, rfl, by decide, inX11, fl_11_68, tyX11_ok, nmX11, rfl, rfl⟩
theorem F_11_74 : gw_FL RX11 74 11 13 := ⟨RX11, TX11, 16, rfl, by decide, inX11, fl_11_74⟩
theorem F_11_81 : gw_FL RX11 81 11 14 := ⟨RX11, TX11, 16, rfl, by decide, inX11, fl_11_81⟩
theorem F_11_87 : gw_FL RX11 87 11 15 := ⟨RX11, TX11, 16, rfl, by decide, inX11, fl_11_87⟩
theorem v_X1_load : gw_MV M_X1_load 2 := ⟨⟨mc_X1_load, ini_1, by decide +kernel, by decide +kernel, by decide +kernel, by decide⟩, mi_X1_load, ms_X1_load⟩
theorem pl_X1_load : plainName (gw_mY M_X1_load).cls = true := by decide +kernel
theorem v_X1_paint : gw_MV M_X1_paint 0 := ⟨⟨mc_X1_paint, ini_1, by decide +kernel, by decide +kernel, by decide +kernel, by decide⟩, mi_X1_paint, ms_X1_paint⟩
theorem pl_X1_paint : plainName (gw_mY M_X1_paint).cls = true := by decide +kernel
theorem v_X1_paintFrom : gw_MS M_X1_paintFrom 4 := ⟨⟨mc_X1_paintFrom, ini_1, by decide +kernel, by decide +kernel, by decide +kernel, by decide⟩, mS_X1_paintFrom⟩
theorem pl_X1_paintFrom : plainName (gw_mY M_X1_paintFrom).cls = true := by decide +kernel
theorem v_X1_isFree : gw_MV M_X1_isFree 2 := ⟨⟨mc_X1_isFree, ini_1, by decide +kernel, by decide +kernel, by decide +kernel, by decide⟩, mi_X1_isFree, ms_X1_isFree⟩
theorem pl_X1_isFree : plainName (gw_mY M_X1_isFree).cls = true := by decide +kernel
theorem v_X2_clear : gw_MV M_X2_clear 0 := ⟨⟨mc_X2_clear, ini_2, by decide +kernel, by decide +kernel, by decide +kernel, by decide⟩, mi_X2_clear, ms_X2_clear⟩
theorem pl_X2_clear : plainName (gw_mY M_X2_clear).cls = true := by decide +kernel
theorem v_X3_isTaken : gw_MV M_X3_isTaken 2 := ⟨⟨mc_X3_isTaken, ini_3, by decide +kernel, by decide +kernel, by decide +kernel, by decide⟩, mi_X3_isTaken, ms_X3_isTaken⟩
theorem pl_X3_isTaken : plainName (gw_mY M_X3_isTaken).cls = true := by decide +kernel
theorem v_X3_add : gw_MV M_X3_add 3 := ⟨⟨mc_X3_add, ini_3, by decide +kernel, by decide +kernel, by decide +kernel, by decide⟩, mi_X3_add, ms_X3_add⟩
theorem pl_X3_add : plainName (gw_mY M_X3_add).cls = true := by decide +kernel
theorem v_X3_take : gw_MV M_X3_take 1 := ⟨⟨mc_X3_take, ini_3, by decide +kernel, by decide +kernel, by decide +kernel, by decide⟩, mi_X3_take, ms_X3_take⟩
theorem pl_X3_take : plainName (gw_mY M_X3_take).cls = true := by decide +kernel
theorem v_X4_lay : gw_MV M_X4_lay 2 := ⟨⟨mc_X4_lay, ini_4, by decide +kernel, by decide +kernel, by decide +kernel, by decide⟩, mi_X4_lay, ms_X4_lay⟩
theorem pl_X4_lay : plainName (gw_mY M_X4_lay).cls = true := by decide +kernel
theorem v_X4_layKind : gw_MV M_X4_layKind 3 := ⟨⟨mc_X4_layKind, ini_4, by decide +kernel, by decide +kernel, by decide +kernel, by decide⟩, mi_X4_layKind, ms_X4_layKind⟩
theorem pl_X4_layKind : plainName (gw_mY M_X4_layKind).cls = true := by decide +kernel
theorem v_X4_isRed : gw_MV M_X4_isRed 2 := ⟨⟨mc_X4_isRed, ini_4, by decide +kernel, by decide +kernel, by decide +kernel, by decide⟩, mi_X4_isRed, ms_X4_isRed⟩
theorem pl_X4_isRed : plainName (gw_mY M_X4_isRed).cls = true := by decide +kernel
theorem v_X5_tailNumber : gw_MV M_X5_tailNumber 0 := ⟨⟨mc_X5_tailNumber, ini_5, by decide +kernel, by decide +kernel, by decide +kernel, by decide⟩, mi_X5_tailNumber, ms_X5_tailNumber⟩
theorem pl_X5_tailNumber : plainName (gw_mY M_X5_tailNumber).cls = true := by decide +kernel
theorem v_X5_add : gw_MV M_X5_add 3 := ⟨⟨mc_X5_add, ini_5, by decide +kernel, by decide +kernel, by decide +kernel, by decide⟩, mi_X5_add, ms_X5_add⟩
theorem pl_X5_add : plainName (gw_mY M_X5_add).cls = true := by decide +kernel
theorem v_X5_take : gw_MV M_X5_take 1 := ⟨⟨mc_X5_take, ini_5, by decide +kernel, by decide +kernel, by decide +kernel, by decide⟩, mi_X5_take, ms_X5_take⟩
theorem pl_X5_take : plainName (gw_mY M_X5_take).cls = true := by decide +kernel
theorem v_X6_take : gw_MV M_X6_take 1 := ⟨⟨mc_X6_take, ini_6, by decide +kernel, by decide +kernel, by decide +kernel, by decide⟩, mi_X6_take, ms_X6_take⟩
theorem pl_X6_take : plainName (gw_mY M_X6_take).cls = true := by decide +kernel
theorem v_X6_isMet : gw_MV M_X6_isMet 1 := ⟨⟨mc_X6_isMet, ini_6, by decide +kernel, by decide +kernel, by decide +kernel, by decide⟩, mi_X6_isMet, ms_X6_isMet⟩
theorem pl_X6_isMet : plainName (gw_mY M_X6_isMet).cls = true := by decide +kernel
theorem v_X6_minutesSpoken : gw_MV M_X6_minutesSpoken 0 := ⟨⟨mc_X6_minutesSpoken, ini_6, by decide +kernel, by decide +kernel, by decide +kernel, by decide⟩, mi_X6_minutesSpoken, ms_X6_minutesSpoken⟩
theorem pl_X6_minutesSpoken : plainName (gw_mY M_X6_minutesSpoken).cls = true := by decide +kernel
theorem v_X6_valueIfFits : gw_MV M_X6_valueIfFits 2 := ⟨⟨mc_X6_valueIfFits, ini_6, by decide +kernel, by decide +kernel, by decide +kernel, by decide⟩, mi_X6_valueIfFits, ms_X6_valueIfFits⟩
theorem pl_X6_valueIfFits : plainName (gw_mY M_X6_valueIfFits).cls = true := by decide +kernel
theorem v_X10_load : gw_MV M_X10_load 1 := ⟨⟨mc_X10_load, ini_10, by decide +kernel, by decide +kernel, by decide +kernel, by decide⟩, mi_X10_load, ms_X10_load⟩
theorem pl_X10_load : plainName (gw_mY M_X10_load).cls = true := by decide +kernel
theorem v_X10_takeRule : gw_MV M_X10_takeRule 3 := ⟨⟨mc_X10_takeRule, ini_10, by decide +kernel, by decide +kernel, by decide +kernel, by decide⟩, mi_X10_takeRule, ms_X10_takeRule⟩
theorem pl_X10_takeRule : plainName (gw_mY M_X10_takeRule).cls = true := by decide +kernel
theorem v_X10_start : gw_MV M_X10_start 0 := ⟨⟨mc_X10_start, ini_10, by decide +kernel, by decide +kernel, by decide +kernel, by decide⟩, mi_X10_start, ms_X10_start⟩
theorem pl_X10_start : plainName (gw_mY M_X10_start).cls = true := by decide +kernel
theorem v_X10_isOver : gw_MV M_X10_isOver 0 := ⟨⟨mc_X10_isOver, ini_10, by decide +kernel, by decide +kernel, by decide +kernel, by decide⟩, mi_X10_isOver, ms_X10_isOver⟩
theorem pl_X10_isOver : plainName (gw_mY M_X10_isOver).cls = true := by decide +kernel
theorem v_X10_live : gw_MV M_X10_live 1 := ⟨⟨mc_X10_live, ini_10, by decide +kernel, by decide +kernel, by decide +kernel, by decide⟩, mi_X10_live, ms_X10_live⟩
theorem pl_X10_live : plainName (gw_mY M_X10_live).cls = true := by decide +kernel
theorem v_X10_lead : gw_MV M_X10_lead 1 := ⟨⟨mc_X10_lead, ini_10, by decide +kernel, by decide +kernel, by decide +kernel, by decide⟩, mi_X10_lead, ms_X10_lead⟩
theorem pl_X10_lead : plainName (gw_mY M_X10_lead).cls = true := by decide +kernel
theorem v_X10_isAtOpenStop : gw_MV M_X10_isAtOpenStop 0 := ⟨⟨mc_X10_isAtOpenStop, ini_10, by decide +kernel, by decide +kernel, by decide +kernel, by decide⟩, mi_X10_isAtOpenStop, ms_X10_isAtOpenStop⟩
theorem pl_X10_isAtOpenStop : plainName (gw_mY M_X10_isAtOpenStop).cls = true := by decide +kernel
theorem v_X10_isKept : gw_MV M_X10_isKept 0 := ⟨⟨mc_X10_isKept, ini_10, by decide +kernel, by decide +kernel, by decide +kernel, by decide⟩, mi_X10_isKept, ms_X10_isKept⟩
theorem pl_X10_isKept : plainName (gw_mY M_X10_isKept).cls = true := by decide +kernel
theorem v_X10_isToBegin : gw_MV M_X10_isToBegin 0 := ⟨⟨mc_X10_isToBegin, ini_10, by decide +kernel, by decide +kernel, by decide +kernel, by decide⟩, mi_X10_isToBegin, ms_X10_isToBegin⟩
theorem pl_X10_isToBegin : plainName (gw_mY M_X10_isToBegin).cls = true := by decide +kernel
theorem v_X10_speak : gw_MV M_X10_speak 0 := ⟨⟨mc_X10_speak, ini_10, by decide +kernel, by decide +kernel, by decide +kernel, by decide⟩, mi_X10_speak, ms_X10_speak⟩
theorem pl_X10_speak : plainName (gw_mY M_X10_speak).cls = true := by decide +kernel
theorem v_X10_follow : gw_MV M_X10_follow 2 := ⟨⟨mc_X10_follow, ini_10, by decide +kernel, by decide +kernel, by decide +kernel, by decide⟩, mi_X10_follow, ms_X10_follow⟩
theorem pl_X10_follow : plainName (gw_mY M_X10_follow).cls = true := by decide +kernel
theorem v_X10_lastBeside : gw_MV M_X10_lastBeside 1 := ⟨⟨mc_X10_lastBeside, ini_10, by decide +kernel, by decide +kernel, by decide +kernel, by decide⟩, mi_X10_lastBeside, ms_X10_lastBeside⟩
theorem pl_X10_lastBeside : plainName (gw_mY M_X10_lastBeside).cls = true := by decide +kernel
theorem v_X10_losesItsWay : gw_MV M_X10_losesItsWay 1 := ⟨⟨mc_X10_losesItsWay, ini_10, by decide +kernel, by decide +kernel, by decide +kernel, by decide⟩, mi_X10_losesItsWay, ms_X10_losesItsWay⟩
theorem pl_X10_losesItsWay : plainName (gw_mY M_X10_losesItsWay).cls = true := by decide +kernel
theorem v_X10_closeMinute : gw_MV M_X10_closeMinute 1 := ⟨⟨mc_X10_closeMinute, ini_10, by decide +kernel, by decide +kernel, by decide +kernel, by decide⟩, mi_X10_closeMinute, ms_X10_closeMinute⟩
theorem pl_X10_closeMinute : plainName (gw_mY M_X10_closeMinute).cls = true := by decide +kernel
theorem v_X10_out : gw_MV M_X10_out 0 := ⟨⟨mc_X10_out, ini_10, by decide +kernel, by decide +kernel, by decide +kernel, by decide⟩, mi_X10_out, ms_X10_out⟩
theorem pl_X10_out : plainName (gw_mY M_X10_out).cls = true := by decide +kernel
theorem v_X10_leastHeardInTime : gw_MV M_X10_leastHeardInTime 1 := ⟨⟨mc_X10_leastHeardInTime, ini_10, by decide +kernel, by decide +kernel, by decide +kernel, by decide⟩, mi_X10_leastHeardInTime, ms_X10_leastHeardInTime⟩
theorem pl_X10_leastHeardInTime : plainName (gw_mY M_X10_leastHeardInTime).cls = true := by decide +kernel
theorem v_X10_heardTogether : gw_MV M_X10_heardTogether 0 := ⟨⟨mc_X10_heardTogether, ini_10, by decide +kernel, by decide +kernel, by decide +kernel, by decide⟩, mi_X10_heardTogether, ms_X10_heardTogether⟩
theorem pl_X10_heardTogether : plainName (gw_mY M_X10_heardTogether).cls = true := by decide +kernel
theorem v_X10_leastHeard : gw_MV M_X10_leastHeard 0 := ⟨⟨mc_X10_leastHeard, ini_10, by decide +kernel, by decide +kernel, by decide +kernel, by decide⟩, mi_X10_leastHeard, ms_X10_leastHeard⟩
theorem pl_X10_leastHeard : plainName (gw_mY M_X10_leastHeard).cls = true := by decide +kernel
theorem v_X10_allThere : gw_MV M_X10_allThere 0 := ⟨⟨mc_X10_allThere, ini_10, by decide +kernel, by decide +kernel, by decide +kernel, by decide⟩, mi_X10_allThere, ms_X10_allThere⟩
theorem pl_X10_allThere : plainName (gw_mY M_X10_allThere).cls = true := by decide +kernel
theorem v_X10_lostSet : gw_MV M_X10_lostSet 0 := ⟨⟨mc_X10_lostSet, ini_10, by decide +kernel, by decide +kernel, by decide +kernel, by decide⟩, mi_X10_lostSet, ms_X10_lostSet⟩
theorem pl_X10_lostSet : plainName (gw_mY M_X10_lostSet).cls = true := by decide +kernel
theorem v_X11_end : gw_MV M_X11_end 1 := ⟨⟨mc_X11_end, ini_11, by decide +kernel, by decide +kernel, by decide +kernel, by decide⟩, mi_X11_end, ms_X11_end⟩
theorem pl_X11_end : plainName (gw_mY M_X11_end).cls = true := by decide +kernel
theorem v_X11_mark : gw_MV M_X11_mark 3 := ⟨⟨mc_X11_mark, ini_11, by decide +kernel, by decide +kernel, by decide +kernel, by decide⟩, mi_X11_mark, ms_X11_mark⟩
theorem pl_X11_mark : plainName (gw_mY M_X11_mark).cls = true := by decide +kernel
theorem v_X11_person : gw_MV M_X11_person 3 := ⟨⟨mc_X11_person, ini_11, by decide +kernel, by decide +kernel, by decide +kernel, by decide⟩, mi_X11_person, ms_X11_person⟩
theorem pl_X11_person : plainName (gw_mY M_X11_person).cls = true := by decide +kernel
theorem v_X11_rule : gw_MV M_X11_rule 2 := ⟨⟨mc_X11_rule, ini_11, by decide +kernel, by decide +kernel, by decide +kernel, by decide⟩, mi_X11_rule, ms_X11_rule⟩
theorem pl_X11_rule : plainName (gw_mY M_X11_rule).cls = true := by decide +kernel
theorem v_X11_fate : gw_MV M_X11_fate 2 := ⟨⟨mc_X11_fate, ini_11, by decide +kernel, by decide +kernel, by decide +kernel, by decide⟩, mi_X11_fate, ms_X11_fate⟩
theorem pl_X11_fate : plainName (gw_mY M_X11_fate).cls = true := by decide +kernel
theorem v_X11_at : gw_MV M_X11_at 2 := ⟨⟨mc_X11_at, ini_11, by decide +kernel, by decide +kernel, by decide +kernel, by decide⟩, mi_X11_at, ms_X11_at⟩
theorem pl_X11_at : plainName (gw_mY M_X11_at).cls = true := by decide +kernel
theorem v_X11_all : gw_MV M_X11_all 1 := ⟨⟨mc_X11_all, ini_11, by decide +kernel, by decide +kernel, by decide +kernel, by decide⟩, mi_X11_all, ms_X11_all⟩
theorem pl_X11_all : plainName (gw_mY M_X11_all).cls = true := by decide +kernel
theorem v_X11_best : gw_MV M_X11_best 2 := ⟨⟨mc_X11_best, ini_11, by decide +kernel, by decide +kernel, by decide +kernel, by decide⟩, mi_X11_best, ms_X11_best⟩
theorem pl_X11_best : plainName (gw_mY M_X11_best).cls = true := by decide +kernel
theorem v_X11_worth : gw_MV M_X11_worth 1 := ⟨⟨mc_X11_worth, ini_11, by decide +kernel, by decide +kernel, by decide +kernel, by decide⟩, mi_X11_worth, ms_X11_worth⟩
theorem pl_X11_worth : plainName (gw_mY M_X11_worth).cls = true := by decide +kernel
theorem v_X11_chosen : gw_MV M_X11_chosen 2 := ⟨⟨mc_X11_chosen, ini_11, by decide +kernel, by decide +kernel, by decide +kernel, by decide⟩, mi_X11_chosen, ms_X11_chosen⟩
theorem pl_X11_chosen : plainName (gw_mY M_X11_chosen).cls = true := by decide +kernel
theorem v_X11_colours : gw_MV M_X11_colours 3 := ⟨⟨mc_X11_colours, ini_11, by decide +kernel, by decide +kernel, by decide +kernel, by decide⟩, mi_X11_colours, ms_X11_colours⟩
theorem pl_X11_colours : plainName (gw_mY M_X11_colours).cls = true := by decide +kernel
theorem v_X11_image : gw_MV M_X11_image 0 := ⟨⟨mc_X11_image, ini_11, by decide +kernel, by decide +kernel, by decide +kernel, by decide⟩, mi_X11_image, ms_X11_image⟩
theorem pl_X11_image : plainName (gw_mY M_X11_image).cls = true := by decide +kernel
theorem v_X11_restore : gw_MV M_X11_restore 0 := ⟨⟨mc_X11_restore, ini_11, by decide +kernel, by decide +kernel, by decide +kernel, by decide⟩, mi_X11_restore, ms_X11_restore⟩
theorem pl_X11_restore : plainName (gw_mY M_X11_restore).cls = true := by decide +kernel
theorem v_X11_within : gw_MS M_X11_within 3 := ⟨⟨mc_X11_within, ini_11, by decide +kernel, by decide +kernel, by decide +kernel, by decide⟩, mS_X11_within⟩
theorem pl_X11_within : plainName (gw_mY M_X11_within).cls = true := by decide +kernel
theorem v_X11_cutUp : gw_MS M_X11_cutUp 2 := ⟨⟨mc_X11_cutUp, ini_11, by decide +kernel, by decide +kernel, by decide +kernel, by decide⟩, mS_X11_cutUp⟩
theorem pl_X11_cutUp : plainName (gw_mY M_X11_cutUp).cls = true := by decide +kernel
theorem v_X11_arePairs : gw_MS M_X11_arePairs 2 := ⟨⟨mc_X11_arePairs, ini_11, by decide +kernel, by decide +kernel, by decide +kernel, by decide⟩, mS_X11_arePairs⟩
theorem pl_X11_arePairs : plainName (gw_mY M_X11_arePairs).cls = true := by decide +kernel
theorem v_X11_isPerson : gw_MV M_X11_isPerson 1 := ⟨⟨mc_X11_isPerson, ini_11, by decide +kernel, by decide +kernel, by decide +kernel, by decide⟩, mi_X11_isPerson, ms_X11_isPerson⟩
theorem pl_X11_isPerson : plainName (gw_mY M_X11_isPerson).cls = true := by decide +kernel
theorem v_X11_forget : gw_MV M_X11_forget 0 := ⟨⟨mc_X11_forget, ini_11, by decide +kernel, by decide +kernel, by decide +kernel, by decide⟩, mi_X11_forget, ms_X11_forget⟩
theorem pl_X11_forget : plainName (gw_mY M_X11_forget).cls = true := by decide +kernel
theorem v_X11_goAlong : gw_MV M_X11_goAlong 0 := ⟨⟨mc_X11_goAlong, ini_11, by decide +kernel, by decide +kernel, by decide +kernel, by decide⟩, mi_X11_goAlong, ms_X11_goAlong⟩
theorem pl_X11_goAlong : plainName (gw_mY M_X11_goAlong).cls = true := by decide +kernel
theorem v_X11_writeTrail : gw_MV M_X11_writeTrail 1 := ⟨⟨mc_X11_writeTrail, ini_11, by decide +kernel, by decide +kernel, by decide +kernel, by decide⟩, mi_X11_writeTrail, ms_X11_writeTrail⟩
theorem pl_X11_writeTrail : plainName (gw_mY M_X11_writeTrail).cls = true := by decide +kernel
theorem v_X11_seekBest : gw_MV M_X11_seekBest 1 := ⟨⟨mc_X11_seekBest, ini_11, by decide +kernel, by decide +kernel, by decide +kernel, by decide⟩, mi_X11_seekBest, ms_X11_seekBest⟩
theorem pl_X11_seekBest : plainName (gw_mY M_X11_seekBest).cls = true := by decide +kernel
theorem v_X11_noteBest : gw_MV M_X11_noteBest 4 := ⟨⟨mc_X11_noteBest, ini_11, by decide +kernel, by decide +kernel, by decide +kernel, by decide⟩, mi_X11_noteBest, ms_X11_noteBest⟩
theorem pl_X11_noteBest : plainName (gw_mY M_X11_noteBest).cls = true := by decide +kernel
theorem v_X13_cell : gw_MS M_X13_cell 2 := ⟨⟨mc_X13_cell, ini_13, by decide +kernel, by decide +kernel, by decide +kernel, by decide⟩, mS_X13_cell⟩
theorem pl_X13_cell : plainName (gw_mY M_X13_cell).cls = true := by decide +kernel
theorem v_X13_end : gw_MS M_X13_end 1 := ⟨⟨mc_X13_end, ini_13, by decide +kernel, by decide +kernel, by decide +kernel, by decide⟩, mS_X13_end⟩
theorem pl_X13_end : plainName (gw_mY M_X13_end).cls = true := by decide +kernel
theorem v_X13_marks : gw_MS M_X13_marks 2 := ⟨⟨mc_X13_marks, ini_13, by decide +kernel, by decide +kernel, by decide +kernel, by decide⟩, mS_X13_marks⟩
theorem pl_X13_marks : plainName (gw_mY M_X13_marks).cls = true := by decide +kernel
theorem v_X13_mark : gw_MS M_X13_mark 4 := ⟨⟨mc_X13_mark, ini_13, by decide +kernel, by decide +kernel, by decide +kernel, by decide⟩, mS_X13_mark⟩
theorem pl_X13_mark : plainName (gw_mY M_X13_mark).cls = true := by decide +kernel
theorem v_X13_people : gw_MS M_X13_people 2 := ⟨⟨mc_X13_people, ini_13, by decide +kernel, by decide +kernel, by decide +kernel, by decide⟩, mS_X13_people⟩
theorem pl_X13_people : plainName (gw_mY M_X13_people).cls = true := by decide +kernel
theorem v_X13_one : gw_MS M_X13_one 3 := ⟨⟨mc_X13_one, ini_13, by decide +kernel, by decide +kernel, by decide +kernel, by decide⟩, mS_X13_one⟩
theorem pl_X13_one : plainName (gw_mY M_X13_one).cls = true := by decide +kernel
theorem v_X13_rule : gw_MS M_X13_rule 2 := ⟨⟨mc_X13_rule, ini_13, by decide +kernel, by decide +kernel, by decide +kernel, by decide⟩, mS_X13_rule⟩
theorem pl_X13_rule : plainName (gw_mY M_X13_rule).cls = true := by decide +kernel
theorem v_X13_lays : gw_MS M_X13_lays 3 := ⟨⟨mc_X13_lays, ini_13, by decide +kernel, by decide +kernel, by decide +kernel, by decide⟩, mS_X13_lays⟩
theorem pl_X13_lays : plainName (gw_mY M_X13_lays).cls = true := by decide +kernel
theorem sf_11_148 : Cond.fieldLink RX11 148 "FlagWalk" (gw_sn 2) "[I" ∈ gw_tb := gw_tb2 (List.mem_of_getElem? (i := 173) (by decide +kernel)) rfl
theorem sf_11_151 : Cond.fieldLink RX11 151 "FlagWalk" (gw_sn 3) "[I" ∈ gw_tb := gw_tb2 (List.mem_of_getElem? (i := 175) (by decide +kernel)) rfl
theorem sf_11_102 : Cond.fieldLink RX11 102 "FlagWalk" (gw_sn 0) "[I" ∈ gw_tb := gw_tb3 (List.mem_of_getElem? (i := 200) (by decide +kernel)) rfl
theorem sf_11_105 : Cond.fieldLink RX11 105 "FlagWalk" (gw_sn 1) "[I" ∈ gw_tb := gw_tb3 (List.mem_of_getElem? (i := 202) (by decide +kernel)) rfl
theorem sn_6_29 : (RX6, 29, "FlagWalk", gw_sn 4, "[I", "FlagWalk") ∈ gw_nwF := List.mem_of_getElem? (i := 0) rfl
