/-! blocks of cells that the constructors make; defaults of the fields -/
def gn_f0 : List Value := [.int (Int32.ofInt 0), .null, .null, .null, .null, .int (Int32.ofInt 0)]
theorem gn_df0 : ∀ j, j < 6 → defaultValue (tyX0 j) = vp_V gn_f0 j := fun j hj => match j, hj with
  | 0, _ => rfl
  | 1, _ => rfl
  | 2, _ => rfl
  | 3, _ => rfl
  | 4, _ => rfl
  | 5, _ => rfl
  | k + 6, h => absurd h (by omega)
def gn_f1 : List Value := [.int (Int32.ofInt 0), .null, .null]
theorem gn_df1 : ∀ j, j < 3 → defaultValue (tyX1 j) = vp_V gn_f1 j := fun j hj => match j, hj with
  | 0, _ => rfl
  | 1, _ => rfl
  | 2, _ => rfl
  | k + 3, h => absurd h (by omega)
def gn_f2 : List Value := [.int (Int32.ofInt 0), .int (Int32.ofInt 0), .int (Int32.ofInt 0), .int (Int32.ofInt 0), .int (Int32.ofInt 0), .int (Int32.ofInt 0)]
theorem gn_df2 : ∀ j, j < 6 → defaultValue (tyX2 j) = vp_V gn_f2 j := fun j hj => match j, hj with
  | 0, _ => rfl
  | 1, _ => rfl
  | 2, _ => rfl
  | 3, _ => rfl
  | 4, _ => rfl
  | 5, _ => rfl
  | k + 6, h => absurd h (by omega)
def gn_f3 : List Value := [.null, .null, .null, .null]
theorem gn_df3 : ∀ j, j < 4 → defaultValue (tyX3 j) = vp_V gn_f3 j := fun j hj => match j, hj with
  | 0, _ => rfl
  | 1, _ => rfl
  | 2, _ => rfl
  | 3, _ => rfl
  | k + 4, h => absurd h (by omega)
def gn_f4 : List Value := [.int (Int32.ofInt 0), .null, .null, .null, .null]
theorem gn_df4 : ∀ j, j < 5 → defaultValue (tyX4 j) = vp_V gn_f4 j := fun j hj => match j, hj with
  | 0, _ => rfl
  | 1, _ => rfl
  | 2, _ => rfl
  | 3, _ => rfl
  | 4, _ => rfl
  | k + 5, h => absurd h (by omega)
def gn_f5 : List Value := [.int (Int32.ofInt 0), .null, .null, .null]
theorem gn_df5 : ∀ j, j < 4 → defaultValue (tyX5 j) = vp_V gn_f5 j := fun j hj => match j, hj with
  | 0, _ => rfl
  | 1, _ => rfl
  | 2, _ => rfl
  | 3, _ => rfl
  | k + 4, h => absurd h (by omega)
def gn_f6 : List Value := [.int (Int32.ofInt 0), .null, .null, .null, .null]
theorem gn_df6 : ∀ j, j < 5 → defaultValue (tyX6 j) = vp_V gn_f6 j := fun j hj => match j, hj with
  | 0, _ => rfl
  | 1, _ => rfl
  | 2, _ => rfl
  | 3, _ => rfl
  | 4, _ => rfl
  | k + 5, h => absurd h (by omega)
def gn_f7 : List Value := [.int (Int32.ofInt 0), .int (Int32.ofInt 0), .null]
theorem gn_df7 : ∀ j, j < 3 → defaultValue (tyX7 j) = vp_V gn_f7 j := fun j hj => match j, hj with
  | 0, _ => rfl
  | 1, _ => rfl
  | 2, _ => rfl
  | k + 3, h => absurd h (by omega)
def gn_f8 : List Value := [.null, .int (Int32.ofInt 0), .int (Int32.ofInt 0), .int (Int32.ofInt 0), .int (Int32.ofInt 0), .int (Int32.ofInt 0), .int (Int32.ofInt 0), .int (Int32.ofInt 0)]
theorem gn_df8 : ∀ j, j < 8 → defaultValue (tyX8 j) = vp_V gn_f8 j := fun j hj => match j, hj with
  | 0, _ => rfl
  | 1, _ => rfl
  | 2, _ => rfl
  | 3, _ => rfl
  | 4, _ => rfl
  | 5, _ => rfl
  | 6, _ => rfl
  | 7, _ => rfl
  | k + 8, h => absurd h (by omega)
def gn_f9 : List Value := [.null, .int (Int32.ofInt 0), .int (Int32.ofInt 0), .int (Int32.ofInt 0)]
theorem gn_df9 : ∀ j, j < 4 → defaultValue (tyX9 j) = vp_V gn_f9 j := fun j hj => match j, hj with
  | 0, _ => rfl
  | 1, _ => rfl
  | 2, _ => rfl
  | 3, _ => rfl
  | k + 4, h => absurd h (by omega)
def gn_f10 : List Value := [.null, .null, .null, .null, .int (Int32.ofInt 0), .int (Int32.ofInt 0), .int (Int32.ofInt 0), .int (Int32.ofInt 0), .int (Int32.ofInt 0), .int (Int32.ofInt 0), .null, .null, .null, .null, .null, .null]
theorem gn_df10 : ∀ j, j < 16 → defaultValue (tyX10 j) = vp_V gn_f10 j := fun j hj => match j, hj with
  | 0, _ => rfl
  | 1, _ => rfl
  | 2, _ => rfl
  | 3, _ => rfl
  | 4, _ => rfl
  | 5, _ => rfl
  | 6, _ => rfl
  | 7, _ => rfl
  | 8, _ => rfl
  | 9, _ => rfl
  | 10, _ => rfl
  | 11, _ => rfl
  | 12, _ => rfl
  | 13, _ => rfl
  | 14, _ => rfl
  | 15, _ => rfl
  | k + 16, h => absurd h (by omega)
def gn_f11 : List Value := [.null, .null, .int (Int32.ofInt 0), .null, .null, .null, .null, .null, .int (Int32.ofInt 0), .null, .int (Int32.ofInt 0), .null, .int (Int32.ofInt 0), .null, .null, .null]
theorem gn_df11 : ∀ j, j < 16 → defaultValue (tyX11 j) = vp_V gn_f11 j := fun j hj => match j, hj with
  | 0, _ => rfl
  | 1, _ => rfl
  | 2, _ => rfl
  | 3, _ => rfl
  | 4, _ => rfl
  | 5, _ => rfl
  | 6, _ => rfl
  | 7, _ => rfl
  | 8, _ => rfl
  | 9, _ => rfl
  | 10, _ => rfl
  | 11, _ => rfl
  | 12, _ => rfl
  | 13, _ => rfl
  | 14, _ => rfl
  | 15, _ => rfl
  | k + 16, h => absurd h (by omega)
def gb_0 : gn_Blk := fun cA ad => [.inr (0, [.int (Int32.ofInt 0), .ref (ad 1), .ref (ad 2), .ref (ad 3), .ref (ad 4), .int (Int32.ofInt 0)])] ++ ([gn_z (cA 1) 6] ++ ([gn_z (cA 1) 6] ++ ([gn_z (cA 1) 6] ++ ([gn_z (cA 1) 6]))))
def gb_1 : gn_Blk := fun cA ad => [.inr (1, [.int (Int32.ofInt 0), .ref (ad 1), .ref (ad 2)])] ++ ([gn_z (cA 1) 8] ++ ([gn_z (cA 1) 8]))
def gb_2 : gn_Blk := fun cA ad => [.inr (2, [.int (Int32.ofInt 0), .int (Int32.ofInt 0), .int (Int32.ofInt 0), .int (Int32.ofInt 0), .int (Int32.ofInt 0), .int (Int32.ofInt 0)])]
def gb_4 : gn_Blk := fun cA ad => [.inr (4, [.int (Int32.ofInt 0), .ref (ad 1), .ref (ad 2), .ref (ad 3), .ref (ad 4)])] ++ ([gn_z (cA 1) 100] ++ ([gn_z (cA 1) 100] ++ ([gn_z (cA 1) 100] ++ ([gn_z (cA 1) 100]))))
def gb_5 : gn_Blk := fun cA ad => [.inr (5, [.int (Int32.ofInt 0), .ref (ad 1), .ref (ad 2), .ref (ad 3)])] ++ ([gn_z (cA 1) 10] ++ ([gn_z (cA 1) 10] ++ ([gn_z (cA 3) 10])))
def gb_7 : gn_Blk := fun cA ad => [.inr (7, [.int (Int32.ofInt (-1)), .int (Int32.ofInt 0), .ref (ad 1)])] ++ ([gn_z (cA 1) 24])
def gb_8 : gn_Blk := fun cA ad => [.inr (8, [.ref (ad 1), .int (Int32.ofInt 0), .int (Int32.ofInt 0), .int (Int32.ofInt 0), .int (Int32.ofInt 0), .int (Int32.ofInt 0), .int (Int32.ofInt 0), .int (Int32.ofInt 0)])] ++ ([gn_z (cA 1) 144])
def gb_9 : gn_Blk := fun cA ad => [.inr (9, [.ref (ad 1), .int (Int32.ofInt 0), .int (Int32.ofInt 0), .int (Int32.ofInt 0)])] ++ ([gn_z (cA 2) 80])
def gb_3 : gn_Blk := fun cA ad => [.inr (3, [.ref (ad 1), .ref (ad 2), .ref (ad 7), .ref (ad 12)])] ++ ([gn_z (cA 1) 4] ++ ([gn_qa (cA 4) [some (ad 3), some (ad 4), some (ad 5), some (ad 6)], gn_z (cA 1) 8, gn_z (cA 1) 8, gn_z (cA 1) 8, gn_z (cA 1) 8] ++ ([gn_qa (cA 4) [some (ad 8), some (ad 9), some (ad 10), some (ad 11)], gn_z (cA 1) 8, gn_z (cA 1) 8, gn_z (cA 1) 8, gn_z (cA 1) 8] ++ ([gn_z (cA 1) 8]))))
def gb_6 : gn_Blk := fun cA ad => [.inr (6, [.int (Int32.ofInt 40), .ref (ad 1), .ref (ad 14), .ref (ad 18), .ref (ad 19)])] ++ (gb_3 cA (fun i => ad (1 + i)) ++ (gb_5 cA (fun i => ad (14 + i)) ++ ([gn_ia (cA 1) [2, 5, 0, 10, 3]] ++ (gb_8 cA (fun i => ad (19 + i))))))
def gb_10 : gn_Blk := fun cA ad => [.inr (10, [.ref (ad 1), .ref (ad 6), .ref (ad 10), .ref (ad 11), .int (Int32.ofInt 0), .int (Int32.ofInt (-4)), .int (Int32.ofInt (-4)), .int (Int32.ofInt (-1)), .int (Int32.ofInt 0), .int (Int32.ofInt (-1)), .ref (ad 12), .ref (ad 13), .ref (ad 14), .ref (ad 15), .ref (ad 16), .ref (ad 17)])] ++ (gb_4 cA (fun i => ad (1 + i)) ++ (gb_5 cA (fun i => ad (6 + i)) ++ ([gn_z (cA 1) 5] ++ (gb_2 cA (fun i => ad (11 + i)) ++ ([gn_z (cA 1) 10] ++ ([gn_z (cA 1) 10] ++ ([gn_z (cA 1) 10] ++ ([gn_z (cA 1) 10] ++ ([gn_z (cA 1) 10] ++ ([gn_z (cA 1) 10]))))))))))
def gb_11 : gn_Blk := fun cA ad => [.inr (11, [.ref (ad 1), .ref (ad 22), .int (Int32.ofInt 0), .ref (ad 43), .ref (ad 45), .ref (ad 58), .ref (ad 62), .ref (ad 80), .int (Int32.ofInt 0), .ref (ad 98), .int (Int32.ofInt 0), .ref (ad 99), .int (Int32.ofInt (-1)), .ref (ad 100), .ref (ad 103), .ref (ad 108)])] ++ (gb_6 cA (fun i => ad (1 + i)) ++ (gb_6 cA (fun i => ad (22 + i)) ++ (gb_9 cA (fun i => ad (43 + i)) ++ (gb_3 cA (fun i => ad (45 + i)) ++ (gb_5 cA (fun i => ad (58 + i)) ++ (gb_10 cA (fun i => ad (62 + i)) ++ (gb_10 cA (fun i => ad (80 + i)) ++ ([gn_z (cA 1) 3600] ++ ([gn_z (cA 1) 4] ++ (gb_1 cA (fun i => ad (100 + i)) ++ (gb_0 cA (fun i => ad (103 + i)) ++ ([gn_qa (cA 5) [some (ad 109), some (ad 111), some (ad 113), some (ad 115)]] ++ (gb_7 cA (fun i => ad (109 + i)) ++ (gb_7 cA (fun i => ad (111 + i)) ++ (gb_7 cA (fun i => ad (113 + i)) ++ (gb_7 cA (fun i => ad (115 + i))))))))))))))))))
theorem gn_w99 : Cond.sameMethod "[I" "java/lang/Object" "clone" "()Ljava/lang/Object;" ∈ gw_tb := gw_tb1 (List.mem_of_getElem? (i := 89) (by decide +kernel)) rfl
theorem gn_w100 : Cond.native ⟨"java/lang/Object", "clone", "()Ljava/lang/Object;"⟩ ∈ gw_tb := gw_tb1 (List.mem_of_getElem? (i := 90) (by decide +kernel)) rfl
theorem gn_w101 : Cond.instanceMethod ⟨"java/lang/Object", "clone", "()Ljava/lang/Object;"⟩ ∈ gw_tb := gw_tb1 (List.mem_of_getElem? (i := 91) (by decide +kernel)) rfl
theorem gn_w102 : Cond.selects "[I" ⟨"[I", "clone", "()Ljava/lang/Object;"⟩ ⟨"java/lang/Object", "clone", "()Ljava/lang/Object;"⟩ ∈ gw_tb := gw_tb1 (List.mem_of_getElem? (i := 92) (by decide +kernel)) rfl
theorem Q_0_15 : gn_FF RX0 15 0 1 := ⟨RX0, TX0, 6, tyX0, rfl, by decide, inX0, fl_0_15, tyX0_ok, nmX0, rfl, rfl, fun q => ⟨rfl, rfl⟩⟩
theorem Q_0_19 : gn_FF RX0 19 0 2 := ⟨RX0, TX0, 6, tyX0, rfl, by decide, inX0, fl_0_19, tyX0_ok, nmX0, rfl, rfl, fun q => ⟨rfl, rfl⟩⟩
theorem Q_0_22 : gn_FF RX0 22 0 3 := ⟨RX0, TX0, 6, tyX0, rfl, by decide, inX0, fl_0_22, tyX0_ok, nmX0, rfl, rfl, fun q => ⟨rfl, rfl⟩⟩
theorem Q_0_25 : gn_FF RX0 25 0 4 := ⟨RX0, TX0, 6, tyX0, rfl, by decide, inX0, fl_0_25, tyX0_ok, nmX0, rfl, rfl, fun q => ⟨rfl, rfl⟩⟩
theorem Q_1_15 : gn_FF RX1 15 1 1 := ⟨RX1, TX1, 3, tyX1, rfl, by decide, inX1, fl_1_15, tyX1_ok, nmX1, rfl, rfl, fun q => ⟨rfl, rfl⟩⟩
theorem Q_1_19 : gn_FF RX1 19 1 2 := ⟨RX1, TX1, 3, tyX1, rfl, by decide, inX1, fl_1_19, tyX1_ok, nmX1, rfl, rfl, fun q => ⟨rfl, rfl⟩⟩
theorem Q_4_15 : gn_FF RX4 15 4 1 := ⟨RX4, TX4, 5, tyX4, rfl, by decide, inX4, fl_4_15, tyX4_ok, nmX4, rfl, rfl, fun q => ⟨rfl, rfl⟩⟩
theorem Q_4_19 : gn_FF RX4 19 4 2 := ⟨RX4, TX4, 5, tyX4, rfl, by decide, inX4, fl_4_19, tyX4_ok, nmX4, rfl, rfl, fun q => ⟨rfl, rfl⟩⟩
theorem Q_4_22 : gn_FF RX4 22 4 3 := ⟨RX4, TX4, 5, tyX4, rfl, by decide, inX4, fl_4_22, tyX4_ok, nmX4, rfl, rfl, fun q => ⟨rfl, rfl⟩⟩
theorem Q_4_25 : gn_FF RX4 25 4 4 := ⟨RX4, TX4, 5, tyX4, rfl, by decide, inX4, fl_4_25, tyX4_ok, nmX4, rfl, rfl, fun q => ⟨rfl, rfl⟩⟩
theorem Q_5_15 : gn_FF RX5 15 5 1 := ⟨RX5, TX5, 4, tyX5, rfl, by decide, inX5, fl_5_15, tyX5_ok, nmX5, rfl, rfl, fun q => ⟨rfl, rfl⟩⟩
theorem Q_5_19 : gn_FF RX5 19 5 2 := ⟨RX5, TX5, 4, tyX5, rfl, by decide, inX5, fl_5_19, tyX5_ok, nmX5, rfl, rfl, fun q => ⟨rfl, rfl⟩⟩
theorem Q_5_22 : gn_FF RX5 22 5 3 := ⟨RX5, TX5, 4, tyX5, rfl, by decide, inX5, fl_5_22, tyX5_ok, nmX5, rfl, rfl, fun q => ⟨rfl, rfl⟩⟩
theorem Q_7_18 : gn_FF RX7 18 7 2 := ⟨RX7, TX7, 3, tyX7, rfl, by decide, inX7, fl_7_18, tyX7_ok, nmX7, rfl, rfl, fun q => ⟨rfl, rfl⟩⟩
theorem Q_8_9 : gn_FF RX8 9 8 0 := ⟨RX8, TX8, 8, tyX8, rfl, by decide, inX8, fl_8_9, tyX8_ok, nmX8, rfl, rfl, fun q => ⟨rfl, rfl⟩⟩
theorem Q_9_9 : gn_FF RX9 9 9 0 := ⟨RX9, TX9, 4, tyX9, rfl, by decide, inX9, fl_9_9, tyX9_ok, nmX9, rfl, rfl, fun q => ⟨rfl, rfl⟩⟩
theorem Q_3_9 : gn_FF RX3 9 3 0 := ⟨RX3, TX3, 4, tyX3, rfl, by decide, inX3, fl_3_9, tyX3_ok, nmX3, rfl, rfl, fun q => ⟨rfl, rfl⟩⟩
theorem Q_3_17 : gn_FF RX3 17 3 1 := ⟨RX3, TX3, 4, tyX3, rfl, by decide, inX3, fl_3_17, tyX3_ok, nmX3, rfl, rfl, fun q => ⟨rfl, rfl⟩⟩
theorem Q_3_20 : gn_FF RX3 20 3 2 := ⟨RX3, TX3, 4, tyX3, rfl, by decide, inX3, fl_3_20, tyX3_ok, nmX3, rfl, rfl, fun q => ⟨rfl, rfl⟩⟩
theorem Q_3_23 : gn_FF RX3 23 3 3 := ⟨RX3, TX3, 4, tyX3, rfl, by decide, inX3, fl_3_23, tyX3_ok, nmX3, rfl, rfl, fun q => ⟨rfl, rfl⟩⟩
theorem Q_6_18 : gn_FF RX6 18 6 1 := ⟨RX6, TX6, 5, tyX6, rfl, by decide, inX6, fl_6_18, tyX6_ok, nmX6, rfl, rfl, fun q => ⟨rfl, rfl⟩⟩
theorem Q_6_25 : gn_FF RX6 25 6 2 := ⟨RX6, TX6, 5, tyX6, rfl, by decide, inX6, fl_6_25, tyX6_ok, nmX6, rfl, rfl, fun q => ⟨rfl, rfl⟩⟩
theorem Q_6_38 : gn_FF RX6 38 6 3 := ⟨RX6, TX6, 5, tyX6, rfl, by decide, inX6, fl_6_38, tyX6_ok, nmX6, rfl, rfl, fun q => ⟨rfl, rfl⟩⟩
theorem Q_6_44 : gn_FF RX6 44 6 4 := ⟨RX6, TX6, 5, tyX6, rfl, by decide, inX6, fl_6_44, tyX6_ok, nmX6, rfl, rfl, fun q => ⟨rfl, rfl⟩⟩
theorem Q_10_12 : gn_FF RX10 12 10 0 := ⟨RX10, TX10, 16, tyX10, rfl, by decide, inX10, fl_10_12, tyX10_ok, nmX10, rfl, rfl, fun q => ⟨rfl, rfl⟩⟩
theorem Q_10_21 : gn_FF RX10 21 10 1 := ⟨RX10, TX10, 16, tyX10, rfl, by decide, inX10, fl_10_21, tyX10_ok, nmX10, rfl, rfl, fun q => ⟨rfl, rfl⟩⟩
theorem Q_10_25 : gn_FF RX10 25 10 2 := ⟨RX10, TX10, 16, tyX10, rfl, by decide, inX10, fl_10_25, tyX10_ok, nmX10, rfl, rfl, fun q => ⟨rfl, rfl⟩⟩
theorem Q_10_32 : gn_FF RX10 32 10 3 := ⟨RX10, TX10, 16, tyX10, rfl, by decide, inX10, fl_10_32, tyX10_ok, nmX10, rfl, rfl, fun q => ⟨rfl, rfl⟩⟩
theorem Q_10_55 : gn_FF RX10 55 10 10 := ⟨RX10, TX10, 16, tyX10, rfl, by decide, inX10, fl_10_55, tyX10_ok, nmX10, rfl, rfl, fun q => ⟨rfl, rfl⟩⟩
theorem Q_10_58 : gn_FF RX10 58 10 11 := ⟨RX10, TX10, 16, tyX10, rfl, by decide, inX10, fl_10_58, tyX10_ok, nmX10, rfl, rfl, fun q => ⟨rfl, rfl⟩⟩
theorem Q_10_61 : gn_FF RX10 61 10 12 := ⟨RX10, TX10, 16, tyX10, rfl, by decide, inX10, fl_10_61, tyX10_ok, nmX10, rfl, rfl, fun q => ⟨rfl, rfl⟩⟩
theorem Q_10_64 : gn_FF RX10 64 10 13 := ⟨RX10, TX10, 16, tyX10, rfl, by decide, inX10, fl_10_64, tyX10_ok, nmX10, rfl, rfl, fun q => ⟨rfl, rfl⟩⟩
theorem Q_10_67 : gn_FF RX10 67 10 14 := ⟨RX10, TX10, 16, tyX10, rfl, by decide, inX10, fl_10_67, tyX10_ok, nmX10, rfl, rfl, fun q => ⟨rfl, rfl⟩⟩
theorem Q_10_70 : gn_FF RX10 70 10 15 := ⟨RX10, TX10, 16, tyX10, rfl, by decide, inX10, fl_10_70, tyX10_ok, nmX10, rfl, rfl, fun q => ⟨rfl, rfl⟩⟩
theorem Q_11_10 : gn_FF RX11 10 11 0 := ⟨RX11, TX11, 16, tyX11, rfl, by decide, inX11, fl_11_10, tyX11_ok, nmX11, rfl, rfl, fun q => ⟨rfl, rfl⟩⟩
theorem Q_11_16 : gn_FF RX11 16 11 1 := ⟨RX11, TX11, 16, tyX11, rfl, by decide, inX11, fl_11_16, tyX11_ok, nmX11, rfl, rfl, fun q => ⟨rfl, rfl⟩⟩
theorem Q_11_26 : gn_FF RX11 26 11 3 := ⟨RX11, TX11, 16, tyX11, rfl, by decide, inX11, fl_11_26, tyX11_ok, nmX11, rfl, rfl, fun q => ⟨rfl, rfl⟩⟩
theorem Q_11_33 : gn_FF RX11 33 11 4 := ⟨RX11, TX11, 16, tyX11, rfl, by decide, inX11, fl_11_33, tyX11_ok, nmX11, rfl, rfl, fun q => ⟨rfl, rfl⟩⟩
theorem Q_11_40 : gn_FF RX11 40 11 5 := ⟨RX11, TX11, 16, tyX11, rfl, by decide, inX11, fl_11_40, tyX11_ok, nmX11, rfl, rfl, fun q => ⟨rfl, rfl⟩⟩
theorem Q_11_47 : gn_FF RX11 47 11 6 := ⟨RX11, TX11, 16, tyX11, rfl, by decide, inX11, fl_11_47, tyX11_ok, nmX11, rfl, rfl, fun q => ⟨rfl, rfl⟩⟩
theorem Q_11_51 : gn_FF RX11 51 11 7 := ⟨RX11, TX11, 16, tyX11, rfl, by decide, inX11, fl_11_51, tyX11_ok, nmX11, rfl, rfl, fun q => ⟨rfl, rfl⟩⟩
theorem Q_11_57 : gn_FF RX11 57 11 9 := ⟨RX11, TX11, 16, tyX11, rfl, by decide, inX11, fl_11_57, tyX11_ok, nmX11, rfl, rfl, fun q => ⟨rfl, rfl⟩⟩
theorem Q_11_65 : gn_FF RX11 65 11 11 := ⟨RX11, TX11, 16, tyX11, rfl, by decide, inX11, fl_11_65, tyX11_ok, nmX11, rfl, rfl, fun q => ⟨rfl, rfl⟩⟩
theorem Q_11_74 : gn_FF RX11 74 11 13 := ⟨RX11, TX11, 16, tyX11, rfl, by decide, inX11, fl_11_74, tyX11_ok, nmX11, rfl, rfl, fun q => ⟨rfl, rfl⟩⟩
theorem Q_11_81 : gn_FF RX11 81 11 14 := ⟨RX11, TX11, 16, tyX11, rfl, by decide, inX11, fl_11_81, tyX11_ok, nmX11, rfl, rfl, fun q => ⟨rfl, rfl⟩⟩
theorem Q_11_87 : gn_FF RX11 87 11 15 := ⟨RX11, TX11, 16, tyX11, rfl, by decide, inX11, fl_11_87, tyX11_ok, nmX11, rfl, rfl, fun q => ⟨rfl, rfl⟩⟩
