theorem inX0 : ∀ w ∈ u_ws RX0 TX0 6, w ∈ gw_tb := by
  intro w hw
  obtain ⟨k, hk, rfl⟩ := List.mem_map.mp hw
  have hk := List.mem_range.mp hk
  match k, hk with
  | 0, _ => exact gw_tb2 (List.mem_of_getElem? (i := 87) (by decide +kernel)) rfl
  | 1, _ => exact gw_tb2 (List.mem_of_getElem? (i := 89) (by decide +kernel)) rfl
  | 2, _ => exact gw_tb2 (List.mem_of_getElem? (i := 91) (by decide +kernel)) rfl
  | 3, _ => exact gw_tb2 (List.mem_of_getElem? (i := 93) (by decide +kernel)) rfl
  | 4, _ => exact gw_tb2 (List.mem_of_getElem? (i := 95) (by decide +kernel)) rfl
  | 5, _ => exact gw_tb2 (List.mem_of_getElem? (i := 97) (by decide +kernel)) rfl
  | k + 6, h => exact absurd h (by omega)
theorem inX1 : ∀ w ∈ u_ws RX1 TX1 3, w ∈ gw_tb := by
  intro w hw
  obtain ⟨k, hk, rfl⟩ := List.mem_map.mp hw
  have hk := List.mem_range.mp hk
  match k, hk with
  | 0, _ => exact gw_tb2 (List.mem_of_getElem? (i := 68) (by decide +kernel)) rfl
  | 1, _ => exact gw_tb2 (List.mem_of_getElem? (i := 70) (by decide +kernel)) rfl
  | 2, _ => exact gw_tb2 (List.mem_of_getElem? (i := 72) (by decide +kernel)) rfl
  | k + 3, h => exact absurd h (by omega)
theorem inX2 : ∀ w ∈ u_ws RX2 TX2 6, w ∈ gw_tb := by
  intro w hw
  obtain ⟨k, hk, rfl⟩ := List.mem_map.mp hw
  have hk := List.mem_range.mp hk
  match k, hk with
  | 0, _ => exact gw_tb1 (List.mem_of_getElem? (i := 227) (by decide +kernel)) rfl
  | 1, _ => exact gw_tb1 (List.mem_of_getElem? (i := 229) (by decide +kernel)) rfl
  | 2, _ => exact gw_tb1 (List.mem_of_getElem? (i := 231) (by decide +kernel)) rfl
  | 3, _ => exact gw_tb1 (List.mem_of_getElem? (i := 233) (by decide +kernel)) rfl
  | 4, _ => exact gw_tb1 (List.mem_of_getElem? (i := 235) (by decide +kernel)) rfl
  | 5, _ => exact gw_tb1 (List.mem_of_getElem? (i := 237) (by decide +kernel)) rfl
  | k + 6, h => exact absurd h (by omega)
theorem inX3 : ∀ w ∈ u_ws RX3 TX3 4, w ∈ gw_tb := by
  intro w hw
  obtain ⟨k, hk, rfl⟩ := List.mem_map.mp hw
  have hk := List.mem_range.mp hk
  match k, hk with
  | 0, _ => exact gw_tb1 (List.mem_of_getElem? (i := 49) (by decide +kernel)) rfl
  | 1, _ => exact gw_tb1 (List.mem_of_getElem? (i := 51) (by decide +kernel)) rfl
  | 2, _ => exact gw_tb1 (List.mem_of_getElem? (i := 53) (by decide +kernel)) rfl
  | 3, _ => exact gw_tb1 (List.mem_of_getElem? (i := 55) (by decide +kernel)) rfl
  | k + 4, h => exact absurd h (by omega)
theorem inX4 : ∀ w ∈ u_ws RX4 TX4 5, w ∈ gw_tb := by
  intro w hw
  obtain ⟨k, hk, rfl⟩ := List.mem_map.mp hw
  have hk := List.mem_range.mp hk
  match k, hk with
  | 0, _ => exact gw_tb1 (List.mem_of_getElem? (i := 196) (by decide +kernel)) rfl
  | 1, _ => exact gw_tb1 (List.mem_of_getElem? (i := 198) (by decide +kernel)) rfl
  | 2, _ => exact gw_tb1 (List.mem_of_getElem? (i := 200) (by decide +kernel)) rfl
  | 3, _ => exact gw_tb1 (List.mem_of_getElem? (i := 202) (by decide +kernel)) rfl
  | 4, _ => exact gw_tb1 (List.mem_of_getElem? (i := 204) (by decide +kernel)) rfl
  | k + 5, h => exact absurd h (by omega)
theorem inX5 : ∀ w ∈ u_ws RX5 TX5 4, w ∈ gw_tb := by
  intro w hw
  obtain ⟨k, hk, rfl⟩ := List.mem_map.mp hw
  have hk := List.mem_range.mp hk
  match k, hk with
  | 0, _ => exact gw_tb1 (List.mem_of_getElem? (i := 76) (by decide +kernel)) rfl
  | 1, _ => exact gw_tb1 (List.mem_of_getElem? (i := 78) (by decide +kernel)) rfl
  | 2, _ => exact gw_tb1 (List.mem_of_getElem? (i := 80) (by decide +kernel)) rfl
  | 3, _ => exact gw_tb1 (List.mem_of_getElem? (i := 82) (by decide +kernel)) rfl
  | k + 4, h => exact absurd h (by omega)
theorem inX6 : ∀ w ∈ u_ws RX6 TX6 5, w ∈ gw_tb := by
  intro w hw
  obtain ⟨k, hk, rfl⟩ := List.mem_map.mp hw
  have hk := List.mem_range.mp hk
  match k, hk with
  | 0, _ => exact gw_tb1 (List.mem_of_getElem? (i := 140) (by decide +kernel)) rfl
  | 1, _ => exact gw_tb1 (List.mem_of_getElem? (i := 142) (by decide +kernel)) rfl
  | 2, _ => exact gw_tb1 (List.mem_of_getElem? (i := 144) (by decide +kernel)) rfl
  | 3, _ => exact gw_tb1 (List.mem_of_getElem? (i := 146) (by decide +kernel)) rfl
  | 4, _ => exact gw_tb1 (List.mem_of_getElem? (i := 148) (by decide +kernel)) rfl
  | k + 5, h => exact absurd h (by omega)
theorem inX7 : ∀ w ∈ u_ws RX7 TX7 3, w ∈ gw_tb := by
  intro w hw
  obtain ⟨k, hk, rfl⟩ := List.mem_map.mp hw
  have hk := List.mem_range.mp hk
  match k, hk with
  | 0, _ => exact gw_tb2 (List.mem_of_getElem? (i := 110) (by decide +kernel)) rfl
  | 1, _ => exact gw_tb2 (List.mem_of_getElem? (i := 112) (by decide +kernel)) rfl
  | 2, _ => exact gw_tb2 (List.mem_of_getElem? (i := 114) (by decide +kernel)) rfl
  | k + 3, h => exact absurd h (by omega)
theorem inX8 : ∀ w ∈ u_ws RX8 TX8 8, w ∈ gw_tb := by
  intro w hw
  obtain ⟨k, hk, rfl⟩ := List.mem_map.mp hw
  have hk := List.mem_range.mp hk
  match k, hk with
  | 0, _ => exact gw_tb1 (List.mem_of_getElem? (i := 110) (by decide +kernel)) rfl
  | 1, _ => exact gw_tb1 (List.mem_of_getElem? (i := 112) (by decide +kernel)) rfl
  | 2, _ => exact gw_tb1 (List.mem_of_getElem? (i := 114) (by decide +kernel)) rfl
  | 3, _ => exact gw_tb1 (List.mem_of_getElem? (i := 116) (by decide +kernel)) rfl
  | 4, _ => exact gw_tb1 (List.mem_of_getElem? (i := 118) (by decide +kernel)) rfl
  | 5, _ => exact gw_tb1 (List.mem_of_getElem? (i := 120) (by decide +kernel)) rfl
  | 6, _ => exact gw_tb1 (List.mem_of_getElem? (i := 122) (by decide +kernel)) rfl
  | 7, _ => exact gw_tb1 (List.mem_of_getElem? (i := 124) (by decide +kernel)) rfl
  | k + 8, h => exact absurd h (by omega)
theorem inX9 : ∀ w ∈ u_ws RX9 TX9 4, w ∈ gw_tb := by
  intro w hw
  obtain ⟨k, hk, rfl⟩ := List.mem_map.mp hw
  have hk := List.mem_range.mp hk
  match k, hk with
  | 0, _ => exact gw_tb1 (List.mem_of_getElem? (i := 161) (by decide +kernel)) rfl
  | 1, _ => exact gw_tb1 (List.mem_of_getElem? (i := 163) (by decide +kernel)) rfl
  | 2, _ => exact gw_tb1 (List.mem_of_getElem? (i := 165) (by decide +kernel)) rfl
  | 3, _ => exact gw_tb1 (List.mem_of_getElem? (i := 167) (by decide +kernel)) rfl
  | k + 4, h => exact absurd h (by omega)
theorem inX10 : ∀ w ∈ u_ws RX10 TX10 16, w ∈ gw_tb := by
  intro w hw
  obtain ⟨k, hk, rfl⟩ := List.mem_map.mp hw
  have hk := List.mem_range.mp hk
  match k, hk with
  | 0, _ => exact gw_tb2 (List.mem_of_getElem? (i := 25) (by decide +kernel)) rfl
  | 1, _ => exact gw_tb2 (List.mem_of_getElem? (i := 27) (by decide +kernel)) rfl
  | 2, _ => exact gw_tb2 (List.mem_of_getElem? (i := 29) (by decide +kernel)) rfl
  | 3, _ => exact gw_tb2 (List.mem_of_getElem? (i := 31) (by decide +kernel)) rfl
  | 4, _ => exact gw_tb2 (List.mem_of_getElem? (i := 33) (by decide +kernel)) rfl
  | 5, _ => exact gw_tb2 (List.mem_of_getElem? (i := 35) (by decide +kernel)) rfl
  | 6, _ => exact gw_tb2 (List.mem_of_getElem? (i := 37) (by decide +kernel)) rfl
  | 7, _ => exact gw_tb2 (List.mem_of_getElem? (i := 39) (by decide +kernel)) rfl
  | 8, _ => exact gw_tb2 (List.mem_of_getElem? (i := 41) (by decide +kernel)) rfl
  | 9, _ => exact gw_tb2 (List.mem_of_getElem? (i := 43) (by decide +kernel)) rfl
  | 10, _ => exact gw_tb2 (List.mem_of_getElem? (i := 45) (by decide +kernel)) rfl
  | 11, _ => exact gw_tb2 (List.mem_of_getElem? (i := 47) (by decide +kernel)) rfl
  | 12, _ => exact gw_tb2 (List.mem_of_getElem? (i := 49) (by decide +kernel)) rfl
  | 13, _ => exact gw_tb2 (List.mem_of_getElem? (i := 51) (by decide +kernel)) rfl
  | 14, _ => exact gw_tb2 (List.mem_of_getElem? (i := 53) (by decide +kernel)) rfl
  | 15, _ => exact gw_tb2 (List.mem_of_getElem? (i := 55) (by decide +kernel)) rfl
  | k + 16, h => exact absurd h (by omega)
theorem inX11 : ∀ w ∈ u_ws RX11 TX11 16, w ∈ gw_tb := by
  intro w hw
  obtain ⟨k, hk, rfl⟩ := List.mem_map.mp hw
  have hk := List.mem_range.mp hk
  match k, hk with
  | 0, _ => exact gw_tb2 (List.mem_of_getElem? (i := 133) (by decide +kernel)) rfl
  | 1, _ => exact gw_tb2 (List.mem_of_getElem? (i := 135) (by decide +kernel)) rfl
  | 2, _ => exact gw_tb2 (List.mem_of_getElem? (i := 137) (by decide +kernel)) rfl
  | 3, _ => exact gw_tb2 (List.mem_of_getElem? (i := 139) (by decide +kernel)) rfl
  | 4, _ => exact gw_tb2 (List.mem_of_getElem? (i := 141) (by decide +kernel)) rfl
  | 5, _ => exact gw_tb2 (List.mem_of_getElem? (i := 143) (by decide +kernel)) rfl
  | 6, _ => exact gw_tb2 (List.mem_of_getElem? (i := 145) (by decide +kernel)) rfl
  | 7, _ => exact gw_tb2 (List.mem_of_getElem? (i := 147) (by decide +kernel)) rfl
  | 8, _ => exact gw_tb2 (List.mem_of_getElem? (i := 149) (by decide +kernel)) rfl
  | 9, _ => exact gw_tb2 (List.mem_of_getElem? (i := 151) (by decide +kernel)) rfl
  | 10, _ => exact gw_tb2 (List.mem_of_getElem? (i := 153) (by decide +kernel)) rfl
  | 11, _ => exact gw_tb2 (List.mem_of_getElem? (i := 155) (by decide +kernel)) rfl
  | 12, _ => exact gw_tb2 (List.mem_of_getElem? (i := 157) (by decide +kernel)) rfl
  | 13, _ => exact gw_tb2 (List.mem_of_getElem? (i := 159) (by decide +kernel)) rfl
  | 14, _ => exact gw_tb2 (List.mem_of_getElem? (i := 161) (by decide +kernel)) rfl
  | 15, _ => exact gw_tb2 (List.mem_of_getElem? (i := 163) (by decide +kernel)) rfl
  | k + 16, h => exact absurd h (by omega)
theorem fl_3_9 : Cond.fieldLink RX3 9 (TX3 0).1 (TX3 0).2.1 (TX3 0).2.2.1 ∈ gw_tb := gw_tb1 (List.mem_of_getElem? (i := 37) (by decide +kernel)) rfl
theorem fl_4_32 : Cond.fieldLink RX4 32 (TX3 0).1 (TX3 0).2.1 (TX3 0).2.2.1 ∈ gw_tb := gw_tb1 (List.mem_of_getElem? (i := 38) (by decide +kernel)) rfl
theorem fl_6_68 : Cond.fieldLink RX6 68 (TX3 0).1 (TX3 0).2.1 (TX3 0).2.2.1 ∈ gw_tb := gw_tb1 (List.mem_of_getElem? (i := 39) (by decide +kernel)) rfl
theorem fl_11_115 : Cond.fieldLink RX11 115 (TX3 0).1 (TX3 0).2.1 (TX3 0).2.2.1 ∈ gw_tb := gw_tb1 (List.mem_of_getElem? (i := 40) (by decide +kernel)) rfl
theorem fl_3_17 : Cond.fieldLink RX3 17 (TX3 1).1 (TX3 1).2.1 (TX3 1).2.2.1 ∈ gw_tb := gw_tb1 (List.mem_of_getElem? (i := 41) (by decide +kernel)) rfl
theorem fl_6_64 : Cond.fieldLink RX6 64 (TX3 1).1 (TX3 1).2.1 (TX3 1).2.2.1 ∈ gw_tb := gw_tb1 (List.mem_of_getElem? (i := 42) (by decide +kernel)) rfl
theorem fl_4_37 : Cond.fieldLink RX4 37 (TX3 1).1 (TX3 1).2.1 (TX3 1).2.2.1 ∈ gw_tb := gw_tb1 (List.mem_of_getElem? (i := 43) (by decide +kernel)) rfl
theorem fl_3_20 : Cond.fieldLink RX3 20 (TX3 2).1 (TX3 2).2.1 (TX3 2).2.2.1 ∈ gw_tb := gw_tb1 (List.mem_of_getElem? (i := 44) (by decide +kernel)) rfl
theorem fl_4_45 : Cond.fieldLink RX4 45 (TX3 2).1 (TX3 2).2.1 (TX3 2).2.2.1 ∈ gw_tb := gw_tb1 (List.mem_of_getElem? (i := 45) (by decide +kernel)) rfl
theorem fl_6_75 : Cond.fieldLink RX6 75 (TX3 2).1 (TX3 2).2.1 (TX3 2).2.2.1 ∈ gw_tb := gw_tb1 (List.mem_of_getElem? (i := 46) (by decide +kernel)) rfl
theorem fl_3_23 : Cond.fieldLink RX3 23 (TX3 3).1 (TX3 3).2.1 (TX3 3).2.2.1 ∈ gw_tb := gw_tb1 (List.mem_of_getElem? (i := 47) (by decide +kernel)) rfl
theorem fl_6_78 : Cond.fieldLink RX6 78 (TX3 3).1 (TX3 3).2.1 (TX3 3).2.2.1 ∈ gw_tb := gw_tb1 (List.mem_of_getElem? (i := 48) (by decide +kernel)) rfl
theorem fl_5_9 : Cond.fieldLink RX5 9 (TX5 0).1 (TX5 0).2.1 (TX5 0).2.2.1 ∈ gw_tb := gw_tb1 (List.mem_of_getElem? (i := 65) (by decide +kernel)) rfl
theorem fl_10_105 : Cond.fieldLink RX10 105 (TX5 0).1 (TX5 0).2.1 (TX5 0).2.2.1 ∈ gw_tb := gw_tb1 (List.mem_of_getElem? (i := 66) (by decide +kernel)) rfl
theorem fl_11_180 : Cond.fieldLink RX11 180 (TX5 0).1 (TX5 0).2.1 (TX5 0).2.2.1 ∈ gw_tb := gw_tb1 (List.mem_of_getElem? (i := 67) (by decide +kernel)) rfl
theorem fl_5_15 : Cond.fieldLink RX5 15 (TX5 1).1 (TX5 1).2.1 (TX5 1).2.2.1 ∈ gw_tb := gw_tb1 (List.mem_of_getElem? (i := 68) (by decide +kernel)) rfl
theorem fl_10_163 : Cond.fieldLink RX10 163 (TX5 1).1 (TX5 1).2.1 (TX5 1).2.2.1 ∈ gw_tb := gw_tb1 (List.mem_of_getElem? (i := 69) (by decide +kernel)) rfl
theorem fl_11_138 : Cond.fieldLink RX11 138 (TX5 1).1 (TX5 1).2.1 (TX5 1).2.2.1 ∈ gw_tb := gw_tb1 (List.mem_of_getElem? (i := 70) (by decide +kernel)) rfl
theorem fl_5_19 : Cond.fieldLink RX5 19 (TX5 2).1 (TX5 2).2.1 (TX5 2).2.2.1 ∈ gw_tb := gw_tb1 (List.mem_of_getElem? (i := 71) (by decide +kernel)) rfl
theorem fl_10_176 : Cond.fieldLink RX10 176 (TX5 2).1 (TX5 2).2.1 (TX5 2).2.2.1 ∈ gw_tb := gw_tb1 (List.mem_of_getElem? (i := 72) (by decide +kernel)) rfl
theorem fl_5_22 : Cond.fieldLink RX5 22 (TX5 3).1 (TX5 3).2.1 (TX5 3).2.2.1 ∈ gw_tb := gw_tb1 (List.mem_of_getElem? (i := 73) (by decide +kernel)) rfl
theorem fl_10_159 : Cond.fieldLink RX10 159 (TX5 3).1 (TX5 3).2.1 (TX5 3).2.2.1 ∈ gw_tb := gw_tb1 (List.mem_of_getElem? (i := 74) (by decide +kernel)) rfl
theorem fl_11_144 : Cond.fieldLink RX11 144 (TX5 3).1 (TX5 3).2.1 (TX5 3).2.2.1 ∈ gw_tb := gw_tb1 (List.mem_of_getElem? (i := 75) (by decide +kernel)) rfl
theorem fl_8_9 : Cond.fieldLink RX8 9 (TX8 0).1 (TX8 0).2.1 (TX8 0).2.2.1 ∈ gw_tb := gw_tb1 (List.mem_of_getElem? (i := 101) (by decide +kernel)) rfl
theorem fl_6_61 : Cond.fieldLink RX6 61 (TX8 0).1 (TX8 0).2.1 (TX8 0).2.2.1 ∈ gw_tb := gw_tb1 (List.mem_of_getElem? (i := 102) (by decide +kernel)) rfl
theorem fl_8_15 : Cond.fieldLink RX8 15 (TX8 1).1 (TX8 1).2.1 (TX8 1).2.2.1 ∈ gw_tb := gw_tb1 (List.mem_of_getElem? (i := 103) (by decide +kernel)) rfl
theorem fl_8_19 : Cond.fieldLink RX8 19 (TX8 2).1 (TX8 2).2.1 (TX8 2).2.2.1 ∈ gw_tb := gw_tb1 (List.mem_of_getElem? (i := 104) (by decide +kernel)) rfl
theorem fl_8_22 : Cond.fieldLink RX8 22 (TX8 3).1 (TX8 3).2.1 (TX8 3).2.2.1 ∈ gw_tb := gw_tb1 (List.mem_of_getElem? (i := 105) (by decide +kernel)) rfl
theorem fl_8_25 : Cond.fieldLink RX8 25 (TX8 4).1 (TX8 4).2.1 (TX8 4).2.2.1 ∈ gw_tb := gw_tb1 (List.mem_of_getElem? (i := 106) (by decide +kernel)) rfl
theorem fl_8_28 : Cond.fieldLink RX8 28 (TX8 5).1 (TX8 5).2.1 (TX8 5).2.2.1 ∈ gw_tb := gw_tb1 (List.mem_of_getElem? (i := 107) (by decide +kernel)) rfl
theorem fl_8_31 : Cond.fieldLink RX8 31 (TX8 6).1 (TX8 6).2.1 (TX8 6).2.2.1 ∈ gw_tb := gw_tb1 (List.mem_of_getElem? (i := 108) (by decide +kernel)) rfl
theorem fl_8_34 : Cond.fieldLink RX8 34 (TX8 7).1 (TX8 7).2.1 (TX8 7).2.2.1 ∈ gw_tb := gw_tb1 (List.mem_of_getElem? (i := 109) (by decide +kernel)) rfl
theorem fl_6_9 : Cond.fieldLink RX6 9 (TX6 0).1 (TX6 0).2.1 (TX6 0).2.2.1 ∈ gw_tb := gw_tb1 (List.mem_of_getElem? (i := 127) (by decide +kernel)) rfl
theorem fl_10_79 : Cond.fieldLink RX10 79 (TX6 0).1 (TX6 0).2.1 (TX6 0).2.2.1 ∈ gw_tb := gw_tb1 (List.mem_of_getElem? (i := 128) (by decide +kernel)) rfl
theorem fl_11_96 : Cond.fieldLink RX11 96 (TX6 0).1 (TX6 0).2.1 (TX6 0).2.2.1 ∈ gw_tb := gw_tb1 (List.mem_of_getElem? (i := 129) (by decide +kernel)) rfl
theorem fl_6_18 : Cond.fieldLink RX6 18 (TX6 1).1 (TX6 1).2.1 (TX6 1).2.2.1 ∈ gw_tb := gw_tb1 (List.mem_of_getElem? (i := 130) (by decide +kernel)) rfl
theorem fl_10_73 : Cond.fieldLink RX10 73 (TX6 1).1 (TX6 1).2.1 (TX6 1).2.2.1 ∈ gw_tb := gw_tb1 (List.mem_of_getElem? (i := 131) (by decide +kernel)) rfl
theorem fl_11_108 : Cond.fieldLink RX11 108 (TX6 1).1 (TX6 1).2.1 (TX6 1).2.2.1 ∈ gw_tb := gw_tb1 (List.mem_of_getElem? (i := 132) (by decide +kernel)) rfl
theorem fl_6_25 : Cond.fieldLink RX6 25 (TX6 2).1 (TX6 2).2.1 (TX6 2).2.2.1 ∈ gw_tb := gw_tb1 (List.mem_of_getElem? (i := 133) (by decide +kernel)) rfl
theorem fl_10_86 : Cond.fieldLink RX10 86 (TX6 2).1 (TX6 2).2.1 (TX6 2).2.2.1 ∈ gw_tb := gw_tb1 (List.mem_of_getElem? (i := 134) (by decide +kernel)) rfl
theorem fl_11_128 : Cond.fieldLink RX11 128 (TX6 2).1 (TX6 2).2.1 (TX6 2).2.2.1 ∈ gw_tb := gw_tb1 (List.mem_of_getElem? (i := 135) (by decide +kernel)) rfl
theorem fl_6_38 : Cond.fieldLink RX6 38 (TX6 3).1 (TX6 3).2.1 (TX6 3).2.2.1 ∈ gw_tb := gw_tb1 (List.mem_of_getElem? (i := 136) (by decide +kernel)) rfl
theorem fl_10_91 : Cond.fieldLink RX10 91 (TX6 3).1 (TX6 3).2.1 (TX6 3).2.2.1 ∈ gw_tb := gw_tb1 (List.mem_of_getElem? (i := 137) (by decide +kernel)) rfl
theorem fl_11_154 : Cond.fieldLink RX11 154 (TX6 3).1 (TX6 3).2.1 (TX6 3).2.2.1 ∈ gw_tb := gw_tb1 (List.mem_of_getElem? (i := 138) (by decide +kernel)) rfl
theorem fl_6_44 : Cond.fieldLink RX6 44 (TX6 4).1 (TX6 4).2.1 (TX6 4).2.2.1 ∈ gw_tb := gw_tb1 (List.mem_of_getElem? (i := 139) (by decide +kernel)) rfl
theorem fl_9_9 : Cond.fieldLink RX9 9 (TX9 0).1 (TX9 0).2.1 (TX9 0).2.2.1 ∈ gw_tb := gw_tb1 (List.mem_of_getElem? (i := 157) (by decide +kernel)) rfl
theorem fl_9_15 : Cond.fieldLink RX9 15 (TX9 1).1 (TX9 1).2.1 (TX9 1).2.2.1 ∈ gw_tb := gw_tb1 (List.mem_of_getElem? (i := 158) (by decide +kernel)) rfl
theorem fl_9_19 : Cond.fieldLink RX9 19 (TX9 2).1 (TX9 2).2.1 (TX9 2).2.2.1 ∈ gw_tb := gw_tb1 (List.mem_of_getElem? (i := 159) (by decide +kernel)) rfl
theorem fl_9_22 : Cond.fieldLink RX9 22 (TX9 3).1 (TX9 3).2.1 (TX9 3).2.2.1 ∈ gw_tb := gw_tb1 (List.mem_of_getElem? (i := 160) (by decide +kernel)) rfl
theorem fl_4_9 : Cond.fieldLink RX4 9 (TX4 0).1 (TX4 0).2.1 (TX4 0).2.2.1 ∈ gw_tb := gw_tb1 (List.mem_of_getElem? (i := 187) (by decide +kernel)) rfl
theorem fl_10_108 : Cond.fieldLink RX10 108 (TX4 0).1 (TX4 0).2.1 (TX4 0).2.2.1 ∈ gw_tb := gw_tb1 (List.mem_of_getElem? (i := 188) (by decide +kernel)) rfl
theorem fl_4_15 : Cond.fieldLink RX4 15 (TX4 1).1 (TX4 1).2.1 (TX4 1).2.2.1 ∈ gw_tb := gw_tb1 (List.mem_of_getElem? (i := 189) (by decide +kernel)) rfl
theorem fl_10_131 : Cond.fieldLink RX10 131 (TX4 1).1 (TX4 1).2.1 (TX4 1).2.2.1 ∈ gw_tb := gw_tb1 (List.mem_of_getElem? (i := 190) (by decide +kernel)) rfl
theorem fl_4_19 : Cond.fieldLink RX4 19 (TX4 2).1 (TX4 2).2.1 (TX4 2).2.2.1 ∈ gw_tb := gw_tb1 (List.mem_of_getElem? (i := 191) (by decide +kernel)) rfl
theorem fl_4_22 : Cond.fieldLink RX4 22 (TX4 3).1 (TX4 3).2.1 (TX4 3).2.2.1 ∈ gw_tb := gw_tb1 (List.mem_of_getElem? (i := 192) (by decide +kernel)) rfl
theorem fl_10_183 : Cond.fieldLink RX10 183 (TX4 3).1 (TX4 3).2.1 (TX4 3).2.2.1 ∈ gw_tb := gw_tb1 (List.mem_of_getElem? (i := 193) (by decide +kernel)) rfl
theorem fl_4_25 : Cond.fieldLink RX4 25 (TX4 4).1 (TX4 4).2.1 (TX4 4).2.2.1 ∈ gw_tb := gw_tb1 (List.mem_of_getElem? (i := 194) (by decide +kernel)) rfl
theorem fl_10_186 : Cond.fieldLink RX10 186 (TX4 4).1 (TX4 4).2.1 (TX4 4).2.2.1 ∈ gw_tb := gw_tb1 (List.mem_of_getElem? (i := 195) (by decide +kernel)) rfl
theorem fl_2_7 : Cond.fieldLink RX2 7 (TX2 0).1 (TX2 0).2.1 (TX2 0).2.2.1 ∈ gw_tb := gw_tb1 (List.mem_of_getElem? (i := 215) (by decide +kernel)) rfl
theorem fl_10_138 : Cond.fieldLink RX10 138 (TX2 0).1 (TX2 0).2.1 (TX2 0).2.2.1 ∈ gw_tb := gw_tb1 (List.mem_of_getElem? (i := 216) (by decide +kernel)) rfl
theorem fl_2_13 : Cond.fieldLink RX2 13 (TX2 1).1 (TX2 1).2.1 (TX2 1).2.2.1 ∈ gw_tb := gw_tb1 (List.mem_of_getElem? (i := 217) (by decide +kernel)) rfl
theorem fl_10_134 : Cond.fieldLink RX10 134 (TX2 1).1 (TX2 1).2.1 (TX2 1).2.2.1 ∈ gw_tb := gw_tb1 (List.mem_of_getElem? (i := 218) (by decide +kernel)) rfl
theorem fl_2_16 : Cond.fieldLink RX2 16 (TX2 2).1 (TX2 2).2.1 (TX2 2).2.2.1 ∈ gw_tb := gw_tb1 (List.mem_of_getElem? (i := 219) (by decide +kernel)) rfl
theorem fl_10_144 : Cond.fieldLink RX10 144 (TX2 2).1 (TX2 2).2.1 (TX2 2).2.2.1 ∈ gw_tb := gw_tb1 (List.mem_of_getElem? (i := 220) (by decide +kernel)) rfl
theorem fl_2_20 : Cond.fieldLink RX2 20 (TX2 3).1 (TX2 3).2.1 (TX2 3).2.2.1 ∈ gw_tb := gw_tb1 (List.mem_of_getElem? (i := 221) (by decide +kernel)) rfl
theorem fl_10_147 : Cond.fieldLink RX10 147 (TX2 3).1 (TX2 3).2.1 (TX2 3).2.2.1 ∈ gw_tb := gw_tb1 (List.mem_of_getElem? (i := 222) (by decide +kernel)) rfl
theorem fl_2_23 : Cond.fieldLink RX2 23 (TX2 4).1 (TX2 4).2.1 (TX2 4).2.2.1 ∈ gw_tb := gw_tb1 (List.mem_of_getElem? (i := 223) (by decide +kernel)) rfl
theorem fl_10_156 : Cond.fieldLink RX10 156 (TX2 4).1 (TX2 4).2.1 (TX2 4).2.2.1 ∈ gw_tb := gw_tb1 (List.mem_of_getElem? (i := 224) (by decide +kernel)) rfl
theorem fl_2_26 : Cond.fieldLink RX2 26 (TX2 5).1 (TX2 5).2.1 (TX2 5).2.2.1 ∈ gw_tb := gw_tb1 (List.mem_of_getElem? (i := 225) (by decide +kernel)) rfl
theorem fl_10_153 : Cond.fieldLink RX10 153 (TX2 5).1 (TX2 5).2.1 (TX2 5).2.2.1 ∈ gw_tb := gw_tb1 (List.mem_of_getElem? (i := 226) (by decide +kernel)) rfl
theorem fl_10_12 : Cond.fieldLink RX10 12 (TX10 0).1 (TX10 0).2.1 (TX10 0).2.2.1 ∈ gw_tb := gw_tb2 (List.mem_of_getElem? (i := 0) (by decide +kernel)) rfl
theorem fl_10_21 : Cond.fieldLink RX10 21 (TX10 1).1 (TX10 1).2.1 (TX10 1).2.2.1 ∈ gw_tb := gw_tb2 (List.mem_of_getElem? (i := 1) (by decide +kernel)) rfl
theorem fl_11_239 : Cond.fieldLink RX11 239 (TX10 1).1 (TX10 1).2.1 (TX10 1).2.2.1 ∈ gw_tb := gw_tb2 (List.mem_of_getElem? (i := 2) (by decide +kernel)) rfl
theorem fl_10_25 : Cond.fieldLink RX10 25 (TX10 2).1 (TX10 2).2.1 (TX10 2).2.2.1 ∈ gw_tb := gw_tb2 (List.mem_of_getElem? (i := 3) (by decide +kernel)) rfl
theorem fl_10_32 : Cond.fieldLink RX10 32 (TX10 3).1 (TX10 3).2.1 (TX10 3).2.2.1 ∈ gw_tb := gw_tb2 (List.mem_of_getElem? (i := 4) (by decide +kernel)) rfl
theorem fl_10_36 : Cond.fieldLink RX10 36 (TX10 4).1 (TX10 4).2.1 (TX10 4).2.2.1 ∈ gw_tb := gw_tb2 (List.mem_of_getElem? (i := 5) (by decide +kernel)) rfl
theorem fl_11_348 : Cond.fieldLink RX11 348 (TX10 4).1 (TX10 4).2.1 (TX10 4).2.2.1 ∈ gw_tb := gw_tb2 (List.mem_of_getElem? (i := 6) (by decide +kernel)) rfl
theorem fl_10_40 : Cond.fieldLink RX10 40 (TX10 5).1 (TX10 5).2.1 (TX10 5).2.2.1 ∈ gw_tb := gw_tb2 (List.mem_of_getElem? (i := 7) (by decide +kernel)) rfl
theorem fl_11_217 : Cond.fieldLink RX11 217 (TX10 5).1 (TX10 5).2.1 (TX10 5).2.2.1 ∈ gw_tb := gw_tb2 (List.mem_of_getElem? (i := 8) (by decide +kernel)) rfl
theorem fl_10_43 : Cond.fieldLink RX10 43 (TX10 6).1 (TX10 6).2.1 (TX10 6).2.2.1 ∈ gw_tb := gw_tb2 (List.mem_of_getElem? (i := 9) (by decide +kernel)) rfl
theorem fl_11_223 : Cond.fieldLink RX11 223 (TX10 6).1 (TX10 6).2.1 (TX10 6).2.2.1 ∈ gw_tb := gw_tb2 (List.mem_of_getElem? (i := 10) (by decide +kernel)) rfl
theorem fl_10_46 : Cond.fieldLink RX10 46 (TX10 7).1 (TX10 7).2.1 (TX10 7).2.2.1 ∈ gw_tb := gw_tb2 (List.mem_of_getElem? (i := 11) (by decide +kernel)) rfl
theorem fl_10_49 : Cond.fieldLink RX10 49 (TX10 8).1 (TX10 8).2.1 (TX10 8).2.2.1 ∈ gw_tb := gw_tb2 (List.mem_of_getElem? (i := 12) (by decide +kernel)) rfl
theorem fl_10_52 : Cond.fieldLink RX10 52 (TX10 9).1 (TX10 9).2.1 (TX10 9).2.2.1 ∈ gw_tb := gw_tb2 (List.mem_of_getElem? (i := 13) (by decide +kernel)) rfl
theorem fl_10_55 : Cond.fieldLink RX10 55 (TX10 10).1 (TX10 10).2.1 (TX10 10).2.2.1 ∈ gw_tb := gw_tb2 (List.mem_of_getElem? (i := 14) (by decide +kernel)) rfl
theorem fl_11_351 : Cond.fieldLink RX11 351 (TX10 10).1 (TX10 10).2.1 (TX10 10).2.2.1 ∈ gw_tb := gw_tb2 (List.mem_of_getElem? (i := 15) (by decide +kernel)) rfl
theorem fl_10_58 : Cond.fieldLink RX10 58 (TX10 11).1 (TX10 11).2.1 (TX10 11).2.2.1 ∈ gw_tb := gw_tb2 (List.mem_of_getElem? (i := 16) (by decide +kernel)) rfl
theorem fl_10_61 : Cond.fieldLink RX10 61 (TX10 12).1 (TX10 12).2.1 (TX10 12).2.2.1 ∈ gw_tb := gw_tb2 (List.mem_of_getElem? (i := 17) (by decide +kernel)) rfl
theorem fl_11_190 : Cond.fieldLink RX11 190 (TX10 12).1 (TX10 12).2.1 (TX10 12).2.2.1 ∈ gw_tb := gw_tb2 (List.mem_of_getElem? (i := 18) (by decide +kernel)) rfl
theorem fl_10_64 : Cond.fieldLink RX10 64 (TX10 13).1 (TX10 13).2.1 (TX10 13).2.2.1 ∈ gw_tb := gw_tb2 (List.mem_of_getElem? (i := 19) (by decide +kernel)) rfl
theorem fl_11_193 : Cond.fieldLink RX11 193 (TX10 13).1 (TX10 13).2.1 (TX10 13).2.2.1 ∈ gw_tb := gw_tb2 (List.mem_of_getElem? (i := 20) (by decide +kernel)) rfl
theorem fl_10_67 : Cond.fieldLink RX10 67 (TX10 14).1 (TX10 14).2.1 (TX10 14).2.2.1 ∈ gw_tb := gw_tb2 (List.mem_of_getElem? (i := 21) (by decide +kernel)) rfl
theorem fl_11_196 : Cond.fieldLink RX11 196 (TX10 14).1 (TX10 14).2.1 (TX10 14).2.2.1 ∈ gw_tb := gw_tb2 (List.mem_of_getElem? (i := 22) (by decide +kernel)) rfl
theorem fl_10_70 : Cond.fieldLink RX10 70 (TX10 15).1 (TX10 15).2.1 (TX10 15).2.2.1 ∈ gw_tb := gw_tb2 (List.mem_of_getElem? (i := 23) (by decide +kernel)) rfl
theorem fl_11_199 : Cond.fieldLink RX11 199 (TX10 15).1 (TX10 15).2.1 (TX10 15).2.2.1 ∈ gw_tb := gw_tb2 (List.mem_of_getElem? (i := 24) (by decide +kernel)) rfl
theorem fl_1_9 : Cond.fieldLink RX1 9 (TX1 0).1 (TX1 0).2.1 (TX1 0).2.2.1 ∈ gw_tb := gw_tb2 (List.mem_of_getElem? (i := 64) (by decide +kernel)) rfl
theorem fl_1_15 : Cond.fieldLink RX1 15 (TX1 1).1 (TX1 1).2.1 (TX1 1).2.2.1 ∈ gw_tb := gw_tb2 (List.mem_of_getElem? (i := 65) (by decide +kernel)) rfl
theorem fl_1_19 : Cond.fieldLink RX1 19 (TX1 2).1 (TX1 2).2.1 (TX1 2).2.2.1 ∈ gw_tb := gw_tb2 (List.mem_of_getElem? (i := 66) (by decide +kernel)) rfl
theorem fl_11_294 : Cond.fieldLink RX11 294 (TX1 2).1 (TX1 2).2.1 (TX1 2).2.2.1 ∈ gw_tb := gw_tb2 (List.mem_of_getElem? (i := 67) (by decide +kernel)) rfl
theorem fl_0_9 : Cond.fieldLink RX0 9 (TX0 0).1 (TX0 0).2.1 (TX0 0).2.2.1 ∈ gw_tb := gw_tb2 (List.mem_of_getElem? (i := 81) (by decide +kernel)) rfl
theorem fl_0_15 : Cond.fieldLink RX0 15 (TX0 1).1 (TX0 1).2.1 (TX0 1).2.2.1 ∈ gw_tb := gw_tb2 (List.mem_of_getElem? (i := 82) (by decide +kernel)) rfl
theorem fl_0_19 : Cond.fieldLink RX0 19 (TX0 2).1 (TX0 2).2.1 (TX0 2).2.2.1 ∈ gw_tb := gw_tb2 (List.mem_of_getElem? (i := 83) (by decide +kernel)) rfl
theorem fl_0_22 : Cond.fieldLink RX0 22 (TX0 3).1 (TX0 3).2.1 (TX0 3).2.2.1 ∈ gw_tb := gw_tb2 (List.mem_of_getElem? (i := 84) (by decide +kernel)) rfl
theorem fl_0_25 : Cond.fieldLink RX0 25 (TX0 4).1 (TX0 4).2.1 (TX0 4).2.2.1 ∈ gw_tb := gw_tb2 (List.mem_of_getElem? (i := 85) (by decide +kernel)) rfl
theorem fl_0_28 : Cond.fieldLink RX0 28 (TX0 5).1 (TX0 5).2.1 (TX0 5).2.2.1 ∈ gw_tb := gw_tb2 (List.mem_of_getElem? (i := 86) (by decide +kernel)) rfl
theorem fl_7_9 : Cond.fieldLink RX7 9 (TX7 0).1 (TX7 0).2.1 (TX7 0).2.2.1 ∈ gw_tb := gw_tb2 (List.mem_of_getElem? (i := 107) (by decide +kernel)) rfl
theorem fl_7_15 : Cond.fieldLink RX7 15 (TX7 1).1 (TX7 1).2.1 (TX7 1).2.2.1 ∈ gw_tb := gw_tb2 (List.mem_of_getElem? (i := 108) (by decide +kernel)) rfl
theorem fl_7_18 : Cond.fieldLink RX7 18 (TX7 2).1 (TX7 2).2.1 (TX7 2).2.2.1 ∈ gw_tb := gw_tb2 (List.mem_of_getElem? (i := 109) (by decide +kernel)) rfl
theorem fl_11_10 : Cond.fieldLink RX11 10 (TX11 0).1 (TX11 0).2.1 (TX11 0).2.2.1 ∈ gw_tb := gw_tb2 (List.mem_of_getElem? (i := 117) (by decide +kernel)) rfl
theorem fl_11_16 : Cond.fieldLink RX11 16 (TX11 1).1 (TX11 1).2.1 (TX11 1).2.2.1 ∈ gw_tb := gw_tb2 (List.mem_of_getElem? (i := 118) (by decide +kernel)) rfl
theorem fl_11_19 : Cond.fieldLink RX11 19 (TX11 2).1 (TX11 2).2.1 (TX11 2).2.2.1 ∈ gw_tb := gw_tb2 (List.mem_of_getElem? (i := 119) (by decide +kernel)) rfl
theorem fl_11_26 : Cond.fieldLink RX11 26 (TX11 3).1 (TX11 3).2.1 (TX11 3).2.2.1 ∈ gw_tb := gw_tb2 (List.mem_of_getElem? (i := 120) (by decide +kernel)) rfl
theorem fl_11_33 : Cond.fieldLink RX11 33 (TX11 4).1 (TX11 4).2.1 (TX11 4).2.2.1 ∈ gw_tb := gw_tb2 (List.mem_of_getElem? (i := 121) (by decide +kernel)) rfl
theorem fl_11_40 : Cond.fieldLink RX11 40 (TX11 5).1 (TX11 5).2.1 (TX11 5).2.2.1 ∈ gw_tb := gw_tb2 (List.mem_of_getElem? (i := 122) (by decide +kernel)) rfl
theorem fl_11_47 : Cond.fieldLink RX11 47 (TX11 6).1 (TX11 6).2.1 (TX11 6).2.2.1 ∈ gw_tb := gw_tb2 (List.mem_of_getElem? (i := 123) (by decide +kernel)) rfl
theorem fl_11_51 : Cond.fieldLink RX11 51 (TX11 7).1 (TX11 7).2.1 (TX11 7).2.2.1 ∈ gw_tb := gw_tb2 (List.mem_of_getElem? (i := 124) (by decide +kernel)) rfl
theorem fl_11_54 : Cond.fieldLink RX11 54 (TX11 8).1 (TX11 8).2.1 (TX11 8).2.2.1 ∈ gw_tb := gw_tb2 (List.mem_of_getElem? (i := 125) (by decide +kernel)) rfl
theorem fl_11_57 : Cond.fieldLink RX11 57 (TX11 9).1 (TX11 9).2.1 (TX11 9).2.2.1 ∈ gw_tb := gw_tb2 (List.mem_of_getElem? (i := 126) (by decide +kernel)) rfl
theorem fl_11_61 : Cond.fieldLink RX11 61 (TX11 10).1 (TX11 10).2.1 (TX11 10).2.2.1 ∈ gw_tb := gw_tb2 (List.mem_of_getElem? (i := 127) (by decide +kernel)) rfl
theorem fl_11_65 : Cond.fieldLink RX11 65 (TX11 11).1 (TX11 11).2.1 (TX11 11).2.2.1 ∈ gw_tb := gw_tb2 (List.mem_of_getElem? (i := 128) (by decide +kernel)) rfl
theorem fl_11_68 : Cond.fieldLink RX11 68 (TX11 12).1 (TX11 12).2.1 (TX11 12).2.2.1 ∈ gw_tb := gw_tb2 (List.mem_of_getElem? (i := 129) (by decide +kernel)) rfl
theorem fl_11_74 : Cond.fieldLink RX11 74 (TX11 13).1 (TX11 13).2.1 (TX11 13).2.2.1 ∈ gw_tb := gw_tb2 (List.mem_of_getElem? (i := 130) (by decide +kernel)) rfl
theorem fl_11_81 : Cond.fieldLink RX11 81 (TX11 14).1 (TX11 14).2.1 (TX11 14).2.2.1 ∈ gw_tb := gw_tb2 (List.mem_of_getElem? (i := 131) (by decide +kernel)) rfl
theorem fl_11_87 : Cond.fieldLink RX11 87 (TX11 15).1 (TX11 15).2.1 (TX11 15).2.2.1 ∈ gw_tb := gw_tb2 (List.mem_of_getElem? (i := 132) (by decide +kernel)) rfl
theorem ml_13_51 : Cond.methodLink RX13 51 (gw_mY M_X11_init) ∈ gw_tb := gw_tb1 (List.mem_of_getElem? (i := 17) (by decide +kernel)) rfl
theorem ml_13_37 : Cond.methodLink RX13 37 (gw_mY M_X11_rule) ∈ gw_tb := gw_tb2 (List.mem_of_getElem? (i := 166) (by decide +kernel)) rfl
theorem ml_11_92 : Cond.methodLink RX11 92 (gw_mY M_X11_within) ∈ gw_tb := gw_tb2 (List.mem_of_getElem? (i := 170) (by decide +kernel)) rfl
theorem ml_11_99 : Cond.methodLink RX11 99 (gw_mY M_X11_forget) ∈ gw_tb := gw_tb2 (List.mem_of_getElem? (i := 177) (by decide +kernel)) rfl
theorem ml_13_59 : Cond.methodLink RX13 59 (gw_mY M_X11_fate) ∈ gw_tb := gw_tb2 (List.mem_of_getElem? (i := 181) (by decide +kernel)) rfl
theorem ml_11_134 : Cond.methodLink RX11 134 (gw_mY M_X11_isPerson) ∈ gw_tb := gw_tb2 (List.mem_of_getElem? (i := 185) (by decide +kernel)) rfl
theorem ml_11_187 : Cond.methodLink RX11 187 (gw_mY M_X11_goAlong) ∈ gw_tb := gw_tb2 (List.mem_of_getElem? (i := 189) (by decide +kernel)) rfl
theorem ml_11_235 : Cond.methodLink RX11 235 (gw_mY M_X10_load) ∈ gw_tb := gw_tb2 (List.mem_of_getElem? (i := 193) (by decide +kernel)) rfl
theorem ml_10_82 : Cond.methodLink RX10 82 (gw_mY M_X4_lay) ∈ gw_tb := gw_tb2 (List.mem_of_getElem? (i := 197) (by decide +kernel)) rfl
theorem ml_4_28 : Cond.methodLink RX4 28 (gw_mY M_X4_layKind) ∈ gw_tb := gw_tb2 (List.mem_of_getElem? (i := 201) (by decide +kernel)) rfl
theorem ml_10_87 : Cond.methodLink RX10 87 (gw_mY M_X5_take) ∈ gw_tb := gw_tb2 (List.mem_of_getElem? (i := 206) (by decide +kernel)) rfl
theorem ml_11_240 : Cond.methodLink RX11 240 (gw_mY M_X10_start) ∈ gw_tb := gw_tb2 (List.mem_of_getElem? (i := 214) (by decide +kernel)) rfl
theorem ml_10_98 : Cond.methodLink RX10 98 (gw_mY M_X2_clear) ∈ gw_tb := gw_tb2 (List.mem_of_getElem? (i := 218) (by decide +kernel)) rfl
theorem ml_10_101 : Cond.methodLink RX10 101 (gw_mY M_X5_tailNumber) ∈ gw_tb := gw_tb2 (List.mem_of_getElem? (i := 222) (by decide +kernel)) rfl
theorem ml_11_243 : Cond.methodLink RX11 243 (gw_mY M_X10_isOver) ∈ gw_tb := gw_tb2 (List.mem_of_getElem? (i := 226) (by decide +kernel)) rfl
theorem ml_11_247 : Cond.methodLink RX11 247 (gw_mY M_X10_live) ∈ gw_tb := gw_tb2 (List.mem_of_getElem? (i := 230) (by decide +kernel)) rfl
theorem ml_10_109 : Cond.methodLink RX10 109 (gw_mY M_X10_lead) ∈ gw_tb := gw_tb2 (List.mem_of_getElem? (i := 234) (by decide +kernel)) rfl
theorem ml_10_120 : Cond.methodLink RX10 120 (gw_mY M_X10_isAtOpenStop) ∈ gw_tb := gw_tb2 (List.mem_of_getElem? (i := 238) (by decide +kernel)) rfl
theorem ml_10_124 : Cond.methodLink RX10 124 (gw_mY M_X10_isKept) ∈ gw_tb := gw_tb3 (List.mem_of_getElem? (i := 2) (by decide +kernel)) rfl
theorem ml_10_141 : Cond.methodLink RX10 141 (gw_mY M_X10_isToBegin) ∈ gw_tb := gw_tb3 (List.mem_of_getElem? (i := 6) (by decide +kernel)) rfl
theorem ml_10_150 : Cond.methodLink RX10 150 (gw_mY M_X10_speak) ∈ gw_tb := gw_tb3 (List.mem_of_getElem? (i := 10) (by decide +kernel)) rfl
theorem ml_10_127 : Cond.methodLink RX10 127 (gw_mY M_X4_isRed) ∈ gw_tb := gw_tb3 (List.mem_of_getElem? (i := 14) (by decide +kernel)) rfl
theorem ml_10_113 : Cond.methodLink RX10 113 (gw_mY M_X10_follow) ∈ gw_tb := gw_tb3 (List.mem_of_getElem? (i := 18) (by decide +kernel)) rfl
theorem ml_10_166 : Cond.methodLink RX10 166 (gw_mY M_X10_lastBeside) ∈ gw_tb := gw_tb3 (List.mem_of_getElem? (i := 22) (by decide +kernel)) rfl
theorem ml_10_179 : Cond.methodLink RX10 179 (gw_mY M_X10_losesItsWay) ∈ gw_tb := gw_tb3 (List.mem_of_getElem? (i := 29) (by decide +kernel)) rfl
theorem ml_10_117 : Cond.methodLink RX10 117 (gw_mY M_X10_closeMinute) ∈ gw_tb := gw_tb3 (List.mem_of_getElem? (i := 33) (by decide +kernel)) rfl
theorem ml_10_189 : Cond.methodLink RX10 189 (gw_mY M_X10_out) ∈ gw_tb := gw_tb3 (List.mem_of_getElem? (i := 37) (by decide +kernel)) rfl
theorem ml_11_342 : Cond.methodLink RX11 342 (gw_mY M_X11_writeTrail) ∈ gw_tb := gw_tb3 (List.mem_of_getElem? (i := 44) (by decide +kernel)) rfl
theorem ml_11_345 : Cond.methodLink RX11 345 (gw_mY M_X10_out) ∈ gw_tb := gw_tb3 (List.mem_of_getElem? (i := 48) (by decide +kernel)) rfl
theorem ml_13_56 : Cond.methodLink RX13 56 (gw_mY M_X11_at) ∈ gw_tb := gw_tb3 (List.mem_of_getElem? (i := 49) (by decide +kernel)) rfl
theorem ml_13_67 : Cond.methodLink RX13 67 (gw_mY M_X11_all) ∈ gw_tb := gw_tb3 (List.mem_of_getElem? (i := 55) (by decide +kernel)) rfl
theorem ml_11_211 : Cond.methodLink RX11 211 (gw_mY M_X10_heardTogether) ∈ gw_tb := gw_tb3 (List.mem_of_getElem? (i := 59) (by decide +kernel)) rfl
theorem ml_11_214 : Cond.methodLink RX11 214 (gw_mY M_X10_leastHeard) ∈ gw_tb := gw_tb3 (List.mem_of_getElem? (i := 63) (by decide +kernel)) rfl
theorem ml_11_220 : Cond.methodLink RX11 220 (gw_mY M_X10_allThere) ∈ gw_tb := gw_tb3 (List.mem_of_getElem? (i := 67) (by decide +kernel)) rfl
theorem ml_11_226 : Cond.methodLink RX11 226 (gw_mY M_X10_lostSet) ∈ gw_tb := gw_tb3 (List.mem_of_getElem? (i := 71) (by decide +kernel)) rfl
theorem ml_13_70 : Cond.methodLink RX13 70 (gw_mY M_X11_best) ∈ gw_tb := gw_tb3 (List.mem_of_getElem? (i := 75) (by decide +kernel)) rfl
theorem ml_11_229 : Cond.methodLink RX11 229 (gw_mY M_X11_seekBest) ∈ gw_tb := gw_tb3 (List.mem_of_getElem? (i := 79) (by decide +kernel)) rfl
theorem ml_11_354 : Cond.methodLink RX11 354 (gw_mY M_X6_minutesSpoken) ∈ gw_tb := gw_tb3 (List.mem_of_getElem? (i := 83) (by decide +kernel)) rfl
theorem ml_6_71 : Cond.methodLink RX6 71 (gw_mY M_X6_isMet) ∈ gw_tb := gw_tb3 (List.mem_of_getElem? (i := 87) (by decide +kernel)) rfl
theorem ml_11_357 : Cond.methodLink RX11 357 (gw_mY M_X10_takeRule) ∈ gw_tb := gw_tb3 (List.mem_of_getElem? (i := 91) (by decide +kernel)) rfl
theorem ml_11_361 : Cond.methodLink RX11 361 (gw_mY M_X10_leastHeardInTime) ∈ gw_tb := gw_tb3 (List.mem_of_getElem? (i := 95) (by decide +kernel)) rfl
theorem ml_10_195 : Cond.methodLink RX10 195 (gw_mY M_X10_start) ∈ gw_tb := gw_tb3 (List.mem_of_getElem? (i := 99) (by decide +kernel)) rfl
theorem ml_10_198 : Cond.methodLink RX10 198 (gw_mY M_X10_live) ∈ gw_tb := gw_tb3 (List.mem_of_getElem? (i := 100) (by decide +kernel)) rfl
theorem ml_10_201 : Cond.methodLink RX10 201 (gw_mY M_X10_isOver) ∈ gw_tb := gw_tb3 (List.mem_of_getElem? (i := 101) (by decide +kernel)) rfl
theorem ml_10_204 : Cond.methodLink RX10 204 (gw_mY M_X10_leastHeard) ∈ gw_tb := gw_tb3 (List.mem_of_getElem? (i := 102) (by decide +kernel)) rfl
theorem ml_11_365 : Cond.methodLink RX11 365 (gw_mY M_X11_noteBest) ∈ gw_tb := gw_tb3 (List.mem_of_getElem? (i := 103) (by decide +kernel)) rfl
theorem ml_13_62 : Cond.methodLink RX13 62 (gw_mY M_X11_worth) ∈ gw_tb := gw_tb3 (List.mem_of_getElem? (i := 107) (by decide +kernel)) rfl
theorem ml_13_80 : Cond.methodLink RX13 80 (gw_mY M_X11_chosen) ∈ gw_tb := gw_tb3 (List.mem_of_getElem? (i := 113) (by decide +kernel)) rfl
theorem ml_11_250 : Cond.methodLink RX11 250 (gw_mY M_X11_cutUp) ∈ gw_tb := gw_tb3 (List.mem_of_getElem? (i := 117) (by decide +kernel)) rfl
theorem ml_11_253 : Cond.methodLink RX11 253 (gw_mY M_X6_valueIfFits) ∈ gw_tb := gw_tb3 (List.mem_of_getElem? (i := 120) (by decide +kernel)) rfl
theorem ml_13_83 : Cond.methodLink RX13 83 (gw_mY M_X11_colours) ∈ gw_tb := gw_tb3 (List.mem_of_getElem? (i := 124) (by decide +kernel)) rfl
theorem ml_11_284 : Cond.methodLink RX11 284 (gw_mY M_X11_arePairs) ∈ gw_tb := gw_tb3 (List.mem_of_getElem? (i := 128) (by decide +kernel)) rfl
theorem ml_11_288 : Cond.methodLink RX11 288 (gw_mY M_X1_load) ∈ gw_tb := gw_tb3 (List.mem_of_getElem? (i := 131) (by decide +kernel)) rfl
theorem ml_11_291 : Cond.methodLink RX11 291 (gw_mY M_X1_paint) ∈ gw_tb := gw_tb3 (List.mem_of_getElem? (i := 135) (by decide +kernel)) rfl
theorem ml_1_22 : Cond.methodLink RX1 22 (gw_mY M_X1_paintFrom) ∈ gw_tb := gw_tb3 (List.mem_of_getElem? (i := 139) (by decide +kernel)) rfl
theorem ml_1_26 : Cond.methodLink RX1 26 (gw_mY M_X1_isFree) ∈ gw_tb := gw_tb3 (List.mem_of_getElem? (i := 142) (by decide +kernel)) rfl
theorem ml_13_73 : Cond.methodLink RX13 73 (gw_mY M_X11_image) ∈ gw_tb := gw_tb3 (List.mem_of_getElem? (i := 147) (by decide +kernel)) rfl
theorem ml_11_297 : Cond.methodLink RX11 297 (gw_mY M_X6_take) ∈ gw_tb := gw_tb3 (List.mem_of_getElem? (i := 151) (by decide +kernel)) rfl
theorem ml_6_48 : Cond.methodLink RX6 48 (gw_mY M_X3_take) ∈ gw_tb := gw_tb3 (List.mem_of_getElem? (i := 155) (by decide +kernel)) rfl
theorem ml_6_52 : Cond.methodLink RX6 52 (gw_mY M_X5_take) ∈ gw_tb := gw_tb3 (List.mem_of_getElem? (i := 160) (by decide +kernel)) rfl
theorem ml_13_77 : Cond.methodLink RX13 77 (gw_mY M_X11_restore) ∈ gw_tb := gw_tb3 (List.mem_of_getElem? (i := 162) (by decide +kernel)) rfl
theorem ml_13_9 : Cond.methodLink RX13 9 (gw_mY M_X13_cell) ∈ gw_tb := gw_tb3 (List.mem_of_getElem? (i := 166) (by decide +kernel)) rfl
theorem ml_13_15 : Cond.methodLink RX13 15 (gw_mY M_X13_end) ∈ gw_tb := gw_tb3 (List.mem_of_getElem? (i := 171) (by decide +kernel)) rfl
theorem ml_13_24 : Cond.methodLink RX13 24 (gw_mY M_X13_marks) ∈ gw_tb := gw_tb3 (List.mem_of_getElem? (i := 174) (by decide +kernel)) rfl
theorem ml_13_27 : Cond.methodLink RX13 27 (gw_mY M_X13_mark) ∈ gw_tb := gw_tb3 (List.mem_of_getElem? (i := 177) (by decide +kernel)) rfl
theorem ml_13_40 : Cond.methodLink RX13 40 (gw_mY M_X13_people) ∈ gw_tb := gw_tb3 (List.mem_of_getElem? (i := 180) (by decide +kernel)) rfl
theorem ml_13_43 : Cond.methodLink RX13 43 (gw_mY M_X13_one) ∈ gw_tb := gw_tb3 (List.mem_of_getElem? (i := 183) (by decide +kernel)) rfl
theorem ml_13_34 : Cond.methodLink RX13 34 (gw_mY M_X13_rule) ∈ gw_tb := gw_tb3 (List.mem_of_getElem? (i := 186) (by decide +kernel)) rfl
theorem ml_13_52 : Cond.methodLink RX13 52 (gw_mY M_X13_lays) ∈ gw_tb := gw_tb3 (List.mem_of_getElem? (i := 189) (by decide +kernel)) rfl
theorem ml_13_19 : Cond.methodLink RX13 19 (gw_mY M_X11_end) ∈ gw_tb := gw_tb3 (List.mem_of_getElem? (i := 192) (by decide +kernel)) rfl
theorem ml_13_31 : Cond.methodLink RX13 31 (gw_mY M_X11_mark) ∈ gw_tb := gw_tb3 (List.mem_of_getElem? (i := 196) (by decide +kernel)) rfl
theorem ml_11_111 : Cond.methodLink RX11 111 (gw_mY M_X3_add) ∈ gw_tb := gw_tb3 (List.mem_of_getElem? (i := 204) (by decide +kernel)) rfl
theorem ml_3_26 : Cond.methodLink RX3 26 (gw_mY M_X3_isTaken) ∈ gw_tb := gw_tb3 (List.mem_of_getElem? (i := 208) (by decide +kernel)) rfl
theorem ml_13_47 : Cond.methodLink RX13 47 (gw_mY M_X11_person) ∈ gw_tb := gw_tb3 (List.mem_of_getElem? (i := 212) (by decide +kernel)) rfl
theorem ml_11_131 : Cond.methodLink RX11 131 (gw_mY M_X5_add) ∈ gw_tb := gw_tb3 (List.mem_of_getElem? (i := 216) (by decide +kernel)) rfl
theorem ml_5_26 : Cond.methodLink RX5 26 (gw_mY M_X5_tailNumber) ∈ gw_tb := gw_tb3 (List.mem_of_getElem? (i := 220) (by decide +kernel)) rfl
theorem mc_X0_init : Cond.code (gw_mY M_X0_init) (gw_mC M_X0_init) (gw_mL M_X0_init) (gw_mR M_X0_init) ∈ gw_tb := gw_tb2 (List.mem_of_getElem? (i := 79) (by decide +kernel)) rfl
theorem mi_X0_init : Cond.instanceMethod (gw_mY M_X0_init) ∈ gw_tb := gw_tb2 (List.mem_of_getElem? (i := 78) (by decide +kernel)) rfl
theorem mc_X1_init : Cond.code (gw_mY M_X1_init) (gw_mC M_X1_init) (gw_mL M_X1_init) (gw_mR M_X1_init) ∈ gw_tb := gw_tb2 (List.mem_of_getElem? (i := 62) (by decide +kernel)) rfl
theorem mi_X1_init : Cond.instanceMethod (gw_mY M_X1_init) ∈ gw_tb := gw_tb2 (List.mem_of_getElem? (i := 61) (by decide +kernel)) rfl
theorem mc_X1_load : Cond.code (gw_mY M_X1_load) (gw_mC M_X1_load) (gw_mL M_X1_load) (gw_mR M_X1_load) ∈ gw_tb := gw_tb3 (List.mem_of_getElem? (i := 134) (by decide +kernel)) rfl
theorem mi_X1_load : Cond.instanceMethod (gw_mY M_X1_load) ∈ gw_tb := gw_tb3 (List.mem_of_getElem? (i := 132) (by decide +kernel)) rfl
theorem ms_X1_load : Cond.selects RX1 (gw_mY M_X1_load) (gw_mY M_X1_load) ∈ gw_tb := gw_tb3 (List.mem_of_getElem? (i := 133) (by decide +kernel)) rfl
theorem mc_X1_paint : Cond.code (gw_mY M_X1_paint) (gw_mC M_X1_paint) (gw_mL M_X1_paint) (gw_mR M_X1_paint) ∈ gw_tb := gw_tb3 (List.mem_of_getElem? (i := 138) (by decide +kernel)) rfl
theorem mi_X1_paint : Cond.instanceMethod (gw_mY M_X1_paint) ∈ gw_tb := gw_tb3 (List.mem_of_getElem? (i := 136) (by decide +kernel)) rfl
theorem ms_X1_paint : Cond.selects RX1 (gw_mY M_X1_paint) (gw_mY M_X1_paint) ∈ gw_tb := gw_tb3 (List.mem_of_getElem? (i := 137) (by decide +kernel)) rfl
theorem mc_X1_paintFrom : Cond.code (gw_mY M_X1_paintFrom) (gw_mC M_X1_paintFrom) (gw_mL M_X1_paintFrom) (gw_mR M_X1_paintFrom) ∈ gw_tb := gw_tb3 (List.mem_of_getElem? (i := 141) (by decide +kernel)) rfl
theorem mS_X1_paintFrom : Cond.static (gw_mY M_X1_paintFrom) ∈ gw_tb := gw_tb3 (List.mem_of_getElem? (i := 140) (by decide +kernel)) rfl
theorem mc_X1_isFree : Cond.code (gw_mY M_X1_isFree) (gw_mC M_X1_isFree) (gw_mL M_X1_isFree) (gw_mR M_X1_isFree) ∈ gw_tb := gw_tb3 (List.mem_of_getElem? (i := 145) (by decide +kernel)) rfl
theorem mi_X1_isFree : Cond.instanceMethod (gw_mY M_X1_isFree) ∈ gw_tb := gw_tb3 (List.mem_of_getElem? (i := 143) (by decide +kernel)) rfl
theorem ms_X1_isFree : Cond.selects RX1 (gw_mY M_X1_isFree) (gw_mY M_X1_isFree) ∈ gw_tb := gw_tb3 (List.mem_of_getElem? (i := 144) (by decide +kernel)) rfl
theorem mc_X2_init : Cond.code (gw_mY M_X2_init) (gw_mC M_X2_init) (gw_mL M_X2_init) (gw_mR M_X2_init) ∈ gw_tb := gw_tb1 (List.mem_of_getElem? (i := 213) (by decide +kernel)) rfl
theorem mi_X2_init : Cond.instanceMethod (gw_mY M_X2_init) ∈ gw_tb := gw_tb1 (List.mem_of_getElem? (i := 212) (by decide +kernel)) rfl
theorem mc_X2_clear : Cond.code (gw_mY M_X2_clear) (gw_mC M_X2_clear) (gw_mL M_X2_clear) (gw_mR M_X2_clear) ∈ gw_tb := gw_tb2 (List.mem_of_getElem? (i := 221) (by decide +kernel)) rfl
theorem mi_X2_clear : Cond.instanceMethod (gw_mY M_X2_clear) ∈ gw_tb := gw_tb2 (List.mem_of_getElem? (i := 219) (by decide +kernel)) rfl
theorem ms_X2_clear : Cond.selects RX2 (gw_mY M_X2_clear) (gw_mY M_X2_clear) ∈ gw_tb := gw_tb2 (List.mem_of_getElem? (i := 220) (by decide +kernel)) rfl
theorem mc_X3_init : Cond.code (gw_mY M_X3_init) (gw_mC M_X3_init) (gw_mL M_X3_init) (gw_mR M_X3_init) ∈ gw_tb := gw_tb1 (List.mem_of_getElem? (i := 33) (by decide +kernel)) rfl
theorem mi_X3_init : Cond.instanceMethod (gw_mY M_X3_init) ∈ gw_tb := gw_tb1 (List.mem_of_getElem? (i := 32) (by decide +kernel)) rfl
theorem mc_X3_isTaken : Cond.code (gw_mY M_X3_isTaken) (gw_mC M_X3_isTaken) (gw_mL M_X3_isTaken) (gw_mR M_X3_isTaken) ∈ gw_tb := gw_tb3 (List.mem_of_getElem? (i := 211) (by decide +kernel)) rfl
theorem mi_X3_isTaken : Cond.instanceMethod (gw_mY M_X3_isTaken) ∈ gw_tb := gw_tb3 (List.mem_of_getElem? (i := 209) (by decide +kernel)) rfl
theorem ms_X3_isTaken : Cond.selects RX3 (gw_mY M_X3_isTaken) (gw_mY M_X3_isTaken) ∈ gw_tb := gw_tb3 (List.mem_of_getElem? (i := 210) (by decide +kernel)) rfl
theorem mc_X3_add : Cond.code (gw_mY M_X3_add) (gw_mC M_X3_add) (gw_mL M_X3_add) (gw_mR M_X3_add) ∈ gw_tb := gw_tb3 (List.mem_of_getElem? (i := 207) (by decide +kernel)) rfl
theorem mi_X3_add : Cond.instanceMethod (gw_mY M_X3_add) ∈ gw_tb := gw_tb3 (List.mem_of_getElem? (i := 205) (by decide +kernel)) rfl
theorem ms_X3_add : Cond.selects RX3 (gw_mY M_X3_add) (gw_mY M_X3_add) ∈ gw_tb := gw_tb3 (List.mem_of_getElem? (i := 206) (by decide +kernel)) rfl
theorem mc_X3_take : Cond.code (gw_mY M_X3_take) (gw_mC M_X3_take) (gw_mL M_X3_take) (gw_mR M_X3_take) ∈ gw_tb := gw_tb3 (List.mem_of_getElem? (i := 158) (by decide +kernel)) rfl
theorem mi_X3_take : Cond.instanceMethod (gw_mY M_X3_take) ∈ gw_tb := gw_tb3 (List.mem_of_getElem? (i := 156) (by decide +kernel)) rfl
theorem ms_X3_take : Cond.selects RX3 (gw_mY M_X3_take) (gw_mY M_X3_take) ∈ gw_tb := gw_tb3 (List.mem_of_getElem? (i := 157) (by decide +kernel)) rfl
theorem mc_X4_init : Cond.code (gw_mY M_X4_init) (gw_mC M_X4_init) (gw_mL M_X4_init) (gw_mR M_X4_init) ∈ gw_tb := gw_tb1 (List.mem_of_getElem? (i := 185) (by decide +kernel)) rfl
theorem mi_X4_init : Cond.instanceMethod (gw_mY M_X4_init) ∈ gw_tb := gw_tb1 (List.mem_of_getElem? (i := 184) (by decide +kernel)) rfl
theorem mc_X4_lay : Cond.code (gw_mY M_X4_lay) (gw_mC M_X4_lay) (gw_mL M_X4_lay) (gw_mR M_X4_lay) ∈ gw_tb := gw_tb2 (List.mem_of_getElem? (i := 200) (by decide +kernel)) rfl
theorem mi_X4_lay : Cond.instanceMethod (gw_mY M_X4_lay) ∈ gw_tb := gw_tb2 (List.mem_of_getElem? (i := 198) (by decide +kernel)) rfl
theorem ms_X4_lay : Cond.selects RX4 (gw_mY M_X4_lay) (gw_mY M_X4_lay) ∈ gw_tb := gw_tb2 (List.mem_of_getElem? (i := 199) (by decide +kernel)) rfl
theorem mc_X4_layKind : Cond.code (gw_mY M_X4_layKind) (gw_mC M_X4_layKind) (gw_mL M_X4_layKind) (gw_mR M_X4_layKind) ∈ gw_tb := gw_tb2 (List.mem_of_getElem? (i := 204) (by decide +kernel)) rfl
theorem mi_X4_layKind : Cond.instanceMethod (gw_mY M_X4_layKind) ∈ gw_tb := gw_tb2 (List.mem_of_getElem? (i := 202) (by decide +kernel)) rfl
theorem ms_X4_layKind : Cond.selects RX4 (gw_mY M_X4_layKind) (gw_mY M_X4_layKind) ∈ gw_tb := gw_tb2 (List.mem_of_getElem? (i := 203) (by decide +kernel)) rfl
theorem mc_X4_isRed : Cond.code (gw_mY M_X4_isRed) (gw_mC M_X4_isRed) (gw_mL M_X4_isRed) (gw_mR M_X4_isRed) ∈ gw_tb := gw_tb3 (List.mem_of_getElem? (i := 17) (by decide +kernel)) rfl
theorem mi_X4_isRed : Cond.instanceMethod (gw_mY M_X4_isRed) ∈ gw_tb := gw_tb3 (List.mem_of_getElem? (i := 15) (by decide +kernel)) rfl
theorem ms_X4_isRed : Cond.selects RX4 (gw_mY M_X4_isRed) (gw_mY M_X4_isRed) ∈ gw_tb := gw_tb3 (List.mem_of_getElem? (i := 16) (by decide +kernel)) rfl
theorem mc_X5_init : Cond.code (gw_mY M_X5_init) (gw_mC M_X5_init) (gw_mL M_X5_init) (gw_mR M_X5_init) ∈ gw_tb := gw_tb1 (List.mem_of_getElem? (i := 63) (by decide +kernel)) rfl
theorem mi_X5_init : Cond.instanceMethod (gw_mY M_X5_init) ∈ gw_tb := gw_tb1 (List.mem_of_getElem? (i := 62) (by decide +kernel)) rfl
theorem mc_X5_tailNumber : Cond.code (gw_mY M_X5_tailNumber) (gw_mC M_X5_tailNumber) (gw_mL M_X5_tailNumber) (gw_mR M_X5_tailNumber) ∈ gw_tb := gw_tb2 (List.mem_of_getElem? (i := 225) (by decide +kernel)) rfl
theorem mi_X5_tailNumber : Cond.instanceMethod (gw_mY M_X5_tailNumber) ∈ gw_tb := gw_tb2 (List.mem_of_getElem? (i := 223) (by decide +kernel)) rfl
theorem ms_X5_tailNumber : Cond.selects RX5 (gw_mY M_X5_tailNumber) (gw_mY M_X5_tailNumber) ∈ gw_tb := gw_tb2 (List.mem_of_getElem? (i := 224) (by decide +kernel)) rfl
theorem mc_X5_add : Cond.code (gw_mY M_X5_add) (gw_mC M_X5_add) (gw_mL M_X5_add) (gw_mR M_X5_add) ∈ gw_tb := gw_tb3 (List.mem_of_getElem? (i := 219) (by decide +kernel)) rfl
theorem mi_X5_add : Cond.instanceMethod (gw_mY M_X5_add) ∈ gw_tb := gw_tb3 (List.mem_of_getElem? (i := 217) (by decide +kernel)) rfl
theorem ms_X5_add : Cond.selects RX5 (gw_mY M_X5_add) (gw_mY M_X5_add) ∈ gw_tb := gw_tb3 (List.mem_of_getElem? (i := 218) (by decide +kernel)) rfl
theorem mc_X5_take : Cond.code (gw_mY M_X5_take) (gw_mC M_X5_take) (gw_mL M_X5_take) (gw_mR M_X5_take) ∈ gw_tb := gw_tb2 (List.mem_of_getElem? (i := 209) (by decide +kernel)) rfl
theorem mi_X5_take : Cond.instanceMethod (gw_mY M_X5_take) ∈ gw_tb := gw_tb2 (List.mem_of_getElem? (i := 207) (by decide +kernel)) rfl
theorem ms_X5_take : Cond.selects RX5 (gw_mY M_X5_take) (gw_mY M_X5_take) ∈ gw_tb := gw_tb2 (List.mem_of_getElem? (i := 208) (by decide +kernel)) rfl
theorem mc_X6_init : Cond.code (gw_mY M_X6_init) (gw_mC M_X6_init) (gw_mL M_X6_init) (gw_mR M_X6_init) ∈ gw_tb := gw_tb1 (List.mem_of_getElem? (i := 27) (by decide +kernel)) rfl
theorem mi_X6_init : Cond.instanceMethod (gw_mY M_X6_init) ∈ gw_tb := gw_tb1 (List.mem_of_getElem? (i := 26) (by decide +kernel)) rfl
theorem mc_X6_take : Cond.code (gw_mY M_X6_take) (gw_mC M_X6_take) (gw_mL M_X6_take) (gw_mR M_X6_take) ∈ gw_tb := gw_tb3 (List.mem_of_getElem? (i := 154) (by decide +kernel)) rfl
theorem mi_X6_take : Cond.instanceMethod (gw_mY M_X6_take) ∈ gw_tb := gw_tb3 (List.mem_of_getElem? (i := 152) (by decide +kernel)) rfl
theorem ms_X6_take : Cond.selects RX6 (gw_mY M_X6_take) (gw_mY M_X6_take) ∈ gw_tb := gw_tb3 (List.mem_of_getElem? (i := 153) (by decide +kernel)) rfl
theorem mc_X6_isMet : Cond.code (gw_mY M_X6_isMet) (gw_mC M_X6_isMet) (gw_mL M_X6_isMet) (gw_mR M_X6_isMet) ∈ gw_tb := gw_tb3 (List.mem_of_getElem? (i := 90) (by decide +kernel)) rfl
theorem mi_X6_isMet : Cond.instanceMethod (gw_mY M_X6_isMet) ∈ gw_tb := gw_tb3 (List.mem_of_getElem? (i := 88) (by decide +kernel)) rfl
theorem ms_X6_isMet : Cond.selects RX6 (gw_mY M_X6_isMet) (gw_mY M_X6_isMet) ∈ gw_tb := gw_tb3 (List.mem_of_getElem? (i := 89) (by decide +kernel)) rfl
theorem mc_X6_minutesSpoken : Cond.code (gw_mY M_X6_minutesSpoken) (gw_mC M_X6_minutesSpoken) (gw_mL M_X6_minutesSpoken) (gw_mR M_X6_minutesSpoken) ∈ gw_tb := gw_tb3 (List.mem_of_getElem? (i := 86) (by decide +kernel)) rfl
theorem mi_X6_minutesSpoken : Cond.instanceMethod (gw_mY M_X6_minutesSpoken) ∈ gw_tb := gw_tb3 (List.mem_of_getElem? (i := 84) (by decide +kernel)) rfl
theorem ms_X6_minutesSpoken : Cond.selects RX6 (gw_mY M_X6_minutesSpoken) (gw_mY M_X6_minutesSpoken) ∈ gw_tb := gw_tb3 (List.mem_of_getElem? (i := 85) (by decide +kernel)) rfl
theorem mc_X6_valueIfFits : Cond.code (gw_mY M_X6_valueIfFits) (gw_mC M_X6_valueIfFits) (gw_mL M_X6_valueIfFits) (gw_mR M_X6_valueIfFits) ∈ gw_tb := gw_tb3 (List.mem_of_getElem? (i := 123) (by decide +kernel)) rfl
theorem mi_X6_valueIfFits : Cond.instanceMethod (gw_mY M_X6_valueIfFits) ∈ gw_tb := gw_tb3 (List.mem_of_getElem? (i := 121) (by decide +kernel)) rfl
theorem ms_X6_valueIfFits : Cond.selects RX6 (gw_mY M_X6_valueIfFits) (gw_mY M_X6_valueIfFits) ∈ gw_tb := gw_tb3 (List.mem_of_getElem? (i := 122) (by decide +kernel)) rfl
theorem mc_X7_init : Cond.code (gw_mY M_X7_init) (gw_mC M_X7_init) (gw_mL M_X7_init) (gw_mR M_X7_init) ∈ gw_tb := gw_tb2 (List.mem_of_getElem? (i := 105) (by decide +kernel)) rfl
theorem mi_X7_init : Cond.instanceMethod (gw_mY M_X7_init) ∈ gw_tb := gw_tb2 (List.mem_of_getElem? (i := 104) (by decide +kernel)) rfl
theorem mc_X8_init : Cond.code (gw_mY M_X8_init) (gw_mC M_X8_init) (gw_mL M_X8_init) (gw_mR M_X8_init) ∈ gw_tb := gw_tb1 (List.mem_of_getElem? (i := 99) (by decide +kernel)) rfl
theorem mi_X8_init : Cond.instanceMethod (gw_mY M_X8_init) ∈ gw_tb := gw_tb1 (List.mem_of_getElem? (i := 98) (by decide +kernel)) rfl
theorem mc_X9_init : Cond.code (gw_mY M_X9_init) (gw_mC M_X9_init) (gw_mL M_X9_init) (gw_mR M_X9_init) ∈ gw_tb := gw_tb1 (List.mem_of_getElem? (i := 155) (by decide +kernel)) rfl
theorem mi_X9_init : Cond.instanceMethod (gw_mY M_X9_init) ∈ gw_tb := gw_tb1 (List.mem_of_getElem? (i := 154) (by decide +kernel)) rfl
theorem mc_X10_init : Cond.code (gw_mY M_X10_init) (gw_mC M_X10_init) (gw_mL M_X10_init) (gw_mR M_X10_init) ∈ gw_tb := gw_tb1 (List.mem_of_getElem? (i := 179) (by decide +kernel)) rfl
theorem mi_X10_init : Cond.instanceMethod (gw_mY M_X10_init) ∈ gw_tb := gw_tb1 (List.mem_of_getElem? (i := 178) (by decide +kernel)) rfl
theorem mc_X10_load : Cond.code (gw_mY M_X10_load) (gw_mC M_X10_load) (gw_mL M_X10_load) (gw_mR M_X10_load) ∈ gw_tb := gw_tb2 (List.mem_of_getElem? (i := 196) (by decide +kernel)) rfl
theorem mi_X10_load : Cond.instanceMethod (gw_mY M_X10_load) ∈ gw_tb := gw_tb2 (List.mem_of_getElem? (i := 194) (by decide +kernel)) rfl
theorem ms_X10_load : Cond.selects RX10 (gw_mY M_X10_load) (gw_mY M_X10_load) ∈ gw_tb := gw_tb2 (List.mem_of_getElem? (i := 195) (by decide +kernel)) rfl
theorem mc_X10_takeRule : Cond.code (gw_mY M_X10_takeRule) (gw_mC M_X10_takeRule) (gw_mL M_X10_takeRule) (gw_mR M_X10_takeRule) ∈ gw_tb := gw_tb3 (List.mem_of_getElem? (i := 94) (by decide +kernel)) rfl
theorem mi_X10_takeRule : Cond.instanceMethod (gw_mY M_X10_takeRule) ∈ gw_tb := gw_tb3 (List.mem_of_getElem? (i := 92) (by decide +kernel)) rfl
theorem ms_X10_takeRule : Cond.selects RX10 (gw_mY M_X10_takeRule) (gw_mY M_X10_takeRule) ∈ gw_tb := gw_tb3 (List.mem_of_getElem? (i := 93) (by decide +kernel)) rfl
theorem mc_X10_start : Cond.code (gw_mY M_X10_start) (gw_mC M_X10_start) (gw_mL M_X10_start) (gw_mR M_X10_start) ∈ gw_tb := gw_tb2 (List.mem_of_getElem? (i := 217) (by decide +kernel)) rfl
theorem mi_X10_start : Cond.instanceMethod (gw_mY M_X10_start) ∈ gw_tb := gw_tb2 (List.mem_of_getElem? (i := 215) (by decide +kernel)) rfl
theorem ms_X10_start : Cond.selects RX10 (gw_mY M_X10_start) (gw_mY M_X10_start) ∈ gw_tb := gw_tb2 (List.mem_of_getElem? (i := 216) (by decide +kernel)) rfl
theorem mc_X10_isOver : Cond.code (gw_mY M_X10_isOver) (gw_mC M_X10_isOver) (gw_mL M_X10_isOver) (gw_mR M_X10_isOver) ∈ gw_tb := gw_tb2 (List.mem_of_getElem? (i := 229) (by decide +kernel)) rfl
theorem mi_X10_isOver : Cond.instanceMethod (gw_mY M_X10_isOver) ∈ gw_tb := gw_tb2 (List.mem_of_getElem? (i := 227) (by decide +kernel)) rfl
theorem ms_X10_isOver : Cond.selects RX10 (gw_mY M_X10_isOver) (gw_mY M_X10_isOver) ∈ gw_tb := gw_tb2 (List.mem_of_getElem? (i := 228) (by decide +kernel)) rfl
theorem mc_X10_live : Cond.code (gw_mY M_X10_live) (gw_mC M_X10_live) (gw_mL M_X10_live) (gw_mR M_X10_live) ∈ gw_tb := gw_tb2 (List.mem_of_getElem? (i := 233) (by decide +kernel)) rfl
theorem mi_X10_live : Cond.instanceMethod (gw_mY M_X10_live) ∈ gw_tb := gw_tb2 (List.mem_of_getElem? (i := 231) (by decide +kernel)) rfl
theorem ms_X10_live : Cond.selects RX10 (gw_mY M_X10_live) (gw_mY M_X10_live) ∈ gw_tb := gw_tb2 (List.mem_of_getElem? (i := 232) (by decide +kernel)) rfl
theorem mc_X10_lead : Cond.code (gw_mY M_X10_lead) (gw_mC M_X10_lead) (gw_mL M_X10_lead) (gw_mR M_X10_lead) ∈ gw_tb := gw_tb2 (List.mem_of_getElem? (i := 237) (by decide +kernel)) rfl
theorem mi_X10_lead : Cond.instanceMethod (gw_mY M_X10_lead) ∈ gw_tb := gw_tb2 (List.mem_of_getElem? (i := 235) (by decide +kernel)) rfl
theorem ms_X10_lead : Cond.selects RX10 (gw_mY M_X10_lead) (gw_mY M_X10_lead) ∈ gw_tb := gw_tb2 (List.mem_of_getElem? (i := 236) (by decide +kernel)) rfl
theorem mc_X10_isAtOpenStop : Cond.code (gw_mY M_X10_isAtOpenStop) (gw_mC M_X10_isAtOpenStop) (gw_mL M_X10_isAtOpenStop) (gw_mR M_X10_isAtOpenStop) ∈ gw_tb := gw_tb3 (List.mem_of_getElem? (i := 1) (by decide +kernel)) rfl
theorem mi_X10_isAtOpenStop : Cond.instanceMethod (gw_mY M_X10_isAtOpenStop) ∈ gw_tb := gw_tb2 (List.mem_of_getElem? (i := 239) (by decide +kernel)) rfl
theorem ms_X10_isAtOpenStop : Cond.selects RX10 (gw_mY M_X10_isAtOpenStop) (gw_mY M_X10_isAtOpenStop) ∈ gw_tb := gw_tb3 (List.mem_of_getElem? (i := 0) (by decide +kernel)) rfl
theorem mc_X10_isKept : Cond.code (gw_mY M_X10_isKept) (gw_mC M_X10_isKept) (gw_mL M_X10_isKept) (gw_mR M_X10_isKept) ∈ gw_tb := gw_tb3 (List.mem_of_getElem? (i := 5) (by decide +kernel)) rfl
theorem mi_X10_isKept : Cond.instanceMethod (gw_mY M_X10_isKept) ∈ gw_tb := gw_tb3 (List.mem_of_getElem? (i := 3) (by decide +kernel)) rfl
theorem ms_X10_isKept : Cond.selects RX10 (gw_mY M_X10_isKept) (gw_mY M_X10_isKept) ∈ gw_tb := gw_tb3 (List.mem_of_getElem? (i := 4) (by decide +kernel)) rfl
theorem mc_X10_isToBegin : Cond.code (gw_mY M_X10_isToBegin) (gw_mC M_X10_isToBegin) (gw_mL M_X10_isToBegin) (gw_mR M_X10_isToBegin) ∈ gw_tb := gw_tb3 (List.mem_of_getElem? (i := 9) (by decide +kernel)) rfl
theorem mi_X10_isToBegin : Cond.instanceMethod (gw_mY M_X10_isToBegin) ∈ gw_tb := gw_tb3 (List.mem_of_getElem? (i := 7) (by decide +kernel)) rfl
theorem ms_X10_isToBegin : Cond.selects RX10 (gw_mY M_X10_isToBegin) (gw_mY M_X10_isToBegin) ∈ gw_tb := gw_tb3 (List.mem_of_getElem? (i := 8) (by decide +kernel)) rfl
theorem mc_X10_speak : Cond.code (gw_mY M_X10_speak) (gw_mC M_X10_speak) (gw_mL M_X10_speak) (gw_mR M_X10_speak) ∈ gw_tb := gw_tb3 (List.mem_of_getElem? (i := 13) (by decide +kernel)) rfl
theorem mi_X10_speak : Cond.instanceMethod (gw_mY M_X10_speak) ∈ gw_tb := gw_tb3 (List.mem_of_getElem? (i := 11) (by decide +kernel)) rfl
theorem ms_X10_speak : Cond.selects RX10 (gw_mY M_X10_speak) (gw_mY M_X10_speak) ∈ gw_tb := gw_tb3 (List.mem_of_getElem? (i := 12) (by decide +kernel)) rfl
theorem mc_X10_follow : Cond.code (gw_mY M_X10_follow) (gw_mC M_X10_follow) (gw_mL M_X10_follow) (gw_mR M_X10_follow) ∈ gw_tb := gw_tb3 (List.mem_of_getElem? (i := 21) (by decide +kernel)) rfl
theorem mi_X10_follow : Cond.instanceMethod (gw_mY M_X10_follow) ∈ gw_tb := gw_tb3 (List.mem_of_getElem? (i := 19) (by decide +kernel)) rfl
theorem ms_X10_follow : Cond.selects RX10 (gw_mY M_X10_follow) (gw_mY M_X10_follow) ∈ gw_tb := gw_tb3 (List.mem_of_getElem? (i := 20) (by decide +kernel)) rfl
theorem mc_X10_lastBeside : Cond.code (gw_mY M_X10_lastBeside) (gw_mC M_X10_lastBeside) (gw_mL M_X10_lastBeside) (gw_mR M_X10_lastBeside) ∈ gw_tb := gw_tb3 (List.mem_of_getElem? (i := 25) (by decide +kernel)) rfl
theorem mi_X10_lastBeside : Cond.instanceMethod (gw_mY M_X10_lastBeside) ∈ gw_tb := gw_tb3 (List.mem_of_getElem? (i := 23) (by decide +kernel)) rfl
theorem ms_X10_lastBeside : Cond.selects RX10 (gw_mY M_X10_lastBeside) (gw_mY M_X10_lastBeside) ∈ gw_tb := gw_tb3 (List.mem_of_getElem? (i := 24) (by decide +kernel)) rfl
theorem mc_X10_losesItsWay : Cond.code (gw_mY M_X10_losesItsWay) (gw_mC M_X10_losesItsWay) (gw_mL M_X10_losesItsWay) (gw_mR M_X10_losesItsWay) ∈ gw_tb := gw_tb3 (List.mem_of_getElem? (i := 32) (by decide +kernel)) rfl
theorem mi_X10_losesItsWay : Cond.instanceMethod (gw_mY M_X10_losesItsWay) ∈ gw_tb := gw_tb3 (List.mem_of_getElem? (i := 30) (by decide +kernel)) rfl
theorem ms_X10_losesItsWay : Cond.selects RX10 (gw_mY M_X10_losesItsWay) (gw_mY M_X10_losesItsWay) ∈ gw_tb := gw_tb3 (List.mem_of_getElem? (i := 31) (by decide +kernel)) rfl
theorem mc_X10_closeMinute : Cond.code (gw_mY M_X10_closeMinute) (gw_mC M_X10_closeMinute) (gw_mL M_X10_closeMinute) (gw_mR M_X10_closeMinute) ∈ gw_tb := gw_tb3 (List.mem_of_getElem? (i := 36) (by decide +kernel)) rfl
theorem mi_X10_closeMinute : Cond.instanceMethod (gw_mY M_X10_closeMinute) ∈ gw_tb := gw_tb3 (List.mem_of_getElem? (i := 34) (by decide +kernel)) rfl
theorem ms_X10_closeMinute : Cond.selects RX10 (gw_mY M_X10_closeMinute) (gw_mY M_X10_closeMinute) ∈ gw_tb := gw_tb3 (List.mem_of_getElem? (i := 35) (by decide +kernel)) rfl
theorem mc_X10_out : Cond.code (gw_mY M_X10_out) (gw_mC M_X10_out) (gw_mL M_X10_out) (gw_mR M_X10_out) ∈ gw_tb := gw_tb3 (List.mem_of_getElem? (i := 40) (by decide +kernel)) rfl
theorem mi_X10_out : Cond.instanceMethod (gw_mY M_X10_out) ∈ gw_tb := gw_tb3 (List.mem_of_getElem? (i := 38) (by decide +kernel)) rfl
theorem ms_X10_out : Cond.selects RX10 (gw_mY M_X10_out) (gw_mY M_X10_out) ∈ gw_tb := gw_tb3 (List.mem_of_getElem? (i := 39) (by decide +kernel)) rfl
theorem mc_X10_leastHeardInTime : Cond.code (gw_mY M_X10_leastHeardInTime) (gw_mC M_X10_leastHeardInTime) (gw_mL M_X10_leastHeardInTime) (gw_mR M_X10_leastHeardInTime) ∈ gw_tb := gw_tb3 (List.mem_of_getElem? (i := 98) (by decide +kernel)) rfl
theorem mi_X10_leastHeardInTime : Cond.instanceMethod (gw_mY M_X10_leastHeardInTime) ∈ gw_tb := gw_tb3 (List.mem_of_getElem? (i := 96) (by decide +kernel)) rfl
theorem ms_X10_leastHeardInTime : Cond.selects RX10 (gw_mY M_X10_leastHeardInTime) (gw_mY M_X10_leastHeardInTime) ∈ gw_tb := gw_tb3 (List.mem_of_getElem? (i := 97) (by decide +kernel)) rfl
theorem mc_X10_heardTogether : Cond.code (gw_mY M_X10_heardTogether) (gw_mC M_X10_heardTogether) (gw_mL M_X10_heardTogether) (gw_mR M_X10_heardTogether) ∈ gw_tb := gw_tb3 (List.mem_of_getElem? (i := 62) (by decide +kernel)) rfl
theorem mi_X10_heardTogether : Cond.instanceMethod (gw_mY M_X10_heardTogether) ∈ gw_tb := gw_tb3 (List.mem_of_getElem? (i := 60) (by decide +kernel)) rfl
theorem ms_X10_heardTogether : Cond.selects RX10 (gw_mY M_X10_heardTogether) (gw_mY M_X10_heardTogether) ∈ gw_tb := gw_tb3 (List.mem_of_getElem? (i := 61) (by decide +kernel)) rfl
theorem mc_X10_leastHeard : Cond.code (gw_mY M_X10_leastHeard) (gw_mC M_X10_leastHeard) (gw_mL M_X10_leastHeard) (gw_mR M_X10_leastHeard) ∈ gw_tb := gw_tb3 (List.mem_of_getElem? (i := 66) (by decide +kernel)) rfl
theorem mi_X10_leastHeard : Cond.instanceMethod (gw_mY M_X10_leastHeard) ∈ gw_tb := gw_tb3 (List.mem_of_getElem? (i := 64) (by decide +kernel)) rfl
theorem ms_X10_leastHeard : Cond.selects RX10 (gw_mY M_X10_leastHeard) (gw_mY M_X10_leastHeard) ∈ gw_tb := gw_tb3 (List.mem_of_getElem? (i := 65) (by decide +kernel)) rfl
theorem mc_X10_allThere : Cond.code (gw_mY M_X10_allThere) (gw_mC M_X10_allThere) (gw_mL M_X10_allThere) (gw_mR M_X10_allThere) ∈ gw_tb := gw_tb3 (List.mem_of_getElem? (i := 70) (by decide +kernel)) rfl
theorem mi_X10_allThere : Cond.instanceMethod (gw_mY M_X10_allThere) ∈ gw_tb := gw_tb3 (List.mem_of_getElem? (i := 68) (by decide +kernel)) rfl
theorem ms_X10_allThere : Cond.selects RX10 (gw_mY M_X10_allThere) (gw_mY M_X10_allThere) ∈ gw_tb := gw_tb3 (List.mem_of_getElem? (i := 69) (by decide +kernel)) rfl
theorem mc_X10_lostSet : Cond.code (gw_mY M_X10_lostSet) (gw_mC M_X10_lostSet) (gw_mL M_X10_lostSet) (gw_mR M_X10_lostSet) ∈ gw_tb := gw_tb3 (List.mem_of_getElem? (i := 74) (by decide +kernel)) rfl
theorem mi_X10_lostSet : Cond.instanceMethod (gw_mY M_X10_lostSet) ∈ gw_tb := gw_tb3 (List.mem_of_getElem? (i := 72) (by decide +kernel)) rfl
theorem ms_X10_lostSet : Cond.selects RX10 (gw_mY M_X10_lostSet) (gw_mY M_X10_lostSet) ∈ gw_tb := gw_tb3 (List.mem_of_getElem? (i := 73) (by decide +kernel)) rfl
theorem mc_X11_init : Cond.code (gw_mY M_X11_init) (gw_mC M_X11_init) (gw_mL M_X11_init) (gw_mR M_X11_init) ∈ gw_tb := gw_tb1 (List.mem_of_getElem? (i := 19) (by decide +kernel)) rfl
theorem mi_X11_init : Cond.instanceMethod (gw_mY M_X11_init) ∈ gw_tb := gw_tb1 (List.mem_of_getElem? (i := 18) (by decide +kernel)) rfl
theorem mc_X11_end : Cond.code (gw_mY M_X11_end) (gw_mC M_X11_end) (gw_mL M_X11_end) (gw_mR M_X11_end) ∈ gw_tb := gw_tb3 (List.mem_of_getElem? (i := 195) (by decide +kernel)) rfl
theorem mi_X11_end : Cond.instanceMethod (gw_mY M_X11_end) ∈ gw_tb := gw_tb3 (List.mem_of_getElem? (i := 193) (by decide +kernel)) rfl
theorem ms_X11_end : Cond.selects RX11 (gw_mY M_X11_end) (gw_mY M_X11_end) ∈ gw_tb := gw_tb3 (List.mem_of_getElem? (i := 194) (by decide +kernel)) rfl
theorem mc_X11_mark : Cond.code (gw_mY M_X11_mark) (gw_mC M_X11_mark) (gw_mL M_X11_mark) (gw_mR M_X11_mark) ∈ gw_tb := gw_tb3 (List.mem_of_getElem? (i := 199) (by decide +kernel)) rfl
theorem mi_X11_mark : Cond.instanceMethod (gw_mY M_X11_mark) ∈ gw_tb := gw_tb3 (List.mem_of_getElem? (i := 197) (by decide +kernel)) rfl
theorem ms_X11_mark : Cond.selects RX11 (gw_mY M_X11_mark) (gw_mY M_X11_mark) ∈ gw_tb := gw_tb3 (List.mem_of_getElem? (i := 198) (by decide +kernel)) rfl
theorem mc_X11_person : Cond.code (gw_mY M_X11_person) (gw_mC M_X11_person) (gw_mL M_X11_person) (gw_mR M_X11_person) ∈ gw_tb := gw_tb3 (List.mem_of_getElem? (i := 215) (by decide +kernel)) rfl
theorem mi_X11_person : Cond.instanceMethod (gw_mY M_X11_person) ∈ gw_tb := gw_tb3 (List.mem_of_getElem? (i := 213) (by decide +kernel)) rfl
theorem ms_X11_person : Cond.selects RX11 (gw_mY M_X11_person) (gw_mY M_X11_person) ∈ gw_tb := gw_tb3 (List.mem_of_getElem? (i := 214) (by decide +kernel)) rfl
theorem mc_X11_rule : Cond.code (gw_mY M_X11_rule) (gw_mC M_X11_rule) (gw_mL M_X11_rule) (gw_mR M_X11_rule) ∈ gw_tb := gw_tb2 (List.mem_of_getElem? (i := 169) (by decide +kernel)) rfl
theorem mi_X11_rule : Cond.instanceMethod (gw_mY M_X11_rule) ∈ gw_tb := gw_tb2 (List.mem_of_getElem? (i := 167) (by decide +kernel)) rfl
theorem ms_X11_rule : Cond.selects RX11 (gw_mY M_X11_rule) (gw_mY M_X11_rule) ∈ gw_tb := gw_tb2 (List.mem_of_getElem? (i := 168) (by decide +kernel)) rfl
theorem mc_X11_fate : Cond.code (gw_mY M_X11_fate) (gw_mC M_X11_fate) (gw_mL M_X11_fate) (gw_mR M_X11_fate) ∈ gw_tb := gw_tb2 (List.mem_of_getElem? (i := 184) (by decide +kernel)) rfl
theorem mi_X11_fate : Cond.instanceMethod (gw_mY M_X11_fate) ∈ gw_tb := gw_tb2 (List.mem_of_getElem? (i := 182) (by decide +kernel)) rfl
theorem ms_X11_fate : Cond.selects RX11 (gw_mY M_X11_fate) (gw_mY M_X11_fate) ∈ gw_tb := gw_tb2 (List.mem_of_getElem? (i := 183) (by decide +kernel)) rfl
theorem mc_X11_at : Cond.code (gw_mY M_X11_at) (gw_mC M_X11_at) (gw_mL M_X11_at) (gw_mR M_X11_at) ∈ gw_tb := gw_tb3 (List.mem_of_getElem? (i := 52) (by decide +kernel)) rfl
theorem mi_X11_at : Cond.instanceMethod (gw_mY M_X11_at) ∈ gw_tb := gw_tb3 (List.mem_of_getElem? (i := 50) (by decide +kernel)) rfl
theorem ms_X11_at : Cond.selects RX11 (gw_mY M_X11_at) (gw_mY M_X11_at) ∈ gw_tb := gw_tb3 (List.mem_of_getElem? (i := 51) (by decide +kernel)) rfl
theorem mc_X11_all : Cond.code (gw_mY M_X11_all) (gw_mC M_X11_all) (gw_mL M_X11_all) (gw_mR M_X11_all) ∈ gw_tb := gw_tb3 (List.mem_of_getElem? (i := 58) (by decide +kernel)) rfl
theorem mi_X11_all : Cond.instanceMethod (gw_mY M_X11_all) ∈ gw_tb := gw_tb3 (List.mem_of_getElem? (i := 56) (by decide +kernel)) rfl
theorem ms_X11_all : Cond.selects RX11 (gw_mY M_X11_all) (gw_mY M_X11_all) ∈ gw_tb := gw_tb3 (List.mem_of_getElem? (i := 57) (by decide +kernel)) rfl
theorem mc_X11_best : Cond.code (gw_mY M_X11_best) (gw_mC M_X11_best) (gw_mL M_X11_best) (gw_mR M_X11_best) ∈ gw_tb := gw_tb3 (List.mem_of_getElem? (i := 78) (by decide +kernel)) rfl
theorem mi_X11_best : Cond.instanceMethod (gw_mY M_X11_best) ∈ gw_tb := gw_tb3 (List.mem_of_getElem? (i := 76) (by decide +kernel)) rfl
theorem ms_X11_best : Cond.selects RX11 (gw_mY M_X11_best) (gw_mY M_X11_best) ∈ gw_tb := gw_tb3 (List.mem_of_getElem? (i := 77) (by decide +kernel)) rfl
theorem mc_X11_worth : Cond.code (gw_mY M_X11_worth) (gw_mC M_X11_worth) (gw_mL M_X11_worth) (gw_mR M_X11_worth) ∈ gw_tb := gw_tb3 (List.mem_of_getElem? (i := 110) (by decide +kernel)) rfl
theorem mi_X11_worth : Cond.instanceMethod (gw_mY M_X11_worth) ∈ gw_tb := gw_tb3 (List.mem_of_getElem? (i := 108) (by decide +kernel)) rfl
theorem ms_X11_worth : Cond.selects RX11 (gw_mY M_X11_worth) (gw_mY M_X11_worth) ∈ gw_tb := gw_tb3 (List.mem_of_getElem? (i := 109) (by decide +kernel)) rfl
theorem mc_X11_chosen : Cond.code (gw_mY M_X11_chosen) (gw_mC M_X11_chosen) (gw_mL M_X11_chosen) (gw_mR M_X11_chosen) ∈ gw_tb := gw_tb3 (List.mem_of_getElem? (i := 116) (by decide +kernel)) rfl
theorem mi_X11_chosen : Cond.instanceMethod (gw_mY M_X11_chosen) ∈ gw_tb := gw_tb3 (List.mem_of_getElem? (i := 114) (by decide +kernel)) rfl
theorem ms_X11_chosen : Cond.selects RX11 (gw_mY M_X11_chosen) (gw_mY M_X11_chosen) ∈ gw_tb := gw_tb3 (List.mem_of_getElem? (i := 115) (by decide +kernel)) rfl
theorem mc_X11_colours : Cond.code (gw_mY M_X11_colours) (gw_mC M_X11_colours) (gw_mL M_X11_colours) (gw_mR M_X11_colours) ∈ gw_tb := gw_tb3 (List.mem_of_getElem? (i := 127) (by decide +kernel)) rfl
theorem mi_X11_colours : Cond.instanceMethod (gw_mY M_X11_colours) ∈ gw_tb := gw_tb3 (List.mem_of_getElem? (i := 125) (by decide +kernel)) rfl
theorem ms_X11_colours : Cond.selects RX11 (gw_mY M_X11_colours) (gw_mY M_X11_colours) ∈ gw_tb := gw_tb3 (List.mem_of_getElem? (i := 126) (by decide +kernel)) rfl
theorem mc_X11_image : Cond.code (gw_mY M_X11_image) (gw_mC M_X11_image) (gw_mL M_X11_image) (gw_mR M_X11_image) ∈ gw_tb := gw_tb3 (List.mem_of_getElem? (i := 150) (by decide +kernel)) rfl
theorem mi_X11_image : Cond.instanceMethod (gw_mY M_X11_image) ∈ gw_tb := gw_tb3 (List.mem_of_getElem? (i := 148) (by decide +kernel)) rfl
theorem ms_X11_image : Cond.selects RX11 (gw_mY M_X11_image) (gw_mY M_X11_image) ∈ gw_tb := gw_tb3 (List.mem_of_getElem? (i := 149) (by decide +kernel)) rfl
theorem mc_X11_restore : Cond.code (gw_mY M_X11_restore) (gw_mC M_X11_restore) (gw_mL M_X11_restore) (gw_mR M_X11_restore) ∈ gw_tb := gw_tb3 (List.mem_of_getElem? (i := 165) (by decide +kernel)) rfl
theorem mi_X11_restore : Cond.instanceMethod (gw_mY M_X11_restore) ∈ gw_tb := gw_tb3 (List.mem_of_getElem? (i := 163) (by decide +kernel)) rfl
theorem ms_X11_restore : Cond.selects RX11 (gw_mY M_X11_restore) (gw_mY M_X11_restore) ∈ gw_tb := gw_tb3 (List.mem_of_getElem? (i := 164) (by decide +kernel)) rfl
theorem mc_X11_within : Cond.code (gw_mY M_X11_within) (gw_mC M_X11_within) (gw_mL M_X11_within) (gw_mR M_X11_within) ∈ gw_tb := gw_tb2 (List.mem_of_getElem? (i := 172) (by decide +kernel)) rfl
theorem mS_X11_within : Cond.static (gw_mY M_X11_within) ∈ gw_tb := gw_tb2 (List.mem_of_getElem? (i := 171) (by decide +kernel)) rfl
theorem mc_X11_cutUp : Cond.code (gw_mY M_X11_cutUp) (gw_mC M_X11_cutUp) (gw_mL M_X11_cutUp) (gw_mR M_X11_cutUp) ∈ gw_tb := gw_tb3 (List.mem_of_getElem? (i := 119) (by decide +kernel)) rfl
theorem mS_X11_cutUp : Cond.static (gw_mY M_X11_cutUp) ∈ gw_tb := gw_tb3 (List.mem_of_getElem? (i := 118) (by decide +kernel)) rfl
theorem mc_X11_arePairs : Cond.code (gw_mY M_X11_arePairs) (gw_mC M_X11_arePairs) (gw_mL M_X11_arePairs) (gw_mR M_X11_arePairs) ∈ gw_tb := gw_tb3 (List.mem_of_getElem? (i := 130) (by decide +kernel)) rfl
theorem mS_X11_arePairs : Cond.static (gw_mY M_X11_arePairs) ∈ gw_tb := gw_tb3 (List.mem_of_getElem? (i := 129) (by decide +kernel)) rfl
theorem mc_X11_isPerson : Cond.code (gw_mY M_X11_isPerson) (gw_mC M_X11_isPerson) (gw_mL M_X11_isPerson) (gw_mR M_X11_isPerson) ∈ gw_tb := gw_tb2 (List.mem_of_getElem? (i := 188) (by decide +kernel)) rfl
theorem mi_X11_isPerson : Cond.instanceMethod (gw_mY M_X11_isPerson) ∈ gw_tb := gw_tb2 (List.mem_of_getElem? (i := 187) (by decide +kernel)) rfl
theorem ms_X11_isPerson : Cond.selects RX11 (gw_mY M_X11_isPerson) (gw_mY M_X11_isPerson) ∈ gw_tb := gw_tb0 (List.mem_map.mpr ⟨(gw_mY M_X11_isPerson, 16), List.mem_of_getElem? (i := 1) (by decide +kernel), rfl⟩) rfl
theorem mc_X11_forget : Cond.code (gw_mY M_X11_forget) (gw_mC M_X11_forget) (gw_mL M_X11_forget) (gw_mR M_X11_forget) ∈ gw_tb := gw_tb2 (List.mem_of_getElem? (i := 180) (by decide +kernel)) rfl
theorem mi_X11_forget : Cond.instanceMethod (gw_mY M_X11_forget) ∈ gw_tb := gw_tb2 (List.mem_of_getElem? (i := 179) (by decide +kernel)) rfl
theorem ms_X11_forget : Cond.selects RX11 (gw_mY M_X11_forget) (gw_mY M_X11_forget) ∈ gw_tb := gw_tb0 (List.mem_map.mpr ⟨(gw_mY M_X11_forget, 16), List.mem_of_getElem? (i := 0) (by decide +kernel), rfl⟩) rfl
theorem mc_X11_goAlong : Cond.code (gw_mY M_X11_goAlong) (gw_mC M_X11_goAlong) (gw_mL M_X11_goAlong) (gw_mR M_X11_goAlong) ∈ gw_tb := gw_tb2 (List.mem_of_getElem? (i := 192) (by decide +kernel)) rfl
theorem mi_X11_goAlong : Cond.instanceMethod (gw_mY M_X11_goAlong) ∈ gw_tb := gw_tb2 (List.mem_of_getElem? (i := 191) (by decide +kernel)) rfl
theorem ms_X11_goAlong : Cond.selects RX11 (gw_mY M_X11_goAlong) (gw_mY M_X11_goAlong) ∈ gw_tb := gw_tb0 (List.mem_map.mpr ⟨(gw_mY M_X11_goAlong, 16), List.mem_of_getElem? (i := 2) (by decide +kernel), rfl⟩) rfl
theorem mc_X11_writeTrail : Cond.code (gw_mY M_X11_writeTrail) (gw_mC M_X11_writeTrail) (gw_mL M_X11_writeTrail) (gw_mR M_X11_writeTrail) ∈ gw_tb := gw_tb3 (List.mem_of_getElem? (i := 47) (by decide +kernel)) rfl
theorem mi_X11_writeTrail : Cond.instanceMethod (gw_mY M_X11_writeTrail) ∈ gw_tb := gw_tb3 (List.mem_of_getElem? (i := 46) (by decide +kernel)) rfl
theorem ms_X11_writeTrail : Cond.selects RX11 (gw_mY M_X11_writeTrail) (gw_mY M_X11_writeTrail) ∈ gw_tb := gw_tb0 (List.mem_map.mpr ⟨(gw_mY M_X11_writeTrail, 16), List.mem_of_getElem? (i := 3) (by decide +kernel), rfl⟩) rfl
theorem mc_X11_seekBest : Cond.code (gw_mY M_X11_seekBest) (gw_mC M_X11_seekBest) (gw_mL M_X11_seekBest) (gw_mR M_X11_seekBest) ∈ gw_tb := gw_tb3 (List.mem_of_getElem? (i := 82) (by decide +kernel)) rfl
theorem mi_X11_seekBest : Cond.instanceMethod (gw_mY M_X11_seekBest) ∈ gw_tb := gw_tb3 (List.mem_of_getElem? (i := 81) (by decide +kernel)) rfl
theorem ms_X11_seekBest : Cond.selects RX11 (gw_mY M_X11_seekBest) (gw_mY M_X11_seekBest) ∈ gw_tb := gw_tb0 (List.mem_map.mpr ⟨(gw_mY M_X11_seekBest, 16), List.mem_of_getElem? (i := 4) (by decide +kernel), rfl⟩) rfl
theorem mc_X11_noteBest : Cond.code (gw_mY M_X11_noteBest) (gw_mC M_X11_noteBest) (gw_mL M_X11_noteBest) (gw_mR M_X11_noteBest) ∈ gw_tb := gw_tb3 (List.mem_of_getElem? (i := 106) (by decide +kernel)) rfl
theorem mi_X11_noteBest : Cond.instanceMethod (gw_mY M_X11_noteBest) ∈ gw_tb := gw_tb3 (List.mem_of_getElem? (i := 105) (by decide +kernel)) rfl
theorem ms_X11_noteBest : Cond.selects RX11 (gw_mY M_X11_noteBest) (gw_mY M_X11_noteBest) ∈ gw_tb := gw_tb0 (List.mem_map.mpr ⟨(gw_mY M_X11_noteBest, 16), List.mem_of_getElem? (i := 5) (by decide +kernel), rfl⟩) rfl
theorem mc_X13_cell : Cond.code (gw_mY M_X13_cell) (gw_mC M_X13_cell) (gw_mL M_X13_cell) (gw_mR M_X13_cell) ∈ gw_tb := gw_tb3 (List.mem_of_getElem? (i := 168) (by decide +kernel)) rfl
theorem mS_X13_cell : Cond.static (gw_mY M_X13_cell) ∈ gw_tb := gw_tb3 (List.mem_of_getElem? (i := 167) (by decide +kernel)) rfl
theorem mc_X13_end : Cond.code (gw_mY M_X13_end) (gw_mC M_X13_end) (gw_mL M_X13_end) (gw_mR M_X13_end) ∈ gw_tb := gw_tb3 (List.mem_of_getElem? (i := 173) (by decide +kernel)) rfl
theorem mS_X13_end : Cond.static (gw_mY M_X13_end) ∈ gw_tb := gw_tb3 (List.mem_of_getElem? (i := 172) (by decide +kernel)) rfl
theorem mc_X13_marks : Cond.code (gw_mY M_X13_marks) (gw_mC M_X13_marks) (gw_mL M_X13_marks) (gw_mR M_X13_marks) ∈ gw_tb := gw_tb3 (List.mem_of_getElem? (i := 176) (by decide +kernel)) rfl
theorem mS_X13_marks : Cond.static (gw_mY M_X13_marks) ∈ gw_tb := gw_tb3 (List.mem_of_getElem? (i := 175) (by decide +kernel)) rfl
theorem mc_X13_mark : Cond.code (gw_mY M_X13_mark) (gw_mC M_X13_mark) (gw_mL M_X13_mark) (gw_mR M_X13_mark) ∈ gw_tb := gw_tb3 (List.mem_of_getElem? (i := 179) (by decide +kernel)) rfl
theorem mS_X13_mark : Cond.static (gw_mY M_X13_mark) ∈ gw_tb := gw_tb3 (List.mem_of_getElem? (i := 178) (by decide +kernel)) rfl
theorem mc_X13_people : Cond.code (gw_mY M_X13_people) (gw_mC M_X13_people) (gw_mL M_X13_people) (gw_mR M_X13_people) ∈ gw_tb := gw_tb3 (List.mem_of_getElem? (i := 182) (by decide +kernel)) rfl
theorem mS_X13_people : Cond.static (gw_mY M_X13_people) ∈ gw_tb := gw_tb3 (List.mem_of_getElem? (i := 181) (by decide +kernel)) rfl
theorem mc_X13_one : Cond.code (gw_mY M_X13_one) (gw_mC M_X13_one) (gw_mL M_X13_one) (gw_mR M_X13_one) ∈ gw_tb := gw_tb3 (List.mem_of_getElem? (i := 185) (by decide +kernel)) rfl
theorem mS_X13_one : Cond.static (gw_mY M_X13_one) ∈ gw_tb := gw_tb3 (List.mem_of_getElem? (i := 184) (by decide +kernel)) rfl
theorem mc_X13_rule : Cond.code (gw_mY M_X13_rule) (gw_mC M_X13_rule) (gw_mL M_X13_rule) (gw_mR M_X13_rule) ∈ gw_tb := gw_tb3 (List.mem_of_getElem? (i := 188) (by decide +kernel)) rfl
theorem mS_X13_rule : Cond.static (gw_mY M_X13_rule) ∈ gw_tb := gw_tb3 (List.mem_of_getElem? (i := 187) (by decide +kernel)) rfl
theorem mc_X13_lays : Cond.code (gw_mY M_X13_lays) (gw_mC M_X13_lays) (gw_mL M_X13_lays) (gw_mR M_X13_lays) ∈ gw_tb := gw_tb3 (List.mem_of_getElem? (i := 191) (by decide +kernel)) rfl
theorem mS_X13_lays : Cond.static (gw_mY M_X13_lays) ∈ gw_tb := gw_tb3 (List.mem_of_getElem? (i := 190) (by decide +kernel)) rfl
theorem ini_13 : Cond.initialized RX13 ∈ gw_tb := gw_tb1 (List.mem_of_getElem? (i := 0) (by decide +kernel)) rfl
theorem ini_11 : Cond.initialized RX11 ∈ gw_tb := gw_tb1 (List.mem_of_getElem? (i := 1) (by decide +kernel)) rfl
theorem ini_6 : Cond.initialized RX6 ∈ gw_tb := gw_tb1 (List.mem_of_getElem? (i := 2) (by decide +kernel)) rfl
theorem ini_3 : Cond.initialized RX3 ∈ gw_tb := gw_tb1 (List.mem_of_getElem? (i := 3) (by decide +kernel)) rfl
theorem ini_5 : Cond.initialized RX5 ∈ gw_tb := gw_tb1 (List.mem_of_getElem? (i := 4) (by decide +kernel)) rfl
theorem ini_8 : Cond.initialized RX8 ∈ gw_tb := gw_tb1 (List.mem_of_getElem? (i := 5) (by decide +kernel)) rfl
theorem ini_9 : Cond.initialized RX9 ∈ gw_tb := gw_tb1 (List.mem_of_getElem? (i := 6) (by decide +kernel)) rfl
theorem ini_10 : Cond.initialized RX10 ∈ gw_tb := gw_tb1 (List.mem_of_getElem? (i := 7) (by decide +kernel)) rfl
theorem ini_4 : Cond.initialized RX4 ∈ gw_tb := gw_tb1 (List.mem_of_getElem? (i := 8) (by decide +kernel)) rfl
theorem ini_2 : Cond.initialized RX2 ∈ gw_tb := gw_tb1 (List.mem_of_getElem? (i := 9) (by decide +kernel)) rfl
theorem ini_1 : Cond.initialized RX1 ∈ gw_tb := gw_tb1 (List.mem_of_getElem? (i := 10) (by decide +kernel)) rfl
theorem ini_0 : Cond.initialized RX0 ∈ gw_tb := gw_tb1 (List.mem_of_getElem? (i := 11) (by decide +kernel)) rfl
theorem ini_7 : Cond.initialized RX7 ∈ gw_tb := gw_tb1 (List.mem_of_getElem? (i := 12) (by decide +kernel)) rfl
theorem ini_java_lang_System : Cond.initialized "java/lang/System" ∈ gw_tb := gw_tb1 (List.mem_of_getElem? (i := 13) (by decide +kernel)) rfl
theorem ini_java_lang_Math : Cond.initialized "java/lang/Math" ∈ gw_tb := gw_tb1 (List.mem_of_getElem? (i := 14) (by decide +kernel)) rfl
theorem cl_13_20 : Cond.classLink RX13 20 RX11 ∈ gw_tb := gw_tb1 (List.mem_of_getElem? (i := 15) (by decide +kernel)) rfl
theorem inst_11 : Cond.instantiable RX11 16 ∈ gw_tb := gw_tb1 (List.mem_of_getElem? (i := 16) (by decide +kernel)) rfl
theorem cl_11_7 : Cond.classLink RX11 7 RX6 ∈ gw_tb := gw_tb1 (List.mem_of_getElem? (i := 23) (by decide +kernel)) rfl
theorem inst_6 : Cond.instantiable RX6 5 ∈ gw_tb := gw_tb1 (List.mem_of_getElem? (i := 24) (by decide +kernel)) rfl
theorem cl_6_15 : Cond.classLink RX6 15 RX3 ∈ gw_tb := gw_tb1 (List.mem_of_getElem? (i := 29) (by decide +kernel)) rfl
theorem inst_3 : Cond.instantiable RX3 4 ∈ gw_tb := gw_tb1 (List.mem_of_getElem? (i := 30) (by decide +kernel)) rfl
theorem cl_3_15 : Cond.classLink RX3 15 "[[I" ∈ gw_tb := gw_tb1 (List.mem_of_getElem? (i := 35) (by decide +kernel)) rfl
theorem cl_6_22 : Cond.classLink RX6 22 RX5 ∈ gw_tb := gw_tb1 (List.mem_of_getElem? (i := 59) (by decide +kernel)) rfl
theorem inst_5 : Cond.instantiable RX5 4 ∈ gw_tb := gw_tb1 (List.mem_of_getElem? (i := 60) (by decide +kernel)) rfl
theorem cl_6_34 : Cond.classLink RX6 34 "[I" ∈ gw_tb := gw_tb1 (List.mem_of_getElem? (i := 94) (by decide +kernel)) rfl
theorem cl_6_41 : Cond.classLink RX6 41 RX8 ∈ gw_tb := gw_tb1 (List.mem_of_getElem? (i := 95) (by decide +kernel)) rfl
theorem inst_8 : Cond.instantiable RX8 8 ∈ gw_tb := gw_tb1 (List.mem_of_getElem? (i := 96) (by decide +kernel)) rfl
theorem cl_11_23 : Cond.classLink RX11 23 RX9 ∈ gw_tb := gw_tb1 (List.mem_of_getElem? (i := 151) (by decide +kernel)) rfl
theorem inst_9 : Cond.instantiable RX9 4 ∈ gw_tb := gw_tb1 (List.mem_of_getElem? (i := 152) (by decide +kernel)) rfl
theorem cl_11_30 : Cond.classLink RX11 30 RX3 ∈ gw_tb := gw_tb1 (List.mem_of_getElem? (i := 171) (by decide +kernel)) rfl
theorem cl_11_37 : Cond.classLink RX11 37 RX5 ∈ gw_tb := gw_tb1 (List.mem_of_getElem? (i := 173) (by decide +kernel)) rfl
theorem cl_11_44 : Cond.classLink RX11 44 RX10 ∈ gw_tb := gw_tb1 (List.mem_of_getElem? (i := 175) (by decide +kernel)) rfl
theorem inst_10 : Cond.instantiable RX10 16 ∈ gw_tb := gw_tb1 (List.mem_of_getElem? (i := 176) (by decide +kernel)) rfl
theorem cl_10_9 : Cond.classLink RX10 9 RX4 ∈ gw_tb := gw_tb1 (List.mem_of_getElem? (i := 181) (by decide +kernel)) rfl
theorem inst_4 : Cond.instantiable RX4 5 ∈ gw_tb := gw_tb1 (List.mem_of_getElem? (i := 182) (by decide +kernel)) rfl
theorem cl_10_18 : Cond.classLink RX10 18 RX5 ∈ gw_tb := gw_tb1 (List.mem_of_getElem? (i := 207) (by decide +kernel)) rfl
theorem cl_10_29 : Cond.classLink RX10 29 RX2 ∈ gw_tb := gw_tb1 (List.mem_of_getElem? (i := 209) (by decide +kernel)) rfl
theorem inst_2 : Cond.instantiable RX2 6 ∈ gw_tb := gw_tb1 (List.mem_of_getElem? (i := 210) (by decide +kernel)) rfl
theorem cl_11_71 : Cond.classLink RX11 71 RX1 ∈ gw_tb := gw_tb2 (List.mem_of_getElem? (i := 58) (by decide +kernel)) rfl
theorem inst_1 : Cond.instantiable RX1 3 ∈ gw_tb := gw_tb2 (List.mem_of_getElem? (i := 59) (by decide +kernel)) rfl
theorem cl_11_78 : Cond.classLink RX11 78 RX0 ∈ gw_tb := gw_tb2 (List.mem_of_getElem? (i := 75) (by decide +kernel)) rfl
theorem inst_0 : Cond.instantiable RX0 6 ∈ gw_tb := gw_tb2 (List.mem_of_getElem? (i := 76) (by decide +kernel)) rfl
theorem cl_11_85 : Cond.classLink RX11 85 RX7 ∈ gw_tb := gw_tb2 (List.mem_of_getElem? (i := 100) (by decide +kernel)) rfl
theorem inst_7 : Cond.instantiable RX7 3 ∈ gw_tb := gw_tb2 (List.mem_of_getElem? (i := 102) (by decide +kernel)) rfl
theorem ct_11_233 : Cond.constant RX11 233 (-100001) ∈ gw_tb := gw_tb3 (List.mem_of_getElem? (i := 111) (by decide +kernel)) rfl
theorem ct_11_234 : Cond.constant RX11 234 (-100002) ∈ gw_tb := gw_tb3 (List.mem_of_getElem? (i := 112) (by decide +kernel)) rfl
theorem ct_13_7 : Cond.constant RX13 7 (15485957) ∈ gw_tb := gw_tb3 (List.mem_of_getElem? (i := 169) (by decide +kernel)) rfl
theorem ct_13_8 : Cond.constant RX13 8 (2147483647) ∈ gw_tb := gw_tb3 (List.mem_of_getElem? (i := 170) (by decide +kernel)) rfl
theorem ct_13_65 : Cond.constant RX13 65 (-100002) ∈ gw_tb := gw_tb3 (List.mem_of_getElem? (i := 221) (by decide +kernel)) rfl
theorem ct_13_66 : Cond.constant RX13 66 (-100000) ∈ gw_tb := gw_tb3 (List.mem_of_getElem? (i := 222) (by decide +kernel)) rfl
theorem mj_11_1 : Cond.methodLink RX11 1 Lib.objectInit ∈ gw_tb := gw_tb1 (List.mem_of_getElem? (i := 20) (by decide +kernel)) rfl
theorem mj_6_3 : Cond.methodLink RX6 3 Lib.objectInit ∈ gw_tb := gw_tb1 (List.mem_of_getElem? (i := 28) (by decide +kernel)) rfl
theorem mj_3_3 : Cond.methodLink RX3 3 Lib.objectInit ∈ gw_tb := gw_tb1 (List.mem_of_getElem? (i := 34) (by decide +kernel)) rfl
theorem mj_5_3 : Cond.methodLink RX5 3 Lib.objectInit ∈ gw_tb := gw_tb1 (List.mem_of_getElem? (i := 64) (by decide +kernel)) rfl
theorem mj_6_33 : Cond.methodLink RX6 33 ⟨"[I", "clone", "()Ljava/lang/Object;"⟩ ∈ gw_tb := gw_tb1 (List.mem_of_getElem? (i := 88) (by decide +kernel)) rfl
theorem mj_8_3 : Cond.methodLink RX8 3 Lib.objectInit ∈ gw_tb := gw_tb1 (List.mem_of_getElem? (i := 100) (by decide +kernel)) rfl
theorem mj_9_3 : Cond.methodLink RX9 3 Lib.objectInit ∈ gw_tb := gw_tb1 (List.mem_of_getElem? (i := 156) (by decide +kernel)) rfl
theorem mj_10_3 : Cond.methodLink RX10 3 Lib.objectInit ∈ gw_tb := gw_tb1 (List.mem_of_getElem? (i := 180) (by decide +kernel)) rfl
theorem mj_4_3 : Cond.methodLink RX4 3 Lib.objectInit ∈ gw_tb := gw_tb1 (List.mem_of_getElem? (i := 186) (by decide +kernel)) rfl
theorem mj_2_1 : Cond.methodLink RX2 1 Lib.objectInit ∈ gw_tb := gw_tb1 (List.mem_of_getElem? (i := 214) (by decide +kernel)) rfl
theorem mj_1_3 : Cond.methodLink RX1 3 Lib.objectInit ∈ gw_tb := gw_tb2 (List.mem_of_getElem? (i := 63) (by decide +kernel)) rfl
theorem mj_0_3 : Cond.methodLink RX0 3 Lib.objectInit ∈ gw_tb := gw_tb2 (List.mem_of_getElem? (i := 80) (by decide +kernel)) rfl
theorem mj_7_3 : Cond.methodLink RX7 3 Lib.objectInit ∈ gw_tb := gw_tb2 (List.mem_of_getElem? (i := 106) (by decide +kernel)) rfl
theorem mj_5_30 : Cond.methodLink RX5 30 arraycopyName ∈ gw_tb := gw_tb2 (List.mem_of_getElem? (i := 210) (by decide +kernel)) rfl
theorem mj_10_92 : Cond.methodLink RX10 92 arraycopyName ∈ gw_tb := gw_tb2 (List.mem_of_getElem? (i := 213) (by decide +kernel)) rfl
theorem mj_10_170 : Cond.methodLink RX10 170 Lib.Math.min.name ∈ gw_tb := gw_tb3 (List.mem_of_getElem? (i := 26) (by decide +kernel)) rfl
theorem mj_10_192 : Cond.methodLink RX10 192 Lib.Math.max.name ∈ gw_tb := gw_tb3 (List.mem_of_getElem? (i := 41) (by decide +kernel)) rfl
theorem mj_11_202 : Cond.methodLink RX11 202 Lib.Math.min.name ∈ gw_tb := gw_tb3 (List.mem_of_getElem? (i := 53) (by decide +kernel)) rfl
theorem mj_11_208 : Cond.methodLink RX11 208 Lib.Math.max.name ∈ gw_tb := gw_tb3 (List.mem_of_getElem? (i := 54) (by decide +kernel)) rfl
theorem mj_1_30 : Cond.methodLink RX1 30 Lib.Math.max.name ∈ gw_tb := gw_tb3 (List.mem_of_getElem? (i := 146) (by decide +kernel)) rfl
theorem mj_3_30 : Cond.methodLink RX3 30 arraycopyName ∈ gw_tb := gw_tb3 (List.mem_of_getElem? (i := 159) (by decide +kernel)) rfl
theorem mj_6_55 : Cond.methodLink RX6 55 arraycopyName ∈ gw_tb := gw_tb3 (List.mem_of_getElem? (i := 161) (by decide +kernel)) rfl
theorem jS_max : Cond.static Lib.Math.max.name ∈ gw_tb := gw_tb3 (List.mem_of_getElem? (i := 42) (by decide +kernel)) rfl
theorem jS_min : Cond.static Lib.Math.min.name ∈ gw_tb := gw_tb3 (List.mem_of_getElem? (i := 27) (by decide +kernel)) rfl
theorem jC_max : Cond.code Lib.Math.max.name Lib.Math.max.code 2 (some .int) ∈ gw_tb := gw_tb3 (List.mem_of_getElem? (i := 43) (by decide +kernel)) rfl
theorem jC_min : Cond.code Lib.Math.min.name Lib.Math.min.code 2 (some .int) ∈ gw_tb := gw_tb3 (List.mem_of_getElem? (i := 28) (by decide +kernel)) rfl
theorem jN_copy : Cond.native arraycopyName ∈ gw_tb := gw_tb2 (List.mem_of_getElem? (i := 212) (by decide +kernel)) rfl
theorem jS_copy : Cond.static arraycopyName ∈ gw_tb := gw_tb2 (List.mem_of_getElem? (i := 211) (by decide +kernel)) rfl
theorem jI_obj : Cond.instanceMethod Lib.objectInit ∈ gw_tb := gw_tb1 (List.mem_of_getElem? (i := 21) (by decide +kernel)) rfl
theorem jC_obj : Cond.code Lib.objectInit ⟨#[0xb1]⟩ 1 none ∈ gw_tb := gw_tb1 (List.mem_of_getElem? (i := 22) (by decide +kernel)) rfl
theorem arc_int : Cond.arrayClass .int ∈ gw_tb := gw_tb1 (List.mem_of_getElem? (i := 58) (by decide +kernel)) rfl
theorem arc_byte : Cond.arrayClass .byte ∈ gw_tb := gw_tb1 (List.mem_of_getElem? (i := 170) (by decide +kernel)) rfl
theorem arc_boolean : Cond.arrayClass .boolean ∈ gw_tb := gw_tb1 (List.mem_of_getElem? (i := 85) (by decide +kernel)) rfl
def gw_nwM : List (String × Nat × MethodName × String) := [(RX11, 9, gw_mY M_X6_init, "FlagWalk"), (RX6, 17, gw_mY M_X3_init, "FlagWalk"), (RX6, 24, gw_mY M_X5_init, "FlagWalk"), (RX6, 43, gw_mY M_X8_init, "FlagWalk"), (RX11, 25, gw_mY M_X9_init, "FlagWalk"), (RX11, 32, gw_mY M_X3_init, "FlagWalk"), (RX11, 39, gw_mY M_X5_init, "FlagWalk"), (RX11, 46, gw_mY M_X10_init, "FlagWalk"), (RX10, 11, gw_mY M_X4_init, "FlagWalk"), (RX10, 20, gw_mY M_X5_init, "FlagWalk"), (RX10, 31, gw_mY M_X2_init, "FlagWalk"), (RX11, 73, gw_mY M_X1_init, "FlagWalk"), (RX11, 80, gw_mY M_X0_init, "FlagWalk"), (RX11, 91, gw_mY M_X7_init, "FlagWalk"), (RX4, 41, gw_mY M_X11_within, "FlagWalk")]
theorem mn_11_9 : (RX11, 9, gw_mY M_X6_init, "FlagWalk") ∈ gw_nwM := List.mem_of_getElem? (i := 0) rfl
theorem wmn_11_9 : Cond.methodLinkNest RX11 9 (gw_mY M_X6_init) "FlagWalk" ∈ lw_tbl := List.mem_append_right _ (List.mem_of_getElem? (i := 25) (by decide +kernel))
theorem mn_6_17 : (RX6, 17, gw_mY M_X3_init, "FlagWalk") ∈ gw_nwM := List.mem_of_getElem? (i := 1) rfl
theorem wmn_6_17 : Cond.methodLinkNest RX6 17 (gw_mY M_X3_init) "FlagWalk" ∈ lw_tbl := List.mem_append_right _ (List.mem_of_getElem? (i := 31) (by decide +kernel))
theorem mn_6_24 : (RX6, 24, gw_mY M_X5_init, "FlagWalk") ∈ gw_nwM := List.mem_of_getElem? (i := 2) rfl
theorem wmn_6_24 : Cond.methodLinkNest RX6 24 (gw_mY M_X5_init) "FlagWalk" ∈ lw_tbl := List.mem_append_right _ (List.mem_of_getElem? (i := 61) (by decide +kernel))
theorem mn_6_43 : (RX6, 43, gw_mY M_X8_init, "FlagWalk") ∈ gw_nwM := List.mem_of_getElem? (i := 3) rfl
theorem wmn_6_43 : Cond.methodLinkNest RX6 43 (gw_mY M_X8_init) "FlagWalk" ∈ lw_tbl := List.mem_append_right _ (List.mem_of_getElem? (i := 97) (by decide +kernel))
theorem mn_11_25 : (RX11, 25, gw_mY M_X9_init, "FlagWalk") ∈ gw_nwM := List.mem_of_getElem? (i := 4) rfl
theorem wmn_11_25 : Cond.methodLinkNest RX11 25 (gw_mY M_X9_init) "FlagWalk" ∈ lw_tbl := List.mem_append_right _ (List.mem_of_getElem? (i := 153) (by decide +kernel))
theorem mn_11_32 : (RX11, 32, gw_mY M_X3_init, "FlagWalk") ∈ gw_nwM := List.mem_of_getElem? (i := 5) rfl
theorem wmn_11_32 : Cond.methodLinkNest RX11 32 (gw_mY M_X3_init) "FlagWalk" ∈ lw_tbl := List.mem_append_right _ (List.mem_of_getElem? (i := 172) (by decide +kernel))
theorem mn_11_39 : (RX11, 39, gw_mY M_X5_init, "FlagWalk") ∈ gw_nwM := List.mem_of_getElem? (i := 6) rfl
theorem wmn_11_39 : Cond.methodLinkNest RX11 39 (gw_mY M_X5_init) "FlagWalk" ∈ lw_tbl := List.mem_append_right _ (List.mem_of_getElem? (i := 174) (by decide +kernel))
theorem mn_11_46 : (RX11, 46, gw_mY M_X10_init, "FlagWalk") ∈ gw_nwM := List.mem_of_getElem? (i := 7) rfl
theorem wmn_11_46 : Cond.methodLinkNest RX11 46 (gw_mY M_X10_init) "FlagWalk" ∈ lw_tbl := List.mem_append_right _ (List.mem_of_getElem? (i := 177) (by decide +kernel))
theorem mn_10_11 : (RX10, 11, gw_mY M_X4_init, "FlagWalk") ∈ gw_nwM := List.mem_of_getElem? (i := 8) rfl
theorem wmn_10_11 : Cond.methodLinkNest RX10 11 (gw_mY M_X4_init) "FlagWalk" ∈ lw_tbl := List.mem_append_right _ (List.mem_of_getElem? (i := 183) (by decide +kernel))
theorem mn_10_20 : (RX10, 20, gw_mY M_X5_init, "FlagWalk") ∈ gw_nwM := List.mem_of_getElem? (i := 9) rfl
theorem wmn_10_20 : Cond.methodLinkNest RX10 20 (gw_mY M_X5_init) "FlagWalk" ∈ lw_tbl := List.mem_append_right _ (List.mem_of_getElem? (i := 208) (by decide +kernel))
theorem mn_10_31 : (RX10, 31, gw_mY M_X2_init, "FlagWalk") ∈ gw_nwM := List.mem_of_getElem? (i := 10) rfl
theorem wmn_10_31 : Cond.methodLinkNest RX10 31 (gw_mY M_X2_init) "FlagWalk" ∈ lw_tbl := List.mem_append_right _ (List.mem_of_getElem? (i := 211) (by decide +kernel))
theorem mn_11_73 : (RX11, 73, gw_mY M_X1_init, "FlagWalk") ∈ gw_nwM := List.mem_of_getElem? (i := 11) rfl
theorem wmn_11_73 : Cond.methodLinkNest RX11 73 (gw_mY M_X1_init) "FlagWalk" ∈ lw_tbl := List.mem_append_right _ (List.mem_of_getElem? (i := 300) (by decide +kernel))
theorem mn_11_80 : (RX11, 80, gw_mY M_X0_init, "FlagWalk") ∈ gw_nwM := List.mem_of_getElem? (i := 12) rfl
theorem wmn_11_80 : Cond.methodLinkNest RX11 80 (gw_mY M_X0_init) "FlagWalk" ∈ lw_tbl := List.mem_append_right _ (List.mem_of_getElem? (i := 317) (by decide +kernel))
theorem mn_11_91 : (RX11, 91, gw_mY M_X7_init, "FlagWalk") ∈ gw_nwM := List.mem_of_getElem? (i := 13) rfl
theorem wmn_11_91 : Cond.methodLinkNest RX11 91 (gw_mY M_X7_init) "FlagWalk" ∈ lw_tbl := List.mem_append_right _ (List.mem_of_getElem? (i := 343) (by decide +kernel))
theorem mn_4_41 : (RX4, 41, gw_mY M_X11_within, "FlagWalk") ∈ gw_nwM := List.mem_of_getElem? (i := 14) rfl
theorem wmn_4_41 : Cond.methodLinkNest RX4 41 (gw_mY M_X11_within) "FlagWalk" ∈ lw_tbl := List.mem_append_right _ (List.mem_of_getElem? (i := 445) (by decide +kernel))
theorem gw_nwM_in : ∀ q ∈ gw_nwM, Cond.methodLinkNest q.1 q.2.1 q.2.2.1 q.2.2.2 ∈ lw_tbl := by
  intro q hq
  simp only [gw_nwM, List.mem_cons, List.not_mem_nil, or_false] at hq
  rcases hq with rfl | rfl | rfl | rfl | rfl | rfl | rfl | rfl | rfl | rfl | rfl | rfl | rfl | rfl | rfl
  · exact wmn_11_9
  · exact wmn_6_17
  · exact wmn_6_24
  · exact wmn_6_43
  · exact wmn_11_25
  · exact wmn_11_32
  · exact wmn_11_39
  · exact wmn_11_46
  · exact wmn_10_11
  · exact wmn_10_20
  · exact wmn_10_31
  · exact wmn_11_73
  · exact wmn_11_80
  · exact wmn_11_91
  · exact wmn_4_41
def gw_nwF : List (String × Nat × String × String × String × String) := [("FlagWalk$Plan", 29, "FlagWalk", "FIRST_RULES", "[I", "FlagWalk")]
theorem gw_nwF_in : ∀ q ∈ gw_nwF, Cond.fieldLinkNest q.1 q.2.1 q.2.2.1 q.2.2.2.1 q.2.2.2.2.1 q.2.2.2.2.2 ∈ lw_tbl := by
  intro q hq
  simp only [gw_nwF, List.mem_cons, List.not_mem_nil, or_false] at hq
  rcases hq with rfl
  · exact List.mem_append_right _ (List.mem_of_getElem? (i := 86) (by decide +kernel))
