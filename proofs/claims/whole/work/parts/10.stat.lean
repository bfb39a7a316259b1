theorem zlay_X0_0 : u_lay RX0 TX0 0 ∈ zz_tbl := zz_in (List.mem_of_getElem? (i := 248) (by decide +kernel)) rfl
theorem zlay_X0_1 : u_lay RX0 TX0 1 ∈ zz_tbl := zz_in (List.mem_of_getElem? (i := 250) (by decide +kernel)) rfl
theorem zlay_X0_2 : u_lay RX0 TX0 2 ∈ zz_tbl := zz_in (List.mem_of_getElem? (i := 252) (by decide +kernel)) rfl
theorem zlay_X0_3 : u_lay RX0 TX0 3 ∈ zz_tbl := zz_in (List.mem_of_getElem? (i := 254) (by decide +kernel)) rfl
theorem zlay_X0_4 : u_lay RX0 TX0 4 ∈ zz_tbl := zz_in (List.mem_of_getElem? (i := 256) (by decide +kernel)) rfl
theorem zlay_X0_5 : u_lay RX0 TX0 5 ∈ zz_tbl := zz_in (List.mem_of_getElem? (i := 258) (by decide +kernel)) rfl
theorem zlay_X0_6 : u_lay RX0 TX0 6 ∈ zz_tbl := zz_in (List.mem_of_getElem? (i := 260) (by decide +kernel)) rfl
theorem zlay_X0_7 : u_lay RX0 TX0 7 ∈ zz_tbl := zz_in (List.mem_of_getElem? (i := 262) (by decide +kernel)) rfl
theorem zlay_X0_8 : u_lay RX0 TX0 8 ∈ zz_tbl := zz_in (List.mem_of_getElem? (i := 264) (by decide +kernel)) rfl
theorem zlay_X0_9 : u_lay RX0 TX0 9 ∈ zz_tbl := zz_in (List.mem_of_getElem? (i := 266) (by decide +kernel)) rfl
theorem zlay_X0_10 : u_lay RX0 TX0 10 ∈ zz_tbl := zz_in (List.mem_of_getElem? (i := 268) (by decide +kernel)) rfl
theorem zlay_X0_11 : u_lay RX0 TX0 11 ∈ zz_tbl := zz_in (List.mem_of_getElem? (i := 270) (by decide +kernel)) rfl
theorem zin_X0 : ∀ w ∈ u_ws RX0 TX0 12, w ∈ zz_tbl := by
  intro w hw
  obtain ⟨k, hk, rfl⟩ := List.mem_map.mp hw
  exact match k, List.mem_range.mp hk with
  | 0, _ => zlay_X0_0
  | 1, _ => zlay_X0_1
  | 2, _ => zlay_X0_2
  | 3, _ => zlay_X0_3
  | 4, _ => zlay_X0_4
  | 5, _ => zlay_X0_5
  | 6, _ => zlay_X0_6
  | 7, _ => zlay_X0_7
  | 8, _ => zlay_X0_8
  | 9, _ => zlay_X0_9
  | 10, _ => zlay_X0_10
  | 11, _ => zlay_X0_11
  | k + 12, h => absurd h (by omega)
theorem zlay_X2_0 : u_lay RX2 TX2 0 ∈ zz_tbl := zz_in (List.mem_of_getElem? (i := 346) (by decide +kernel)) rfl
theorem zlay_X2_1 : u_lay RX2 TX2 1 ∈ zz_tbl := zz_in (List.mem_of_getElem? (i := 348) (by decide +kernel)) rfl
theorem zlay_X2_2 : u_lay RX2 TX2 2 ∈ zz_tbl := zz_in (List.mem_of_getElem? (i := 350) (by decide +kernel)) rfl
theorem zlay_X2_3 : u_lay RX2 TX2 3 ∈ zz_tbl := zz_in (List.mem_of_getElem? (i := 352) (by decide +kernel)) rfl
theorem zlay_X2_4 : u_lay RX2 TX2 4 ∈ zz_tbl := zz_in (List.mem_of_getElem? (i := 354) (by decide +kernel)) rfl
theorem zlay_X2_5 : u_lay RX2 TX2 5 ∈ zz_tbl := zz_in (List.mem_of_getElem? (i := 356) (by decide +kernel)) rfl
theorem zlay_X2_6 : u_lay RX2 TX2 6 ∈ zz_tbl := zz_in (List.mem_of_getElem? (i := 358) (by decide +kernel)) rfl
theorem zlay_X2_7 : u_lay RX2 TX2 7 ∈ zz_tbl := zz_in (List.mem_of_getElem? (i := 360) (by decide +kernel)) rfl
theorem zlay_X2_8 : u_lay RX2 TX2 8 ∈ zz_tbl := zz_in (List.mem_of_getElem? (i := 362) (by decide +kernel)) rfl
theorem zlay_X2_9 : u_lay RX2 TX2 9 ∈ zz_tbl := zz_in (List.mem_of_getElem? (i := 364) (by decide +kernel)) rfl
theorem zlay_X2_10 : u_lay RX2 TX2 10 ∈ zz_tbl := zz_in (List.mem_of_getElem? (i := 366) (by decide +kernel)) rfl
theorem zlay_X2_11 : u_lay RX2 TX2 11 ∈ zz_tbl := zz_in (List.mem_of_getElem? (i := 368) (by decide +kernel)) rfl
theorem zlay_X2_12 : u_lay RX2 TX2 12 ∈ zz_tbl := zz_in (List.mem_of_getElem? (i := 370) (by decide +kernel)) rfl
theorem zlay_X2_13 : u_lay RX2 TX2 13 ∈ zz_tbl := zz_in (List.mem_of_getElem? (i := 372) (by decide +kernel)) rfl
theorem zlay_X2_14 : u_lay RX2 TX2 14 ∈ zz_tbl := zz_in (List.mem_of_getElem? (i := 374) (by decide +kernel)) rfl
theorem zin_X2 : ∀ w ∈ u_ws RX2 TX2 15, w ∈ zz_tbl := by
  intro w hw
  obtain ⟨k, hk, rfl⟩ := List.mem_map.mp hw
  exact match k, List.mem_range.mp hk with
  | 0, _ => zlay_X2_0
  | 1, _ => zlay_X2_1
  | 2, _ => zlay_X2_2
  | 3, _ => zlay_X2_3
  | 4, _ => zlay_X2_4
  | 5, _ => zlay_X2_5
  | 6, _ => zlay_X2_6
  | 7, _ => zlay_X2_7
  | 8, _ => zlay_X2_8
  | 9, _ => zlay_X2_9
  | 10, _ => zlay_X2_10
  | 11, _ => zlay_X2_11
  | 12, _ => zlay_X2_12
  | 13, _ => zlay_X2_13
  | 14, _ => zlay_X2_14
  | k + 15, h => absurd h (by omega)
theorem zlay_X3_0 : u_lay RX3 TX3 0 ∈ zz_tbl := zz_in (List.mem_of_getElem? (i := 207) (by decide +kernel)) rfl
theorem zlay_X3_1 : u_lay RX3 TX3 1 ∈ zz_tbl := zz_in (List.mem_of_getElem? (i := 209) (by decide +kernel)) rfl
theorem zlay_X3_2 : u_lay RX3 TX3 2 ∈ zz_tbl := zz_in (List.mem_of_getElem? (i := 211) (by decide +kernel)) rfl
theorem zin_X3 : ∀ w ∈ u_ws RX3 TX3 3, w ∈ zz_tbl := by
  intro w hw
  obtain ⟨k, hk, rfl⟩ := List.mem_map.mp hw
  exact match k, List.mem_range.mp hk with
  | 0, _ => zlay_X3_0
  | 1, _ => zlay_X3_1
  | 2, _ => zlay_X3_2
  | k + 3, h => absurd h (by omega)
theorem zlay_X4_0 : u_lay RX4 TX4 0 ∈ zz_tbl := zz_in (List.mem_of_getElem? (i := 152) (by decide +kernel)) rfl
theorem zlay_X4_1 : u_lay RX4 TX4 1 ∈ zz_tbl := zz_in (List.mem_of_getElem? (i := 154) (by decide +kernel)) rfl
theorem zlay_X4_2 : u_lay RX4 TX4 2 ∈ zz_tbl := zz_in (List.mem_of_getElem? (i := 156) (by decide +kernel)) rfl
theorem zlay_X4_3 : u_lay RX4 TX4 3 ∈ zz_tbl := zz_in (List.mem_of_getElem? (i := 158) (by decide +kernel)) rfl
theorem zlay_X4_4 : u_lay RX4 TX4 4 ∈ zz_tbl := zz_in (List.mem_of_getElem? (i := 160) (by decide +kernel)) rfl
theorem zlay_X4_5 : u_lay RX4 TX4 5 ∈ zz_tbl := zz_in (List.mem_of_getElem? (i := 162) (by decide +kernel)) rfl
theorem zin_X4 : ∀ w ∈ u_ws RX4 TX4 6, w ∈ zz_tbl := by
  intro w hw
  obtain ⟨k, hk, rfl⟩ := List.mem_map.mp hw
  exact match k, List.mem_range.mp hk with
  | 0, _ => zlay_X4_0
  | 1, _ => zlay_X4_1
  | 2, _ => zlay_X4_2
  | 3, _ => zlay_X4_3
  | 4, _ => zlay_X4_4
  | 5, _ => zlay_X4_5
  | k + 6, h => absurd h (by omega)
theorem zlay_X5_0 : u_lay RX5 TX5 0 ∈ zz_tbl := zz_in (List.mem_of_getElem? (i := 284) (by decide +kernel)) rfl
theorem zlay_X5_1 : u_lay RX5 TX5 1 ∈ zz_tbl := zz_in (List.mem_of_getElem? (i := 286) (by decide +kernel)) rfl
theorem zin_X5 : ∀ w ∈ u_ws RX5 TX5 2, w ∈ zz_tbl := by
  intro w hw
  obtain ⟨k, hk, rfl⟩ := List.mem_map.mp hw
  exact match k, List.mem_range.mp hk with
  | 0, _ => zlay_X5_0
  | 1, _ => zlay_X5_1
  | k + 2, h => absurd h (by omega)
theorem zlay_X6_0 : u_lay RX6 TX6 0 ∈ zz_tbl := zz_in (List.mem_of_getElem? (i := 302) (by decide +kernel)) rfl
theorem zlay_X6_1 : u_lay RX6 TX6 1 ∈ zz_tbl := zz_in (List.mem_of_getElem? (i := 304) (by decide +kernel)) rfl
theorem zin_X6 : ∀ w ∈ u_ws RX6 TX6 2, w ∈ zz_tbl := by
  intro w hw
  obtain ⟨k, hk, rfl⟩ := List.mem_map.mp hw
  exact match k, List.mem_range.mp hk with
  | 0, _ => zlay_X6_0
  | 1, _ => zlay_X6_1
  | k + 2, h => absurd h (by omega)
theorem zlay_X7_0 : u_lay RX7 TX7 0 ∈ zz_tbl := zz_in (List.mem_of_getElem? (i := 181) (by decide +kernel)) rfl
theorem zlay_X7_1 : u_lay RX7 TX7 1 ∈ zz_tbl := zz_in (List.mem_of_getElem? (i := 183) (by decide +kernel)) rfl
theorem zlay_X7_2 : u_lay RX7 TX7 2 ∈ zz_tbl := zz_in (List.mem_of_getElem? (i := 185) (by decide +kernel)) rfl
theorem zlay_X7_3 : u_lay RX7 TX7 3 ∈ zz_tbl := zz_in (List.mem_of_getElem? (i := 187) (by decide +kernel)) rfl
theorem zlay_X7_4 : u_lay RX7 TX7 4 ∈ zz_tbl := zz_in (List.mem_of_getElem? (i := 189) (by decide +kernel)) rfl
theorem zin_X7 : ∀ w ∈ u_ws RX7 TX7 5, w ∈ zz_tbl := by
  intro w hw
  obtain ⟨k, hk, rfl⟩ := List.mem_map.mp hw
  exact match k, List.mem_range.mp hk with
  | 0, _ => zlay_X7_0
  | 1, _ => zlay_X7_1
  | 2, _ => zlay_X7_2
  | 3, _ => zlay_X7_3
  | 4, _ => zlay_X7_4
  | k + 5, h => absurd h (by omega)
theorem zlay_X8_0 : u_lay RX8 TX8 0 ∈ zz_tbl := zz_in (List.mem_of_getElem? (i := 126) (by decide +kernel)) rfl
theorem zlay_X8_1 : u_lay RX8 TX8 1 ∈ zz_tbl := zz_in (List.mem_of_getElem? (i := 128) (by decide +kernel)) rfl
theorem zlay_X8_2 : u_lay RX8 TX8 2 ∈ zz_tbl := zz_in (List.mem_of_getElem? (i := 130) (by decide +kernel)) rfl
theorem zlay_X8_3 : u_lay RX8 TX8 3 ∈ zz_tbl := zz_in (List.mem_of_getElem? (i := 132) (by decide +kernel)) rfl
theorem zlay_X8_4 : u_lay RX8 TX8 4 ∈ zz_tbl := zz_in (List.mem_of_getElem? (i := 134) (by decide +kernel)) rfl
theorem zin_X8 : ∀ w ∈ u_ws RX8 TX8 5, w ∈ zz_tbl := by
  intro w hw
  obtain ⟨k, hk, rfl⟩ := List.mem_map.mp hw
  exact match k, List.mem_range.mp hk with
  | 0, _ => zlay_X8_0
  | 1, _ => zlay_X8_1
  | 2, _ => zlay_X8_2
  | 3, _ => zlay_X8_3
  | 4, _ => zlay_X8_4
  | k + 5, h => absurd h (by omega)
theorem zlay_X9_0 : u_lay RX9 TX9 0 ∈ zz_tbl := zz_in (List.mem_of_getElem? (i := 385) (by decide +kernel)) rfl
theorem zlay_X9_1 : u_lay RX9 TX9 1 ∈ zz_tbl := zz_in (List.mem_of_getElem? (i := 387) (by decide +kernel)) rfl
theorem zlay_X9_2 : u_lay RX9 TX9 2 ∈ zz_tbl := zz_in (List.mem_of_getElem? (i := 389) (by decide +kernel)) rfl
theorem zlay_X9_3 : u_lay RX9 TX9 3 ∈ zz_tbl := zz_in (List.mem_of_getElem? (i := 391) (by decide +kernel)) rfl
theorem zlay_X9_4 : u_lay RX9 TX9 4 ∈ zz_tbl := zz_in (List.mem_of_getElem? (i := 393) (by decide +kernel)) rfl
theorem zlay_X9_5 : u_lay RX9 TX9 5 ∈ zz_tbl := zz_in (List.mem_of_getElem? (i := 395) (by decide +kernel)) rfl
theorem zlay_X9_6 : u_lay RX9 TX9 6 ∈ zz_tbl := zz_in (List.mem_of_getElem? (i := 397) (by decide +kernel)) rfl
theorem zlay_X9_7 : u_lay RX9 TX9 7 ∈ zz_tbl := zz_in (List.mem_of_getElem? (i := 399) (by decide +kernel)) rfl
theorem zin_X9 : ∀ w ∈ u_ws RX9 TX9 8, w ∈ zz_tbl := by
  intro w hw
  obtain ⟨k, hk, rfl⟩ := List.mem_map.mp hw
  exact match k, List.mem_range.mp hk with
  | 0, _ => zlay_X9_0
  | 1, _ => zlay_X9_1
  | 2, _ => zlay_X9_2
  | 3, _ => zlay_X9_3
  | 4, _ => zlay_X9_4
  | 5, _ => zlay_X9_5
  | 6, _ => zlay_X9_6
  | 7, _ => zlay_X9_7
  | k + 8, h => absurd h (by omega)
theorem zlay_X10_0 : u_lay RX10 TX10 0 ∈ zz_tbl := zz_in (List.mem_of_getElem? (i := 1061) (by decide +kernel)) rfl
theorem zlay_X10_1 : u_lay RX10 TX10 1 ∈ zz_tbl := zz_in (List.mem_of_getElem? (i := 1063) (by decide +kernel)) rfl
theorem zlay_X10_2 : u_lay RX10 TX10 2 ∈ zz_tbl := zz_in (List.mem_of_getElem? (i := 1065) (by decide +kernel)) rfl
theorem zlay_X10_3 : u_lay RX10 TX10 3 ∈ zz_tbl := zz_in (List.mem_of_getElem? (i := 1067) (by decide +kernel)) rfl
theorem zlay_X10_4 : u_lay RX10 TX10 4 ∈ zz_tbl := zz_in (List.mem_of_getElem? (i := 1069) (by decide +kernel)) rfl
theorem zlay_X10_5 : u_lay RX10 TX10 5 ∈ zz_tbl := zz_in (List.mem_of_getElem? (i := 1071) (by decide +kernel)) rfl
theorem zlay_X10_6 : u_lay RX10 TX10 6 ∈ zz_tbl := zz_in (List.mem_of_getElem? (i := 1073) (by decide +kernel)) rfl
theorem zlay_X10_7 : u_lay RX10 TX10 7 ∈ zz_tbl := zz_in (List.mem_of_getElem? (i := 1075) (by decide +kernel)) rfl
theorem zlay_X10_8 : u_lay RX10 TX10 8 ∈ zz_tbl := zz_in (List.mem_of_getElem? (i := 1077) (by decide +kernel)) rfl
theorem zlay_X10_9 : u_lay RX10 TX10 9 ∈ zz_tbl := zz_in (List.mem_of_getElem? (i := 1079) (by decide +kernel)) rfl
theorem zlay_X10_10 : u_lay RX10 TX10 10 ∈ zz_tbl := zz_in (List.mem_of_getElem? (i := 1081) (by decide +kernel)) rfl
theorem zlay_X10_11 : u_lay RX10 TX10 11 ∈ zz_tbl := zz_in (List.mem_of_getElem? (i := 1083) (by decide +kernel)) rfl
theorem zlay_X10_12 : u_lay RX10 TX10 12 ∈ zz_tbl := zz_in (List.mem_of_getElem? (i := 1085) (by decide +kernel)) rfl
theorem zlay_X10_13 : u_lay RX10 TX10 13 ∈ zz_tbl := zz_in (List.mem_of_getElem? (i := 1087) (by decide +kernel)) rfl
theorem zlay_X10_14 : u_lay RX10 TX10 14 ∈ zz_tbl := zz_in (List.mem_of_getElem? (i := 1089) (by decide +kernel)) rfl
theorem zlay_X10_15 : u_lay RX10 TX10 15 ∈ zz_tbl := zz_in (List.mem_of_getElem? (i := 1091) (by decide +kernel)) rfl
theorem zlay_X10_16 : u_lay RX10 TX10 16 ∈ zz_tbl := zz_in (List.mem_of_getElem? (i := 1093) (by decide +kernel)) rfl
theorem zlay_X10_17 : u_lay RX10 TX10 17 ∈ zz_tbl := zz_in (List.mem_of_getElem? (i := 1095) (by decide +kernel)) rfl
theorem zlay_X10_18 : u_lay RX10 TX10 18 ∈ zz_tbl := zz_in (List.mem_of_getElem? (i := 1097) (by decide +kernel)) rfl
theorem zlay_X10_19 : u_lay RX10 TX10 19 ∈ zz_tbl := zz_in (List.mem_of_getElem? (i := 1099) (by decide +kernel)) rfl
theorem zlay_X10_20 : u_lay RX10 TX10 20 ∈ zz_tbl := zz_in (List.mem_of_getElem? (i := 1101) (by decide +kernel)) rfl
theorem zlay_X10_21 : u_lay RX10 TX10 21 ∈ zz_tbl := zz_in (List.mem_of_getElem? (i := 1103) (by decide +kernel)) rfl
theorem zlay_X10_22 : u_lay RX10 TX10 22 ∈ zz_tbl := zz_in (List.mem_of_getElem? (i := 1105) (by decide +kernel)) rfl
theorem zlay_X10_23 : u_lay RX10 TX10 23 ∈ zz_tbl := zz_in (List.mem_of_getElem? (i := 1107) (by decide +kernel)) rfl
theorem zlay_X10_24 : u_lay RX10 TX10 24 ∈ zz_tbl := zz_in (List.mem_of_getElem? (i := 1109) (by decide +kernel)) rfl
theorem zlay_X10_25 : u_lay RX10 TX10 25 ∈ zz_tbl := zz_in (List.mem_of_getElem? (i := 1111) (by decide +kernel)) rfl
theorem zlay_X10_26 : u_lay RX10 TX10 26 ∈ zz_tbl := zz_in (List.mem_of_getElem? (i := 1113) (by decide +kernel)) rfl
theorem zlay_X10_27 : u_lay RX10 TX10 27 ∈ zz_tbl := zz_in (List.mem_of_getElem? (i := 1115) (by decide +kernel)) rfl
theorem zlay_X10_28 : u_lay RX10 TX10 28 ∈ zz_tbl := zz_in (List.mem_of_getElem? (i := 1117) (by decide +kernel)) rfl
theorem zlay_X10_29 : u_lay RX10 TX10 29 ∈ zz_tbl := zz_in (List.mem_of_getElem? (i := 1119) (by decide +kernel)) rfl
theorem zin_X10 : ∀ w ∈ u_ws RX10 TX10 30, w ∈ zz_tbl := by
  intro w hw
  obtain ⟨k, hk, rfl⟩ := List.mem_map.mp hw
  exact match k, List.mem_range.mp hk with
  | 0, _ => zlay_X10_0
  | 1, _ => zlay_X10_1
  | 2, _ => zlay_X10_2
  | 3, _ => zlay_X10_3
  | 4, _ => zlay_X10_4
  | 5, _ => zlay_X10_5
  | 6, _ => zlay_X10_6
  | 7, _ => zlay_X10_7
  | 8, _ => zlay_X10_8
  | 9, _ => zlay_X10_9
  | 10, _ => zlay_X10_10
  | 11, _ => zlay_X10_11
  | 12, _ => zlay_X10_12
  | 13, _ => zlay_X10_13
  | 14, _ => zlay_X10_14
  | 15, _ => zlay_X10_15
  | 16, _ => zlay_X10_16
  | 17, _ => zlay_X10_17
  | 18, _ => zlay_X10_18
  | 19, _ => zlay_X10_19
  | 20, _ => zlay_X10_20
  | 21, _ => zlay_X10_21
  | 22, _ => zlay_X10_22
  | 23, _ => zlay_X10_23
  | 24, _ => zlay_X10_24
  | 25, _ => zlay_X10_25
  | 26, _ => zlay_X10_26
  | 27, _ => zlay_X10_27
  | 28, _ => zlay_X10_28
  | 29, _ => zlay_X10_29
  | k + 30, h => absurd h (by omega)
theorem zl_X9_10 : Cond.fieldLink RX9 10 (TX9 0).1 (TX9 0).2.1 (TX9 0).2.2.1 ∈ zz_tbl := zz_in (List.mem_of_getElem? (i := 377) (by decide +kernel)) rfl
theorem zf_X9_10 : zz_F RX9 10 8 8 0 := ⟨by decide, RX9, TX9, rfl, zin_X9, by decide, zl_X9_10⟩
theorem zp_X9_10 : zz_Fp RX9 10 8 8 0 (.object "SplitBehind$Tape") true := ⟨by decide, RX9, TX9, tyX9, rfl, zin_X9, tyX9_ok, nmX9, by decide, zl_X9_10, rfl, by decide +kernel, rfl⟩
theorem zl_X9_19 : Cond.fieldLink RX9 19 (TX9 1).1 (TX9 1).2.1 (TX9 1).2.2.1 ∈ zz_tbl := zz_in (List.mem_of_getElem? (i := 378) (by decide +kernel)) rfl
theorem zf_X9_19 : zz_F RX9 19 8 8 1 := ⟨by decide, RX9, TX9, rfl, zin_X9, by decide, zl_X9_19⟩
theorem zp_X9_19 : zz_Fp RX9 19 8 8 1 (.object "SplitBehind$LawReader") true := ⟨by decide, RX9, TX9, tyX9, rfl, zin_X9, tyX9_ok, nmX9, by decide, zl_X9_19, rfl, by decide +kernel, rfl⟩
theorem zl_X9_26 : Cond.fieldLink RX9 26 (TX9 2).1 (TX9 2).2.1 (TX9 2).2.2.1 ∈ zz_tbl := zz_in (List.mem_of_getElem? (i := 379) (by decide +kernel)) rfl
theorem zf_X9_26 : zz_F RX9 26 8 8 2 := ⟨by decide, RX9, TX9, rfl, zin_X9, by decide, zl_X9_26⟩
theorem zp_X9_26 : zz_Fp RX9 26 8 8 2 (.object "SplitBehind$Steps") true := ⟨by decide, RX9, TX9, tyX9, rfl, zin_X9, tyX9_ok, nmX9, by decide, zl_X9_26, rfl, by decide +kernel, rfl⟩
theorem zl_X9_33 : Cond.fieldLink RX9 33 (TX9 3).1 (TX9 3).2.1 (TX9 3).2.2.1 ∈ zz_tbl := zz_in (List.mem_of_getElem? (i := 380) (by decide +kernel)) rfl
theorem zf_X9_33 : zz_F RX9 33 8 8 3 := ⟨by decide, RX9, TX9, rfl, zin_X9, by decide, zl_X9_33⟩
theorem zp_X9_33 : zz_Fp RX9 33 8 8 3 (.object "SplitBehind$HashFile") true := ⟨by decide, RX9, TX9, tyX9, rfl, zin_X9, tyX9_ok, nmX9, by decide, zl_X9_33, rfl, by decide +kernel, rfl⟩
theorem zl_X9_37 : Cond.fieldLink RX9 37 (TX9 4).1 (TX9 4).2.1 (TX9 4).2.2.1 ∈ zz_tbl := zz_in (List.mem_of_getElem? (i := 381) (by decide +kernel)) rfl
theorem zf_X9_37 : zz_F RX9 37 8 8 4 := ⟨by decide, RX9, TX9, rfl, zin_X9, by decide, zl_X9_37⟩
theorem zp_X9_37 : zz_Fp RX9 37 8 8 4 (.object "SplitBehind$HashFile") true := ⟨by decide, RX9, TX9, tyX9, rfl, zin_X9, tyX9_ok, nmX9, by decide, zl_X9_37, rfl, by decide +kernel, rfl⟩
theorem zl_X9_40 : Cond.fieldLink RX9 40 (TX9 5).1 (TX9 5).2.1 (TX9 5).2.2.1 ∈ zz_tbl := zz_in (List.mem_of_getElem? (i := 382) (by decide +kernel)) rfl
theorem zf_X9_40 : zz_F RX9 40 8 8 5 := ⟨by decide, RX9, TX9, rfl, zin_X9, by decide, zl_X9_40⟩
theorem zp_X9_40 : zz_Fp RX9 40 8 8 5 (.object "SplitBehind$HashFile") true := ⟨by decide, RX9, TX9, tyX9, rfl, zin_X9, tyX9_ok, nmX9, by decide, zl_X9_40, rfl, by decide +kernel, rfl⟩
theorem zl_X9_43 : Cond.fieldLink RX9 43 (TX9 6).1 (TX9 6).2.1 (TX9 6).2.2.1 ∈ zz_tbl := zz_in (List.mem_of_getElem? (i := 383) (by decide +kernel)) rfl
theorem zf_X9_43 : zz_F RX9 43 8 8 6 := ⟨by decide, RX9, TX9, rfl, zin_X9, by decide, zl_X9_43⟩
theorem zp_X9_43 : zz_Fp RX9 43 8 8 6 (.array .int) true := ⟨by decide, RX9, TX9, tyX9, rfl, zin_X9, tyX9_ok, nmX9, by decide, zl_X9_43, rfl, by decide +kernel, rfl⟩
theorem zl_X9_47 : Cond.fieldLink RX9 47 (TX9 7).1 (TX9 7).2.1 (TX9 7).2.2.1 ∈ zz_tbl := zz_in (List.mem_of_getElem? (i := 384) (by decide +kernel)) rfl
theorem zf_X9_47 : zz_F RX9 47 8 8 7 := ⟨by decide, RX9, TX9, rfl, zin_X9, by decide, zl_X9_47⟩
theorem zp_X9_47 : zz_Fp RX9 47 8 8 7 (.boolean) false := ⟨by decide, RX9, TX9, tyX9, rfl, zin_X9, tyX9_ok, nmX9, by decide, zl_X9_47, rfl, by decide +kernel, rfl⟩
theorem zl_X9_59 : Cond.fieldLink RX9 59 (TX8 1).1 (TX8 1).2.1 (TX8 1).2.2.1 ∈ zz_tbl := zz_in (List.mem_of_getElem? (i := 120) (by decide +kernel)) rfl
theorem zf_X9_59 : zz_F RX9 59 7 5 1 := ⟨by decide, RX8, TX8, rfl, zin_X8, by decide, zl_X9_59⟩
theorem zl_X9_77 : Cond.fieldLink RX9 77 (TX2 2).1 (TX2 2).2.1 (TX2 2).2.2.1 ∈ zz_tbl := zz_in (List.mem_of_getElem? (i := 321) (by decide +kernel)) rfl
theorem zf_X9_77 : zz_F RX9 77 1 15 2 := ⟨by decide, RX2, TX2, rfl, zin_X2, by decide, zl_X9_77⟩
theorem zl_X9_81 : Cond.fieldLink RX9 81 (TX5 1).1 (TX5 1).2.1 (TX5 1).2.2.1 ∈ zz_tbl := zz_in (List.mem_of_getElem? (i := 283) (by decide +kernel)) rfl
theorem zf_X9_81 : zz_F RX9 81 4 2 1 := ⟨by decide, RX5, TX5, rfl, zin_X5, by decide, zl_X9_81⟩
theorem zl_X9_88 : Cond.fieldLink RX9 88 (TX2 0).1 (TX2 0).2.1 (TX2 0).2.2.1 ∈ zz_tbl := zz_in (List.mem_of_getElem? (i := 317) (by decide +kernel)) rfl
theorem zf_X9_88 : zz_F RX9 88 1 15 0 := ⟨by decide, RX2, TX2, rfl, zin_X2, by decide, zl_X9_88⟩
theorem zl_X9_92 : Cond.fieldLink RX9 92 (TX4 0).1 (TX4 0).2.1 (TX4 0).2.2.1 ∈ zz_tbl := zz_in (List.mem_of_getElem? (i := 145) (by decide +kernel)) rfl
theorem zf_X9_92 : zz_F RX9 92 3 6 0 := ⟨by decide, RX4, TX4, rfl, zin_X4, by decide, zl_X9_92⟩
theorem zl_X9_95 : Cond.fieldLink RX9 95 (TX4 1).1 (TX4 1).2.1 (TX4 1).2.2.1 ∈ zz_tbl := zz_in (List.mem_of_getElem? (i := 147) (by decide +kernel)) rfl
theorem zf_X9_95 : zz_F RX9 95 3 6 1 := ⟨by decide, RX4, TX4, rfl, zin_X4, by decide, zl_X9_95⟩
theorem zl_X9_103 : Cond.fieldLink RX9 103 (TX7 4).1 (TX7 4).2.1 (TX7 4).2.2.1 ∈ zz_tbl := zz_in (List.mem_of_getElem? (i := 180) (by decide +kernel)) rfl
theorem zf_X9_103 : zz_F RX9 103 6 5 4 := ⟨by decide, RX7, TX7, rfl, zin_X7, by decide, zl_X9_103⟩
theorem zl_X9_104 : Cond.fieldLink RX9 104 (TX7 0).1 (TX7 0).2.1 (TX7 0).2.2.1 ∈ zz_tbl := zz_in (List.mem_of_getElem? (i := 172) (by decide +kernel)) rfl
theorem zf_X9_104 : zz_F RX9 104 6 5 0 := ⟨by decide, RX7, TX7, rfl, zin_X7, by decide, zl_X9_104⟩
theorem zl_X9_107 : Cond.fieldLink RX9 107 (TX7 1).1 (TX7 1).2.1 (TX7 1).2.2.1 ∈ zz_tbl := zz_in (List.mem_of_getElem? (i := 174) (by decide +kernel)) rfl
theorem zf_X9_107 : zz_F RX9 107 6 5 1 := ⟨by decide, RX7, TX7, rfl, zin_X7, by decide, zl_X9_107⟩
theorem zl_X9_110 : Cond.fieldLink RX9 110 (TX7 2).1 (TX7 2).2.1 (TX7 2).2.2.1 ∈ zz_tbl := zz_in (List.mem_of_getElem? (i := 176) (by decide +kernel)) rfl
theorem zf_X9_110 : zz_F RX9 110 6 5 2 := ⟨by decide, RX7, TX7, rfl, zin_X7, by decide, zl_X9_110⟩
theorem zl_X9_113 : Cond.fieldLink RX9 113 (TX7 3).1 (TX7 3).2.1 (TX7 3).2.2.1 ∈ zz_tbl := zz_in (List.mem_of_getElem? (i := 178) (by decide +kernel)) rfl
theorem zf_X9_113 : zz_F RX9 113 6 5 3 := ⟨by decide, RX7, TX7, rfl, zin_X7, by decide, zl_X9_113⟩
theorem zl_X9_153 : Cond.fieldLink RX9 153 (TX2 4).1 (TX2 4).2.1 (TX2 4).2.2.1 ∈ zz_tbl := zz_in (List.mem_of_getElem? (i := 325) (by decide +kernel)) rfl
theorem zf_X9_153 : zz_F RX9 153 1 15 4 := ⟨by decide, RX2, TX2, rfl, zin_X2, by decide, zl_X9_153⟩
theorem zl_X9_156 : Cond.fieldLink RX9 156 (TX2 1).1 (TX2 1).2.1 (TX2 1).2.2.1 ∈ zz_tbl := zz_in (List.mem_of_getElem? (i := 319) (by decide +kernel)) rfl
theorem zf_X9_156 : zz_F RX9 156 1 15 1 := ⟨by decide, RX2, TX2, rfl, zin_X2, by decide, zl_X9_156⟩
theorem zl_X9_160 : Cond.fieldLink RX9 160 (TX0 11).1 (TX0 11).2.1 (TX0 11).2.2.1 ∈ zz_tbl := zz_in (List.mem_of_getElem? (i := 247) (by decide +kernel)) rfl
theorem zf_X9_160 : zz_F RX9 160 0 12 11 := ⟨by decide, RX0, TX0, rfl, zin_X0, by decide, zl_X9_160⟩
theorem zl_X9_165 : Cond.fieldLink RX9 165 (TX2 5).1 (TX2 5).2.1 (TX2 5).2.2.1 ∈ zz_tbl := zz_in (List.mem_of_getElem? (i := 327) (by decide +kernel)) rfl
theorem zf_X9_165 : zz_F RX9 165 1 15 5 := ⟨by decide, RX2, TX2, rfl, zin_X2, by decide, zl_X9_165⟩
theorem zl_X9_168 : Cond.fieldLink RX9 168 (TX2 6).1 (TX2 6).2.1 (TX2 6).2.2.1 ∈ zz_tbl := zz_in (List.mem_of_getElem? (i := 329) (by decide +kernel)) rfl
theorem zf_X9_168 : zz_F RX9 168 1 15 6 := ⟨by decide, RX2, TX2, rfl, zin_X2, by decide, zl_X9_168⟩
theorem zl_X9_171 : Cond.fieldLink RX9 171 (TX2 7).1 (TX2 7).2.1 (TX2 7).2.2.1 ∈ zz_tbl := zz_in (List.mem_of_getElem? (i := 331) (by decide +kernel)) rfl
theorem zf_X9_171 : zz_F RX9 171 1 15 7 := ⟨by decide, RX2, TX2, rfl, zin_X2, by decide, zl_X9_171⟩
theorem zl_X9_174 : Cond.fieldLink RX9 174 (TX2 8).1 (TX2 8).2.1 (TX2 8).2.2.1 ∈ zz_tbl := zz_in (List.mem_of_getElem? (i := 333) (by decide +kernel)) rfl
theorem zf_X9_174 : zz_F RX9 174 1 15 8 := ⟨by decide, RX2, TX2, rfl, zin_X2, by decide, zl_X9_174⟩
theorem zl_X9_177 : Cond.fieldLink RX9 177 (TX2 9).1 (TX2 9).2.1 (TX2 9).2.2.1 ∈ zz_tbl := zz_in (List.mem_of_getElem? (i := 335) (by decide +kernel)) rfl
theorem zf_X9_177 : zz_F RX9 177 1 15 9 := ⟨by decide, RX2, TX2, rfl, zin_X2, by decide, zl_X9_177⟩
theorem zl_X9_189 : Cond.fieldLink RX9 189 (TX2 10).1 (TX2 10).2.1 (TX2 10).2.2.1 ∈ zz_tbl := zz_in (List.mem_of_getElem? (i := 337) (by decide +kernel)) rfl
theorem zf_X9_189 : zz_F RX9 189 1 15 10 := ⟨by decide, RX2, TX2, rfl, zin_X2, by decide, zl_X9_189⟩
theorem zl_X9_192 : Cond.fieldLink RX9 192 (TX2 11).1 (TX2 11).2.1 (TX2 11).2.2.1 ∈ zz_tbl := zz_in (List.mem_of_getElem? (i := 339) (by decide +kernel)) rfl
theorem zf_X9_192 : zz_F RX9 192 1 15 11 := ⟨by decide, RX2, TX2, rfl, zin_X2, by decide, zl_X9_192⟩
theorem zl_X9_201 : Cond.fieldLink RX9 201 (TX2 12).1 (TX2 12).2.1 (TX2 12).2.2.1 ∈ zz_tbl := zz_in (List.mem_of_getElem? (i := 341) (by decide +kernel)) rfl
theorem zf_X9_201 : zz_F RX9 201 1 15 12 := ⟨by decide, RX2, TX2, rfl, zin_X2, by decide, zl_X9_201⟩
theorem zl_X9_204 : Cond.fieldLink RX9 204 (TX2 13).1 (TX2 13).2.1 (TX2 13).2.2.1 ∈ zz_tbl := zz_in (List.mem_of_getElem? (i := 343) (by decide +kernel)) rfl
theorem zf_X9_204 : zz_F RX9 204 1 15 13 := ⟨by decide, RX2, TX2, rfl, zin_X2, by decide, zl_X9_204⟩
theorem zl_X9_237 : Cond.fieldLink RX9 237 (TX0 7).1 (TX0 7).2.1 (TX0 7).2.2.1 ∈ zz_tbl := zz_in (List.mem_of_getElem? (i := 234) (by decide +kernel)) rfl
theorem zf_X9_237 : zz_F RX9 237 0 12 7 := ⟨by decide, RX0, TX0, rfl, zin_X0, by decide, zl_X9_237⟩
theorem zl_X9_240 : Cond.fieldLink RX9 240 (TX0 8).1 (TX0 8).2.1 (TX0 8).2.2.1 ∈ zz_tbl := zz_in (List.mem_of_getElem? (i := 238) (by decide +kernel)) rfl
theorem zf_X9_240 : zz_F RX9 240 0 12 8 := ⟨by decide, RX0, TX0, rfl, zin_X0, by decide, zl_X9_240⟩
theorem zl_X9_243 : Cond.fieldLink RX9 243 (TX0 0).1 (TX0 0).2.1 (TX0 0).2.2.1 ∈ zz_tbl := zz_in (List.mem_of_getElem? (i := 221) (by decide +kernel)) rfl
theorem zf_X9_243 : zz_F RX9 243 0 12 0 := ⟨by decide, RX0, TX0, rfl, zin_X0, by decide, zl_X9_243⟩
theorem zl_X9_246 : Cond.fieldLink RX9 246 (TX0 2).1 (TX0 2).2.1 (TX0 2).2.2.1 ∈ zz_tbl := zz_in (List.mem_of_getElem? (i := 226) (by decide +kernel)) rfl
theorem zf_X9_246 : zz_F RX9 246 0 12 2 := ⟨by decide, RX0, TX0, rfl, zin_X0, by decide, zl_X9_246⟩
theorem zl_X9_249 : Cond.fieldLink RX9 249 (TX0 4).1 (TX0 4).2.1 (TX0 4).2.2.1 ∈ zz_tbl := zz_in (List.mem_of_getElem? (i := 230) (by decide +kernel)) rfl
theorem zf_X9_249 : zz_F RX9 249 0 12 4 := ⟨by decide, RX0, TX0, rfl, zin_X0, by decide, zl_X9_249⟩
theorem zl_X9_259 : Cond.fieldLink RX9 259 (TX0 1).1 (TX0 1).2.1 (TX0 1).2.2.1 ∈ zz_tbl := zz_in (List.mem_of_getElem? (i := 224) (by decide +kernel)) rfl
theorem zf_X9_259 : zz_F RX9 259 0 12 1 := ⟨by decide, RX0, TX0, rfl, zin_X0, by decide, zl_X9_259⟩
theorem zl_X9_271 : Cond.fieldLink RX9 271 (TX0 10).1 (TX0 10).2.1 (TX0 10).2.2.1 ∈ zz_tbl := zz_in (List.mem_of_getElem? (i := 243) (by decide +kernel)) rfl
theorem zf_X9_271 : zz_F RX9 271 0 12 10 := ⟨by decide, RX0, TX0, rfl, zin_X0, by decide, zl_X9_271⟩
theorem zl_X9_274 : Cond.fieldLink RX9 274 (TX0 9).1 (TX0 9).2.1 (TX0 9).2.2.1 ∈ zz_tbl := zz_in (List.mem_of_getElem? (i := 240) (by decide +kernel)) rfl
theorem zf_X9_274 : zz_F RX9 274 0 12 9 := ⟨by decide, RX0, TX0, rfl, zin_X0, by decide, zl_X9_274⟩
theorem zl_X9_348 : Cond.fieldLink RX9 348 (TX2 3).1 (TX2 3).2.1 (TX2 3).2.2.1 ∈ zz_tbl := zz_in (List.mem_of_getElem? (i := 323) (by decide +kernel)) rfl
theorem zf_X9_348 : zz_F RX9 348 1 15 3 := ⟨by decide, RX2, TX2, rfl, zin_X2, by decide, zl_X9_348⟩
theorem zl_X9_363 : Cond.fieldLink RX9 363 (TX6 1).1 (TX6 1).2.1 (TX6 1).2.2.1 ∈ zz_tbl := zz_in (List.mem_of_getElem? (i := 301) (by decide +kernel)) rfl
theorem zf_X9_363 : zz_F RX9 363 5 2 1 := ⟨by decide, RX6, TX6, rfl, zin_X6, by decide, zl_X9_363⟩
theorem zl_X9_369 : Cond.fieldLink RX9 369 (TX6 0).1 (TX6 0).2.1 (TX6 0).2.2.1 ∈ zz_tbl := zz_in (List.mem_of_getElem? (i := 299) (by decide +kernel)) rfl
theorem zf_X9_369 : zz_F RX9 369 5 2 0 := ⟨by decide, RX6, TX6, rfl, zin_X6, by decide, zl_X9_369⟩
theorem zl_X9_375 : Cond.fieldLink RX9 375 (TX2 14).1 (TX2 14).2.1 (TX2 14).2.2.1 ∈ zz_tbl := zz_in (List.mem_of_getElem? (i := 345) (by decide +kernel)) rfl
theorem zf_X9_375 : zz_F RX9 375 1 15 14 := ⟨by decide, RX2, TX2, rfl, zin_X2, by decide, zl_X9_375⟩
theorem zp_X9_375 : zz_Fq RX9 375 1 15 14 (.int) := ⟨by decide, RX2, TX2, tyX2, rfl, zin_X2, tyX2_ok, nmX2, by decide, zl_X9_375, rfl, by decide +kernel⟩
theorem zl_X9_378 : Cond.fieldLink RX9 378 (TX8 0).1 (TX8 0).2.1 (TX8 0).2.2.1 ∈ zz_tbl := zz_in (List.mem_of_getElem? (i := 118) (by decide +kernel)) rfl
theorem zf_X9_378 : zz_F RX9 378 7 5 0 := ⟨by decide, RX8, TX8, rfl, zin_X8, by decide, zl_X9_378⟩
theorem zl_X0_9 : Cond.fieldLink RX0 9 (TX0 0).1 (TX0 0).2.1 (TX0 0).2.2.1 ∈ zz_tbl := zz_in (List.mem_of_getElem? (i := 220) (by decide +kernel)) rfl
theorem zf_X0_9 : zz_F RX0 9 0 12 0 := ⟨by decide, RX0, TX0, rfl, zin_X0, by decide, zl_X0_9⟩
theorem zp_X0_9 : zz_Fp RX0 9 0 12 0 (.array .int) true := ⟨by decide, RX0, TX0, tyX0, rfl, zin_X0, tyX0_ok, nmX0, by decide, zl_X0_9, rfl, by decide +kernel, rfl⟩
theorem zl_X0_15 : Cond.fieldLink RX0 15 (TX0 1).1 (TX0 1).2.1 (TX0 1).2.2.1 ∈ zz_tbl := zz_in (List.mem_of_getElem? (i := 222) (by decide +kernel)) rfl
theorem zf_X0_15 : zz_F RX0 15 0 12 1 := ⟨by decide, RX0, TX0, rfl, zin_X0, by decide, zl_X0_15⟩
theorem zp_X0_15 : zz_Fp RX0 15 0 12 1 (.array .int) true := ⟨by decide, RX0, TX0, tyX0, rfl, zin_X0, tyX0_ok, nmX0, by decide, zl_X0_15, rfl, by decide +kernel, rfl⟩
theorem zl_X0_18 : Cond.fieldLink RX0 18 (TX0 2).1 (TX0 2).2.1 (TX0 2).2.2.1 ∈ zz_tbl := zz_in (List.mem_of_getElem? (i := 225) (by decide +kernel)) rfl
theorem zf_X0_18 : zz_F RX0 18 0 12 2 := ⟨by decide, RX0, TX0, rfl, zin_X0, by decide, zl_X0_18⟩
theorem zp_X0_18 : zz_Fp RX0 18 0 12 2 (.array .int) true := ⟨by decide, RX0, TX0, tyX0, rfl, zin_X0, tyX0_ok, nmX0, by decide, zl_X0_18, rfl, by decide +kernel, rfl⟩
theorem zl_X0_21 : Cond.fieldLink RX0 21 (TX0 3).1 (TX0 3).2.1 (TX0 3).2.2.1 ∈ zz_tbl := zz_in (List.mem_of_getElem? (i := 227) (by decide +kernel)) rfl
theorem zf_X0_21 : zz_F RX0 21 0 12 3 := ⟨by decide, RX0, TX0, rfl, zin_X0, by decide, zl_X0_21⟩
theorem zp_X0_21 : zz_Fp RX0 21 0 12 3 (.array .int) true := ⟨by decide, RX0, TX0, tyX0, rfl, zin_X0, tyX0_ok, nmX0, by decide, zl_X0_21, rfl, by decide +kernel, rfl⟩
theorem zl_X0_24 : Cond.fieldLink RX0 24 (TX0 4).1 (TX0 4).2.1 (TX0 4).2.2.1 ∈ zz_tbl := zz_in (List.mem_of_getElem? (i := 228) (by decide +kernel)) rfl
theorem zf_X0_24 : zz_F RX0 24 0 12 4 := ⟨by decide, RX0, TX0, rfl, zin_X0, by decide, zl_X0_24⟩
theorem zp_X0_24 : zz_Fp RX0 24 0 12 4 (.array .long) true := ⟨by decide, RX0, TX0, tyX0, rfl, zin_X0, tyX0_ok, nmX0, by decide, zl_X0_24, rfl, by decide +kernel, rfl⟩
theorem zl_X0_28 : Cond.fieldLink RX0 28 (TX0 5).1 (TX0 5).2.1 (TX0 5).2.2.1 ∈ zz_tbl := zz_in (List.mem_of_getElem? (i := 231) (by decide +kernel)) rfl
theorem zf_X0_28 : zz_F RX0 28 0 12 5 := ⟨by decide, RX0, TX0, rfl, zin_X0, by decide, zl_X0_28⟩
theorem zp_X0_28 : zz_Fp RX0 28 0 12 5 (.array .int) true := ⟨by decide, RX0, TX0, tyX0, rfl, zin_X0, tyX0_ok, nmX0, by decide, zl_X0_28, rfl, by decide +kernel, rfl⟩
theorem zl_X0_31 : Cond.fieldLink RX0 31 (TX0 6).1 (TX0 6).2.1 (TX0 6).2.2.1 ∈ zz_tbl := zz_in (List.mem_of_getElem? (i := 232) (by decide +kernel)) rfl
theorem zf_X0_31 : zz_F RX0 31 0 12 6 := ⟨by decide, RX0, TX0, rfl, zin_X0, by decide, zl_X0_31⟩
theorem zp_X0_31 : zz_Fp RX0 31 0 12 6 (.array .int) true := ⟨by decide, RX0, TX0, tyX0, rfl, zin_X0, tyX0_ok, nmX0, by decide, zl_X0_31, rfl, by decide +kernel, rfl⟩
theorem zl_X0_34 : Cond.fieldLink RX0 34 (TX0 7).1 (TX0 7).2.1 (TX0 7).2.2.1 ∈ zz_tbl := zz_in (List.mem_of_getElem? (i := 233) (by decide +kernel)) rfl
theorem zf_X0_34 : zz_F RX0 34 0 12 7 := ⟨by decide, RX0, TX0, rfl, zin_X0, by decide, zl_X0_34⟩
theorem zp_X0_34 : zz_Fp RX0 34 0 12 7 (.array .int) true := ⟨by decide, RX0, TX0, tyX0, rfl, zin_X0, tyX0_ok, nmX0, by decide, zl_X0_34, rfl, by decide +kernel, rfl⟩
theorem zl_X0_37 : Cond.fieldLink RX0 37 (TX0 8).1 (TX0 8).2.1 (TX0 8).2.2.1 ∈ zz_tbl := zz_in (List.mem_of_getElem? (i := 236) (by decide +kernel)) rfl
theorem zf_X0_37 : zz_F RX0 37 0 12 8 := ⟨by decide, RX0, TX0, rfl, zin_X0, by decide, zl_X0_37⟩
theorem zp_X0_37 : zz_Fp RX0 37 0 12 8 (.array .int) true := ⟨by decide, RX0, TX0, tyX0, rfl, zin_X0, tyX0_ok, nmX0, by decide, zl_X0_37, rfl, by decide +kernel, rfl⟩
theorem zl_X0_40 : Cond.fieldLink RX0 40 (TX0 9).1 (TX0 9).2.1 (TX0 9).2.2.1 ∈ zz_tbl := zz_in (List.mem_of_getElem? (i := 239) (by decide +kernel)) rfl
theorem zf_X0_40 : zz_F RX0 40 0 12 9 := ⟨by decide, RX0, TX0, rfl, zin_X0, by decide, zl_X0_40⟩
theorem zp_X0_40 : zz_Fp RX0 40 0 12 9 (.array .long) true := ⟨by decide, RX0, TX0, tyX0, rfl, zin_X0, tyX0_ok, nmX0, by decide, zl_X0_40, rfl, by decide +kernel, rfl⟩
theorem zl_X0_43 : Cond.fieldLink RX0 43 (TX0 10).1 (TX0 10).2.1 (TX0 10).2.2.1 ∈ zz_tbl := zz_in (List.mem_of_getElem? (i := 242) (by decide +kernel)) rfl
theorem zf_X0_43 : zz_F RX0 43 0 12 10 := ⟨by decide, RX0, TX0, rfl, zin_X0, by decide, zl_X0_43⟩
theorem zp_X0_43 : zz_Fp RX0 43 0 12 10 (.int) false := ⟨by decide, RX0, TX0, tyX0, rfl, zin_X0, tyX0_ok, nmX0, by decide, zl_X0_43, rfl, by decide +kernel, rfl⟩
theorem zl_X0_47 : Cond.fieldLink RX0 47 (TX0 11).1 (TX0 11).2.1 (TX0 11).2.2.1 ∈ zz_tbl := zz_in (List.mem_of_getElem? (i := 245) (by decide +kernel)) rfl
theorem zf_X0_47 : zz_F RX0 47 0 12 11 := ⟨by decide, RX0, TX0, rfl, zin_X0, by decide, zl_X0_47⟩
theorem zp_X0_47 : zz_Fp RX0 47 0 12 11 (.int) false := ⟨by decide, RX0, TX0, tyX0, rfl, zin_X0, tyX0_ok, nmX0, by decide, zl_X0_47, rfl, by decide +kernel, rfl⟩
theorem zl_X2_12 : Cond.fieldLink RX2 12 (TX2 0).1 (TX2 0).2.1 (TX2 0).2.2.1 ∈ zz_tbl := zz_in (List.mem_of_getElem? (i := 316) (by decide +kernel)) rfl
theorem zf_X2_12 : zz_F RX2 12 1 15 0 := ⟨by decide, RX2, TX2, rfl, zin_X2, by decide, zl_X2_12⟩
theorem zp_X2_12 : zz_Fp RX2 12 1 15 0 (.object "SplitBehind$Law") true := ⟨by decide, RX2, TX2, tyX2, rfl, zin_X2, tyX2_ok, nmX2, by decide, zl_X2_12, rfl, by decide +kernel, rfl⟩
theorem zl_X2_21 : Cond.fieldLink RX2 21 (TX2 1).1 (TX2 1).2.1 (TX2 1).2.2.1 ∈ zz_tbl := zz_in (List.mem_of_getElem? (i := 318) (by decide +kernel)) rfl
theorem zf_X2_21 : zz_F RX2 21 1 15 1 := ⟨by decide, RX2, TX2, rfl, zin_X2, by decide, zl_X2_21⟩
theorem zp_X2_21 : zz_Fp RX2 21 1 15 1 (.object "SplitBehind$Chains") true := ⟨by decide, RX2, TX2, tyX2, rfl, zin_X2, tyX2_ok, nmX2, by decide, zl_X2_21, rfl, by decide +kernel, rfl⟩
theorem zl_X2_28 : Cond.fieldLink RX2 28 (TX2 2).1 (TX2 2).2.1 (TX2 2).2.2.1 ∈ zz_tbl := zz_in (List.mem_of_getElem? (i := 320) (by decide +kernel)) rfl
theorem zf_X2_28 : zz_F RX2 28 1 15 2 := ⟨by decide, RX2, TX2, rfl, zin_X2, by decide, zl_X2_28⟩
theorem zp_X2_28 : zz_Fp RX2 28 1 15 2 (.object "SplitBehind$Order") true := ⟨by decide, RX2, TX2, tyX2, rfl, zin_X2, tyX2_ok, nmX2, by decide, zl_X2_28, rfl, by decide +kernel, rfl⟩
theorem zl_X2_35 : Cond.fieldLink RX2 35 (TX2 3).1 (TX2 3).2.1 (TX2 3).2.2.1 ∈ zz_tbl := zz_in (List.mem_of_getElem? (i := 322) (by decide +kernel)) rfl
theorem zf_X2_35 : zz_F RX2 35 1 15 3 := ⟨by decide, RX2, TX2, rfl, zin_X2, by decide, zl_X2_35⟩
theorem zp_X2_35 : zz_Fp RX2 35 1 15 3 (.object "SplitBehind$Scans") true := ⟨by decide, RX2, TX2, tyX2, rfl, zin_X2, tyX2_ok, nmX2, by decide, zl_X2_35, rfl, by decide +kernel, rfl⟩
theorem zl_X2_39 : Cond.fieldLink RX2 39 (TX2 4).1 (TX2 4).2.1 (TX2 4).2.2.1 ∈ zz_tbl := zz_in (List.mem_of_getElem? (i := 324) (by decide +kernel)) rfl
theorem zf_X2_39 : zz_F RX2 39 1 15 4 := ⟨by decide, RX2, TX2, rfl, zin_X2, by decide, zl_X2_39⟩
theorem zp_X2_39 : zz_Fp RX2 39 1 15 4 (.int) false := ⟨by decide, RX2, TX2, tyX2, rfl, zin_X2, tyX2_ok, nmX2, by decide, zl_X2_39, rfl, by decide +kernel, rfl⟩
theorem zl_X2_43 : Cond.fieldLink RX2 43 (TX2 5).1 (TX2 5).2.1 (TX2 5).2.2.1 ∈ zz_tbl := zz_in (List.mem_of_getElem? (i := 326) (by decide +kernel)) rfl
theorem zf_X2_43 : zz_F RX2 43 1 15 5 := ⟨by decide, RX2, TX2, rfl, zin_X2, by decide, zl_X2_43⟩
theorem zp_X2_43 : zz_Fp RX2 43 1 15 5 (.int) false := ⟨by decide, RX2, TX2, tyX2, rfl, zin_X2, tyX2_ok, nmX2, by decide, zl_X2_43, rfl, by decide +kernel, rfl⟩
theorem zl_X2_46 : Cond.fieldLink RX2 46 (TX2 6).1 (TX2 6).2.1 (TX2 6).2.2.1 ∈ zz_tbl := zz_in (List.mem_of_getElem? (i := 328) (by decide +kernel)) rfl
theorem zf_X2_46 : zz_F RX2 46 1 15 6 := ⟨by decide, RX2, TX2, rfl, zin_X2, by decide, zl_X2_46⟩
theorem zp_X2_46 : zz_Fp RX2 46 1 15 6 (.int) false := ⟨by decide, RX2, TX2, tyX2, rfl, zin_X2, tyX2_ok, nmX2, by decide, zl_X2_46, rfl, by decide +kernel, rfl⟩
theorem zl_X2_49 : Cond.fieldLink RX2 49 (TX2 7).1 (TX2 7).2.1 (TX2 7).2.2.1 ∈ zz_tbl := zz_in (List.mem_of_getElem? (i := 330) (by decide +kernel)) rfl
theorem zf_X2_49 : zz_F RX2 49 1 15 7 := ⟨by decide, RX2, TX2, rfl, zin_X2, by decide, zl_X2_49⟩
theorem zp_X2_49 : zz_Fp RX2 49 1 15 7 (.int) false := ⟨by decide, RX2, TX2, tyX2, rfl, zin_X2, tyX2_ok, nmX2, by decide, zl_X2_49, rfl, by decide +kernel, rfl⟩
theorem zl_X2_52 : Cond.fieldLink RX2 52 (TX2 8).1 (TX2 8).2.1 (TX2 8).2.2.1 ∈ zz_tbl := zz_in (List.mem_of_getElem? (i := 332) (by decide +kernel)) rfl
theorem zf_X2_52 : zz_F RX2 52 1 15 8 := ⟨by decide, RX2, TX2, rfl, zin_X2, by decide, zl_X2_52⟩
theorem zp_X2_52 : zz_Fp RX2 52 1 15 8 (.int) false := ⟨by decide, RX2, TX2, tyX2, rfl, zin_X2, tyX2_ok, nmX2, by decide, zl_X2_52, rfl, by decide +kernel, rfl⟩
theorem zl_X2_55 : Cond.fieldLink RX2 55 (TX2 9).1 (TX2 9).2.1 (TX2 9).2.2.1 ∈ zz_tbl := zz_in (List.mem_of_getElem? (i := 334) (by decide +kernel)) rfl
theorem zf_X2_55 : zz_F RX2 55 1 15 9 := ⟨by decide, RX2, TX2, rfl, zin_X2, by decide, zl_X2_55⟩
theorem zp_X2_55 : zz_Fp RX2 55 1 15 9 (.int) false := ⟨by decide, RX2, TX2, tyX2, rfl, zin_X2, tyX2_ok, nmX2, by decide, zl_X2_55, rfl, by decide +kernel, rfl⟩
theorem zl_X2_58 : Cond.fieldLink RX2 58 (TX2 10).1 (TX2 10).2.1 (TX2 10).2.2.1 ∈ zz_tbl := zz_in (List.mem_of_getElem? (i := 336) (by decide +kernel)) rfl
theorem zf_X2_58 : zz_F RX2 58 1 15 10 := ⟨by decide, RX2, TX2, rfl, zin_X2, by decide, zl_X2_58⟩
theorem zp_X2_58 : zz_Fp RX2 58 1 15 10 (.int) false := ⟨by decide, RX2, TX2, tyX2, rfl, zin_X2, tyX2_ok, nmX2, by decide, zl_X2_58, rfl, by decide +kernel, rfl⟩
theorem zl_X2_61 : Cond.fieldLink RX2 61 (TX2 11).1 (TX2 11).2.1 (TX2 11).2.2.1 ∈ zz_tbl := zz_in (List.mem_of_getElem? (i := 338) (by decide +kernel)) rfl
theorem zf_X2_61 : zz_F RX2 61 1 15 11 := ⟨by decide, RX2, TX2, rfl, zin_X2, by decide, zl_X2_61⟩
theorem zp_X2_61 : zz_Fp RX2 61 1 15 11 (.int) false := ⟨by decide, RX2, TX2, tyX2, rfl, zin_X2, tyX2_ok, nmX2, by decide, zl_X2_61, rfl, by decide +kernel, rfl⟩
theorem zl_X2_64 : Cond.fieldLink RX2 64 (TX2 12).1 (TX2 12).2.1 (TX2 12).2.2.1 ∈ zz_tbl := zz_in (List.mem_of_getElem? (i := 340) (by decide +kernel)) rfl
theorem zf_X2_64 : zz_F RX2 64 1 15 12 := ⟨by decide, RX2, TX2, rfl, zin_X2, by decide, zl_X2_64⟩
theorem zp_X2_64 : zz_Fp RX2 64 1 15 12 (.int) false := ⟨by decide, RX2, TX2, tyX2, rfl, zin_X2, tyX2_ok, nmX2, by decide, zl_X2_64, rfl, by decide +kernel, rfl⟩
theorem zl_X2_67 : Cond.fieldLink RX2 67 (TX2 13).1 (TX2 13).2.1 (TX2 13).2.2.1 ∈ zz_tbl := zz_in (List.mem_of_getElem? (i := 342) (by decide +kernel)) rfl
theorem zf_X2_67 : zz_F RX2 67 1 15 13 := ⟨by decide, RX2, TX2, rfl, zin_X2, by decide, zl_X2_67⟩
theorem zp_X2_67 : zz_Fp RX2 67 1 15 13 (.int) false := ⟨by decide, RX2, TX2, tyX2, rfl, zin_X2, tyX2_ok, nmX2, by decide, zl_X2_67, rfl, by decide +kernel, rfl⟩
theorem zl_X2_70 : Cond.fieldLink RX2 70 (TX2 14).1 (TX2 14).2.1 (TX2 14).2.2.1 ∈ zz_tbl := zz_in (List.mem_of_getElem? (i := 344) (by decide +kernel)) rfl
theorem zf_X2_70 : zz_F RX2 70 1 15 14 := ⟨by decide, RX2, TX2, rfl, zin_X2, by decide, zl_X2_70⟩
theorem zp_X2_70 : zz_Fp RX2 70 1 15 14 (.int) false := ⟨by decide, RX2, TX2, tyX2, rfl, zin_X2, tyX2_ok, nmX2, by decide, zl_X2_70, rfl, by decide +kernel, rfl⟩
theorem zl_X2_77 : Cond.fieldLink RX2 77 (TX5 1).1 (TX5 1).2.1 (TX5 1).2.2.1 ∈ zz_tbl := zz_in (List.mem_of_getElem? (i := 282) (by decide +kernel)) rfl
theorem zf_X2_77 : zz_F RX2 77 4 2 1 := ⟨by decide, RX5, TX5, rfl, zin_X5, by decide, zl_X2_77⟩
theorem zp_X2_77 : zz_Fq RX2 77 4 2 1 (.int) := ⟨by decide, RX5, TX5, tyX5, rfl, zin_X5, tyX5_ok, nmX5, by decide, zl_X2_77, rfl, by decide +kernel⟩
theorem zl_X2_100 : Cond.fieldLink RX2 100 (TX0 11).1 (TX0 11).2.1 (TX0 11).2.2.1 ∈ zz_tbl := zz_in (List.mem_of_getElem? (i := 246) (by decide +kernel)) rfl
theorem zf_X2_100 : zz_F RX2 100 0 12 11 := ⟨by decide, RX0, TX0, rfl, zin_X0, by decide, zl_X2_100⟩
theorem zl_X2_135 : Cond.fieldLink RX2 135 (TX0 4).1 (TX0 4).2.1 (TX0 4).2.2.1 ∈ zz_tbl := zz_in (List.mem_of_getElem? (i := 229) (by decide +kernel)) rfl
theorem zf_X2_135 : zz_F RX2 135 0 12 4 := ⟨by decide, RX0, TX0, rfl, zin_X0, by decide, zl_X2_135⟩
theorem zl_X2_145 : Cond.fieldLink RX2 145 (TX0 8).1 (TX0 8).2.1 (TX0 8).2.2.1 ∈ zz_tbl := zz_in (List.mem_of_getElem? (i := 237) (by decide +kernel)) rfl
theorem zf_X2_145 : zz_F RX2 145 0 12 8 := ⟨by decide, RX0, TX0, rfl, zin_X0, by decide, zl_X2_145⟩
theorem zl_X2_149 : Cond.fieldLink RX2 149 (TX0 1).1 (TX0 1).2.1 (TX0 1).2.2.1 ∈ zz_tbl := zz_in (List.mem_of_getElem? (i := 223) (by decide +kernel)) rfl
theorem zf_X2_149 : zz_F RX2 149 0 12 1 := ⟨by decide, RX0, TX0, rfl, zin_X0, by decide, zl_X2_149⟩
theorem zl_X2_206 : Cond.fieldLink RX2 206 (TX0 10).1 (TX0 10).2.1 (TX0 10).2.2.1 ∈ zz_tbl := zz_in (List.mem_of_getElem? (i := 244) (by decide +kernel)) rfl
theorem zf_X2_206 : zz_F RX2 206 0 12 10 := ⟨by decide, RX0, TX0, rfl, zin_X0, by decide, zl_X2_206⟩
theorem zl_X2_209 : Cond.fieldLink RX2 209 (TX0 9).1 (TX0 9).2.1 (TX0 9).2.2.1 ∈ zz_tbl := zz_in (List.mem_of_getElem? (i := 241) (by decide +kernel)) rfl
theorem zf_X2_209 : zz_F RX2 209 0 12 9 := ⟨by decide, RX0, TX0, rfl, zin_X0, by decide, zl_X2_209⟩
theorem zl_X2_215 : Cond.fieldLink RX2 215 (TX0 7).1 (TX0 7).2.1 (TX0 7).2.2.1 ∈ zz_tbl := zz_in (List.mem_of_getElem? (i := 235) (by decide +kernel)) rfl
theorem zf_X2_215 : zz_F RX2 215 0 12 7 := ⟨by decide, RX0, TX0, rfl, zin_X0, by decide, zl_X2_215⟩
theorem zl_X3_11 : Cond.fieldLink RX3 11 (TX3 0).1 (TX3 0).2.1 (TX3 0).2.2.1 ∈ zz_tbl := zz_in (List.mem_of_getElem? (i := 204) (by decide +kernel)) rfl
theorem zf_X3_11 : zz_F RX3 11 2 3 0 := ⟨by decide, RX3, TX3, rfl, zin_X3, by decide, zl_X3_11⟩
theorem zp_X3_11 : zz_Fp RX3 11 2 3 0 (.array .int) true := ⟨by decide, RX3, TX3, tyX3, rfl, zin_X3, tyX3_ok, nmX3, by decide, zl_X3_11, rfl, by decide +kernel, rfl⟩
theorem zl_X3_17 : Cond.fieldLink RX3 17 (TX3 1).1 (TX3 1).2.1 (TX3 1).2.2.1 ∈ zz_tbl := zz_in (List.mem_of_getElem? (i := 205) (by decide +kernel)) rfl
theorem zf_X3_17 : zz_F RX3 17 2 3 1 := ⟨by decide, RX3, TX3, rfl, zin_X3, by decide, zl_X3_17⟩
theorem zp_X3_17 : zz_Fp RX3 17 2 3 1 (.array .int) true := ⟨by decide, RX3, TX3, tyX3, rfl, zin_X3, tyX3_ok, nmX3, by decide, zl_X3_17, rfl, by decide +kernel, rfl⟩
theorem zl_X3_20 : Cond.fieldLink RX3 20 (TX3 2).1 (TX3 2).2.1 (TX3 2).2.2.1 ∈ zz_tbl := zz_in (List.mem_of_getElem? (i := 206) (by decide +kernel)) rfl
theorem zf_X3_20 : zz_F RX3 20 2 3 2 := ⟨by decide, RX3, TX3, rfl, zin_X3, by decide, zl_X3_20⟩
theorem zp_X3_20 : zz_Fp RX3 20 2 3 2 (.int) false := ⟨by decide, RX3, TX3, tyX3, rfl, zin_X3, tyX3_ok, nmX3, by decide, zl_X3_20, rfl, by decide +kernel, rfl⟩
theorem zl_X4_11 : Cond.fieldLink RX4 11 (TX4 0).1 (TX4 0).2.1 (TX4 0).2.2.1 ∈ zz_tbl := zz_in (List.mem_of_getElem? (i := 144) (by decide +kernel)) rfl
theorem zf_X4_11 : zz_F RX4 11 3 6 0 := ⟨by decide, RX4, TX4, rfl, zin_X4, by decide, zl_X4_11⟩
theorem zp_X4_11 : zz_Fp RX4 11 3 6 0 (.array .int) true := ⟨by decide, RX4, TX4, tyX4, rfl, zin_X4, tyX4_ok, nmX4, by decide, zl_X4_11, rfl, by decide +kernel, rfl⟩
theorem zl_X4_15 : Cond.fieldLink RX4 15 (TX4 1).1 (TX4 1).2.1 (TX4 1).2.2.1 ∈ zz_tbl := zz_in (List.mem_of_getElem? (i := 146) (by decide +kernel)) rfl
theorem zf_X4_15 : zz_F RX4 15 3 6 1 := ⟨by decide, RX4, TX4, rfl, zin_X4, by decide, zl_X4_15⟩
theorem zp_X4_15 : zz_Fp RX4 15 3 6 1 (.int) false := ⟨by decide, RX4, TX4, tyX4, rfl, zin_X4, tyX4_ok, nmX4, by decide, zl_X4_15, rfl, by decide +kernel, rfl⟩
theorem zl_X4_19 : Cond.fieldLink RX4 19 (TX4 2).1 (TX4 2).2.1 (TX4 2).2.2.1 ∈ zz_tbl := zz_in (List.mem_of_getElem? (i := 148) (by decide +kernel)) rfl
theorem zf_X4_19 : zz_F RX4 19 3 6 2 := ⟨by decide, RX4, TX4, rfl, zin_X4, by decide, zl_X4_19⟩
theorem zp_X4_19 : zz_Fp RX4 19 3 6 2 (.array .int) true := ⟨by decide, RX4, TX4, tyX4, rfl, zin_X4, tyX4_ok, nmX4, by decide, zl_X4_19, rfl, by decide +kernel, rfl⟩
theorem zl_X4_22 : Cond.fieldLink RX4 22 (TX4 3).1 (TX4 3).2.1 (TX4 3).2.2.1 ∈ zz_tbl := zz_in (List.mem_of_getElem? (i := 149) (by decide +kernel)) rfl
theorem zf_X4_22 : zz_F RX4 22 3 6 3 := ⟨by decide, RX4, TX4, rfl, zin_X4, by decide, zl_X4_22⟩
theorem zp_X4_22 : zz_Fp RX4 22 3 6 3 (.array .int) true := ⟨by decide, RX4, TX4, tyX4, rfl, zin_X4, tyX4_ok, nmX4, by decide, zl_X4_22, rfl, by decide +kernel, rfl⟩
theorem zl_X4_25 : Cond.fieldLink RX4 25 (TX4 4).1 (TX4 4).2.1 (TX4 4).2.2.1 ∈ zz_tbl := zz_in (List.mem_of_getElem? (i := 150) (by decide +kernel)) rfl
theorem zf_X4_25 : zz_F RX4 25 3 6 4 := ⟨by decide, RX4, TX4, rfl, zin_X4, by decide, zl_X4_25⟩
theorem zp_X4_25 : zz_Fp RX4 25 3 6 4 (.int) false := ⟨by decide, RX4, TX4, tyX4, rfl, zin_X4, tyX4_ok, nmX4, by decide, zl_X4_25, rfl, by decide +kernel, rfl⟩
theorem zl_X4_28 : Cond.fieldLink RX4 28 (TX4 5).1 (TX4 5).2.1 (TX4 5).2.2.1 ∈ zz_tbl := zz_in (List.mem_of_getElem? (i := 151) (by decide +kernel)) rfl
theorem zf_X4_28 : zz_F RX4 28 3 6 5 := ⟨by decide, RX4, TX4, rfl, zin_X4, by decide, zl_X4_28⟩
theorem zp_X4_28 : zz_Fp RX4 28 3 6 5 (.boolean) false := ⟨by decide, RX4, TX4, tyX4, rfl, zin_X4, tyX4_ok, nmX4, by decide, zl_X4_28, rfl, by decide +kernel, rfl⟩
theorem zl_X4_32 : Cond.fieldLink RX4 32 (TX8 2).1 (TX8 2).2.1 (TX8 2).2.2.1 ∈ zz_tbl := zz_in (List.mem_of_getElem? (i := 122) (by decide +kernel)) rfl
theorem zf_X4_32 : zz_F RX4 32 7 5 2 := ⟨by decide, RX8, TX8, rfl, zin_X8, by decide, zl_X4_32⟩
theorem zl_X5_9 : Cond.fieldLink RX5 9 (TX5 0).1 (TX5 0).2.1 (TX5 0).2.2.1 ∈ zz_tbl := zz_in (List.mem_of_getElem? (i := 280) (by decide +kernel)) rfl
theorem zf_X5_9 : zz_F RX5 9 4 2 0 := ⟨by decide, RX5, TX5, rfl, zin_X5, by decide, zl_X5_9⟩
theorem zp_X5_9 : zz_Fp RX5 9 4 2 0 (.array .long) true := ⟨by decide, RX5, TX5, tyX5, rfl, zin_X5, tyX5_ok, nmX5, by decide, zl_X5_9, rfl, by decide +kernel, rfl⟩
theorem zl_X5_15 : Cond.fieldLink RX5 15 (TX5 1).1 (TX5 1).2.1 (TX5 1).2.2.1 ∈ zz_tbl := zz_in (List.mem_of_getElem? (i := 281) (by decide +kernel)) rfl
theorem zf_X5_15 : zz_F RX5 15 4 2 1 := ⟨by decide, RX5, TX5, rfl, zin_X5, by decide, zl_X5_15⟩
theorem zp_X5_15 : zz_Fp RX5 15 4 2 1 (.int) false := ⟨by decide, RX5, TX5, tyX5, rfl, zin_X5, tyX5_ok, nmX5, by decide, zl_X5_15, rfl, by decide +kernel, rfl⟩
theorem zl_X6_9 : Cond.fieldLink RX6 9 (TX6 0).1 (TX6 0).2.1 (TX6 0).2.2.1 ∈ zz_tbl := zz_in (List.mem_of_getElem? (i := 298) (by decide +kernel)) rfl
theorem zf_X6_9 : zz_F RX6 9 5 2 0 := ⟨by decide, RX6, TX6, rfl, zin_X6, by decide, zl_X6_9⟩
theorem zp_X6_9 : zz_Fp RX6 9 5 2 0 (.array .int) true := ⟨by decide, RX6, TX6, tyX6, rfl, zin_X6, tyX6_ok, nmX6, by decide, zl_X6_9, rfl, by decide +kernel, rfl⟩
theorem zl_X6_15 : Cond.fieldLink RX6 15 (TX6 1).1 (TX6 1).2.1 (TX6 1).2.2.1 ∈ zz_tbl := zz_in (List.mem_of_getElem? (i := 300) (by decide +kernel)) rfl
theorem zf_X6_15 : zz_F RX6 15 5 2 1 := ⟨by decide, RX6, TX6, rfl, zin_X6, by decide, zl_X6_15⟩
theorem zp_X6_15 : zz_Fp RX6 15 5 2 1 (.array .int) true := ⟨by decide, RX6, TX6, tyX6, rfl, zin_X6, tyX6_ok, nmX6, by decide, zl_X6_15, rfl, by decide +kernel, rfl⟩
theorem zl_X7_11 : Cond.fieldLink RX7 11 (TX7 0).1 (TX7 0).2.1 (TX7 0).2.2.1 ∈ zz_tbl := zz_in (List.mem_of_getElem? (i := 171) (by decide +kernel)) rfl
theorem zf_X7_11 : zz_F RX7 11 6 5 0 := ⟨by decide, RX7, TX7, rfl, zin_X7, by decide, zl_X7_11⟩
theorem zp_X7_11 : zz_Fp RX7 11 6 5 0 (.array .int) true := ⟨by decide, RX7, TX7, tyX7, rfl, zin_X7, tyX7_ok, nmX7, by decide, zl_X7_11, rfl, by decide +kernel, rfl⟩
theorem zl_X7_15 : Cond.fieldLink RX7 15 (TX7 1).1 (TX7 1).2.1 (TX7 1).2.2.1 ∈ zz_tbl := zz_in (List.mem_of_getElem? (i := 173) (by decide +kernel)) rfl
theorem zf_X7_15 : zz_F RX7 15 6 5 1 := ⟨by decide, RX7, TX7, rfl, zin_X7, by decide, zl_X7_15⟩
theorem zp_X7_15 : zz_Fp RX7 15 6 5 1 (.array .int) true := ⟨by decide, RX7, TX7, tyX7, rfl, zin_X7, tyX7_ok, nmX7, by decide, zl_X7_15, rfl, by decide +kernel, rfl⟩
theorem zl_X7_18 : Cond.fieldLink RX7 18 (TX7 2).1 (TX7 2).2.1 (TX7 2).2.2.1 ∈ zz_tbl := zz_in (List.mem_of_getElem? (i := 175) (by decide +kernel)) rfl
theorem zf_X7_18 : zz_F RX7 18 6 5 2 := ⟨by decide, RX7, TX7, rfl, zin_X7, by decide, zl_X7_18⟩
theorem zp_X7_18 : zz_Fp RX7 18 6 5 2 (.array .int) true := ⟨by decide, RX7, TX7, tyX7, rfl, zin_X7, tyX7_ok, nmX7, by decide, zl_X7_18, rfl, by decide +kernel, rfl⟩
theorem zl_X7_21 : Cond.fieldLink RX7 21 (TX7 3).1 (TX7 3).2.1 (TX7 3).2.2.1 ∈ zz_tbl := zz_in (List.mem_of_getElem? (i := 177) (by decide +kernel)) rfl
theorem zf_X7_21 : zz_F RX7 21 6 5 3 := ⟨by decide, RX7, TX7, rfl, zin_X7, by decide, zl_X7_21⟩
theorem zp_X7_21 : zz_Fp RX7 21 6 5 3 (.array .int) true := ⟨by decide, RX7, TX7, tyX7, rfl, zin_X7, tyX7_ok, nmX7, by decide, zl_X7_21, rfl, by decide +kernel, rfl⟩
theorem zl_X7_24 : Cond.fieldLink RX7 24 (TX7 4).1 (TX7 4).2.1 (TX7 4).2.2.1 ∈ zz_tbl := zz_in (List.mem_of_getElem? (i := 179) (by decide +kernel)) rfl
theorem zf_X7_24 : zz_F RX7 24 6 5 4 := ⟨by decide, RX7, TX7, rfl, zin_X7, by decide, zl_X7_24⟩
theorem zp_X7_24 : zz_Fp RX7 24 6 5 4 (.int) false := ⟨by decide, RX7, TX7, tyX7, rfl, zin_X7, tyX7_ok, nmX7, by decide, zl_X7_24, rfl, by decide +kernel, rfl⟩
theorem zl_X7_34 : Cond.fieldLink RX7 34 (TX8 2).1 (TX8 2).2.1 (TX8 2).2.2.1 ∈ zz_tbl := zz_in (List.mem_of_getElem? (i := 123) (by decide +kernel)) rfl
theorem zf_X7_34 : zz_F RX7 34 7 5 2 := ⟨by decide, RX8, TX8, rfl, zin_X8, by decide, zl_X7_34⟩
theorem zl_X8_9 : Cond.fieldLink RX8 9 (TX8 0).1 (TX8 0).2.1 (TX8 0).2.2.1 ∈ zz_tbl := zz_in (List.mem_of_getElem? (i := 117) (by decide +kernel)) rfl
theorem zf_X8_9 : zz_F RX8 9 7 5 0 := ⟨by decide, RX8, TX8, rfl, zin_X8, by decide, zl_X8_9⟩
theorem zp_X8_9 : zz_Fp RX8 9 7 5 0 (.array .int) true := ⟨by decide, RX8, TX8, tyX8, rfl, zin_X8, tyX8_ok, nmX8, by decide, zl_X8_9, rfl, by decide +kernel, rfl⟩
theorem zl_X8_13 : Cond.fieldLink RX8 13 (TX8 1).1 (TX8 1).2.1 (TX8 1).2.2.1 ∈ zz_tbl := zz_in (List.mem_of_getElem? (i := 119) (by decide +kernel)) rfl
theorem zf_X8_13 : zz_F RX8 13 7 5 1 := ⟨by decide, RX8, TX8, rfl, zin_X8, by decide, zl_X8_13⟩
theorem zp_X8_13 : zz_Fp RX8 13 7 5 1 (.int) false := ⟨by decide, RX8, TX8, tyX8, rfl, zin_X8, tyX8_ok, nmX8, by decide, zl_X8_13, rfl, by decide +kernel, rfl⟩
theorem zl_X8_17 : Cond.fieldLink RX8 17 (TX8 2).1 (TX8 2).2.1 (TX8 2).2.2.1 ∈ zz_tbl := zz_in (List.mem_of_getElem? (i := 121) (by decide +kernel)) rfl
theorem zf_X8_17 : zz_F RX8 17 7 5 2 := ⟨by decide, RX8, TX8, rfl, zin_X8, by decide, zl_X8_17⟩
theorem zp_X8_17 : zz_Fp RX8 17 7 5 2 (.int) false := ⟨by decide, RX8, TX8, tyX8, rfl, zin_X8, tyX8_ok, nmX8, by decide, zl_X8_17, rfl, by decide +kernel, rfl⟩
theorem zl_X8_20 : Cond.fieldLink RX8 20 (TX8 3).1 (TX8 3).2.1 (TX8 3).2.2.1 ∈ zz_tbl := zz_in (List.mem_of_getElem? (i := 124) (by decide +kernel)) rfl
theorem zf_X8_20 : zz_F RX8 20 7 5 3 := ⟨by decide, RX8, TX8, rfl, zin_X8, by decide, zl_X8_20⟩
theorem zp_X8_20 : zz_Fp RX8 20 7 5 3 (.int) false := ⟨by decide, RX8, TX8, tyX8, rfl, zin_X8, tyX8_ok, nmX8, by decide, zl_X8_20, rfl, by decide +kernel, rfl⟩
theorem zl_X8_23 : Cond.fieldLink RX8 23 (TX8 4).1 (TX8 4).2.1 (TX8 4).2.2.1 ∈ zz_tbl := zz_in (List.mem_of_getElem? (i := 125) (by decide +kernel)) rfl
theorem zf_X8_23 : zz_F RX8 23 7 5 4 := ⟨by decide, RX8, TX8, rfl, zin_X8, by decide, zl_X8_23⟩
theorem zp_X8_23 : zz_Fp RX8 23 7 5 4 (.int) false := ⟨by decide, RX8, TX8, tyX8, rfl, zin_X8, tyX8_ok, nmX8, by decide, zl_X8_23, rfl, by decide +kernel, rfl⟩
theorem zl_X10_7 : Cond.fieldLink RX10 7 (TX10 0).1 (TX10 0).2.1 (TX10 0).2.2.1 ∈ zz_tbl := zz_in (List.mem_of_getElem? (i := 1031) (by decide +kernel)) rfl
theorem zf_X10_7 : zz_F RX10 7 9 30 0 := ⟨by decide, RX10, TX10, rfl, zin_X10, by decide, zl_X10_7⟩
theorem zp_X10_7 : zz_Fp RX10 7 9 30 0 (.array .int) true := ⟨by decide, RX10, TX10, tyX10, rfl, zin_X10, tyX10_ok, nmX10, by decide, zl_X10_7, rfl, by decide +kernel, rfl⟩
theorem zl_X10_13 : Cond.fieldLink RX10 13 (TX10 2).1 (TX10 2).2.1 (TX10 2).2.2.1 ∈ zz_tbl := zz_in (List.mem_of_getElem? (i := 1033) (by decide +kernel)) rfl
theorem zf_X10_13 : zz_F RX10 13 9 30 2 := ⟨by decide, RX10, TX10, rfl, zin_X10, by decide, zl_X10_13⟩
theorem zp_X10_13 : zz_Fp RX10 13 9 30 2 (.array .byte) true := ⟨by decide, RX10, TX10, tyX10, rfl, zin_X10, tyX10_ok, nmX10, by decide, zl_X10_13, rfl, by decide +kernel, rfl⟩
theorem zl_X10_17 : Cond.fieldLink RX10 17 (TX10 3).1 (TX10 3).2.1 (TX10 3).2.2.1 ∈ zz_tbl := zz_in (List.mem_of_getElem? (i := 1034) (by decide +kernel)) rfl
theorem zf_X10_17 : zz_F RX10 17 9 30 3 := ⟨by decide, RX10, TX10, rfl, zin_X10, by decide, zl_X10_17⟩
theorem zp_X10_17 : zz_Fp RX10 17 9 30 3 (.array .int) true := ⟨by decide, RX10, TX10, tyX10, rfl, zin_X10, tyX10_ok, nmX10, by decide, zl_X10_17, rfl, by decide +kernel, rfl⟩
theorem zl_X10_20 : Cond.fieldLink RX10 20 (TX10 4).1 (TX10 4).2.1 (TX10 4).2.2.1 ∈ zz_tbl := zz_in (List.mem_of_getElem? (i := 1035) (by decide +kernel)) rfl
theorem zf_X10_20 : zz_F RX10 20 9 30 4 := ⟨by decide, RX10, TX10, rfl, zin_X10, by decide, zl_X10_20⟩
theorem zp_X10_20 : zz_Fp RX10 20 9 30 4 (.array .int) true := ⟨by decide, RX10, TX10, tyX10, rfl, zin_X10, tyX10_ok, nmX10, by decide, zl_X10_20, rfl, by decide +kernel, rfl⟩
theorem zl_X10_23 : Cond.fieldLink RX10 23 (TX10 5).1 (TX10 5).2.1 (TX10 5).2.2.1 ∈ zz_tbl := zz_in (List.mem_of_getElem? (i := 1036) (by decide +kernel)) rfl
theorem zf_X10_23 : zz_F RX10 23 9 30 5 := ⟨by decide, RX10, TX10, rfl, zin_X10, by decide, zl_X10_23⟩
theorem zp_X10_23 : zz_Fp RX10 23 9 30 5 (.array .int) true := ⟨by decide, RX10, TX10, tyX10, rfl, zin_X10, tyX10_ok, nmX10, by decide, zl_X10_23, rfl, by decide +kernel, rfl⟩
theorem zl_X10_26 : Cond.fieldLink RX10 26 (TX10 14).1 (TX10 14).2.1 (TX10 14).2.2.1 ∈ zz_tbl := zz_in (List.mem_of_getElem? (i := 1045) (by decide +kernel)) rfl
theorem zf_X10_26 : zz_F RX10 26 9 30 14 := ⟨by decide, RX10, TX10, rfl, zin_X10, by decide, zl_X10_26⟩
theorem zp_X10_26 : zz_Fp RX10 26 9 30 14 (.array .int) true := ⟨by decide, RX10, TX10, tyX10, rfl, zin_X10, tyX10_ok, nmX10, by decide, zl_X10_26, rfl, by decide +kernel, rfl⟩
theorem zl_X10_29 : Cond.fieldLink RX10 29 (TX10 16).1 (TX10 16).2.1 (TX10 16).2.2.1 ∈ zz_tbl := zz_in (List.mem_of_getElem? (i := 1047) (by decide +kernel)) rfl
theorem zf_X10_29 : zz_F RX10 29 9 30 16 := ⟨by decide, RX10, TX10, rfl, zin_X10, by decide, zl_X10_29⟩
theorem zp_X10_29 : zz_Fp RX10 29 9 30 16 (.array .int) true := ⟨by decide, RX10, TX10, tyX10, rfl, zin_X10, tyX10_ok, nmX10, by decide, zl_X10_29, rfl, by decide +kernel, rfl⟩
theorem zl_X10_32 : Cond.fieldLink RX10 32 (TX10 17).1 (TX10 17).2.1 (TX10 17).2.2.1 ∈ zz_tbl := zz_in (List.mem_of_getElem? (i := 1048) (by decide +kernel)) rfl
theorem zf_X10_32 : zz_F RX10 32 9 30 17 := ⟨by decide, RX10, TX10, rfl, zin_X10, by decide, zl_X10_32⟩
theorem zp_X10_32 : zz_Fp RX10 32 9 30 17 (.array .int) true := ⟨by decide, RX10, TX10, tyX10, rfl, zin_X10, tyX10_ok, nmX10, by decide, zl_X10_32, rfl, by decide +kernel, rfl⟩
theorem zl_X10_35 : Cond.fieldLink RX10 35 (TX10 18).1 (TX10 18).2.1 (TX10 18).2.2.1 ∈ zz_tbl := zz_in (List.mem_of_getElem? (i := 1049) (by decide +kernel)) rfl
theorem zf_X10_35 : zz_F RX10 35 9 30 18 := ⟨by decide, RX10, TX10, rfl, zin_X10, by decide, zl_X10_35⟩
theorem zp_X10_35 : zz_Fp RX10 35 9 30 18 (.array .int) true := ⟨by decide, RX10, TX10, tyX10, rfl, zin_X10, tyX10_ok, nmX10, by decide, zl_X10_35, rfl, by decide +kernel, rfl⟩
theorem zl_X10_38 : Cond.fieldLink RX10 38 (TX10 19).1 (TX10 19).2.1 (TX10 19).2.2.1 ∈ zz_tbl := zz_in (List.mem_of_getElem? (i := 1050) (by decide +kernel)) rfl
theorem zf_X10_38 : zz_F RX10 38 9 30 19 := ⟨by decide, RX10, TX10, rfl, zin_X10, by decide, zl_X10_38⟩
theorem zp_X10_38 : zz_Fp RX10 38 9 30 19 (.array .int) true := ⟨by decide, RX10, TX10, tyX10, rfl, zin_X10, tyX10_ok, nmX10, by decide, zl_X10_38, rfl, by decide +kernel, rfl⟩
theorem zl_X10_41 : Cond.fieldLink RX10 41 (TX10 21).1 (TX10 21).2.1 (TX10 21).2.2.1 ∈ zz_tbl := zz_in (List.mem_of_getElem? (i := 1052) (by decide +kernel)) rfl
theorem zf_X10_41 : zz_F RX10 41 9 30 21 := ⟨by decide, RX10, TX10, rfl, zin_X10, by decide, zl_X10_41⟩
theorem zp_X10_41 : zz_Fp RX10 41 9 30 21 (.array .int) true := ⟨by decide, RX10, TX10, tyX10, rfl, zin_X10, tyX10_ok, nmX10, by decide, zl_X10_41, rfl, by decide +kernel, rfl⟩
theorem zl_X10_44 : Cond.fieldLink RX10 44 (TX10 22).1 (TX10 22).2.1 (TX10 22).2.2.1 ∈ zz_tbl := zz_in (List.mem_of_getElem? (i := 1053) (by decide +kernel)) rfl
theorem zf_X10_44 : zz_F RX10 44 9 30 22 := ⟨by decide, RX10, TX10, rfl, zin_X10, by decide, zl_X10_44⟩
theorem zp_X10_44 : zz_Fp RX10 44 9 30 22 (.array .int) true := ⟨by decide, RX10, TX10, tyX10, rfl, zin_X10, tyX10_ok, nmX10, by decide, zl_X10_44, rfl, by decide +kernel, rfl⟩
theorem zl_X10_47 : Cond.fieldLink RX10 47 (TX10 23).1 (TX10 23).2.1 (TX10 23).2.2.1 ∈ zz_tbl := zz_in (List.mem_of_getElem? (i := 1054) (by decide +kernel)) rfl
theorem zf_X10_47 : zz_F RX10 47 9 30 23 := ⟨by decide, RX10, TX10, rfl, zin_X10, by decide, zl_X10_47⟩
theorem zp_X10_47 : zz_Fp RX10 47 9 30 23 (.array .int) true := ⟨by decide, RX10, TX10, tyX10, rfl, zin_X10, tyX10_ok, nmX10, by decide, zl_X10_47, rfl, by decide +kernel, rfl⟩
theorem zl_X10_50 : Cond.fieldLink RX10 50 (TX10 24).1 (TX10 24).2.1 (TX10 24).2.2.1 ∈ zz_tbl := zz_in (List.mem_of_getElem? (i := 1055) (by decide +kernel)) rfl
theorem zf_X10_50 : zz_F RX10 50 9 30 24 := ⟨by decide, RX10, TX10, rfl, zin_X10, by decide, zl_X10_50⟩
theorem zp_X10_50 : zz_Fp RX10 50 9 30 24 (.array .int) true := ⟨by decide, RX10, TX10, tyX10, rfl, zin_X10, tyX10_ok, nmX10, by decide, zl_X10_50, rfl, by decide +kernel, rfl⟩
theorem zl_X10_53 : Cond.fieldLink RX10 53 (TX10 25).1 (TX10 25).2.1 (TX10 25).2.2.1 ∈ zz_tbl := zz_in (List.mem_of_getElem? (i := 1056) (by decide +kernel)) rfl
theorem zf_X10_53 : zz_F RX10 53 9 30 25 := ⟨by decide, RX10, TX10, rfl, zin_X10, by decide, zl_X10_53⟩
theorem zp_X10_53 : zz_Fp RX10 53 9 30 25 (.array .int) true := ⟨by decide, RX10, TX10, tyX10, rfl, zin_X10, tyX10_ok, nmX10, by decide, zl_X10_53, rfl, by decide +kernel, rfl⟩
theorem zl_X10_56 : Cond.fieldLink RX10 56 (TX10 26).1 (TX10 26).2.1 (TX10 26).2.2.1 ∈ zz_tbl := zz_in (List.mem_of_getElem? (i := 1057) (by decide +kernel)) rfl
theorem zf_X10_56 : zz_F RX10 56 9 30 26 := ⟨by decide, RX10, TX10, rfl, zin_X10, by decide, zl_X10_56⟩
theorem zp_X10_56 : zz_Fp RX10 56 9 30 26 (.array .int) true := ⟨by decide, RX10, TX10, tyX10, rfl, zin_X10, tyX10_ok, nmX10, by decide, zl_X10_56, rfl, by decide +kernel, rfl⟩
theorem zl_X10_59 : Cond.fieldLink RX10 59 (TX10 29).1 (TX10 29).2.1 (TX10 29).2.2.1 ∈ zz_tbl := zz_in (List.mem_of_getElem? (i := 1060) (by decide +kernel)) rfl
theorem zf_X10_59 : zz_F RX10 59 9 30 29 := ⟨by decide, RX10, TX10, rfl, zin_X10, by decide, zl_X10_59⟩
theorem zp_X10_59 : zz_Fp RX10 59 9 30 29 (.array .int) true := ⟨by decide, RX10, TX10, tyX10, rfl, zin_X10, tyX10_ok, nmX10, by decide, zl_X10_59, rfl, by decide +kernel, rfl⟩
theorem zl_X10_71 : Cond.fieldLink RX10 71 (TX10 6).1 (TX10 6).2.1 (TX10 6).2.2.1 ∈ zz_tbl := zz_in (List.mem_of_getElem? (i := 1037) (by decide +kernel)) rfl
theorem zf_X10_71 : zz_F RX10 71 9 30 6 := ⟨by decide, RX10, TX10, rfl, zin_X10, by decide, zl_X10_71⟩
theorem zp_X10_71 : zz_Fp RX10 71 9 30 6 (.int) false := ⟨by decide, RX10, TX10, tyX10, rfl, zin_X10, tyX10_ok, nmX10, by decide, zl_X10_71, rfl, by decide +kernel, rfl⟩
theorem zl_X10_79 : Cond.fieldLink RX10 79 (TX10 7).1 (TX10 7).2.1 (TX10 7).2.2.1 ∈ zz_tbl := zz_in (List.mem_of_getElem? (i := 1038) (by decide +kernel)) rfl
theorem zf_X10_79 : zz_F RX10 79 9 30 7 := ⟨by decide, RX10, TX10, rfl, zin_X10, by decide, zl_X10_79⟩
theorem zp_X10_79 : zz_Fp RX10 79 9 30 7 (.int) false := ⟨by decide, RX10, TX10, tyX10, rfl, zin_X10, tyX10_ok, nmX10, by decide, zl_X10_79, rfl, by decide +kernel, rfl⟩
theorem zl_X10_82 : Cond.fieldLink RX10 82 (TX10 8).1 (TX10 8).2.1 (TX10 8).2.2.1 ∈ zz_tbl := zz_in (List.mem_of_getElem? (i := 1039) (by decide +kernel)) rfl
theorem zf_X10_82 : zz_F RX10 82 9 30 8 := ⟨by decide, RX10, TX10, rfl, zin_X10, by decide, zl_X10_82⟩
theorem zp_X10_82 : zz_Fp RX10 82 9 30 8 (.int) false := ⟨by decide, RX10, TX10, tyX10, rfl, zin_X10, tyX10_ok, nmX10, by decide, zl_X10_82, rfl, by decide +kernel, rfl⟩
theorem zl_X10_85 : Cond.fieldLink RX10 85 (TX10 9).1 (TX10 9).2.1 (TX10 9).2.2.1 ∈ zz_tbl := zz_in (List.mem_of_getElem? (i := 1040) (by decide +kernel)) rfl
theorem zf_X10_85 : zz_F RX10 85 9 30 9 := ⟨by decide, RX10, TX10, rfl, zin_X10, by decide, zl_X10_85⟩
theorem zp_X10_85 : zz_Fp RX10 85 9 30 9 (.int) false := ⟨by decide, RX10, TX10, tyX10, rfl, zin_X10, tyX10_ok, nmX10, by decide, zl_X10_85, rfl, by decide +kernel, rfl⟩
theorem zl_X10_100 : Cond.fieldLink RX10 100 (TX10 10).1 (TX10 10).2.1 (TX10 10).2.2.1 ∈ zz_tbl := zz_in (List.mem_of_getElem? (i := 1041) (by decide +kernel)) rfl
theorem zf_X10_100 : zz_F RX10 100 9 30 10 := ⟨by decide, RX10, TX10, rfl, zin_X10, by decide, zl_X10_100⟩
theorem zp_X10_100 : zz_Fp RX10 100 9 30 10 (.int) false := ⟨by decide, RX10, TX10, tyX10, rfl, zin_X10, tyX10_ok, nmX10, by decide, zl_X10_100, rfl, by decide +kernel, rfl⟩
theorem zl_X10_103 : Cond.fieldLink RX10 103 (TX10 11).1 (TX10 11).2.1 (TX10 11).2.2.1 ∈ zz_tbl := zz_in (List.mem_of_getElem? (i := 1042) (by decide +kernel)) rfl
theorem zf_X10_103 : zz_F RX10 103 9 30 11 := ⟨by decide, RX10, TX10, rfl, zin_X10, by decide, zl_X10_103⟩
theorem zp_X10_103 : zz_Fp RX10 103 9 30 11 (.int) false := ⟨by decide, RX10, TX10, tyX10, rfl, zin_X10, tyX10_ok, nmX10, by decide, zl_X10_103, rfl, by decide +kernel, rfl⟩
theorem zl_X10_106 : Cond.fieldLink RX10 106 (TX10 12).1 (TX10 12).2.1 (TX10 12).2.2.1 ∈ zz_tbl := zz_in (List.mem_of_getElem? (i := 1043) (by decide +kernel)) rfl
theorem zf_X10_106 : zz_F RX10 106 9 30 12 := ⟨by decide, RX10, TX10, rfl, zin_X10, by decide, zl_X10_106⟩
theorem zp_X10_106 : zz_Fp RX10 106 9 30 12 (.int) false := ⟨by decide, RX10, TX10, tyX10, rfl, zin_X10, tyX10_ok, nmX10, by decide, zl_X10_106, rfl, by decide +kernel, rfl⟩
theorem zl_X10_109 : Cond.fieldLink RX10 109 (TX10 13).1 (TX10 13).2.1 (TX10 13).2.2.1 ∈ zz_tbl := zz_in (List.mem_of_getElem? (i := 1044) (by decide +kernel)) rfl
theorem zf_X10_109 : zz_F RX10 109 9 30 13 := ⟨by decide, RX10, TX10, rfl, zin_X10, by decide, zl_X10_109⟩
theorem zp_X10_109 : zz_Fp RX10 109 9 30 13 (.int) false := ⟨by decide, RX10, TX10, tyX10, rfl, zin_X10, tyX10_ok, nmX10, by decide, zl_X10_109, rfl, by decide +kernel, rfl⟩
theorem zl_X10_181 : Cond.fieldLink RX10 181 (TX10 15).1 (TX10 15).2.1 (TX10 15).2.2.1 ∈ zz_tbl := zz_in (List.mem_of_getElem? (i := 1046) (by decide +kernel)) rfl
theorem zf_X10_181 : zz_F RX10 181 9 30 15 := ⟨by decide, RX10, TX10, rfl, zin_X10, by decide, zl_X10_181⟩
theorem zp_X10_181 : zz_Fp RX10 181 9 30 15 (.int) false := ⟨by decide, RX10, TX10, tyX10, rfl, zin_X10, tyX10_ok, nmX10, by decide, zl_X10_181, rfl, by decide +kernel, rfl⟩
theorem zl_X10_244 : Cond.fieldLink RX10 244 (TX10 20).1 (TX10 20).2.1 (TX10 20).2.2.1 ∈ zz_tbl := zz_in (List.mem_of_getElem? (i := 1051) (by decide +kernel)) rfl
theorem zf_X10_244 : zz_F RX10 244 9 30 20 := ⟨by decide, RX10, TX10, rfl, zin_X10, by decide, zl_X10_244⟩
theorem zp_X10_244 : zz_Fp RX10 244 9 30 20 (.int) false := ⟨by decide, RX10, TX10, tyX10, rfl, zin_X10, tyX10_ok, nmX10, by decide, zl_X10_244, rfl, by decide +kernel, rfl⟩
theorem zl_X10_329 : Cond.fieldLink RX10 329 (TX10 28).1 (TX10 28).2.1 (TX10 28).2.2.1 ∈ zz_tbl := zz_in (List.mem_of_getElem? (i := 1059) (by decide +kernel)) rfl
theorem zf_X10_329 : zz_F RX10 329 9 30 28 := ⟨by decide, RX10, TX10, rfl, zin_X10, by decide, zl_X10_329⟩
theorem zp_X10_329 : zz_Fp RX10 329 9 30 28 (.int) false := ⟨by decide, RX10, TX10, tyX10, rfl, zin_X10, tyX10_ok, nmX10, by decide, zl_X10_329, rfl, by decide +kernel, rfl⟩
theorem zl_X10_335 : Cond.fieldLink RX10 335 (TX10 27).1 (TX10 27).2.1 (TX10 27).2.2.1 ∈ zz_tbl := zz_in (List.mem_of_getElem? (i := 1058) (by decide +kernel)) rfl
theorem zf_X10_335 : zz_F RX10 335 9 30 27 := ⟨by decide, RX10, TX10, rfl, zin_X10, by decide, zl_X10_335⟩
theorem zp_X10_335 : zz_Fp RX10 335 9 30 27 (.int) false := ⟨by decide, RX10, TX10, tyX10, rfl, zin_X10, tyX10_ok, nmX10, by decide, zl_X10_335, rfl, by decide +kernel, rfl⟩
theorem zl_X10_353 : Cond.fieldLink RX10 353 (TX10 1).1 (TX10 1).2.1 (TX10 1).2.2.1 ∈ zz_tbl := zz_in (List.mem_of_getElem? (i := 1032) (by decide +kernel)) rfl
theorem zf_X10_353 : zz_F RX10 353 9 30 1 := ⟨by decide, RX10, TX10, rfl, zin_X10, by decide, zl_X10_353⟩
theorem zp_X10_353 : zz_Fp RX10 353 9 30 1 (.boolean) false := ⟨by decide, RX10, TX10, tyX10, rfl, zin_X10, tyX10_ok, nmX10, by decide, zl_X10_353, rfl, by decide +kernel, rfl⟩
abbrev m_X0_init : zzMI := (yX0_init, cX0_init, 1, none, 1, 20, 10, 3116)
abbrev m_X0_clear : zzMI := (yX0_clear, cX0_clear, 4, none, 1, 23, 0, 0)
abbrev m_X0_copyFrom : zzMI := (yX0_copyFrom, cX0_copyFrom, 2, none, 1, 64, 0, 0)
abbrev m_X0_addPage : zzMI := (yX0_addPage, cX0_addPage, 3, (some .int), 0, 0, 0, 0)
abbrev m_X0_append : zzMI := (yX0_append, cX0_append, 6, (some .boolean), 1, 22, 0, 0)
abbrev m_X0_slotOf : zzMI := (yX0_slotOf, cX0_slotOf, 7, (some .int), 1, 21, 0, 0)
abbrev m_X0_pageAt : zzMI := (yX0_pageAt, cX0_pageAt, 5, (some .int), 0, 0, 0, 0)
abbrev m_X0_pageOfKey : zzMI := (yX0_pageOfKey, cX0_pageOfKey, 3, (some .int), 1, 24, 0, 0)
abbrev m_X0_keyAt : zzMI := (yX0_keyAt, cX0_keyAt, 4, (some .int), 2, 46, 0, 0)
abbrev m_X0_fillFromLast : zzMI := (yX0_fillFromLast, cX0_fillFromLast, 4, (some .boolean), 2, 46, 0, 0)
abbrev m_X0_dropLastPage : zzMI := (yX0_dropLastPage, cX0_dropLastPage, 3, none, 1, 24, 0, 0)
abbrev m_X0_gather : zzMI := (yX0_gather, cX0_gather, 5, none, 1, 64, 0, 0)
abbrev m_X0_empty : zzMI := (yX0_empty, cX0_empty, 6, none, 0, 0, 0, 0)
abbrev m_X0_usedPages : zzMI := (yX0_usedPages, cX0_usedPages, 3, (some .int), 0, 0, 0, 0)
abbrev m_X0_longest : zzMI := (yX0_longest, cX0_longest, 4, (some .int), 1, 21, 0, 0)
abbrev m_X0_withoutKeys : zzMI := (yX0_withoutKeys, cX0_withoutKeys, 4, (some .int), 0, 0, 0, 0)
abbrev m_X0_allReads : zzMI := (yX0_allReads, cX0_allReads, 3, (some .int), 0, 0, 0, 0)
abbrev m_X0_mostReads : zzMI := (yX0_mostReads, cX0_mostReads, 3, (some .int), 1, 21, 0, 0)
abbrev m_X0_keysCosting : zzMI := (yX0_keysCosting, cX0_keysCosting, 4, (some .int), 0, 0, 0, 0)
abbrev m_X1_of : zzMI := (yX1_of, cX1_of, 3, (some .long), 0, 0, 0, 0)
abbrev m_X1_keyOf : zzMI := (yX1_keyOf, cX1_keyOf, 2, (some .int), 0, 0, 0, 0)
abbrev m_X1_valueOf : zzMI := (yX1_valueOf, cX1_valueOf, 2, (some .int), 0, 0, 0, 0)
abbrev m_X1_hashOf : zzMI := (yX1_hashOf, cX1_hashOf, 2, (some .int), 0, 0, 0, 0)
abbrev m_X2_init : zzMI := (yX2_init, cX2_init, 1, none, 2, 46, 19, 3511)
abbrev m_X2_reset : zzMI := (yX2_reset, cX2_reset, 6, none, 2, 46, 0, 0)
abbrev m_X2_copyFrom : zzMI := (yX2_copyFrom, cX2_copyFrom, 2, none, 3, 107, 0, 0)
abbrev m_X2_span : zzMI := (yX2_span, cX2_span, 1, (some .int), 0, 0, 0, 0)
abbrev m_X2_buckets : zzMI := (yX2_buckets, cX2_buckets, 1, (some .int), 0, 0, 0, 0)
abbrev m_X2_isFull : zzMI := (yX2_isFull, cX2_isFull, 1, (some .boolean), 1, 20, 0, 0)
abbrev m_X2_load : zzMI := (yX2_load, cX2_load, 2, (some .int), 1, 20, 0, 0)
abbrev m_X2_addressOf : zzMI := (yX2_addressOf, cX2_addressOf, 2, (some .int), 1, 23, 0, 0)
abbrev m_X2_spanAmong : zzMI := (yX2_spanAmong, cX2_spanAmong, 4, (some .int), 0, 0, 0, 0)
abbrev m_X2_addressAmong : zzMI := (yX2_addressAmong, cX2_addressAmong, 4, (some .int), 1, 23, 0, 0)
abbrev m_X2_address : zzMI := (yX2_address, cX2_address, 4, (some .int), 0, 0, 0, 0)
abbrev m_X2_hashAt : zzMI := (yX2_hashAt, cX2_hashAt, 2, (some .int), 2, 45, 0, 0)
abbrev m_X2_holds : zzMI := (yX2_holds, cX2_holds, 3, (some .boolean), 2, 49, 0, 0)
abbrev m_X2_valueOf : zzMI := (yX2_valueOf, cX2_valueOf, 3, (some .int), 3, 67, 0, 0)
abbrev m_X2_readsFor : zzMI := (yX2_readsFor, cX2_readsFor, 4, (some .int), 2, 47, 0, 0)
abbrev m_X2_placeBehind : zzMI := (yX2_placeBehind, cX2_placeBehind, 2, (some .int), 3, 67, 0, 0)
abbrev m_X2_look : zzMI := (yX2_look, cX2_look, 4, (some .int), 3, 70, 0, 0)
abbrev m_X2_store : zzMI := (yX2_store, cX2_store, 8, (some .int), 3, 111, 0, 0)
abbrev m_X2_overwrite : zzMI := (yX2_overwrite, cX2_overwrite, 6, none, 2, 47, 0, 0)
abbrev m_X2_remove : zzMI := (yX2_remove, cX2_remove, 6, (some .int), 3, 110, 0, 0)
abbrev m_X2_goesAtNextSplit : zzMI := (yX2_goesAtNextSplit, cX2_goesAtNextSplit, 4, (some .boolean), 1, 21, 0, 0)
abbrev m_X2_divide : zzMI := (yX2_divide, cX2_divide, 4, (some .int), 2, 88, 0, 0)
abbrev m_X2_unite : zzMI := (yX2_unite, cX2_unite, 3, (some .int), 2, 88, 0, 0)
abbrev m_X2_draw : zzMI := (yX2_draw, cX2_draw, 1, none, 0, 0, 0, 0)
abbrev m_X2_storeDrawn : zzMI := (yX2_storeDrawn, cX2_storeDrawn, 3, none, 4, 138, 0, 0)
abbrev m_X2_removeDrawn : zzMI := (yX2_removeDrawn, cX2_removeDrawn, 3, none, 4, 135, 0, 0)
abbrev m_X3_init : zzMI := (yX3_init, cX3_init, 1, none, 1, 20, 2, 68)
abbrev m_X3_take : zzMI := (yX3_take, cX3_take, 3, none, 1, 64, 0, 0)
abbrev m_X3_copyFrom : zzMI := (yX3_copyFrom, cX3_copyFrom, 2, none, 2, 86, 0, 0)
abbrev m_X3_hashOf : zzMI := (yX3_hashOf, cX3_hashOf, 5, (some .int), 2, 43, 0, 0)
abbrev m_X3_changed : zzMI := (yX3_changed, cX3_changed, 3, (some .int), 1, 21, 0, 0)
abbrev m_X3_joined : zzMI := (yX3_joined, cX3_joined, 3, (some .int), 0, 0, 0, 0)
abbrev m_X4_init : zzMI := (yX4_init, cX4_init, 1, none, 1, 20, 3, 73)
abbrev m_X4_read : zzMI := (yX4_read, cX4_read, 3, (some .int), 5, 109, 0, 0)
abbrev m_X4_isWhole : zzMI := (yX4_isWhole, cX4_isWhole, 2, (some .boolean), 1, 20, 0, 0)
abbrev m_X4_readPart : zzMI := (yX4_readPart, cX4_readPart, 3, none, 4, 87, 0, 0)
abbrev m_X4_openOne : zzMI := (yX4_openOne, cX4_openOne, 4, none, 3, 64, 0, 0)
abbrev m_X4_readRound : zzMI := (yX4_readRound, cX4_readRound, 2, (some .int), 2, 43, 0, 0)
abbrev m_X4_readBehindPart : zzMI := (yX4_readBehindPart, cX4_readBehindPart, 3, none, 2, 43, 0, 0)
abbrev m_X4_isJoiningSign : zzMI := (yX4_isJoiningSign, cX4_isJoiningSign, 1, (some .boolean), 0, 0, 0, 0)
abbrev m_X4_endPart : zzMI := (yX4_endPart, cX4_endPart, 1, none, 1, 21, 0, 0)
abbrev m_X4_emit : zzMI := (yX4_emit, cX4_emit, 2, none, 0, 0, 0, 0)
abbrev m_X5_init : zzMI := (yX5_init, cX5_init, 1, none, 1, 20, 1, 300)
abbrev m_X5_codeOf : zzMI := (yX5_codeOf, cX5_codeOf, 3, (some .long), 1, 21, 0, 0)
abbrev m_X5_copyFrom : zzMI := (yX5_copyFrom, cX5_copyFrom, 2, none, 1, 64, 0, 0)
abbrev m_X5_placeFrom : zzMI := (yX5_placeFrom, cX5_placeFrom, 7, (some .int), 0, 0, 0, 0)
abbrev m_X5_has : zzMI := (yX5_has, cX5_has, 4, (some .boolean), 1, 26, 0, 0)
abbrev m_X5_insert : zzMI := (yX5_insert, cX5_insert, 4, none, 1, 64, 0, 0)
abbrev m_X5_remove : zzMI := (yX5_remove, cX5_remove, 4, none, 1, 64, 0, 0)
abbrev m_X5_keyAt : zzMI := (yX5_keyAt, cX5_keyAt, 2, (some .int), 0, 0, 0, 0)
abbrev m_X5_hashAt : zzMI := (yX5_hashAt, cX5_hashAt, 5, (some .int), 1, 21, 0, 0)
abbrev m_X6_init : zzMI := (yX6_init, cX6_init, 1, none, 1, 23, 2, 8)
abbrev m_X6_copyFrom : zzMI := (yX6_copyFrom, cX6_copyFrom, 2, none, 1, 64, 0, 0)
abbrev m_X6_closeAll : zzMI := (yX6_closeAll, cX6_closeAll, 1, none, 1, 23, 0, 0)
abbrev m_X6_close : zzMI := (yX6_close, cX6_close, 2, none, 0, 0, 0, 0)
abbrev m_X6_isOpen : zzMI := (yX6_isOpen, cX6_isOpen, 2, (some .boolean), 1, 22, 0, 0)
abbrev m_X6_lowestClosed : zzMI := (yX6_lowestClosed, cX6_lowestClosed, 2, (some .int), 0, 0, 0, 0)
abbrev m_X6_begin : zzMI := (yX6_begin, cX6_begin, 2, none, 0, 0, 0, 0)
abbrev m_X6_openOnes : zzMI := (yX6_openOnes, cX6_openOnes, 3, (some .int), 0, 0, 0, 0)
abbrev m_X7_init : zzMI := (yX7_init, cX7_init, 1, none, 1, 20, 4, 80)
abbrev m_X7_read : zzMI := (yX7_read, cX7_read, 4, (some .int), 4, 90, 0, 0)
abbrev m_X7_readStep : zzMI := (yX7_readStep, cX7_readStep, 3, none, 3, 68, 0, 0)
abbrev m_X7_isLetter : zzMI := (yX7_isLetter, cX7_isLetter, 1, (some .boolean), 0, 0, 0, 0)
abbrev m_X8_init : zzMI := (yX8_init, cX8_init, 1, none, 1, 20, 1, 320)
abbrev m_X8_hasRoom : zzMI := (yX8_hasRoom, cX8_hasRoom, 1, (some .boolean), 0, 0, 0, 0)
abbrev m_X8_append : zzMI := (yX8_append, cX8_append, 3, none, 0, 0, 0, 0)
abbrev m_X8_has : zzMI := (yX8_has, cX8_has, 4, (some .boolean), 1, 22, 0, 0)
abbrev m_X8_open : zzMI := (yX8_open, cX8_open, 2, none, 0, 0, 0, 0)
abbrev m_X8_sign : zzMI := (yX8_sign, cX8_sign, 1, (some .int), 0, 0, 0, 0)
abbrev m_X8_pass : zzMI := (yX8_pass, cX8_pass, 1, none, 0, 0, 0, 0)
abbrev m_X8_failHere : zzMI := (yX8_failHere, cX8_failHere, 2, none, 1, 22, 0, 0)
abbrev m_X8_fail : zzMI := (yX8_fail, cX8_fail, 3, none, 0, 0, 0, 0)
abbrev m_X8_isAtDigit : zzMI := (yX8_isAtDigit, cX8_isAtDigit, 1, (some .boolean), 1, 22, 0, 0)
abbrev m_X8_number : zzMI := (yX8_number, cX8_number, 6, (some .int), 2, 43, 0, 0)
abbrev m_X8_expect : zzMI := (yX8_expect, cX8_expect, 2, none, 2, 43, 0, 0)
abbrev m_X9_init : zzMI := (yX9_init, cX9_init, 1, none, 3, 66, 72, 11131)
abbrev m_X9_feed : zzMI := (yX9_feed, cX9_feed, 6, (some .int), 1, 22, 0, 0)
abbrev m_X9_shape : zzMI := (yX9_shape, cX9_shape, 7, (some .boolean), 3, 71, 0, 0)
abbrev m_X9_law : zzMI := (yX9_law, cX9_law, 3, (some .int), 6, 131, 0, 0)
abbrev m_X9_work : zzMI := (yX9_work, cX9_work, 4, (some .int), 6, 187, 0, 0)
abbrev m_X9_doStep : zzMI := (yX9_doStep, cX9_doStep, 5, none, 5, 163, 0, 0)
abbrev m_X9_storeRow : zzMI := (yX9_storeRow, cX9_storeRow, 6, none, 4, 138, 0, 0)
abbrev m_X9_put : zzMI := (yX9_put, cX9_put, 3, (some .int), 4, 138, 0, 0)
abbrev m_X9_find : zzMI := (yX9_find, cX9_find, 2, (some .int), 4, 93, 0, 0)
abbrev m_X9_drop : zzMI := (yX9_drop, cX9_drop, 2, (some .int), 4, 135, 0, 0)
abbrev m_X9_split : zzMI := (yX9_split, cX9_split, 1, (some .int), 3, 111, 0, 0)
abbrev m_X9_join : zzMI := (yX9_join, cX9_join, 1, (some .int), 3, 110, 0, 0)
abbrev m_X9_fileIs : zzMI := (yX9_fileIs, cX9_fileIs, 2, (some .int), 2, 44, 0, 0)
abbrev m_X9_keyIs : zzMI := (yX9_keyIs, cX9_keyIs, 4, (some .int), 3, 71, 0, 0)
abbrev m_X9_movesOf : zzMI := (yX9_movesOf, cX9_movesOf, 6, (some .int), 2, 46, 0, 0)
abbrev m_X9_where : zzMI := (yX9_where, cX9_where, 3, (some .int), 3, 67, 0, 0)
abbrev m_X9_bucket : zzMI := (yX9_bucket, cX9_bucket, 5, (some .int), 3, 69, 0, 0)
abbrev m_X9_page : zzMI := (yX9_page, cX9_page, 6, (some .int), 1, 22, 0, 0)
abbrev m_X9_chains : zzMI := (yX9_chains, cX9_chains, 5, (some .int), 1, 22, 0, 0)
abbrev m_X9_finds : zzMI := (yX9_finds, cX9_finds, 2, (some .int), 2, 43, 0, 0)
abbrev m_X9_next : zzMI := (yX9_next, cX9_next, 5, (some .int), 2, 88, 0, 0)
abbrev m_X9_parted : zzMI := (yX9_parted, cX9_parted, 6, (some .int), 3, 67, 0, 0)
abbrev m_X9_enough : zzMI := (yX9_enough, cX9_enough, 3, (some .int), 5, 112, 0, 0)
abbrev m_X9_mostIn : zzMI := (yX9_mostIn, cX9_mostIn, 4, (some .int), 4, 89, 0, 0)
abbrev m_X9_countAmong : zzMI := (yX9_countAmong, cX9_countAmong, 4, none, 3, 66, 0, 0)
abbrev m_X9_anew : zzMI := (yX9_anew, cX9_anew, 10, (some .int), 4, 89, 0, 0)
abbrev m_X9_pagesFor : zzMI := (yX9_pagesFor, cX9_pagesFor, 2, (some .int), 1, 21, 0, 0)
abbrev m_X9_readsOfAll : zzMI := (yX9_readsOfAll, cX9_readsOfAll, 3, (some .int), 0, 0, 0, 0)
abbrev m_X9_torn : zzMI := (yX9_torn, cX9_torn, 14, (some .int), 4, 128, 0, 0)
abbrev m_X9_isWritten : zzMI := (yX9_isWritten, cX9_isWritten, 7, (some .boolean), 1, 20, 0, 0)
abbrev m_X9_grown : zzMI := (yX9_grown, cX9_grown, 3, (some .int), 5, 160, 0, 0)
abbrev m_X9_tuned : zzMI := (yX9_tuned, cX9_tuned, 6, (some .int), 4, 138, 0, 0)
abbrev m_X9_signs : zzMI := (yX9_signs, cX9_signs, 2, (some .int), 4, 88, 0, 0)
abbrev m_X9_gatherSigns : zzMI := (yX9_gatherSigns, cX9_gatherSigns, 3, none, 3, 66, 0, 0)
abbrev m_X9_signOf : zzMI := (yX9_signOf, cX9_signOf, 1, (some .int), 0, 0, 0, 0)
abbrev m_X9_passed : zzMI := (yX9_passed, cX9_passed, 8, (some .int), 4, 88, 0, 0)
abbrev m_X9_costing : zzMI := (yX9_costing, cX9_costing, 2, (some .int), 1, 23, 0, 0)
abbrev m_X9_since : zzMI := (yX9_since, cX9_since, 6, (some .int), 5, 115, 0, 0)
abbrev m_X9_differs : zzMI := (yX9_differs, cX9_differs, 7, (some .boolean), 4, 89, 0, 0)
abbrev m_X9_alike : zzMI := (yX9_alike, cX9_alike, 9, (some .int), 3, 66, 0, 0)
abbrev m_X9_inOrder : zzMI := (yX9_inOrder, cX9_inOrder, 2, (some .int), 1, 21, 0, 0)
abbrev m_X9_between : zzMI := (yX9_between, cX9_between, 5, (some .int), 2, 42, 0, 0)
abbrev m_X9_bits : zzMI := (yX9_bits, cX9_bits, 9, (some .int), 3, 67, 0, 0)
abbrev m_X9_scan : zzMI := (yX9_scan, cX9_scan, 2, (some .int), 1, 21, 0, 0)
abbrev m_X9_tell : zzMI := (yX9_tell, cX9_tell, 4, (some .int), 4, 88, 0, 0)
abbrev m_X9_scanIs : zzMI := (yX9_scanIs, cX9_scanIs, 4, (some .int), 4, 88, 0, 0)
abbrev m_X9_reach : zzMI := (yX9_reach, cX9_reach, 5, (some .int), 4, 88, 0, 0)
abbrev m_X9_ends : zzMI := (yX9_ends, cX9_ends, 3, (some .int), 2, 43, 0, 0)
abbrev m_X9_seed : zzMI := (yX9_seed, cX9_seed, 2, (some .boolean), 1, 22, 0, 0)
abbrev m_X9_keep : zzMI := (yX9_keep, cX9_keep, 1, (some .int), 4, 128, 0, 0)
abbrev m_X9_undo : zzMI := (yX9_undo, cX9_undo, 1, (some .boolean), 4, 128, 0, 0)
abbrev m_X9_check : zzMI := (yX9_check, cX9_check, 3, (some .int), 4, 89, 0, 0)
abbrev m_X9_count : zzMI := (yX9_count, cX9_count, 2, (some .int), 1, 22, 0, 0)
abbrev m_X9_within : zzMI := (yX9_within, cX9_within, 3, (some .boolean), 0, 0, 0, 0)
abbrev m_X9_isKey : zzMI := (yX9_isKey, cX9_isKey, 1, (some .boolean), 1, 22, 0, 0)
abbrev m_X9_isBucket : zzMI := (yX9_isBucket, cX9_isBucket, 2, (some .boolean), 1, 22, 0, 0)
abbrev m_X9_isAmount : zzMI := (yX9_isAmount, cX9_isAmount, 2, (some .boolean), 1, 22, 0, 0)
abbrev m_X9_reversed : zzMI := (yX9_reversed, cX9_reversed, 2, (some .int), 0, 0, 0, 0)
abbrev m_X10_init : zzMI := (yX10_init, cX10_init, 1, none, 1, 26, 17, 8476)
abbrev m_X10_in : zzMI := (yX10_in, cX10_in, 3, (some .boolean), 0, 0, 0, 0)
abbrev m_X10_min : zzMI := (yX10_min, cX10_min, 2, (some .int), 0, 0, 0, 0)
abbrev m_X10_max : zzMI := (yX10_max, cX10_max, 2, (some .int), 0, 0, 0, 0)
abbrev m_X10_has : zzMI := (yX10_has, cX10_has, 2, (some .boolean), 0, 0, 0, 0)
abbrev m_X10_sizeOf : zzMI := (yX10_sizeOf, cX10_sizeOf, 3, (some .int), 0, 0, 0, 0)
abbrev m_X10_copies : zzMI := (yX10_copies, cX10_copies, 4, none, 0, 0, 0, 0)
abbrev m_X10_empties : zzMI := (yX10_empties, cX10_empties, 7, none, 0, 0, 0, 0)
abbrev m_X10_shape : zzMI := (yX10_shape, cX10_shape, 6, (some .boolean), 1, 26, 0, 0)
abbrev m_X10_types : zzMI := (yX10_types, cX10_types, 3, none, 0, 0, 0, 0)
abbrev m_X10_feed : zzMI := (yX10_feed, cX10_feed, 6, (some .int), 1, 22, 0, 0)
abbrev m_X10_here : zzMI := (yX10_here, cX10_here, 1, (some .int), 0, 0, 0, 0)
abbrev m_X10_wrongAt : zzMI := (yX10_wrongAt, cX10_wrongAt, 3, (some .boolean), 0, 0, 0, 0)
abbrev m_X10_isDigit : zzMI := (yX10_isDigit, cX10_isDigit, 1, (some .boolean), 1, 22, 0, 0)
abbrev m_X10_readsNumber : zzMI := (yX10_readsNumber, cX10_readsNumber, 4, (some .boolean), 2, 42, 0, 0)
abbrev m_X10_notes : zzMI := (yX10_notes, cX10_notes, 3, none, 0, 0, 0, 0)
abbrev m_X10_waitsFor : zzMI := (yX10_waitsFor, cX10_waitsFor, 3, none, 0, 0, 0, 0)
abbrev m_X10_uppermost : zzMI := (yX10_uppermost, cX10_uppermost, 1, (some .int), 0, 0, 0, 0)
abbrev m_X10_opens : zzMI := (yX10_opens, cX10_opens, 3, (some .boolean), 2, 42, 0, 0)
abbrev m_X10_opener : zzMI := (yX10_opener, cX10_opener, 1, (some .int), 0, 0, 0, 0)
abbrev m_X10_settles : zzMI := (yX10_settles, cX10_settles, 1, none, 1, 22, 0, 0)
abbrev m_X10_readsPart : zzMI := (yX10_readsPart, cX10_readsPart, 1, (some .boolean), 3, 65, 0, 0)
abbrev m_X10_signOf : zzMI := (yX10_signOf, cX10_signOf, 1, (some .int), 0, 0, 0, 0)
abbrev m_X10_closes : zzMI := (yX10_closes, cX10_closes, 1, (some .boolean), 2, 42, 0, 0)
abbrev m_X10_readsLaw : zzMI := (yX10_readsLaw, cX10_readsLaw, 2, (some .boolean), 4, 85, 0, 0)
abbrev m_X10_law : zzMI := (yX10_law, cX10_law, 4, (some .int), 5, 106, 0, 0)
abbrev m_X10_reversed : zzMI := (yX10_reversed, cX10_reversed, 3, (some .int), 0, 0, 0, 0)
abbrev m_X10_joined : zzMI := (yX10_joined, cX10_joined, 3, (some .int), 0, 0, 0, 0)
abbrev m_X10_turnedBy : zzMI := (yX10_turnedBy, cX10_turnedBy, 3, (some .int), 1, 22, 0, 0)
abbrev m_X10_hashIn : zzMI := (yX10_hashIn, cX10_hashIn, 8, (some .int), 2, 44, 0, 0)
abbrev m_X10_hashOf : zzMI := (yX10_hashOf, cX10_hashOf, 2, (some .int), 3, 71, 0, 0)
abbrev m_X10_first : zzMI := (yX10_first, cX10_first, 2, (some .int), 0, 0, 0, 0)
abbrev m_X10_buckets : zzMI := (yX10_buckets, cX10_buckets, 1, (some .int), 1, 21, 0, 0)
abbrev m_X10_addressIn : zzMI := (yX10_addressIn, cX10_addressIn, 5, (some .int), 3, 71, 0, 0)
abbrev m_X10_addressOf : zzMI := (yX10_addressOf, cX10_addressOf, 2, (some .int), 4, 95, 0, 0)
abbrev m_X10_entryOf : zzMI := (yX10_entryOf, cX10_entryOf, 4, (some .int), 0, 0, 0, 0)
abbrev m_X10_keysIn : zzMI := (yX10_keysIn, cX10_keysIn, 4, (some .int), 0, 0, 0, 0)
abbrev m_X10_chainOf : zzMI := (yX10_chainOf, cX10_chainOf, 4, (some .int), 0, 0, 0, 0)
abbrev m_X10_pageAt : zzMI := (yX10_pageAt, cX10_pageAt, 4, (some .int), 0, 0, 0, 0)
abbrev m_X10_placeOf : zzMI := (yX10_placeOf, cX10_placeOf, 4, (some .int), 0, 0, 0, 0)
abbrev m_X10_entryAt : zzMI := (yX10_entryAt, cX10_entryAt, 4, (some .int), 1, 23, 0, 0)
abbrev m_X10_takesPage : zzMI := (yX10_takesPage, cX10_takesPage, 4, none, 0, 0, 0, 0)
abbrev m_X10_freesPages : zzMI := (yX10_freesPages, cX10_freesPages, 4, none, 0, 0, 0, 0)
abbrev m_X10_needsPages : zzMI := (yX10_needsPages, cX10_needsPages, 4, none, 1, 23, 0, 0)
abbrev m_X10_comesBehind : zzMI := (yX10_comesBehind, cX10_comesBehind, 3, none, 0, 0, 0, 0)
abbrev m_X10_load : zzMI := (yX10_load, cX10_load, 1, (some .int), 2, 41, 0, 0)
abbrev m_X10_lists : zzMI := (yX10_lists, cX10_lists, 4, none, 0, 0, 0, 0)
abbrev m_X10_goesOver : zzMI := (yX10_goesOver, cX10_goesOver, 2, (some .boolean), 4, 92, 0, 0)
abbrev m_X10_splits : zzMI := (yX10_splits, cX10_splits, 5, (some .int), 5, 113, 0, 0)
abbrev m_X10_comesTogether : zzMI := (yX10_comesTogether, cX10_comesTogether, 4, (some .int), 2, 46, 0, 0)
abbrev m_X10_split : zzMI := (yX10_split, cX10_split, 1, (some .int), 6, 137, 0, 0)
abbrev m_X10_join : zzMI := (yX10_join, cX10_join, 1, (some .int), 3, 69, 0, 0)
abbrev m_X10_isKey : zzMI := (yX10_isKey, cX10_isKey, 1, (some .boolean), 1, 22, 0, 0)
abbrev m_X10_readsOf : zzMI := (yX10_readsOf, cX10_readsOf, 2, (some .int), 1, 23, 0, 0)
abbrev m_X10_findReads : zzMI := (yX10_findReads, cX10_findReads, 3, (some .int), 5, 116, 0, 0)
abbrev m_X10_puts : zzMI := (yX10_puts, cX10_puts, 7, (some .int), 6, 138, 0, 0)
abbrev m_X10_put : zzMI := (yX10_put, cX10_put, 3, (some .int), 7, 164, 0, 0)
abbrev m_X10_finds0 : zzMI := (yX10_finds0, cX10_finds0, 3, (some .int), 6, 138, 0, 0)
abbrev m_X10_find : zzMI := (yX10_find, cX10_find, 2, (some .int), 7, 160, 0, 0)
abbrev m_X10_leaves : zzMI := (yX10_leaves, cX10_leaves, 3, none, 0, 0, 0, 0)
abbrev m_X10_drops : zzMI := (yX10_drops, cX10_drops, 7, (some .int), 6, 138, 0, 0)
abbrev m_X10_drop : zzMI := (yX10_drop, cX10_drop, 2, (some .int), 7, 164, 0, 0)
abbrev m_X10_readsNext : zzMI := (yX10_readsNext, cX10_readsNext, 3, (some .boolean), 3, 65, 0, 0)
abbrev m_X10_readsNumbers : zzMI := (yX10_readsNumbers, cX10_readsNumbers, 2, (some .boolean), 4, 87, 0, 0)
abbrev m_X10_readsStep : zzMI := (yX10_readsStep, cX10_readsStep, 3, (some .boolean), 5, 108, 0, 0)
abbrev m_X10_lotGoes : zzMI := (yX10_lotGoes, cX10_lotGoes, 1, none, 0, 0, 0, 0)
abbrev m_X10_putsDrawn : zzMI := (yX10_putsDrawn, cX10_putsDrawn, 3, none, 7, 164, 0, 0)
abbrev m_X10_dropsDrawn : zzMI := (yX10_dropsDrawn, cX10_dropsDrawn, 3, none, 7, 164, 0, 0)
abbrev m_X10_does : zzMI := (yX10_does, cX10_does, 3, none, 8, 186, 0, 0)
abbrev m_X10_work : zzMI := (yX10_work, cX10_work, 4, (some .int), 9, 208, 0, 0)
abbrev m_X10_rankOf : zzMI := (yX10_rankOf, cX10_rankOf, 3, (some .int), 4, 92, 0, 0)
abbrev m_X10_isBehind : zzMI := (yX10_isBehind, cX10_isBehind, 5, (some .boolean), 0, 0, 0, 0)
abbrev m_X10_orders : zzMI := (yX10_orders, cX10_orders, 3, none, 5, 114, 0, 0)
abbrev m_X10_inOrder : zzMI := (yX10_inOrder, cX10_inOrder, 2, (some .int), 6, 136, 0, 0)
abbrev m_X10_isOpen : zzMI := (yX10_isOpen, cX10_isOpen, 2, (some .boolean), 1, 22, 0, 0)
abbrev m_X10_scan : zzMI := (yX10_scan, cX10_scan, 2, (some .int), 1, 21, 0, 0)
abbrev m_X10_isToCome : zzMI := (yX10_isToCome, cX10_isToCome, 4, (some .boolean), 5, 114, 0, 0)
abbrev m_X10_tell : zzMI := (yX10_tell, cX10_tell, 4, (some .int), 6, 137, 0, 0)
abbrev m_X10_scanIs : zzMI := (yX10_scanIs, cX10_scanIs, 5, (some .int), 6, 137, 0, 0)
abbrev m_X10_reach : zzMI := (yX10_reach, cX10_reach, 6, (some .int), 6, 137, 0, 0)
abbrev m_X10_ends : zzMI := (yX10_ends, cX10_ends, 2, (some .int), 2, 43, 0, 0)
abbrev m_X10_pagesTaken : zzMI := (yX10_pagesTaken, cX10_pagesTaken, 3, (some .int), 0, 0, 0, 0)
abbrev m_X10_longest : zzMI := (yX10_longest, cX10_longest, 3, (some .int), 2, 41, 0, 0)
abbrev m_X10_emptyOnes : zzMI := (yX10_emptyOnes, cX10_emptyOnes, 3, (some .int), 2, 41, 0, 0)
abbrev m_X10_fileIs : zzMI := (yX10_fileIs, cX10_fileIs, 2, (some .int), 3, 63, 0, 0)
abbrev m_X10_whereIn : zzMI := (yX10_whereIn, cX10_whereIn, 5, (some .int), 4, 92, 0, 0)
abbrev m_X10_moves : zzMI := (yX10_moves, cX10_moves, 4, (some .int), 5, 116, 0, 0)
abbrev m_X10_keyIs : zzMI := (yX10_keyIs, cX10_keyIs, 3, (some .int), 6, 139, 0, 0)
abbrev m_X10_isMany : zzMI := (yX10_isMany, cX10_isMany, 2, (some .boolean), 1, 22, 0, 0)
abbrev m_X10_where : zzMI := (yX10_where, cX10_where, 3, (some .int), 5, 116, 0, 0)
abbrev m_X10_bucket : zzMI := (yX10_bucket, cX10_bucket, 3, (some .int), 2, 46, 0, 0)
abbrev m_X10_keysOnPage : zzMI := (yX10_keysOnPage, cX10_keysOnPage, 2, (some .int), 1, 23, 0, 0)
abbrev m_X10_page : zzMI := (yX10_page, cX10_page, 4, (some .int), 2, 46, 0, 0)
abbrev m_X10_chains : zzMI := (yX10_chains, cX10_chains, 4, (some .int), 2, 41, 0, 0)
abbrev m_X10_allReads : zzMI := (yX10_allReads, cX10_allReads, 3, (some .int), 2, 44, 0, 0)
abbrev m_X10_finds : zzMI := (yX10_finds, cX10_finds, 4, (some .int), 3, 66, 0, 0)
abbrev m_X10_costing : zzMI := (yX10_costing, cX10_costing, 4, (some .int), 2, 44, 0, 0)
abbrev m_X10_next : zzMI := (yX10_next, cX10_next, 4, (some .int), 5, 113, 0, 0)
abbrev m_X10_parted : zzMI := (yX10_parted, cX10_parted, 4, (some .int), 5, 116, 0, 0)
abbrev m_X10_countsIn : zzMI := (yX10_countsIn, cX10_countsIn, 4, none, 5, 116, 0, 0)
abbrev m_X10_enough : zzMI := (yX10_enough, cX10_enough, 5, (some .int), 6, 139, 0, 0)
abbrev m_X10_anew : zzMI := (yX10_anew, cX10_anew, 10, (some .int), 6, 139, 0, 0)
abbrev m_X10_notesPages : zzMI := (yX10_notesPages, cX10_notesPages, 4, none, 1, 23, 0, 0)
abbrev m_X10_isWritten : zzMI := (yX10_isWritten, cX10_isWritten, 4, (some .boolean), 0, 0, 0, 0)
abbrev m_X10_pageOf : zzMI := (yX10_pageOf, cX10_pageOf, 2, (some .int), 1, 23, 0, 0)
abbrev m_X10_torn : zzMI := (yX10_torn, cX10_torn, 9, (some .int), 6, 137, 0, 0)
abbrev m_X10_grown : zzMI := (yX10_grown, cX10_grown, 4, (some .int), 8, 186, 0, 0)
abbrev m_X10_tuned : zzMI := (yX10_tuned, cX10_tuned, 7, (some .int), 7, 164, 0, 0)
abbrev m_X10_signOfHash : zzMI := (yX10_signOfHash, cX10_signOfHash, 1, (some .int), 0, 0, 0, 0)
abbrev m_X10_signsOf : zzMI := (yX10_signsOf, cX10_signsOf, 4, (some .int), 4, 92, 0, 0)
abbrev m_X10_signs : zzMI := (yX10_signs, cX10_signs, 2, (some .int), 5, 115, 0, 0)
abbrev m_X10_passed : zzMI := (yX10_passed, cX10_passed, 6, (some .int), 5, 116, 0, 0)
abbrev m_X10_valueKept : zzMI := (yX10_valueKept, cX10_valueKept, 3, (some .int), 1, 23, 0, 0)
abbrev m_X10_since : zzMI := (yX10_since, cX10_since, 6, (some .int), 5, 116, 0, 0)
abbrev m_X10_sameHash : zzMI := (yX10_sameHash, cX10_sameHash, 4, (some .int), 4, 92, 0, 0)
abbrev m_X10_alike : zzMI := (yX10_alike, cX10_alike, 8, (some .int), 5, 115, 0, 0)
abbrev m_X10_between : zzMI := (yX10_between, cX10_between, 5, (some .int), 2, 42, 0, 0)
abbrev m_X10_bits : zzMI := (yX10_bits, cX10_bits, 8, (some .int), 4, 92, 0, 0)
abbrev m_X10_seed : zzMI := (yX10_seed, cX10_seed, 2, (some .boolean), 1, 22, 0, 0)
abbrev m_X10_keep : zzMI := (yX10_keep, cX10_keep, 1, (some .int), 1, 23, 0, 0)
abbrev m_X10_undo : zzMI := (yX10_undo, cX10_undo, 1, (some .boolean), 1, 23, 0, 0)
abbrev m_X10_check : zzMI := (yX10_check, cX10_check, 4, (some .int), 6, 136, 0, 0)
abbrev m_X10_count : zzMI := (yX10_count, cX10_count, 2, (some .int), 2, 41, 0, 0)
abbrev m_J9_max_7cf53 : zzMI := (yJ9_max_7cf53, cJ9_max_7cf53, 2, (some .int), 0, 0, 0, 0)
abbrev m_J9_min_7cf53 : zzMI := (yJ9_min_7cf53, cJ9_min_7cf53, 2, (some .int), 0, 0, 0, 0)
abbrev m_J7_fill_53178 : zzMI := (yJ7_fill_53178, cJ7_fill_53178, 4, none, 0, 0, 0, 0)
abbrev m_L_law : zzMI := (yL_law, cL_law, 4, (some .boolean), 12, 464, 91, 19645)
theorem zw_X0_init : zz_Mw m_X0_init 0 := ⟨zz_in (List.mem_of_getElem? (i := 218) (by decide +kernel)) rfl, zz_in (List.mem_of_getElem? (i := 95) (by decide +kernel)) rfl, by decide, by decide, by decide +kernel⟩
theorem zM_X0_init : zz_MC m_X0_init 0 := ⟨zw_X0_init, rfl, zz_in (List.mem_of_getElem? (i := 217) (by decide +kernel)) rfl⟩
theorem zw_X0_clear : zz_Mw m_X0_clear 2 := ⟨zz_in (List.mem_of_getElem? (i := 310) (by decide +kernel)) rfl, zz_in (List.mem_of_getElem? (i := 95) (by decide +kernel)) rfl, by decide, by decide, by decide +kernel⟩
theorem zM_X0_clear : zz_MV m_X0_clear 2 := ⟨zw_X0_clear, zz_in (List.mem_of_getElem? (i := 308) (by decide +kernel)) rfl, zz_in (List.mem_of_getElem? (i := 309) (by decide +kernel)) rfl⟩
theorem zw_X0_copyFrom : zz_Mw m_X0_copyFrom 1 := ⟨zz_in (List.mem_of_getElem? (i := 875) (by decide +kernel)) rfl, zz_in (List.mem_of_getElem? (i := 95) (by decide +kernel)) rfl, by decide, by decide, by decide +kernel⟩
theorem zM_X0_copyFrom : zz_MV m_X0_copyFrom 1 := ⟨zw_X0_copyFrom, zz_in (List.mem_of_getElem? (i := 873) (by decide +kernel)) rfl, zz_in (List.mem_of_getElem? (i := 874) (by decide +kernel)) rfl⟩
theorem zw_X0_addPage : zz_Mw m_X0_addPage 1 := ⟨zz_in (List.mem_of_getElem? (i := 315) (by decide +kernel)) rfl, zz_in (List.mem_of_getElem? (i := 95) (by decide +kernel)) rfl, by decide, by decide, by decide +kernel⟩
theorem zM_X0_addPage : zz_MV m_X0_addPage 1 := ⟨zw_X0_addPage, zz_in (List.mem_of_getElem? (i := 313) (by decide +kernel)) rfl, zz_in (List.mem_of_getElem? (i := 314) (by decide +kernel)) rfl⟩
theorem zw_X0_append : zz_Mw m_X0_append 2 := ⟨zz_in (List.mem_of_getElem? (i := 602) (by decide +kernel)) rfl, zz_in (List.mem_of_getElem? (i := 95) (by decide +kernel)) rfl, by decide, by decide, by decide +kernel⟩
theorem zM_X0_append : zz_MV m_X0_append 2 := ⟨zw_X0_append, zz_in (List.mem_of_getElem? (i := 600) (by decide +kernel)) rfl, zz_in (List.mem_of_getElem? (i := 601) (by decide +kernel)) rfl⟩
theorem zw_X0_slotOf : zz_Mw m_X0_slotOf 2 := ⟨zz_in (List.mem_of_getElem? (i := 594) (by decide +kernel)) rfl, zz_in (List.mem_of_getElem? (i := 95) (by decide +kernel)) rfl, by decide, by decide, by decide +kernel⟩
theorem zM_X0_slotOf : zz_MV m_X0_slotOf 2 := ⟨zw_X0_slotOf, zz_in (List.mem_of_getElem? (i := 592) (by decide +kernel)) rfl, zz_in (List.mem_of_getElem? (i := 593) (by decide +kernel)) rfl⟩
theorem zw_X0_pageAt : zz_Mw m_X0_pageAt 2 := ⟨zz_in (List.mem_of_getElem? (i := 661) (by decide +kernel)) rfl, zz_in (List.mem_of_getElem? (i := 95) (by decide +kernel)) rfl, by decide, by decide, by decide +kernel⟩
theorem zM_X0_pageAt : zz_MV m_X0_pageAt 2 := ⟨zw_X0_pageAt, zz_in (List.mem_of_getElem? (i := 659) (by decide +kernel)) rfl, zz_in (List.mem_of_getElem? (i := 660) (by decide +kernel)) rfl⟩
theorem zw_X0_pageOfKey : zz_Mw m_X0_pageOfKey 2 := ⟨zz_in (List.mem_of_getElem? (i := 792) (by decide +kernel)) rfl, zz_in (List.mem_of_getElem? (i := 95) (by decide +kernel)) rfl, by decide, by decide, by decide +kernel⟩
theorem zM_X0_pageOfKey : zz_MV m_X0_pageOfKey 2 := ⟨zw_X0_pageOfKey, zz_in (List.mem_of_getElem? (i := 790) (by decide +kernel)) rfl, zz_in (List.mem_of_getElem? (i := 791) (by decide +kernel)) rfl⟩
theorem zw_X0_keyAt : zz_Mw m_X0_keyAt 2 := ⟨zz_in (List.mem_of_getElem? (i := 788) (by decide +kernel)) rfl, zz_in (List.mem_of_getElem? (i := 95) (by decide +kernel)) rfl, by decide, by decide, by decide +kernel⟩
theorem zM_X0_keyAt : zz_MV m_X0_keyAt 2 := ⟨zw_X0_keyAt, zz_in (List.mem_of_getElem? (i := 786) (by decide +kernel)) rfl, zz_in (List.mem_of_getElem? (i := 787) (by decide +kernel)) rfl⟩
theorem zw_X0_fillFromLast : zz_Mw m_X0_fillFromLast 2 := ⟨zz_in (List.mem_of_getElem? (i := 653) (by decide +kernel)) rfl, zz_in (List.mem_of_getElem? (i := 95) (by decide +kernel)) rfl, by decide, by decide, by decide +kernel⟩
theorem zM_X0_fillFromLast : zz_MV m_X0_fillFromLast 2 := ⟨zw_X0_fillFromLast, zz_in (List.mem_of_getElem? (i := 651) (by decide +kernel)) rfl, zz_in (List.mem_of_getElem? (i := 652) (by decide +kernel)) rfl⟩
theorem zw_X0_dropLastPage : zz_Mw m_X0_dropLastPage 1 := ⟨zz_in (List.mem_of_getElem? (i := 657) (by decide +kernel)) rfl, zz_in (List.mem_of_getElem? (i := 95) (by decide +kernel)) rfl, by decide, by decide, by decide +kernel⟩
theorem zM_X0_dropLastPage : zz_MV m_X0_dropLastPage 1 := ⟨zw_X0_dropLastPage, zz_in (List.mem_of_getElem? (i := 656) (by decide +kernel)) rfl, zz_in (List.mem_of_getElem? (i := 10) (by decide +kernel)) rfl⟩
theorem zw_X0_gather : zz_Mw m_X0_gather 1 := ⟨zz_in (List.mem_of_getElem? (i := 627) (by decide +kernel)) rfl, zz_in (List.mem_of_getElem? (i := 95) (by decide +kernel)) rfl, by decide, by decide, by decide +kernel⟩
theorem zM_X0_gather : zz_MV m_X0_gather 1 := ⟨zw_X0_gather, zz_in (List.mem_of_getElem? (i := 625) (by decide +kernel)) rfl, zz_in (List.mem_of_getElem? (i := 626) (by decide +kernel)) rfl⟩
theorem zw_X0_empty : zz_Mw m_X0_empty 2 := ⟨zz_in (List.mem_of_getElem? (i := 633) (by decide +kernel)) rfl, zz_in (List.mem_of_getElem? (i := 95) (by decide +kernel)) rfl, by decide, by decide, by decide +kernel⟩
theorem zM_X0_empty : zz_MV m_X0_empty 2 := ⟨zw_X0_empty, zz_in (List.mem_of_getElem? (i := 631) (by decide +kernel)) rfl, zz_in (List.mem_of_getElem? (i := 632) (by decide +kernel)) rfl⟩
theorem zw_X0_usedPages : zz_Mw m_X0_usedPages 0 := ⟨zz_in (List.mem_of_getElem? (i := 736) (by decide +kernel)) rfl, zz_in (List.mem_of_getElem? (i := 95) (by decide +kernel)) rfl, by decide, by decide, by decide +kernel⟩
theorem zM_X0_usedPages : zz_MV m_X0_usedPages 0 := ⟨zw_X0_usedPages, zz_in (List.mem_of_getElem? (i := 734) (by decide +kernel)) rfl, zz_in (List.mem_of_getElem? (i := 735) (by decide +kernel)) rfl⟩
theorem zw_X0_longest : zz_Mw m_X0_longest 1 := ⟨zz_in (List.mem_of_getElem? (i := 741) (by decide +kernel)) rfl, zz_in (List.mem_of_getElem? (i := 95) (by decide +kernel)) rfl, by decide, by decide, by decide +kernel⟩
theorem zM_X0_longest : zz_MV m_X0_longest 1 := ⟨zw_X0_longest, zz_in (List.mem_of_getElem? (i := 739) (by decide +kernel)) rfl, zz_in (List.mem_of_getElem? (i := 740) (by decide +kernel)) rfl⟩
theorem zw_X0_withoutKeys : zz_Mw m_X0_withoutKeys 1 := ⟨zz_in (List.mem_of_getElem? (i := 748) (by decide +kernel)) rfl, zz_in (List.mem_of_getElem? (i := 95) (by decide +kernel)) rfl, by decide, by decide, by decide +kernel⟩
theorem zM_X0_withoutKeys : zz_MV m_X0_withoutKeys 1 := ⟨zw_X0_withoutKeys, zz_in (List.mem_of_getElem? (i := 746) (by decide +kernel)) rfl, zz_in (List.mem_of_getElem? (i := 747) (by decide +kernel)) rfl⟩
theorem zw_X0_allReads : zz_Mw m_X0_allReads 0 := ⟨zz_in (List.mem_of_getElem? (i := 810) (by decide +kernel)) rfl, zz_in (List.mem_of_getElem? (i := 95) (by decide +kernel)) rfl, by decide, by decide, by decide +kernel⟩
theorem zM_X0_allReads : zz_MV m_X0_allReads 0 := ⟨zw_X0_allReads, zz_in (List.mem_of_getElem? (i := 808) (by decide +kernel)) rfl, zz_in (List.mem_of_getElem? (i := 809) (by decide +kernel)) rfl⟩
theorem zw_X0_mostReads : zz_Mw m_X0_mostReads 0 := ⟨zz_in (List.mem_of_getElem? (i := 814) (by decide +kernel)) rfl, zz_in (List.mem_of_getElem? (i := 95) (by decide +kernel)) rfl, by decide, by decide, by decide +kernel⟩
theorem zM_X0_mostReads : zz_MV m_X0_mostReads 0 := ⟨zw_X0_mostReads, zz_in (List.mem_of_getElem? (i := 812) (by decide +kernel)) rfl, zz_in (List.mem_of_getElem? (i := 813) (by decide +kernel)) rfl⟩
theorem zw_X0_keysCosting : zz_Mw m_X0_keysCosting 1 := ⟨zz_in (List.mem_of_getElem? (i := 926) (by decide +kernel)) rfl, zz_in (List.mem_of_getElem? (i := 95) (by decide +kernel)) rfl, by decide, by decide, by decide +kernel⟩
theorem zM_X0_keysCosting : zz_MV m_X0_keysCosting 1 := ⟨zw_X0_keysCosting, zz_in (List.mem_of_getElem? (i := 924) (by decide +kernel)) rfl, zz_in (List.mem_of_getElem? (i := 925) (by decide +kernel)) rfl⟩
theorem zw_X1_of : zz_Mw m_X1_of 3 := ⟨zz_in (List.mem_of_getElem? (i := 586) (by decide +kernel)) rfl, zz_in (List.mem_of_getElem? (i := 102) (by decide +kernel)) rfl, by decide, by decide, by decide +kernel⟩
theorem zM_X1_of : zz_MS m_X1_of 3 := ⟨zw_X1_of, zz_in (List.mem_of_getElem? (i := 585) (by decide +kernel)) rfl⟩
theorem zw_X1_keyOf : zz_Mw m_X1_keyOf 1 := ⟨zz_in (List.mem_of_getElem? (i := 597) (by decide +kernel)) rfl, zz_in (List.mem_of_getElem? (i := 102) (by decide +kernel)) rfl, by decide, by decide, by decide +kernel⟩
theorem zM_X1_keyOf : zz_MS m_X1_keyOf 1 := ⟨zw_X1_keyOf, zz_in (List.mem_of_getElem? (i := 596) (by decide +kernel)) rfl⟩
theorem zw_X1_valueOf : zz_Mw m_X1_valueOf 1 := ⟨zz_in (List.mem_of_getElem? (i := 648) (by decide +kernel)) rfl, zz_in (List.mem_of_getElem? (i := 102) (by decide +kernel)) rfl, by decide, by decide, by decide +kernel⟩
theorem zM_X1_valueOf : zz_MS m_X1_valueOf 1 := ⟨zw_X1_valueOf, zz_in (List.mem_of_getElem? (i := 647) (by decide +kernel)) rfl⟩
theorem zw_X1_hashOf : zz_Mw m_X1_hashOf 1 := ⟨zz_in (List.mem_of_getElem? (i := 641) (by decide +kernel)) rfl, zz_in (List.mem_of_getElem? (i := 102) (by decide +kernel)) rfl, by decide, by decide, by decide +kernel⟩
theorem zM_X1_hashOf : zz_MS m_X1_hashOf 1 := ⟨zw_X1_hashOf, zz_in (List.mem_of_getElem? (i := 640) (by decide +kernel)) rfl⟩
theorem zw_X2_init : zz_Mw m_X2_init 0 := ⟨zz_in (List.mem_of_getElem? (i := 196) (by decide +kernel)) rfl, zz_in (List.mem_of_getElem? (i := 93) (by decide +kernel)) rfl, by decide, by decide, by decide +kernel⟩
theorem zM_X2_init : zz_MC m_X2_init 0 := ⟨zw_X2_init, rfl, zz_in (List.mem_of_getElem? (i := 195) (by decide +kernel)) rfl⟩
theorem zw_X2_reset : zz_Mw m_X2_reset 5 := ⟨zz_in (List.mem_of_getElem? (i := 424) (by decide +kernel)) rfl, zz_in (List.mem_of_getElem? (i := 93) (by decide +kernel)) rfl, by decide, by decide, by decide +kernel⟩
theorem zM_X2_reset : zz_MV m_X2_reset 5 := ⟨zw_X2_reset, zz_in (List.mem_of_getElem? (i := 422) (by decide +kernel)) rfl, zz_in (List.mem_of_getElem? (i := 423) (by decide +kernel)) rfl⟩
theorem zw_X2_copyFrom : zz_Mw m_X2_copyFrom 1 := ⟨zz_in (List.mem_of_getElem? (i := 866) (by decide +kernel)) rfl, zz_in (List.mem_of_getElem? (i := 93) (by decide +kernel)) rfl, by decide, by decide, by decide +kernel⟩
theorem zM_X2_copyFrom : zz_MV m_X2_copyFrom 1 := ⟨zw_X2_copyFrom, zz_in (List.mem_of_getElem? (i := 864) (by decide +kernel)) rfl, zz_in (List.mem_of_getElem? (i := 865) (by decide +kernel)) rfl⟩
theorem zw_X2_span : zz_Mw m_X2_span 0 := ⟨zz_in (List.mem_of_getElem? (i := 568) (by decide +kernel)) rfl, zz_in (List.mem_of_getElem? (i := 93) (by decide +kernel)) rfl, by decide, by decide, by decide +kernel⟩
theorem zM_X2_span : zz_MV m_X2_span 0 := ⟨zw_X2_span, zz_in (List.mem_of_getElem? (i := 566) (by decide +kernel)) rfl, zz_in (List.mem_of_getElem? (i := 567) (by decide +kernel)) rfl⟩
theorem zw_X2_buckets : zz_Mw m_X2_buckets 0 := ⟨zz_in (List.mem_of_getElem? (i := 615) (by decide +kernel)) rfl, zz_in (List.mem_of_getElem? (i := 93) (by decide +kernel)) rfl, by decide, by decide, by decide +kernel⟩
theorem zM_X2_buckets : zz_MV m_X2_buckets 0 := ⟨zw_X2_buckets, zz_in (List.mem_of_getElem? (i := 613) (by decide +kernel)) rfl, zz_in (List.mem_of_getElem? (i := 614) (by decide +kernel)) rfl⟩
theorem zw_X2_isFull : zz_Mw m_X2_isFull 0 := ⟨zz_in (List.mem_of_getElem? (i := 623) (by decide +kernel)) rfl, zz_in (List.mem_of_getElem? (i := 93) (by decide +kernel)) rfl, by decide, by decide, by decide +kernel⟩
theorem zM_X2_isFull : zz_MV m_X2_isFull 0 := ⟨zw_X2_isFull, zz_in (List.mem_of_getElem? (i := 621) (by decide +kernel)) rfl, zz_in (List.mem_of_getElem? (i := 622) (by decide +kernel)) rfl⟩
theorem zw_X2_load : zz_Mw m_X2_load 0 := ⟨zz_in (List.mem_of_getElem? (i := 611) (by decide +kernel)) rfl, zz_in (List.mem_of_getElem? (i := 93) (by decide +kernel)) rfl, by decide, by decide, by decide +kernel⟩
theorem zM_X2_load : zz_MV m_X2_load 0 := ⟨zw_X2_load, zz_in (List.mem_of_getElem? (i := 609) (by decide +kernel)) rfl, zz_in (List.mem_of_getElem? (i := 610) (by decide +kernel)) rfl⟩
theorem zw_X2_addressOf : zz_Mw m_X2_addressOf 1 := ⟨zz_in (List.mem_of_getElem? (i := 564) (by decide +kernel)) rfl, zz_in (List.mem_of_getElem? (i := 93) (by decide +kernel)) rfl, by decide, by decide, by decide +kernel⟩
theorem zM_X2_addressOf : zz_MV m_X2_addressOf 1 := ⟨zw_X2_addressOf, zz_in (List.mem_of_getElem? (i := 562) (by decide +kernel)) rfl, zz_in (List.mem_of_getElem? (i := 563) (by decide +kernel)) rfl⟩
theorem zw_X2_spanAmong : zz_Mw m_X2_spanAmong 1 := ⟨zz_in (List.mem_of_getElem? (i := 766) (by decide +kernel)) rfl, zz_in (List.mem_of_getElem? (i := 93) (by decide +kernel)) rfl, by decide, by decide, by decide +kernel⟩
theorem zM_X2_spanAmong : zz_MV m_X2_spanAmong 1 := ⟨zw_X2_spanAmong, zz_in (List.mem_of_getElem? (i := 764) (by decide +kernel)) rfl, zz_in (List.mem_of_getElem? (i := 765) (by decide +kernel)) rfl⟩
theorem zw_X2_addressAmong : zz_Mw m_X2_addressAmong 2 := ⟨zz_in (List.mem_of_getElem? (i := 762) (by decide +kernel)) rfl, zz_in (List.mem_of_getElem? (i := 93) (by decide +kernel)) rfl, by decide, by decide, by decide +kernel⟩
theorem zM_X2_addressAmong : zz_MV m_X2_addressAmong 2 := ⟨zw_X2_addressAmong, zz_in (List.mem_of_getElem? (i := 760) (by decide +kernel)) rfl, zz_in (List.mem_of_getElem? (i := 761) (by decide +kernel)) rfl⟩
theorem zw_X2_address : zz_Mw m_X2_address 3 := ⟨zz_in (List.mem_of_getElem? (i := 571) (by decide +kernel)) rfl, zz_in (List.mem_of_getElem? (i := 93) (by decide +kernel)) rfl, by decide, by decide, by decide +kernel⟩
theorem zM_X2_address : zz_MS m_X2_address 3 := ⟨zw_X2_address, zz_in (List.mem_of_getElem? (i := 570) (by decide +kernel)) rfl⟩
theorem zw_X2_hashAt : zz_Mw m_X2_hashAt 1 := ⟨zz_in (List.mem_of_getElem? (i := 842) (by decide +kernel)) rfl, zz_in (List.mem_of_getElem? (i := 93) (by decide +kernel)) rfl, by decide, by decide, by decide +kernel⟩
theorem zM_X2_hashAt : zz_MV m_X2_hashAt 1 := ⟨zw_X2_hashAt, zz_in (List.mem_of_getElem? (i := 840) (by decide +kernel)) rfl, zz_in (List.mem_of_getElem? (i := 841) (by decide +kernel)) rfl⟩
theorem zw_X2_holds : zz_Mw m_X2_holds 2 := ⟨zz_in (List.mem_of_getElem? (i := 918) (by decide +kernel)) rfl, zz_in (List.mem_of_getElem? (i := 93) (by decide +kernel)) rfl, by decide, by decide, by decide +kernel⟩
theorem zM_X2_holds : zz_MV m_X2_holds 2 := ⟨zw_X2_holds, zz_in (List.mem_of_getElem? (i := 916) (by decide +kernel)) rfl, zz_in (List.mem_of_getElem? (i := 917) (by decide +kernel)) rfl⟩
theorem zw_X2_valueOf : zz_Mw m_X2_valueOf 1 := ⟨zz_in (List.mem_of_getElem? (i := 937) (by decide +kernel)) rfl, zz_in (List.mem_of_getElem? (i := 93) (by decide +kernel)) rfl, by decide, by decide, by decide +kernel⟩
theorem zM_X2_valueOf : zz_MV m_X2_valueOf 1 := ⟨zw_X2_valueOf, zz_in (List.mem_of_getElem? (i := 935) (by decide +kernel)) rfl, zz_in (List.mem_of_getElem? (i := 936) (by decide +kernel)) rfl⟩
theorem zw_X2_readsFor : zz_Mw m_X2_readsFor 2 := ⟨zz_in (List.mem_of_getElem? (i := 677) (by decide +kernel)) rfl, zz_in (List.mem_of_getElem? (i := 93) (by decide +kernel)) rfl, by decide, by decide, by decide +kernel⟩
theorem zM_X2_readsFor : zz_MV m_X2_readsFor 2 := ⟨zw_X2_readsFor, zz_in (List.mem_of_getElem? (i := 675) (by decide +kernel)) rfl, zz_in (List.mem_of_getElem? (i := 676) (by decide +kernel)) rfl⟩
theorem zw_X2_placeBehind : zz_Mw m_X2_placeBehind 1 := ⟨zz_in (List.mem_of_getElem? (i := 978) (by decide +kernel)) rfl, zz_in (List.mem_of_getElem? (i := 93) (by decide +kernel)) rfl, by decide, by decide, by decide +kernel⟩
theorem zM_X2_placeBehind : zz_MV m_X2_placeBehind 1 := ⟨zw_X2_placeBehind, zz_in (List.mem_of_getElem? (i := 976) (by decide +kernel)) rfl, zz_in (List.mem_of_getElem? (i := 977) (by decide +kernel)) rfl⟩
theorem zw_X2_look : zz_Mw m_X2_look 1 := ⟨zz_in (List.mem_of_getElem? (i := 673) (by decide +kernel)) rfl, zz_in (List.mem_of_getElem? (i := 93) (by decide +kernel)) rfl, by decide, by decide, by decide +kernel⟩
theorem zM_X2_look : zz_MV m_X2_look 1 := ⟨zw_X2_look, zz_in (List.mem_of_getElem? (i := 671) (by decide +kernel)) rfl, zz_in (List.mem_of_getElem? (i := 672) (by decide +kernel)) rfl⟩
theorem zw_X2_store : zz_Mw m_X2_store 2 := ⟨zz_in (List.mem_of_getElem? (i := 546) (by decide +kernel)) rfl, zz_in (List.mem_of_getElem? (i := 93) (by decide +kernel)) rfl, by decide, by decide, by decide +kernel⟩
theorem zM_X2_store : zz_MV m_X2_store 2 := ⟨zw_X2_store, zz_in (List.mem_of_getElem? (i := 544) (by decide +kernel)) rfl, zz_in (List.mem_of_getElem? (i := 545) (by decide +kernel)) rfl⟩
theorem zw_X2_overwrite : zz_Mw m_X2_overwrite 3 := ⟨zz_in (List.mem_of_getElem? (i := 590) (by decide +kernel)) rfl, zz_in (List.mem_of_getElem? (i := 93) (by decide +kernel)) rfl, by decide, by decide, by decide +kernel⟩
theorem zM_X2_overwrite : zz_MV m_X2_overwrite 3 := ⟨zw_X2_overwrite, zz_in (List.mem_of_getElem? (i := 589) (by decide +kernel)) rfl, zz_in (List.mem_of_getElem? (i := 9) (by decide +kernel)) rfl⟩
theorem zw_X2_remove : zz_Mw m_X2_remove 1 := ⟨zz_in (List.mem_of_getElem? (i := 645) (by decide +kernel)) rfl, zz_in (List.mem_of_getElem? (i := 93) (by decide +kernel)) rfl, by decide, by decide, by decide +kernel⟩
theorem zM_X2_remove : zz_MV m_X2_remove 1 := ⟨zw_X2_remove, zz_in (List.mem_of_getElem? (i := 643) (by decide +kernel)) rfl, zz_in (List.mem_of_getElem? (i := 644) (by decide +kernel)) rfl⟩
theorem zw_X2_goesAtNextSplit : zz_Mw m_X2_goesAtNextSplit 1 := ⟨zz_in (List.mem_of_getElem? (i := 638) (by decide +kernel)) rfl, zz_in (List.mem_of_getElem? (i := 93) (by decide +kernel)) rfl, by decide, by decide, by decide +kernel⟩
theorem zM_X2_goesAtNextSplit : zz_MV m_X2_goesAtNextSplit 1 := ⟨zw_X2_goesAtNextSplit, zz_in (List.mem_of_getElem? (i := 636) (by decide +kernel)) rfl, zz_in (List.mem_of_getElem? (i := 637) (by decide +kernel)) rfl⟩
theorem zw_X2_divide : zz_Mw m_X2_divide 0 := ⟨zz_in (List.mem_of_getElem? (i := 619) (by decide +kernel)) rfl, zz_in (List.mem_of_getElem? (i := 93) (by decide +kernel)) rfl, by decide, by decide, by decide +kernel⟩
theorem zM_X2_divide : zz_MV m_X2_divide 0 := ⟨zw_X2_divide, zz_in (List.mem_of_getElem? (i := 617) (by decide +kernel)) rfl, zz_in (List.mem_of_getElem? (i := 618) (by decide +kernel)) rfl⟩
theorem zw_X2_unite : zz_Mw m_X2_unite 0 := ⟨zz_in (List.mem_of_getElem? (i := 669) (by decide +kernel)) rfl, zz_in (List.mem_of_getElem? (i := 93) (by decide +kernel)) rfl, by decide, by decide, by decide +kernel⟩
theorem zM_X2_unite : zz_MV m_X2_unite 0 := ⟨zw_X2_unite, zz_in (List.mem_of_getElem? (i := 667) (by decide +kernel)) rfl, zz_in (List.mem_of_getElem? (i := 668) (by decide +kernel)) rfl⟩
theorem zw_X2_draw : zz_Mw m_X2_draw 0 := ⟨zz_in (List.mem_of_getElem? (i := 692) (by decide +kernel)) rfl, zz_in (List.mem_of_getElem? (i := 93) (by decide +kernel)) rfl, by decide, by decide, by decide +kernel⟩
theorem zM_X2_draw : zz_MV m_X2_draw 0 := ⟨zw_X2_draw, zz_in (List.mem_of_getElem? (i := 691) (by decide +kernel)) rfl, zz_in (List.mem_of_getElem? (i := 12) (by decide +kernel)) rfl⟩
theorem zw_X2_storeDrawn : zz_Mw m_X2_storeDrawn 1 := ⟨zz_in (List.mem_of_getElem? (i := 688) (by decide +kernel)) rfl, zz_in (List.mem_of_getElem? (i := 93) (by decide +kernel)) rfl, by decide, by decide, by decide +kernel⟩
theorem zM_X2_storeDrawn : zz_MV m_X2_storeDrawn 1 := ⟨zw_X2_storeDrawn, zz_in (List.mem_of_getElem? (i := 686) (by decide +kernel)) rfl, zz_in (List.mem_of_getElem? (i := 687) (by decide +kernel)) rfl⟩
theorem zw_X2_removeDrawn : zz_Mw m_X2_removeDrawn 1 := ⟨zz_in (List.mem_of_getElem? (i := 698) (by decide +kernel)) rfl, zz_in (List.mem_of_getElem? (i := 93) (by decide +kernel)) rfl, by decide, by decide, by decide +kernel⟩
theorem zM_X2_removeDrawn : zz_MV m_X2_removeDrawn 1 := ⟨zw_X2_removeDrawn, zz_in (List.mem_of_getElem? (i := 696) (by decide +kernel)) rfl, zz_in (List.mem_of_getElem? (i := 697) (by decide +kernel)) rfl⟩
theorem zw_X3_init : zz_Mw m_X3_init 0 := ⟨zz_in (List.mem_of_getElem? (i := 202) (by decide +kernel)) rfl, zz_in (List.mem_of_getElem? (i := 94) (by decide +kernel)) rfl, by decide, by decide, by decide +kernel⟩
theorem zM_X3_init : zz_MC m_X3_init 0 := ⟨zw_X3_init, rfl, zz_in (List.mem_of_getElem? (i := 201) (by decide +kernel)) rfl⟩
theorem zw_X3_take : zz_Mw m_X3_take 2 := ⟨zz_in (List.mem_of_getElem? (i := 508) (by decide +kernel)) rfl, zz_in (List.mem_of_getElem? (i := 94) (by decide +kernel)) rfl, by decide, by decide, by decide +kernel⟩
theorem zM_X3_take : zz_MV m_X3_take 2 := ⟨zw_X3_take, zz_in (List.mem_of_getElem? (i := 506) (by decide +kernel)) rfl, zz_in (List.mem_of_getElem? (i := 507) (by decide +kernel)) rfl⟩
theorem zw_X3_copyFrom : zz_Mw m_X3_copyFrom 1 := ⟨zz_in (List.mem_of_getElem? (i := 870) (by decide +kernel)) rfl, zz_in (List.mem_of_getElem? (i := 94) (by decide +kernel)) rfl, by decide, by decide, by decide +kernel⟩
theorem zM_X3_copyFrom : zz_MV m_X3_copyFrom 1 := ⟨zw_X3_copyFrom, zz_in (List.mem_of_getElem? (i := 868) (by decide +kernel)) rfl, zz_in (List.mem_of_getElem? (i := 869) (by decide +kernel)) rfl⟩
theorem zw_X3_hashOf : zz_Mw m_X3_hashOf 1 := ⟨zz_in (List.mem_of_getElem? (i := 550) (by decide +kernel)) rfl, zz_in (List.mem_of_getElem? (i := 94) (by decide +kernel)) rfl, by decide, by decide, by decide +kernel⟩
theorem zM_X3_hashOf : zz_MV m_X3_hashOf 1 := ⟨zw_X3_hashOf, zz_in (List.mem_of_getElem? (i := 548) (by decide +kernel)) rfl, zz_in (List.mem_of_getElem? (i := 549) (by decide +kernel)) rfl⟩
theorem zw_X3_changed : zz_Mw m_X3_changed 2 := ⟨zz_in (List.mem_of_getElem? (i := 553) (by decide +kernel)) rfl, zz_in (List.mem_of_getElem? (i := 94) (by decide +kernel)) rfl, by decide, by decide, by decide +kernel⟩
theorem zM_X3_changed : zz_MS m_X3_changed 2 := ⟨zw_X3_changed, zz_in (List.mem_of_getElem? (i := 552) (by decide +kernel)) rfl⟩
theorem zw_X3_joined : zz_Mw m_X3_joined 3 := ⟨zz_in (List.mem_of_getElem? (i := 560) (by decide +kernel)) rfl, zz_in (List.mem_of_getElem? (i := 94) (by decide +kernel)) rfl, by decide, by decide, by decide +kernel⟩
theorem zM_X3_joined : zz_MS m_X3_joined 3 := ⟨zw_X3_joined, zz_in (List.mem_of_getElem? (i := 559) (by decide +kernel)) rfl⟩
theorem zw_X4_init : zz_Mw m_X4_init 0 := ⟨zz_in (List.mem_of_getElem? (i := 142) (by decide +kernel)) rfl, zz_in (List.mem_of_getElem? (i := 91) (by decide +kernel)) rfl, by decide, by decide, by decide +kernel⟩
theorem zM_X4_init : zz_MC m_X4_init 0 := ⟨zw_X4_init, rfl, zz_in (List.mem_of_getElem? (i := 141) (by decide +kernel)) rfl⟩
theorem zw_X4_read : zz_Mw m_X4_read 1 := ⟨zz_in (List.mem_of_getElem? (i := 445) (by decide +kernel)) rfl, zz_in (List.mem_of_getElem? (i := 91) (by decide +kernel)) rfl, by decide, by decide, by decide +kernel⟩
theorem zM_X4_read : zz_MV m_X4_read 1 := ⟨zw_X4_read, zz_in (List.mem_of_getElem? (i := 443) (by decide +kernel)) rfl, zz_in (List.mem_of_getElem? (i := 444) (by decide +kernel)) rfl⟩
theorem zw_X4_isWhole : zz_Mw m_X4_isWhole 1 := ⟨zz_in (List.mem_of_getElem? (i := 449) (by decide +kernel)) rfl, zz_in (List.mem_of_getElem? (i := 91) (by decide +kernel)) rfl, by decide, by decide, by decide +kernel⟩
theorem zM_X4_isWhole : zz_MV m_X4_isWhole 1 := ⟨zw_X4_isWhole, zz_in (List.mem_of_getElem? (i := 448) (by decide +kernel)) rfl, zz_in (List.mem_of_getElem? (i := 0) (by decide +kernel)) rfl⟩
theorem zw_X4_readPart : zz_Mw m_X4_readPart 1 := ⟨zz_in (List.mem_of_getElem? (i := 457) (by decide +kernel)) rfl, zz_in (List.mem_of_getElem? (i := 91) (by decide +kernel)) rfl, by decide, by decide, by decide +kernel⟩
theorem zM_X4_readPart : zz_MV m_X4_readPart 1 := ⟨zw_X4_readPart, zz_in (List.mem_of_getElem? (i := 456) (by decide +kernel)) rfl, zz_in (List.mem_of_getElem? (i := 1) (by decide +kernel)) rfl⟩
theorem zw_X4_openOne : zz_Mw m_X4_openOne 2 := ⟨zz_in (List.mem_of_getElem? (i := 493) (by decide +kernel)) rfl, zz_in (List.mem_of_getElem? (i := 91) (by decide +kernel)) rfl, by decide, by decide, by decide +kernel⟩
theorem zM_X4_openOne : zz_MV m_X4_openOne 2 := ⟨zw_X4_openOne, zz_in (List.mem_of_getElem? (i := 492) (by decide +kernel)) rfl, zz_in (List.mem_of_getElem? (i := 5) (by decide +kernel)) rfl⟩
theorem zw_X4_readRound : zz_Mw m_X4_readRound 1 := ⟨zz_in (List.mem_of_getElem? (i := 497) (by decide +kernel)) rfl, zz_in (List.mem_of_getElem? (i := 91) (by decide +kernel)) rfl, by decide, by decide, by decide +kernel⟩
theorem zM_X4_readRound : zz_MS m_X4_readRound 1 := ⟨zw_X4_readRound, zz_in (List.mem_of_getElem? (i := 496) (by decide +kernel)) rfl⟩
theorem zw_X4_readBehindPart : zz_Mw m_X4_readBehindPart 1 := ⟨zz_in (List.mem_of_getElem? (i := 501) (by decide +kernel)) rfl, zz_in (List.mem_of_getElem? (i := 91) (by decide +kernel)) rfl, by decide, by decide, by decide +kernel⟩
theorem zM_X4_readBehindPart : zz_MV m_X4_readBehindPart 1 := ⟨zw_X4_readBehindPart, zz_in (List.mem_of_getElem? (i := 500) (by decide +kernel)) rfl, zz_in (List.mem_of_getElem? (i := 6) (by decide +kernel)) rfl⟩
theorem zw_X4_isJoiningSign : zz_Mw m_X4_isJoiningSign 1 := ⟨zz_in (List.mem_of_getElem? (i := 504) (by decide +kernel)) rfl, zz_in (List.mem_of_getElem? (i := 91) (by decide +kernel)) rfl, by decide, by decide, by decide +kernel⟩
theorem zM_X4_isJoiningSign : zz_MS m_X4_isJoiningSign 1 := ⟨zw_X4_isJoiningSign, zz_in (List.mem_of_getElem? (i := 503) (by decide +kernel)) rfl⟩
theorem zw_X4_endPart : zz_Mw m_X4_endPart 0 := ⟨zz_in (List.mem_of_getElem? (i := 488) (by decide +kernel)) rfl, zz_in (List.mem_of_getElem? (i := 91) (by decide +kernel)) rfl, by decide, by decide, by decide +kernel⟩
theorem zM_X4_endPart : zz_MV m_X4_endPart 0 := ⟨zw_X4_endPart, zz_in (List.mem_of_getElem? (i := 487) (by decide +kernel)) rfl, zz_in (List.mem_of_getElem? (i := 4) (by decide +kernel)) rfl⟩
theorem zw_X4_emit : zz_Mw m_X4_emit 1 := ⟨zz_in (List.mem_of_getElem? (i := 484) (by decide +kernel)) rfl, zz_in (List.mem_of_getElem? (i := 91) (by decide +kernel)) rfl, by decide, by decide, by decide +kernel⟩
theorem zM_X4_emit : zz_MV m_X4_emit 1 := ⟨zw_X4_emit, zz_in (List.mem_of_getElem? (i := 483) (by decide +kernel)) rfl, zz_in (List.mem_of_getElem? (i := 3) (by decide +kernel)) rfl⟩
theorem zw_X5_init : zz_Mw m_X5_init 0 := ⟨zz_in (List.mem_of_getElem? (i := 278) (by decide +kernel)) rfl, zz_in (List.mem_of_getElem? (i := 96) (by decide +kernel)) rfl, by decide, by decide, by decide +kernel⟩
theorem zM_X5_init : zz_MC m_X5_init 0 := ⟨zw_X5_init, rfl, zz_in (List.mem_of_getElem? (i := 277) (by decide +kernel)) rfl⟩
theorem zw_X5_codeOf : zz_Mw m_X5_codeOf 3 := ⟨zz_in (List.mem_of_getElem? (i := 574) (by decide +kernel)) rfl, zz_in (List.mem_of_getElem? (i := 96) (by decide +kernel)) rfl, by decide, by decide, by decide +kernel⟩
theorem zM_X5_codeOf : zz_MS m_X5_codeOf 3 := ⟨zw_X5_codeOf, zz_in (List.mem_of_getElem? (i := 573) (by decide +kernel)) rfl⟩
theorem zw_X5_copyFrom : zz_Mw m_X5_copyFrom 1 := ⟨zz_in (List.mem_of_getElem? (i := 879) (by decide +kernel)) rfl, zz_in (List.mem_of_getElem? (i := 96) (by decide +kernel)) rfl, by decide, by decide, by decide +kernel⟩
theorem zM_X5_copyFrom : zz_MV m_X5_copyFrom 1 := ⟨zw_X5_copyFrom, zz_in (List.mem_of_getElem? (i := 877) (by decide +kernel)) rfl, zz_in (List.mem_of_getElem? (i := 878) (by decide +kernel)) rfl⟩
theorem zw_X5_placeFrom : zz_Mw m_X5_placeFrom 1 := ⟨zz_in (List.mem_of_getElem? (i := 583) (by decide +kernel)) rfl, zz_in (List.mem_of_getElem? (i := 96) (by decide +kernel)) rfl, by decide, by decide, by decide +kernel⟩
theorem zM_X5_placeFrom : zz_MV m_X5_placeFrom 1 := ⟨zw_X5_placeFrom, zz_in (List.mem_of_getElem? (i := 581) (by decide +kernel)) rfl, zz_in (List.mem_of_getElem? (i := 582) (by decide +kernel)) rfl⟩
theorem zw_X5_has : zz_Mw m_X5_has 1 := ⟨zz_in (List.mem_of_getElem? (i := 579) (by decide +kernel)) rfl, zz_in (List.mem_of_getElem? (i := 96) (by decide +kernel)) rfl, by decide, by decide, by decide +kernel⟩
theorem zM_X5_has : zz_MV m_X5_has 1 := ⟨zw_X5_has, zz_in (List.mem_of_getElem? (i := 577) (by decide +kernel)) rfl, zz_in (List.mem_of_getElem? (i := 578) (by decide +kernel)) rfl⟩
theorem zw_X5_insert : zz_Mw m_X5_insert 1 := ⟨zz_in (List.mem_of_getElem? (i := 606) (by decide +kernel)) rfl, zz_in (List.mem_of_getElem? (i := 96) (by decide +kernel)) rfl, by decide, by decide, by decide +kernel⟩
theorem zM_X5_insert : zz_MV m_X5_insert 1 := ⟨zw_X5_insert, zz_in (List.mem_of_getElem? (i := 604) (by decide +kernel)) rfl, zz_in (List.mem_of_getElem? (i := 605) (by decide +kernel)) rfl⟩
theorem zw_X5_remove : zz_Mw m_X5_remove 1 := ⟨zz_in (List.mem_of_getElem? (i := 665) (by decide +kernel)) rfl, zz_in (List.mem_of_getElem? (i := 96) (by decide +kernel)) rfl, by decide, by decide, by decide +kernel⟩
theorem zM_X5_remove : zz_MV m_X5_remove 1 := ⟨zw_X5_remove, zz_in (List.mem_of_getElem? (i := 663) (by decide +kernel)) rfl, zz_in (List.mem_of_getElem? (i := 664) (by decide +kernel)) rfl⟩
theorem zw_X5_keyAt : zz_Mw m_X5_keyAt 1 := ⟨zz_in (List.mem_of_getElem? (i := 702) (by decide +kernel)) rfl, zz_in (List.mem_of_getElem? (i := 96) (by decide +kernel)) rfl, by decide, by decide, by decide +kernel⟩
theorem zM_X5_keyAt : zz_MV m_X5_keyAt 1 := ⟨zw_X5_keyAt, zz_in (List.mem_of_getElem? (i := 700) (by decide +kernel)) rfl, zz_in (List.mem_of_getElem? (i := 701) (by decide +kernel)) rfl⟩
theorem zw_X5_hashAt : zz_Mw m_X5_hashAt 2 := ⟨zz_in (List.mem_of_getElem? (i := 846) (by decide +kernel)) rfl, zz_in (List.mem_of_getElem? (i := 96) (by decide +kernel)) rfl, by decide, by decide, by decide +kernel⟩
theorem zM_X5_hashAt : zz_MV m_X5_hashAt 2 := ⟨zw_X5_hashAt, zz_in (List.mem_of_getElem? (i := 844) (by decide +kernel)) rfl, zz_in (List.mem_of_getElem? (i := 845) (by decide +kernel)) rfl⟩
theorem zw_X6_init : zz_Mw m_X6_init 0 := ⟨zz_in (List.mem_of_getElem? (i := 293) (by decide +kernel)) rfl, zz_in (List.mem_of_getElem? (i := 97) (by decide +kernel)) rfl, by decide, by decide, by decide +kernel⟩
theorem zM_X6_init : zz_MC m_X6_init 0 := ⟨zw_X6_init, rfl, zz_in (List.mem_of_getElem? (i := 292) (by decide +kernel)) rfl⟩
theorem zw_X6_copyFrom : zz_Mw m_X6_copyFrom 1 := ⟨zz_in (List.mem_of_getElem? (i := 883) (by decide +kernel)) rfl, zz_in (List.mem_of_getElem? (i := 97) (by decide +kernel)) rfl, by decide, by decide, by decide +kernel⟩
theorem zM_X6_copyFrom : zz_MV m_X6_copyFrom 1 := ⟨zw_X6_copyFrom, zz_in (List.mem_of_getElem? (i := 881) (by decide +kernel)) rfl, zz_in (List.mem_of_getElem? (i := 882) (by decide +kernel)) rfl⟩
theorem zw_X6_closeAll : zz_Mw m_X6_closeAll 0 := ⟨zz_in (List.mem_of_getElem? (i := 428) (by decide +kernel)) rfl, zz_in (List.mem_of_getElem? (i := 97) (by decide +kernel)) rfl, by decide, by decide, by decide +kernel⟩
theorem zM_X6_closeAll : zz_MV m_X6_closeAll 0 := ⟨zw_X6_closeAll, zz_in (List.mem_of_getElem? (i := 426) (by decide +kernel)) rfl, zz_in (List.mem_of_getElem? (i := 427) (by decide +kernel)) rfl⟩
theorem zw_X6_close : zz_Mw m_X6_close 1 := ⟨zz_in (List.mem_of_getElem? (i := 995) (by decide +kernel)) rfl, zz_in (List.mem_of_getElem? (i := 97) (by decide +kernel)) rfl, by decide, by decide, by decide +kernel⟩
theorem zM_X6_close : zz_MV m_X6_close 1 := ⟨zw_X6_close, zz_in (List.mem_of_getElem? (i := 993) (by decide +kernel)) rfl, zz_in (List.mem_of_getElem? (i := 994) (by decide +kernel)) rfl⟩
theorem zw_X6_isOpen : zz_Mw m_X6_isOpen 1 := ⟨zz_in (List.mem_of_getElem? (i := 973) (by decide +kernel)) rfl, zz_in (List.mem_of_getElem? (i := 97) (by decide +kernel)) rfl, by decide, by decide, by decide +kernel⟩
theorem zM_X6_isOpen : zz_MV m_X6_isOpen 1 := ⟨zw_X6_isOpen, zz_in (List.mem_of_getElem? (i := 971) (by decide +kernel)) rfl, zz_in (List.mem_of_getElem? (i := 972) (by decide +kernel)) rfl⟩
theorem zw_X6_lowestClosed : zz_Mw m_X6_lowestClosed 0 := ⟨zz_in (List.mem_of_getElem? (i := 961) (by decide +kernel)) rfl, zz_in (List.mem_of_getElem? (i := 97) (by decide +kernel)) rfl, by decide, by decide, by decide +kernel⟩
theorem zM_X6_lowestClosed : zz_MV m_X6_lowestClosed 0 := ⟨zw_X6_lowestClosed, zz_in (List.mem_of_getElem? (i := 959) (by decide +kernel)) rfl, zz_in (List.mem_of_getElem? (i := 960) (by decide +kernel)) rfl⟩
theorem zw_X6_begin : zz_Mw m_X6_begin 1 := ⟨zz_in (List.mem_of_getElem? (i := 965) (by decide +kernel)) rfl, zz_in (List.mem_of_getElem? (i := 97) (by decide +kernel)) rfl, by decide, by decide, by decide +kernel⟩
theorem zM_X6_begin : zz_MV m_X6_begin 1 := ⟨zw_X6_begin, zz_in (List.mem_of_getElem? (i := 963) (by decide +kernel)) rfl, zz_in (List.mem_of_getElem? (i := 964) (by decide +kernel)) rfl⟩
theorem zw_X6_openOnes : zz_Mw m_X6_openOnes 0 := ⟨zz_in (List.mem_of_getElem? (i := 1019) (by decide +kernel)) rfl, zz_in (List.mem_of_getElem? (i := 97) (by decide +kernel)) rfl, by decide, by decide, by decide +kernel⟩
theorem zM_X6_openOnes : zz_MV m_X6_openOnes 0 := ⟨zw_X6_openOnes, zz_in (List.mem_of_getElem? (i := 1017) (by decide +kernel)) rfl, zz_in (List.mem_of_getElem? (i := 1018) (by decide +kernel)) rfl⟩
theorem zw_X7_init : zz_Mw m_X7_init 0 := ⟨zz_in (List.mem_of_getElem? (i := 169) (by decide +kernel)) rfl, zz_in (List.mem_of_getElem? (i := 92) (by decide +kernel)) rfl, by decide, by decide, by decide +kernel⟩
theorem zM_X7_init : zz_MC m_X7_init 0 := ⟨zw_X7_init, rfl, zz_in (List.mem_of_getElem? (i := 168) (by decide +kernel)) rfl⟩
theorem zw_X7_read : zz_Mw m_X7_read 1 := ⟨zz_in (List.mem_of_getElem? (i := 522) (by decide +kernel)) rfl, zz_in (List.mem_of_getElem? (i := 92) (by decide +kernel)) rfl, by decide, by decide, by decide +kernel⟩
theorem zM_X7_read : zz_MV m_X7_read 1 := ⟨zw_X7_read, zz_in (List.mem_of_getElem? (i := 520) (by decide +kernel)) rfl, zz_in (List.mem_of_getElem? (i := 521) (by decide +kernel)) rfl⟩
theorem zw_X7_readStep : zz_Mw m_X7_readStep 2 := ⟨zz_in (List.mem_of_getElem? (i := 527) (by decide +kernel)) rfl, zz_in (List.mem_of_getElem? (i := 92) (by decide +kernel)) rfl, by decide, by decide, by decide +kernel⟩
theorem zM_X7_readStep : zz_MV m_X7_readStep 2 := ⟨zw_X7_readStep, zz_in (List.mem_of_getElem? (i := 526) (by decide +kernel)) rfl, zz_in (List.mem_of_getElem? (i := 7) (by decide +kernel)) rfl⟩
theorem zw_X7_isLetter : zz_Mw m_X7_isLetter 1 := ⟨zz_in (List.mem_of_getElem? (i := 531) (by decide +kernel)) rfl, zz_in (List.mem_of_getElem? (i := 92) (by decide +kernel)) rfl, by decide, by decide, by decide +kernel⟩
theorem zM_X7_isLetter : zz_MS m_X7_isLetter 1 := ⟨zw_X7_isLetter, zz_in (List.mem_of_getElem? (i := 530) (by decide +kernel)) rfl⟩
theorem zw_X8_init : zz_Mw m_X8_init 0 := ⟨zz_in (List.mem_of_getElem? (i := 115) (by decide +kernel)) rfl, zz_in (List.mem_of_getElem? (i := 90) (by decide +kernel)) rfl, by decide, by decide, by decide +kernel⟩
theorem zM_X8_init : zz_MC m_X8_init 0 := ⟨zw_X8_init, rfl, zz_in (List.mem_of_getElem? (i := 114) (by decide +kernel)) rfl⟩
theorem zw_X8_hasRoom : zz_Mw m_X8_hasRoom 0 := ⟨zz_in (List.mem_of_getElem? (i := 409) (by decide +kernel)) rfl, zz_in (List.mem_of_getElem? (i := 90) (by decide +kernel)) rfl, by decide, by decide, by decide +kernel⟩
theorem zM_X8_hasRoom : zz_MV m_X8_hasRoom 0 := ⟨zw_X8_hasRoom, zz_in (List.mem_of_getElem? (i := 407) (by decide +kernel)) rfl, zz_in (List.mem_of_getElem? (i := 408) (by decide +kernel)) rfl⟩
theorem zw_X8_append : zz_Mw m_X8_append 1 := ⟨zz_in (List.mem_of_getElem? (i := 413) (by decide +kernel)) rfl, zz_in (List.mem_of_getElem? (i := 90) (by decide +kernel)) rfl, by decide, by decide, by decide +kernel⟩
theorem zM_X8_append : zz_MV m_X8_append 1 := ⟨zw_X8_append, zz_in (List.mem_of_getElem? (i := 411) (by decide +kernel)) rfl, zz_in (List.mem_of_getElem? (i := 412) (by decide +kernel)) rfl⟩
theorem zw_X8_has : zz_Mw m_X8_has 3 := ⟨zz_in (List.mem_of_getElem? (i := 436) (by decide +kernel)) rfl, zz_in (List.mem_of_getElem? (i := 90) (by decide +kernel)) rfl, by decide, by decide, by decide +kernel⟩
theorem zM_X8_has : zz_MV m_X8_has 3 := ⟨zw_X8_has, zz_in (List.mem_of_getElem? (i := 434) (by decide +kernel)) rfl, zz_in (List.mem_of_getElem? (i := 435) (by decide +kernel)) rfl⟩
theorem zw_X8_open : zz_Mw m_X8_open 1 := ⟨zz_in (List.mem_of_getElem? (i := 441) (by decide +kernel)) rfl, zz_in (List.mem_of_getElem? (i := 90) (by decide +kernel)) rfl, by decide, by decide, by decide +kernel⟩
theorem zM_X8_open : zz_MV m_X8_open 1 := ⟨zw_X8_open, zz_in (List.mem_of_getElem? (i := 439) (by decide +kernel)) rfl, zz_in (List.mem_of_getElem? (i := 440) (by decide +kernel)) rfl⟩
theorem zw_X8_sign : zz_Mw m_X8_sign 0 := ⟨zz_in (List.mem_of_getElem? (i := 453) (by decide +kernel)) rfl, zz_in (List.mem_of_getElem? (i := 90) (by decide +kernel)) rfl, by decide, by decide, by decide +kernel⟩
theorem zM_X8_sign : zz_MV m_X8_sign 0 := ⟨zw_X8_sign, zz_in (List.mem_of_getElem? (i := 451) (by decide +kernel)) rfl, zz_in (List.mem_of_getElem? (i := 452) (by decide +kernel)) rfl⟩
theorem zw_X8_pass : zz_Mw m_X8_pass 0 := ⟨zz_in (List.mem_of_getElem? (i := 480) (by decide +kernel)) rfl, zz_in (List.mem_of_getElem? (i := 90) (by decide +kernel)) rfl, by decide, by decide, by decide +kernel⟩
theorem zM_X8_pass : zz_MV m_X8_pass 0 := ⟨zw_X8_pass, zz_in (List.mem_of_getElem? (i := 478) (by decide +kernel)) rfl, zz_in (List.mem_of_getElem? (i := 479) (by decide +kernel)) rfl⟩
theorem zw_X8_failHere : zz_Mw m_X8_failHere 1 := ⟨zz_in (List.mem_of_getElem? (i := 472) (by decide +kernel)) rfl, zz_in (List.mem_of_getElem? (i := 90) (by decide +kernel)) rfl, by decide, by decide, by decide +kernel⟩
theorem zM_X8_failHere : zz_MV m_X8_failHere 1 := ⟨zw_X8_failHere, zz_in (List.mem_of_getElem? (i := 470) (by decide +kernel)) rfl, zz_in (List.mem_of_getElem? (i := 471) (by decide +kernel)) rfl⟩
theorem zw_X8_fail : zz_Mw m_X8_fail 2 := ⟨zz_in (List.mem_of_getElem? (i := 476) (by decide +kernel)) rfl, zz_in (List.mem_of_getElem? (i := 90) (by decide +kernel)) rfl, by decide, by decide, by decide +kernel⟩
theorem zM_X8_fail : zz_MV m_X8_fail 2 := ⟨zw_X8_fail, zz_in (List.mem_of_getElem? (i := 475) (by decide +kernel)) rfl, zz_in (List.mem_of_getElem? (i := 2) (by decide +kernel)) rfl⟩
theorem zw_X8_isAtDigit : zz_Mw m_X8_isAtDigit 0 := ⟨zz_in (List.mem_of_getElem? (i := 461) (by decide +kernel)) rfl, zz_in (List.mem_of_getElem? (i := 90) (by decide +kernel)) rfl, by decide, by decide, by decide +kernel⟩
theorem zM_X8_isAtDigit : zz_MV m_X8_isAtDigit 0 := ⟨zw_X8_isAtDigit, zz_in (List.mem_of_getElem? (i := 459) (by decide +kernel)) rfl, zz_in (List.mem_of_getElem? (i := 460) (by decide +kernel)) rfl⟩
theorem zw_X8_number : zz_Mw m_X8_number 2 := ⟨zz_in (List.mem_of_getElem? (i := 467) (by decide +kernel)) rfl, zz_in (List.mem_of_getElem? (i := 90) (by decide +kernel)) rfl, by decide, by decide, by decide +kernel⟩
theorem zM_X8_number : zz_MV m_X8_number 2 := ⟨zw_X8_number, zz_in (List.mem_of_getElem? (i := 465) (by decide +kernel)) rfl, zz_in (List.mem_of_getElem? (i := 466) (by decide +kernel)) rfl⟩
theorem zw_X8_expect : zz_Mw m_X8_expect 1 := ⟨zz_in (List.mem_of_getElem? (i := 538) (by decide +kernel)) rfl, zz_in (List.mem_of_getElem? (i := 90) (by decide +kernel)) rfl, by decide, by decide, by decide +kernel⟩
theorem zM_X8_expect : zz_MV m_X8_expect 1 := ⟨zw_X8_expect, zz_in (List.mem_of_getElem? (i := 536) (by decide +kernel)) rfl, zz_in (List.mem_of_getElem? (i := 537) (by decide +kernel)) rfl⟩
theorem zw_X9_init : zz_Mw m_X9_init 0 := ⟨zz_in (List.mem_of_getElem? (i := 107) (by decide +kernel)) rfl, zz_in (List.mem_of_getElem? (i := 89) (by decide +kernel)) rfl, by decide, by decide, by decide +kernel⟩
theorem zM_X9_init : zz_MC m_X9_init 0 := ⟨zw_X9_init, rfl, zz_in (List.mem_of_getElem? (i := 106) (by decide +kernel)) rfl⟩
theorem zw_X9_feed : zz_Mw m_X9_feed 5 := ⟨zz_in (List.mem_of_getElem? (i := 405) (by decide +kernel)) rfl, zz_in (List.mem_of_getElem? (i := 89) (by decide +kernel)) rfl, by decide, by decide, by decide +kernel⟩
theorem zM_X9_feed : zz_MV m_X9_feed 5 := ⟨zw_X9_feed, zz_in (List.mem_of_getElem? (i := 403) (by decide +kernel)) rfl, zz_in (List.mem_of_getElem? (i := 404) (by decide +kernel)) rfl⟩
theorem zw_X9_shape : zz_Mw m_X9_shape 5 := ⟨zz_in (List.mem_of_getElem? (i := 417) (by decide +kernel)) rfl, zz_in (List.mem_of_getElem? (i := 89) (by decide +kernel)) rfl, by decide, by decide, by decide +kernel⟩
theorem zM_X9_shape : zz_MV m_X9_shape 5 := ⟨zw_X9_shape, zz_in (List.mem_of_getElem? (i := 415) (by decide +kernel)) rfl, zz_in (List.mem_of_getElem? (i := 416) (by decide +kernel)) rfl⟩
theorem zw_X9_law : zz_Mw m_X9_law 1 := ⟨zz_in (List.mem_of_getElem? (i := 432) (by decide +kernel)) rfl, zz_in (List.mem_of_getElem? (i := 89) (by decide +kernel)) rfl, by decide, by decide, by decide +kernel⟩
theorem zM_X9_law : zz_MV m_X9_law 1 := ⟨zw_X9_law, zz_in (List.mem_of_getElem? (i := 430) (by decide +kernel)) rfl, zz_in (List.mem_of_getElem? (i := 431) (by decide +kernel)) rfl⟩
theorem zw_X9_work : zz_Mw m_X9_work 1 := ⟨zz_in (List.mem_of_getElem? (i := 518) (by decide +kernel)) rfl, zz_in (List.mem_of_getElem? (i := 89) (by decide +kernel)) rfl, by decide, by decide, by decide +kernel⟩
theorem zM_X9_work : zz_MV m_X9_work 1 := ⟨zw_X9_work, zz_in (List.mem_of_getElem? (i := 516) (by decide +kernel)) rfl, zz_in (List.mem_of_getElem? (i := 517) (by decide +kernel)) rfl⟩
theorem zw_X9_doStep : zz_Mw m_X9_doStep 4 := ⟨zz_in (List.mem_of_getElem? (i := 542) (by decide +kernel)) rfl, zz_in (List.mem_of_getElem? (i := 89) (by decide +kernel)) rfl, by decide, by decide, by decide +kernel⟩
theorem zM_X9_doStep : zz_MV m_X9_doStep 4 := ⟨zw_X9_doStep, zz_in (List.mem_of_getElem? (i := 541) (by decide +kernel)) rfl, zz_in (List.mem_of_getElem? (i := 8) (by decide +kernel)) rfl⟩
theorem zw_X9_storeRow : zz_Mw m_X9_storeRow 3 := ⟨zz_in (List.mem_of_getElem? (i := 683) (by decide +kernel)) rfl, zz_in (List.mem_of_getElem? (i := 89) (by decide +kernel)) rfl, by decide, by decide, by decide +kernel⟩
theorem zM_X9_storeRow : zz_MV m_X9_storeRow 3 := ⟨zw_X9_storeRow, zz_in (List.mem_of_getElem? (i := 682) (by decide +kernel)) rfl, zz_in (List.mem_of_getElem? (i := 11) (by decide +kernel)) rfl⟩
theorem zw_X9_put : zz_Mw m_X9_put 2 := ⟨zz_in (List.mem_of_getElem? (i := 708) (by decide +kernel)) rfl, zz_in (List.mem_of_getElem? (i := 89) (by decide +kernel)) rfl, by decide, by decide, by decide +kernel⟩
theorem zM_X9_put : zz_MV m_X9_put 2 := ⟨zw_X9_put, zz_in (List.mem_of_getElem? (i := 706) (by decide +kernel)) rfl, zz_in (List.mem_of_getElem? (i := 707) (by decide +kernel)) rfl⟩
theorem zw_X9_find : zz_Mw m_X9_find 1 := ⟨zz_in (List.mem_of_getElem? (i := 715) (by decide +kernel)) rfl, zz_in (List.mem_of_getElem? (i := 89) (by decide +kernel)) rfl, by decide, by decide, by decide +kernel⟩
theorem zM_X9_find : zz_MV m_X9_find 1 := ⟨zw_X9_find, zz_in (List.mem_of_getElem? (i := 713) (by decide +kernel)) rfl, zz_in (List.mem_of_getElem? (i := 714) (by decide +kernel)) rfl⟩
theorem zw_X9_drop : zz_Mw m_X9_drop 1 := ⟨zz_in (List.mem_of_getElem? (i := 719) (by decide +kernel)) rfl, zz_in (List.mem_of_getElem? (i := 89) (by decide +kernel)) rfl, by decide, by decide, by decide +kernel⟩
theorem zM_X9_drop : zz_MV m_X9_drop 1 := ⟨zw_X9_drop, zz_in (List.mem_of_getElem? (i := 717) (by decide +kernel)) rfl, zz_in (List.mem_of_getElem? (i := 718) (by decide +kernel)) rfl⟩
theorem zw_X9_split : zz_Mw m_X9_split 0 := ⟨zz_in (List.mem_of_getElem? (i := 723) (by decide +kernel)) rfl, zz_in (List.mem_of_getElem? (i := 89) (by decide +kernel)) rfl, by decide, by decide, by decide +kernel⟩
theorem zM_X9_split : zz_MV m_X9_split 0 := ⟨zw_X9_split, zz_in (List.mem_of_getElem? (i := 721) (by decide +kernel)) rfl, zz_in (List.mem_of_getElem? (i := 722) (by decide +kernel)) rfl⟩
theorem zw_X9_join : zz_Mw m_X9_join 0 := ⟨zz_in (List.mem_of_getElem? (i := 727) (by decide +kernel)) rfl, zz_in (List.mem_of_getElem? (i := 89) (by decide +kernel)) rfl, by decide, by decide, by decide +kernel⟩
theorem zM_X9_join : zz_MV m_X9_join 0 := ⟨zw_X9_join, zz_in (List.mem_of_getElem? (i := 725) (by decide +kernel)) rfl, zz_in (List.mem_of_getElem? (i := 726) (by decide +kernel)) rfl⟩
theorem zw_X9_fileIs : zz_Mw m_X9_fileIs 1 := ⟨zz_in (List.mem_of_getElem? (i := 731) (by decide +kernel)) rfl, zz_in (List.mem_of_getElem? (i := 89) (by decide +kernel)) rfl, by decide, by decide, by decide +kernel⟩
theorem zM_X9_fileIs : zz_MV m_X9_fileIs 1 := ⟨zw_X9_fileIs, zz_in (List.mem_of_getElem? (i := 729) (by decide +kernel)) rfl, zz_in (List.mem_of_getElem? (i := 730) (by decide +kernel)) rfl⟩
theorem zw_X9_keyIs : zz_Mw m_X9_keyIs 2 := ⟨zz_in (List.mem_of_getElem? (i := 752) (by decide +kernel)) rfl, zz_in (List.mem_of_getElem? (i := 89) (by decide +kernel)) rfl, by decide, by decide, by decide +kernel⟩
theorem zM_X9_keyIs : zz_MV m_X9_keyIs 2 := ⟨zw_X9_keyIs, zz_in (List.mem_of_getElem? (i := 750) (by decide +kernel)) rfl, zz_in (List.mem_of_getElem? (i := 751) (by decide +kernel)) rfl⟩
theorem zw_X9_movesOf : zz_Mw m_X9_movesOf 1 := ⟨zz_in (List.mem_of_getElem? (i := 758) (by decide +kernel)) rfl, zz_in (List.mem_of_getElem? (i := 89) (by decide +kernel)) rfl, by decide, by decide, by decide +kernel⟩
theorem zM_X9_movesOf : zz_MV m_X9_movesOf 1 := ⟨zw_X9_movesOf, zz_in (List.mem_of_getElem? (i := 757) (by decide +kernel)) rfl, zz_in (List.mem_of_getElem? (i := 13) (by decide +kernel)) rfl⟩
theorem zw_X9_where : zz_Mw m_X9_where 2 := ⟨zz_in (List.mem_of_getElem? (i := 772) (by decide +kernel)) rfl, zz_in (List.mem_of_getElem? (i := 89) (by decide +kernel)) rfl, by decide, by decide, by decide +kernel⟩
theorem zM_X9_where : zz_MV m_X9_where 2 := ⟨zw_X9_where, zz_in (List.mem_of_getElem? (i := 770) (by decide +kernel)) rfl, zz_in (List.mem_of_getElem? (i := 771) (by decide +kernel)) rfl⟩
theorem zw_X9_bucket : zz_Mw m_X9_bucket 2 := ⟨zz_in (List.mem_of_getElem? (i := 780) (by decide +kernel)) rfl, zz_in (List.mem_of_getElem? (i := 89) (by decide +kernel)) rfl, by decide, by decide, by decide +kernel⟩
theorem zM_X9_bucket : zz_MV m_X9_bucket 2 := ⟨zw_X9_bucket, zz_in (List.mem_of_getElem? (i := 778) (by decide +kernel)) rfl, zz_in (List.mem_of_getElem? (i := 779) (by decide +kernel)) rfl⟩
theorem zw_X9_page : zz_Mw m_X9_page 2 := ⟨zz_in (List.mem_of_getElem? (i := 797) (by decide +kernel)) rfl, zz_in (List.mem_of_getElem? (i := 89) (by decide +kernel)) rfl, by decide, by decide, by decide +kernel⟩
theorem zM_X9_page : zz_MV m_X9_page 2 := ⟨zw_X9_page, zz_in (List.mem_of_getElem? (i := 795) (by decide +kernel)) rfl, zz_in (List.mem_of_getElem? (i := 796) (by decide +kernel)) rfl⟩
theorem zw_X9_chains : zz_Mw m_X9_chains 1 := ⟨zz_in (List.mem_of_getElem? (i := 802) (by decide +kernel)) rfl, zz_in (List.mem_of_getElem? (i := 89) (by decide +kernel)) rfl, by decide, by decide, by decide +kernel⟩
theorem zM_X9_chains : zz_MV m_X9_chains 1 := ⟨zw_X9_chains, zz_in (List.mem_of_getElem? (i := 800) (by decide +kernel)) rfl, zz_in (List.mem_of_getElem? (i := 801) (by decide +kernel)) rfl⟩
theorem zw_X9_finds : zz_Mw m_X9_finds 1 := ⟨zz_in (List.mem_of_getElem? (i := 806) (by decide +kernel)) rfl, zz_in (List.mem_of_getElem? (i := 89) (by decide +kernel)) rfl, by decide, by decide, by decide +kernel⟩
theorem zM_X9_finds : zz_MV m_X9_finds 1 := ⟨zw_X9_finds, zz_in (List.mem_of_getElem? (i := 804) (by decide +kernel)) rfl, zz_in (List.mem_of_getElem? (i := 805) (by decide +kernel)) rfl⟩
theorem zw_X9_next : zz_Mw m_X9_next 1 := ⟨zz_in (List.mem_of_getElem? (i := 818) (by decide +kernel)) rfl, zz_in (List.mem_of_getElem? (i := 89) (by decide +kernel)) rfl, by decide, by decide, by decide +kernel⟩
theorem zM_X9_next : zz_MV m_X9_next 1 := ⟨zw_X9_next, zz_in (List.mem_of_getElem? (i := 816) (by decide +kernel)) rfl, zz_in (List.mem_of_getElem? (i := 817) (by decide +kernel)) rfl⟩
theorem zw_X9_parted : zz_Mw m_X9_parted 2 := ⟨zz_in (List.mem_of_getElem? (i := 824) (by decide +kernel)) rfl, zz_in (List.mem_of_getElem? (i := 89) (by decide +kernel)) rfl, by decide, by decide, by decide +kernel⟩
theorem zM_X9_parted : zz_MV m_X9_parted 2 := ⟨zw_X9_parted, zz_in (List.mem_of_getElem? (i := 822) (by decide +kernel)) rfl, zz_in (List.mem_of_getElem? (i := 823) (by decide +kernel)) rfl⟩
theorem zw_X9_enough : zz_Mw m_X9_enough 1 := ⟨zz_in (List.mem_of_getElem? (i := 828) (by decide +kernel)) rfl, zz_in (List.mem_of_getElem? (i := 89) (by decide +kernel)) rfl, by decide, by decide, by decide +kernel⟩
theorem zM_X9_enough : zz_MV m_X9_enough 1 := ⟨zw_X9_enough, zz_in (List.mem_of_getElem? (i := 826) (by decide +kernel)) rfl, zz_in (List.mem_of_getElem? (i := 827) (by decide +kernel)) rfl⟩
theorem zw_X9_mostIn : zz_Mw m_X9_mostIn 1 := ⟨zz_in (List.mem_of_getElem? (i := 832) (by decide +kernel)) rfl, zz_in (List.mem_of_getElem? (i := 89) (by decide +kernel)) rfl, by decide, by decide, by decide +kernel⟩
theorem zM_X9_mostIn : zz_MV m_X9_mostIn 1 := ⟨zw_X9_mostIn, zz_in (List.mem_of_getElem? (i := 831) (by decide +kernel)) rfl, zz_in (List.mem_of_getElem? (i := 16) (by decide +kernel)) rfl⟩
theorem zw_X9_countAmong : zz_Mw m_X9_countAmong 1 := ⟨zz_in (List.mem_of_getElem? (i := 836) (by decide +kernel)) rfl, zz_in (List.mem_of_getElem? (i := 89) (by decide +kernel)) rfl, by decide, by decide, by decide +kernel⟩
theorem zM_X9_countAmong : zz_MV m_X9_countAmong 1 := ⟨zw_X9_countAmong, zz_in (List.mem_of_getElem? (i := 835) (by decide +kernel)) rfl, zz_in (List.mem_of_getElem? (i := 17) (by decide +kernel)) rfl⟩
theorem zw_X9_anew : zz_Mw m_X9_anew 2 := ⟨zz_in (List.mem_of_getElem? (i := 852) (by decide +kernel)) rfl, zz_in (List.mem_of_getElem? (i := 89) (by decide +kernel)) rfl, by decide, by decide, by decide +kernel⟩
theorem zM_X9_anew : zz_MV m_X9_anew 2 := ⟨zw_X9_anew, zz_in (List.mem_of_getElem? (i := 850) (by decide +kernel)) rfl, zz_in (List.mem_of_getElem? (i := 851) (by decide +kernel)) rfl⟩
theorem zw_X9_pagesFor : zz_Mw m_X9_pagesFor 2 := ⟨zz_in (List.mem_of_getElem? (i := 855) (by decide +kernel)) rfl, zz_in (List.mem_of_getElem? (i := 89) (by decide +kernel)) rfl, by decide, by decide, by decide +kernel⟩
theorem zM_X9_pagesFor : zz_MS m_X9_pagesFor 2 := ⟨zw_X9_pagesFor, zz_in (List.mem_of_getElem? (i := 854) (by decide +kernel)) rfl⟩
theorem zw_X9_readsOfAll : zz_Mw m_X9_readsOfAll 2 := ⟨zz_in (List.mem_of_getElem? (i := 858) (by decide +kernel)) rfl, zz_in (List.mem_of_getElem? (i := 89) (by decide +kernel)) rfl, by decide, by decide, by decide +kernel⟩
theorem zM_X9_readsOfAll : zz_MS m_X9_readsOfAll 2 := ⟨zw_X9_readsOfAll, zz_in (List.mem_of_getElem? (i := 857) (by decide +kernel)) rfl⟩
theorem zw_X9_torn : zz_Mw m_X9_torn 3 := ⟨zz_in (List.mem_of_getElem? (i := 862) (by decide +kernel)) rfl, zz_in (List.mem_of_getElem? (i := 89) (by decide +kernel)) rfl, by decide, by decide, by decide +kernel⟩
theorem zM_X9_torn : zz_MV m_X9_torn 3 := ⟨zw_X9_torn, zz_in (List.mem_of_getElem? (i := 860) (by decide +kernel)) rfl, zz_in (List.mem_of_getElem? (i := 861) (by decide +kernel)) rfl⟩
theorem zw_X9_isWritten : zz_Mw m_X9_isWritten 3 := ⟨zz_in (List.mem_of_getElem? (i := 890) (by decide +kernel)) rfl, zz_in (List.mem_of_getElem? (i := 89) (by decide +kernel)) rfl, by decide, by decide, by decide +kernel⟩
theorem zM_X9_isWritten : zz_MV m_X9_isWritten 3 := ⟨zw_X9_isWritten, zz_in (List.mem_of_getElem? (i := 889) (by decide +kernel)) rfl, zz_in (List.mem_of_getElem? (i := 18) (by decide +kernel)) rfl⟩
theorem zw_X9_grown : zz_Mw m_X9_grown 2 := ⟨zz_in (List.mem_of_getElem? (i := 894) (by decide +kernel)) rfl, zz_in (List.mem_of_getElem? (i := 89) (by decide +kernel)) rfl, by decide, by decide, by decide +kernel⟩
theorem zM_X9_grown : zz_MV m_X9_grown 2 := ⟨zw_X9_grown, zz_in (List.mem_of_getElem? (i := 892) (by decide +kernel)) rfl, zz_in (List.mem_of_getElem? (i := 893) (by decide +kernel)) rfl⟩
theorem zw_X9_tuned : zz_Mw m_X9_tuned 1 := ⟨zz_in (List.mem_of_getElem? (i := 898) (by decide +kernel)) rfl, zz_in (List.mem_of_getElem? (i := 89) (by decide +kernel)) rfl, by decide, by decide, by decide +kernel⟩
theorem zM_X9_tuned : zz_MV m_X9_tuned 1 := ⟨zw_X9_tuned, zz_in (List.mem_of_getElem? (i := 896) (by decide +kernel)) rfl, zz_in (List.mem_of_getElem? (i := 897) (by decide +kernel)) rfl⟩
theorem zw_X9_signs : zz_Mw m_X9_signs 1 := ⟨zz_in (List.mem_of_getElem? (i := 903) (by decide +kernel)) rfl, zz_in (List.mem_of_getElem? (i := 89) (by decide +kernel)) rfl, by decide, by decide, by decide +kernel⟩
theorem zM_X9_signs : zz_MV m_X9_signs 1 := ⟨zw_X9_signs, zz_in (List.mem_of_getElem? (i := 901) (by decide +kernel)) rfl, zz_in (List.mem_of_getElem? (i := 902) (by decide +kernel)) rfl⟩
theorem zw_X9_gatherSigns : zz_Mw m_X9_gatherSigns 0 := ⟨zz_in (List.mem_of_getElem? (i := 907) (by decide +kernel)) rfl, zz_in (List.mem_of_getElem? (i := 89) (by decide +kernel)) rfl, by decide, by decide, by decide +kernel⟩
theorem zM_X9_gatherSigns : zz_MV m_X9_gatherSigns 0 := ⟨zw_X9_gatherSigns, zz_in (List.mem_of_getElem? (i := 906) (by decide +kernel)) rfl, zz_in (List.mem_of_getElem? (i := 19) (by decide +kernel)) rfl⟩
theorem zw_X9_signOf : zz_Mw m_X9_signOf 1 := ⟨zz_in (List.mem_of_getElem? (i := 910) (by decide +kernel)) rfl, zz_in (List.mem_of_getElem? (i := 89) (by decide +kernel)) rfl, by decide, by decide, by decide +kernel⟩
theorem zM_X9_signOf : zz_MS m_X9_signOf 1 := ⟨zw_X9_signOf, zz_in (List.mem_of_getElem? (i := 909) (by decide +kernel)) rfl⟩
theorem zw_X9_passed : zz_Mw m_X9_passed 1 := ⟨zz_in (List.mem_of_getElem? (i := 914) (by decide +kernel)) rfl, zz_in (List.mem_of_getElem? (i := 89) (by decide +kernel)) rfl, by decide, by decide, by decide +kernel⟩
theorem zM_X9_passed : zz_MV m_X9_passed 1 := ⟨zw_X9_passed, zz_in (List.mem_of_getElem? (i := 912) (by decide +kernel)) rfl, zz_in (List.mem_of_getElem? (i := 913) (by decide +kernel)) rfl⟩
theorem zw_X9_costing : zz_Mw m_X9_costing 1 := ⟨zz_in (List.mem_of_getElem? (i := 922) (by decide +kernel)) rfl, zz_in (List.mem_of_getElem? (i := 89) (by decide +kernel)) rfl, by decide, by decide, by decide +kernel⟩
theorem zM_X9_costing : zz_MV m_X9_costing 1 := ⟨zw_X9_costing, zz_in (List.mem_of_getElem? (i := 920) (by decide +kernel)) rfl, zz_in (List.mem_of_getElem? (i := 921) (by decide +kernel)) rfl⟩
theorem zw_X9_since : zz_Mw m_X9_since 1 := ⟨zz_in (List.mem_of_getElem? (i := 930) (by decide +kernel)) rfl, zz_in (List.mem_of_getElem? (i := 89) (by decide +kernel)) rfl, by decide, by decide, by decide +kernel⟩
theorem zM_X9_since : zz_MV m_X9_since 1 := ⟨zw_X9_since, zz_in (List.mem_of_getElem? (i := 928) (by decide +kernel)) rfl, zz_in (List.mem_of_getElem? (i := 929) (by decide +kernel)) rfl⟩
theorem zw_X9_differs : zz_Mw m_X9_differs 4 := ⟨zz_in (List.mem_of_getElem? (i := 933) (by decide +kernel)) rfl, zz_in (List.mem_of_getElem? (i := 89) (by decide +kernel)) rfl, by decide, by decide, by decide +kernel⟩
theorem zM_X9_differs : zz_MS m_X9_differs 4 := ⟨zw_X9_differs, zz_in (List.mem_of_getElem? (i := 932) (by decide +kernel)) rfl⟩
theorem zw_X9_alike : zz_Mw m_X9_alike 1 := ⟨zz_in (List.mem_of_getElem? (i := 941) (by decide +kernel)) rfl, zz_in (List.mem_of_getElem? (i := 89) (by decide +kernel)) rfl, by decide, by decide, by decide +kernel⟩
theorem zM_X9_alike : zz_MV m_X9_alike 1 := ⟨zw_X9_alike, zz_in (List.mem_of_getElem? (i := 939) (by decide +kernel)) rfl, zz_in (List.mem_of_getElem? (i := 940) (by decide +kernel)) rfl⟩
theorem zw_X9_inOrder : zz_Mw m_X9_inOrder 1 := ⟨zz_in (List.mem_of_getElem? (i := 945) (by decide +kernel)) rfl, zz_in (List.mem_of_getElem? (i := 89) (by decide +kernel)) rfl, by decide, by decide, by decide +kernel⟩
theorem zM_X9_inOrder : zz_MV m_X9_inOrder 1 := ⟨zw_X9_inOrder, zz_in (List.mem_of_getElem? (i := 943) (by decide +kernel)) rfl, zz_in (List.mem_of_getElem? (i := 944) (by decide +kernel)) rfl⟩
theorem zw_X9_between : zz_Mw m_X9_between 2 := ⟨zz_in (List.mem_of_getElem? (i := 949) (by decide +kernel)) rfl, zz_in (List.mem_of_getElem? (i := 89) (by decide +kernel)) rfl, by decide, by decide, by decide +kernel⟩
theorem zM_X9_between : zz_MV m_X9_between 2 := ⟨zw_X9_between, zz_in (List.mem_of_getElem? (i := 947) (by decide +kernel)) rfl, zz_in (List.mem_of_getElem? (i := 948) (by decide +kernel)) rfl⟩
theorem zw_X9_bits : zz_Mw m_X9_bits 3 := ⟨zz_in (List.mem_of_getElem? (i := 953) (by decide +kernel)) rfl, zz_in (List.mem_of_getElem? (i := 89) (by decide +kernel)) rfl, by decide, by decide, by decide +kernel⟩
theorem zM_X9_bits : zz_MV m_X9_bits 3 := ⟨zw_X9_bits, zz_in (List.mem_of_getElem? (i := 951) (by decide +kernel)) rfl, zz_in (List.mem_of_getElem? (i := 952) (by decide +kernel)) rfl⟩
theorem zw_X9_scan : zz_Mw m_X9_scan 0 := ⟨zz_in (List.mem_of_getElem? (i := 957) (by decide +kernel)) rfl, zz_in (List.mem_of_getElem? (i := 89) (by decide +kernel)) rfl, by decide, by decide, by decide +kernel⟩
theorem zM_X9_scan : zz_MV m_X9_scan 0 := ⟨zw_X9_scan, zz_in (List.mem_of_getElem? (i := 955) (by decide +kernel)) rfl, zz_in (List.mem_of_getElem? (i := 956) (by decide +kernel)) rfl⟩
theorem zw_X9_tell : zz_Mw m_X9_tell 1 := ⟨zz_in (List.mem_of_getElem? (i := 969) (by decide +kernel)) rfl, zz_in (List.mem_of_getElem? (i := 89) (by decide +kernel)) rfl, by decide, by decide, by decide +kernel⟩
theorem zM_X9_tell : zz_MV m_X9_tell 1 := ⟨zw_X9_tell, zz_in (List.mem_of_getElem? (i := 967) (by decide +kernel)) rfl, zz_in (List.mem_of_getElem? (i := 968) (by decide +kernel)) rfl⟩
theorem zw_X9_scanIs : zz_Mw m_X9_scanIs 2 := ⟨zz_in (List.mem_of_getElem? (i := 983) (by decide +kernel)) rfl, zz_in (List.mem_of_getElem? (i := 89) (by decide +kernel)) rfl, by decide, by decide, by decide +kernel⟩
theorem zM_X9_scanIs : zz_MV m_X9_scanIs 2 := ⟨zw_X9_scanIs, zz_in (List.mem_of_getElem? (i := 981) (by decide +kernel)) rfl, zz_in (List.mem_of_getElem? (i := 982) (by decide +kernel)) rfl⟩
theorem zw_X9_reach : zz_Mw m_X9_reach 1 := ⟨zz_in (List.mem_of_getElem? (i := 987) (by decide +kernel)) rfl, zz_in (List.mem_of_getElem? (i := 89) (by decide +kernel)) rfl, by decide, by decide, by decide +kernel⟩
theorem zM_X9_reach : zz_MV m_X9_reach 1 := ⟨zw_X9_reach, zz_in (List.mem_of_getElem? (i := 985) (by decide +kernel)) rfl, zz_in (List.mem_of_getElem? (i := 986) (by decide +kernel)) rfl⟩
theorem zw_X9_ends : zz_Mw m_X9_ends 1 := ⟨zz_in (List.mem_of_getElem? (i := 991) (by decide +kernel)) rfl, zz_in (List.mem_of_getElem? (i := 89) (by decide +kernel)) rfl, by decide, by decide, by decide +kernel⟩
theorem zM_X9_ends : zz_MV m_X9_ends 1 := ⟨zw_X9_ends, zz_in (List.mem_of_getElem? (i := 989) (by decide +kernel)) rfl, zz_in (List.mem_of_getElem? (i := 990) (by decide +kernel)) rfl⟩
theorem zw_X9_seed : zz_Mw m_X9_seed 1 := ⟨zz_in (List.mem_of_getElem? (i := 999) (by decide +kernel)) rfl, zz_in (List.mem_of_getElem? (i := 89) (by decide +kernel)) rfl, by decide, by decide, by decide +kernel⟩
theorem zM_X9_seed : zz_MV m_X9_seed 1 := ⟨zw_X9_seed, zz_in (List.mem_of_getElem? (i := 997) (by decide +kernel)) rfl, zz_in (List.mem_of_getElem? (i := 998) (by decide +kernel)) rfl⟩
theorem zw_X9_keep : zz_Mw m_X9_keep 0 := ⟨zz_in (List.mem_of_getElem? (i := 1003) (by decide +kernel)) rfl, zz_in (List.mem_of_getElem? (i := 89) (by decide +kernel)) rfl, by decide, by decide, by decide +kernel⟩
theorem zM_X9_keep : zz_MV m_X9_keep 0 := ⟨zw_X9_keep, zz_in (List.mem_of_getElem? (i := 1001) (by decide +kernel)) rfl, zz_in (List.mem_of_getElem? (i := 1002) (by decide +kernel)) rfl⟩
theorem zw_X9_undo : zz_Mw m_X9_undo 0 := ⟨zz_in (List.mem_of_getElem? (i := 1007) (by decide +kernel)) rfl, zz_in (List.mem_of_getElem? (i := 89) (by decide +kernel)) rfl, by decide, by decide, by decide +kernel⟩
theorem zM_X9_undo : zz_MV m_X9_undo 0 := ⟨zw_X9_undo, zz_in (List.mem_of_getElem? (i := 1005) (by decide +kernel)) rfl, zz_in (List.mem_of_getElem? (i := 1006) (by decide +kernel)) rfl⟩
theorem zw_X9_check : zz_Mw m_X9_check 1 := ⟨zz_in (List.mem_of_getElem? (i := 1011) (by decide +kernel)) rfl, zz_in (List.mem_of_getElem? (i := 89) (by decide +kernel)) rfl, by decide, by decide, by decide +kernel⟩
theorem zM_X9_check : zz_MV m_X9_check 1 := ⟨zw_X9_check, zz_in (List.mem_of_getElem? (i := 1009) (by decide +kernel)) rfl, zz_in (List.mem_of_getElem? (i := 1010) (by decide +kernel)) rfl⟩
theorem zw_X9_count : zz_Mw m_X9_count 1 := ⟨zz_in (List.mem_of_getElem? (i := 1015) (by decide +kernel)) rfl, zz_in (List.mem_of_getElem? (i := 89) (by decide +kernel)) rfl, by decide, by decide, by decide +kernel⟩
theorem zM_X9_count : zz_MV m_X9_count 1 := ⟨zw_X9_count, zz_in (List.mem_of_getElem? (i := 1013) (by decide +kernel)) rfl, zz_in (List.mem_of_getElem? (i := 1014) (by decide +kernel)) rfl⟩
theorem zw_X9_within : zz_Mw m_X9_within 3 := ⟨zz_in (List.mem_of_getElem? (i := 420) (by decide +kernel)) rfl, zz_in (List.mem_of_getElem? (i := 89) (by decide +kernel)) rfl, by decide, by decide, by decide +kernel⟩
theorem zM_X9_within : zz_MS m_X9_within 3 := ⟨zw_X9_within, zz_in (List.mem_of_getElem? (i := 419) (by decide +kernel)) rfl⟩
theorem zw_X9_isKey : zz_Mw m_X9_isKey 1 := ⟨zz_in (List.mem_of_getElem? (i := 711) (by decide +kernel)) rfl, zz_in (List.mem_of_getElem? (i := 89) (by decide +kernel)) rfl, by decide, by decide, by decide +kernel⟩
theorem zM_X9_isKey : zz_MS m_X9_isKey 1 := ⟨zw_X9_isKey, zz_in (List.mem_of_getElem? (i := 710) (by decide +kernel)) rfl⟩
theorem zw_X9_isBucket : zz_Mw m_X9_isBucket 1 := ⟨zz_in (List.mem_of_getElem? (i := 784) (by decide +kernel)) rfl, zz_in (List.mem_of_getElem? (i := 89) (by decide +kernel)) rfl, by decide, by decide, by decide +kernel⟩
theorem zM_X9_isBucket : zz_MV m_X9_isBucket 1 := ⟨zw_X9_isBucket, zz_in (List.mem_of_getElem? (i := 783) (by decide +kernel)) rfl, zz_in (List.mem_of_getElem? (i := 15) (by decide +kernel)) rfl⟩
theorem zw_X9_isAmount : zz_Mw m_X9_isAmount 1 := ⟨zz_in (List.mem_of_getElem? (i := 776) (by decide +kernel)) rfl, zz_in (List.mem_of_getElem? (i := 89) (by decide +kernel)) rfl, by decide, by decide, by decide +kernel⟩
theorem zM_X9_isAmount : zz_MV m_X9_isAmount 1 := ⟨zw_X9_isAmount, zz_in (List.mem_of_getElem? (i := 775) (by decide +kernel)) rfl, zz_in (List.mem_of_getElem? (i := 14) (by decide +kernel)) rfl⟩
theorem zw_X9_reversed : zz_Mw m_X9_reversed 1 := ⟨zz_in (List.mem_of_getElem? (i := 557) (by decide +kernel)) rfl, zz_in (List.mem_of_getElem? (i := 89) (by decide +kernel)) rfl, by decide, by decide, by decide +kernel⟩
theorem zM_X9_reversed : zz_MS m_X9_reversed 1 := ⟨zw_X9_reversed, zz_in (List.mem_of_getElem? (i := 556) (by decide +kernel)) rfl⟩
theorem zw_X10_init : zz_Mw m_X10_init 0 := ⟨zz_in (List.mem_of_getElem? (i := 1024) (by decide +kernel)) rfl, zz_in (List.mem_of_getElem? (i := 99) (by decide +kernel)) rfl, by decide, by decide, by decide +kernel⟩
theorem zM_X10_init : zz_MC m_X10_init 0 := ⟨zw_X10_init, rfl, zz_in (List.mem_of_getElem? (i := 1023) (by decide +kernel)) rfl⟩
theorem zw_X10_in : zz_Mw m_X10_in 3 := ⟨zz_in (List.mem_of_getElem? (i := 1129) (by decide +kernel)) rfl, zz_in (List.mem_of_getElem? (i := 99) (by decide +kernel)) rfl, by decide, by decide, by decide +kernel⟩
theorem zM_X10_in : zz_MS m_X10_in 3 := ⟨zw_X10_in, zz_in (List.mem_of_getElem? (i := 1128) (by decide +kernel)) rfl⟩
theorem zw_X10_min : zz_Mw m_X10_min 2 := ⟨zz_in (List.mem_of_getElem? (i := 1470) (by decide +kernel)) rfl, zz_in (List.mem_of_getElem? (i := 99) (by decide +kernel)) rfl, by decide, by decide, by decide +kernel⟩
theorem zM_X10_min : zz_MS m_X10_min 2 := ⟨zw_X10_min, zz_in (List.mem_of_getElem? (i := 1469) (by decide +kernel)) rfl⟩
theorem zw_X10_max : zz_Mw m_X10_max 2 := ⟨zz_in (List.mem_of_getElem? (i := 1427) (by decide +kernel)) rfl, zz_in (List.mem_of_getElem? (i := 99) (by decide +kernel)) rfl, by decide, by decide, by decide +kernel⟩
theorem zM_X10_max : zz_MS m_X10_max 2 := ⟨zw_X10_max, zz_in (List.mem_of_getElem? (i := 1426) (by decide +kernel)) rfl⟩
theorem zw_X10_has : zz_Mw m_X10_has 2 := ⟨zz_in (List.mem_of_getElem? (i := 1388) (by decide +kernel)) rfl, zz_in (List.mem_of_getElem? (i := 99) (by decide +kernel)) rfl, by decide, by decide, by decide +kernel⟩
theorem zM_X10_has : zz_MS m_X10_has 2 := ⟨zw_X10_has, zz_in (List.mem_of_getElem? (i := 1387) (by decide +kernel)) rfl⟩
theorem zw_X10_sizeOf : zz_Mw m_X10_sizeOf 1 := ⟨zz_in (List.mem_of_getElem? (i := 1596) (by decide +kernel)) rfl, zz_in (List.mem_of_getElem? (i := 99) (by decide +kernel)) rfl, by decide, by decide, by decide +kernel⟩
theorem zM_X10_sizeOf : zz_MS m_X10_sizeOf 1 := ⟨zw_X10_sizeOf, zz_in (List.mem_of_getElem? (i := 1595) (by decide +kernel)) rfl⟩
theorem zw_X10_copies : zz_Mw m_X10_copies 2 := ⟨zz_in (List.mem_of_getElem? (i := 1514) (by decide +kernel)) rfl, zz_in (List.mem_of_getElem? (i := 99) (by decide +kernel)) rfl, by decide, by decide, by decide +kernel⟩
theorem zM_X10_copies : zz_MV m_X10_copies 2 := ⟨zw_X10_copies, zz_in (List.mem_of_getElem? (i := 1513) (by decide +kernel)) rfl, zz_in (List.mem_of_getElem? (i := 81) (by decide +kernel)) rfl⟩
theorem zw_X10_empties : zz_Mw m_X10_empties 5 := ⟨zz_in (List.mem_of_getElem? (i := 1030) (by decide +kernel)) rfl, zz_in (List.mem_of_getElem? (i := 99) (by decide +kernel)) rfl, by decide, by decide, by decide +kernel⟩
theorem zM_X10_empties : zz_MV m_X10_empties 5 := ⟨zw_X10_empties, zz_in (List.mem_of_getElem? (i := 1029) (by decide +kernel)) rfl, zz_in (List.mem_of_getElem? (i := 20) (by decide +kernel)) rfl⟩
theorem zw_X10_shape : zz_Mw m_X10_shape 5 := ⟨zz_in (List.mem_of_getElem? (i := 1126) (by decide +kernel)) rfl, zz_in (List.mem_of_getElem? (i := 99) (by decide +kernel)) rfl, by decide, by decide, by decide +kernel⟩
theorem zM_X10_shape : zz_MV m_X10_shape 5 := ⟨zw_X10_shape, zz_in (List.mem_of_getElem? (i := 1124) (by decide +kernel)) rfl, zz_in (List.mem_of_getElem? (i := 1125) (by decide +kernel)) rfl⟩
theorem zw_X10_types : zz_Mw m_X10_types 1 := ⟨zz_in (List.mem_of_getElem? (i := 1137) (by decide +kernel)) rfl, zz_in (List.mem_of_getElem? (i := 99) (by decide +kernel)) rfl, by decide, by decide, by decide +kernel⟩
theorem zM_X10_types : zz_MV m_X10_types 1 := ⟨zw_X10_types, zz_in (List.mem_of_getElem? (i := 1136) (by decide +kernel)) rfl, zz_in (List.mem_of_getElem? (i := 21) (by decide +kernel)) rfl⟩
theorem zw_X10_feed : zz_Mw m_X10_feed 5 := ⟨zz_in (List.mem_of_getElem? (i := 1133) (by decide +kernel)) rfl, zz_in (List.mem_of_getElem? (i := 99) (by decide +kernel)) rfl, by decide, by decide, by decide +kernel⟩
theorem zM_X10_feed : zz_MV m_X10_feed 5 := ⟨zw_X10_feed, zz_in (List.mem_of_getElem? (i := 1131) (by decide +kernel)) rfl, zz_in (List.mem_of_getElem? (i := 1132) (by decide +kernel)) rfl⟩
theorem zw_X10_here : zz_Mw m_X10_here 0 := ⟨zz_in (List.mem_of_getElem? (i := 1153) (by decide +kernel)) rfl, zz_in (List.mem_of_getElem? (i := 99) (by decide +kernel)) rfl, by decide, by decide, by decide +kernel⟩
theorem zM_X10_here : zz_MV m_X10_here 0 := ⟨zw_X10_here, zz_in (List.mem_of_getElem? (i := 1152) (by decide +kernel)) rfl, zz_in (List.mem_of_getElem? (i := 24) (by decide +kernel)) rfl⟩
theorem zw_X10_wrongAt : zz_Mw m_X10_wrongAt 2 := ⟨zz_in (List.mem_of_getElem? (i := 1164) (by decide +kernel)) rfl, zz_in (List.mem_of_getElem? (i := 99) (by decide +kernel)) rfl, by decide, by decide, by decide +kernel⟩
theorem zM_X10_wrongAt : zz_MV m_X10_wrongAt 2 := ⟨zw_X10_wrongAt, zz_in (List.mem_of_getElem? (i := 1163) (by decide +kernel)) rfl, zz_in (List.mem_of_getElem? (i := 26) (by decide +kernel)) rfl⟩
theorem zw_X10_isDigit : zz_Mw m_X10_isDigit 1 := ⟨zz_in (List.mem_of_getElem? (i := 1167) (by decide +kernel)) rfl, zz_in (List.mem_of_getElem? (i := 99) (by decide +kernel)) rfl, by decide, by decide, by decide +kernel⟩
theorem zM_X10_isDigit : zz_MS m_X10_isDigit 1 := ⟨zw_X10_isDigit, zz_in (List.mem_of_getElem? (i := 1166) (by decide +kernel)) rfl⟩
theorem zw_X10_readsNumber : zz_Mw m_X10_readsNumber 2 := ⟨zz_in (List.mem_of_getElem? (i := 1180) (by decide +kernel)) rfl, zz_in (List.mem_of_getElem? (i := 99) (by decide +kernel)) rfl, by decide, by decide, by decide +kernel⟩
theorem zM_X10_readsNumber : zz_MV m_X10_readsNumber 2 := ⟨zw_X10_readsNumber, zz_in (List.mem_of_getElem? (i := 1179) (by decide +kernel)) rfl, zz_in (List.mem_of_getElem? (i := 29) (by decide +kernel)) rfl⟩
theorem zw_X10_notes : zz_Mw m_X10_notes 2 := ⟨zz_in (List.mem_of_getElem? (i := 1175) (by decide +kernel)) rfl, zz_in (List.mem_of_getElem? (i := 99) (by decide +kernel)) rfl, by decide, by decide, by decide +kernel⟩
theorem zM_X10_notes : zz_MV m_X10_notes 2 := ⟨zw_X10_notes, zz_in (List.mem_of_getElem? (i := 1174) (by decide +kernel)) rfl, zz_in (List.mem_of_getElem? (i := 28) (by decide +kernel)) rfl⟩
theorem zw_X10_waitsFor : zz_Mw m_X10_waitsFor 2 := ⟨zz_in (List.mem_of_getElem? (i := 1171) (by decide +kernel)) rfl, zz_in (List.mem_of_getElem? (i := 99) (by decide +kernel)) rfl, by decide, by decide, by decide +kernel⟩
theorem zM_X10_waitsFor : zz_MV m_X10_waitsFor 2 := ⟨zw_X10_waitsFor, zz_in (List.mem_of_getElem? (i := 1170) (by decide +kernel)) rfl, zz_in (List.mem_of_getElem? (i := 27) (by decide +kernel)) rfl⟩
theorem zw_X10_uppermost : zz_Mw m_X10_uppermost 0 := ⟨zz_in (List.mem_of_getElem? (i := 1188) (by decide +kernel)) rfl, zz_in (List.mem_of_getElem? (i := 99) (by decide +kernel)) rfl, by decide, by decide, by decide +kernel⟩
theorem zM_X10_uppermost : zz_MV m_X10_uppermost 0 := ⟨zw_X10_uppermost, zz_in (List.mem_of_getElem? (i := 1187) (by decide +kernel)) rfl, zz_in (List.mem_of_getElem? (i := 31) (by decide +kernel)) rfl⟩
theorem zw_X10_opens : zz_Mw m_X10_opens 1 := ⟨zz_in (List.mem_of_getElem? (i := 1160) (by decide +kernel)) rfl, zz_in (List.mem_of_getElem? (i := 99) (by decide +kernel)) rfl, by decide, by decide, by decide +kernel⟩
theorem zM_X10_opens : zz_MV m_X10_opens 1 := ⟨zw_X10_opens, zz_in (List.mem_of_getElem? (i := 1159) (by decide +kernel)) rfl, zz_in (List.mem_of_getElem? (i := 25) (by decide +kernel)) rfl⟩
theorem zw_X10_opener : zz_Mw m_X10_opener 1 := ⟨zz_in (List.mem_of_getElem? (i := 1156) (by decide +kernel)) rfl, zz_in (List.mem_of_getElem? (i := 99) (by decide +kernel)) rfl, by decide, by decide, by decide +kernel⟩
theorem zM_X10_opener : zz_MS m_X10_opener 1 := ⟨zw_X10_opener, zz_in (List.mem_of_getElem? (i := 1155) (by decide +kernel)) rfl⟩
theorem zw_X10_settles : zz_Mw m_X10_settles 0 := ⟨zz_in (List.mem_of_getElem? (i := 1184) (by decide +kernel)) rfl, zz_in (List.mem_of_getElem? (i := 99) (by decide +kernel)) rfl, by decide, by decide, by decide +kernel⟩
theorem zM_X10_settles : zz_MV m_X10_settles 0 := ⟨zw_X10_settles, zz_in (List.mem_of_getElem? (i := 1183) (by decide +kernel)) rfl, zz_in (List.mem_of_getElem? (i := 30) (by decide +kernel)) rfl⟩
theorem zw_X10_readsPart : zz_Mw m_X10_readsPart 0 := ⟨zz_in (List.mem_of_getElem? (i := 1149) (by decide +kernel)) rfl, zz_in (List.mem_of_getElem? (i := 99) (by decide +kernel)) rfl, by decide, by decide, by decide +kernel⟩
theorem zM_X10_readsPart : zz_MV m_X10_readsPart 0 := ⟨zw_X10_readsPart, zz_in (List.mem_of_getElem? (i := 1148) (by decide +kernel)) rfl, zz_in (List.mem_of_getElem? (i := 23) (by decide +kernel)) rfl⟩
theorem zw_X10_signOf : zz_Mw m_X10_signOf 1 := ⟨zz_in (List.mem_of_getElem? (i := 1191) (by decide +kernel)) rfl, zz_in (List.mem_of_getElem? (i := 99) (by decide +kernel)) rfl, by decide, by decide, by decide +kernel⟩
theorem zM_X10_signOf : zz_MS m_X10_signOf 1 := ⟨zw_X10_signOf, zz_in (List.mem_of_getElem? (i := 1190) (by decide +kernel)) rfl⟩
theorem zw_X10_closes : zz_Mw m_X10_closes 0 := ⟨zz_in (List.mem_of_getElem? (i := 1195) (by decide +kernel)) rfl, zz_in (List.mem_of_getElem? (i := 99) (by decide +kernel)) rfl, by decide, by decide, by decide +kernel⟩
theorem zM_X10_closes : zz_MV m_X10_closes 0 := ⟨zw_X10_closes, zz_in (List.mem_of_getElem? (i := 1194) (by decide +kernel)) rfl, zz_in (List.mem_of_getElem? (i := 32) (by decide +kernel)) rfl⟩
theorem zw_X10_readsLaw : zz_Mw m_X10_readsLaw 0 := ⟨zz_in (List.mem_of_getElem? (i := 1145) (by decide +kernel)) rfl, zz_in (List.mem_of_getElem? (i := 99) (by decide +kernel)) rfl, by decide, by decide, by decide +kernel⟩
theorem zM_X10_readsLaw : zz_MV m_X10_readsLaw 0 := ⟨zw_X10_readsLaw, zz_in (List.mem_of_getElem? (i := 1144) (by decide +kernel)) rfl, zz_in (List.mem_of_getElem? (i := 22) (by decide +kernel)) rfl⟩
theorem zw_X10_law : zz_Mw m_X10_law 1 := ⟨zz_in (List.mem_of_getElem? (i := 1141) (by decide +kernel)) rfl, zz_in (List.mem_of_getElem? (i := 99) (by decide +kernel)) rfl, by decide, by decide, by decide +kernel⟩
theorem zM_X10_law : zz_MV m_X10_law 1 := ⟨zw_X10_law, zz_in (List.mem_of_getElem? (i := 1139) (by decide +kernel)) rfl, zz_in (List.mem_of_getElem? (i := 1140) (by decide +kernel)) rfl⟩
theorem zw_X10_reversed : zz_Mw m_X10_reversed 1 := ⟨zz_in (List.mem_of_getElem? (i := 1245) (by decide +kernel)) rfl, zz_in (List.mem_of_getElem? (i := 99) (by decide +kernel)) rfl, by decide, by decide, by decide +kernel⟩
theorem zM_X10_reversed : zz_MS m_X10_reversed 1 := ⟨zw_X10_reversed, zz_in (List.mem_of_getElem? (i := 1244) (by decide +kernel)) rfl⟩
theorem zw_X10_joined : zz_Mw m_X10_joined 3 := ⟨zz_in (List.mem_of_getElem? (i := 1248) (by decide +kernel)) rfl, zz_in (List.mem_of_getElem? (i := 99) (by decide +kernel)) rfl, by decide, by decide, by decide +kernel⟩
theorem zM_X10_joined : zz_MS m_X10_joined 3 := ⟨zw_X10_joined, zz_in (List.mem_of_getElem? (i := 1247) (by decide +kernel)) rfl⟩
theorem zw_X10_turnedBy : zz_Mw m_X10_turnedBy 3 := ⟨zz_in (List.mem_of_getElem? (i := 1242) (by decide +kernel)) rfl, zz_in (List.mem_of_getElem? (i := 99) (by decide +kernel)) rfl, by decide, by decide, by decide +kernel⟩
theorem zM_X10_turnedBy : zz_MS m_X10_turnedBy 3 := ⟨zw_X10_turnedBy, zz_in (List.mem_of_getElem? (i := 1241) (by decide +kernel)) rfl⟩
theorem zw_X10_hashIn : zz_Mw m_X10_hashIn 2 := ⟨zz_in (List.mem_of_getElem? (i := 1239) (by decide +kernel)) rfl, zz_in (List.mem_of_getElem? (i := 99) (by decide +kernel)) rfl, by decide, by decide, by decide +kernel⟩
theorem zM_X10_hashIn : zz_MV m_X10_hashIn 2 := ⟨zw_X10_hashIn, zz_in (List.mem_of_getElem? (i := 1238) (by decide +kernel)) rfl, zz_in (List.mem_of_getElem? (i := 42) (by decide +kernel)) rfl⟩
theorem zw_X10_hashOf : zz_Mw m_X10_hashOf 1 := ⟨zz_in (List.mem_of_getElem? (i := 1235) (by decide +kernel)) rfl, zz_in (List.mem_of_getElem? (i := 99) (by decide +kernel)) rfl, by decide, by decide, by decide +kernel⟩
theorem zM_X10_hashOf : zz_MV m_X10_hashOf 1 := ⟨zw_X10_hashOf, zz_in (List.mem_of_getElem? (i := 1234) (by decide +kernel)) rfl, zz_in (List.mem_of_getElem? (i := 41) (by decide +kernel)) rfl⟩
theorem zw_X10_first : zz_Mw m_X10_first 1 := ⟨zz_in (List.mem_of_getElem? (i := 1207) (by decide +kernel)) rfl, zz_in (List.mem_of_getElem? (i := 99) (by decide +kernel)) rfl, by decide, by decide, by decide +kernel⟩
theorem zM_X10_first : zz_MV m_X10_first 1 := ⟨zw_X10_first, zz_in (List.mem_of_getElem? (i := 1206) (by decide +kernel)) rfl, zz_in (List.mem_of_getElem? (i := 34) (by decide +kernel)) rfl⟩
theorem zw_X10_buckets : zz_Mw m_X10_buckets 0 := ⟨zz_in (List.mem_of_getElem? (i := 1203) (by decide +kernel)) rfl, zz_in (List.mem_of_getElem? (i := 99) (by decide +kernel)) rfl, by decide, by decide, by decide +kernel⟩
theorem zM_X10_buckets : zz_MV m_X10_buckets 0 := ⟨zw_X10_buckets, zz_in (List.mem_of_getElem? (i := 1202) (by decide +kernel)) rfl, zz_in (List.mem_of_getElem? (i := 33) (by decide +kernel)) rfl⟩
theorem zw_X10_addressIn : zz_Mw m_X10_addressIn 2 := ⟨zz_in (List.mem_of_getElem? (i := 1295) (by decide +kernel)) rfl, zz_in (List.mem_of_getElem? (i := 99) (by decide +kernel)) rfl, by decide, by decide, by decide +kernel⟩
theorem zM_X10_addressIn : zz_MV m_X10_addressIn 2 := ⟨zw_X10_addressIn, zz_in (List.mem_of_getElem? (i := 1294) (by decide +kernel)) rfl, zz_in (List.mem_of_getElem? (i := 51) (by decide +kernel)) rfl⟩
theorem zw_X10_addressOf : zz_Mw m_X10_addressOf 1 := ⟨zz_in (List.mem_of_getElem? (i := 1291) (by decide +kernel)) rfl, zz_in (List.mem_of_getElem? (i := 99) (by decide +kernel)) rfl, by decide, by decide, by decide +kernel⟩
theorem zM_X10_addressOf : zz_MV m_X10_addressOf 1 := ⟨zw_X10_addressOf, zz_in (List.mem_of_getElem? (i := 1290) (by decide +kernel)) rfl, zz_in (List.mem_of_getElem? (i := 50) (by decide +kernel)) rfl⟩
theorem zw_X10_entryOf : zz_Mw m_X10_entryOf 2 := ⟨zz_in (List.mem_of_getElem? (i := 1283) (by decide +kernel)) rfl, zz_in (List.mem_of_getElem? (i := 99) (by decide +kernel)) rfl, by decide, by decide, by decide +kernel⟩
theorem zM_X10_entryOf : zz_MV m_X10_entryOf 2 := ⟨zw_X10_entryOf, zz_in (List.mem_of_getElem? (i := 1282) (by decide +kernel)) rfl, zz_in (List.mem_of_getElem? (i := 48) (by decide +kernel)) rfl⟩
theorem zw_X10_keysIn : zz_Mw m_X10_keysIn 1 := ⟨zz_in (List.mem_of_getElem? (i := 1268) (by decide +kernel)) rfl, zz_in (List.mem_of_getElem? (i := 99) (by decide +kernel)) rfl, by decide, by decide, by decide +kernel⟩
theorem zM_X10_keysIn : zz_MV m_X10_keysIn 1 := ⟨zw_X10_keysIn, zz_in (List.mem_of_getElem? (i := 1267) (by decide +kernel)) rfl, zz_in (List.mem_of_getElem? (i := 46) (by decide +kernel)) rfl⟩
theorem zw_X10_chainOf : zz_Mw m_X10_chainOf 1 := ⟨zz_in (List.mem_of_getElem? (i := 1215) (by decide +kernel)) rfl, zz_in (List.mem_of_getElem? (i := 99) (by decide +kernel)) rfl, by decide, by decide, by decide +kernel⟩
theorem zM_X10_chainOf : zz_MV m_X10_chainOf 1 := ⟨zw_X10_chainOf, zz_in (List.mem_of_getElem? (i := 1214) (by decide +kernel)) rfl, zz_in (List.mem_of_getElem? (i := 36) (by decide +kernel)) rfl⟩
theorem zw_X10_pageAt : zz_Mw m_X10_pageAt 2 := ⟨zz_in (List.mem_of_getElem? (i := 1459) (by decide +kernel)) rfl, zz_in (List.mem_of_getElem? (i := 99) (by decide +kernel)) rfl, by decide, by decide, by decide +kernel⟩
theorem zM_X10_pageAt : zz_MV m_X10_pageAt 2 := ⟨zw_X10_pageAt, zz_in (List.mem_of_getElem? (i := 1458) (by decide +kernel)) rfl, zz_in (List.mem_of_getElem? (i := 77) (by decide +kernel)) rfl⟩
theorem zw_X10_placeOf : zz_Mw m_X10_placeOf 1 := ⟨zz_in (List.mem_of_getElem? (i := 1303) (by decide +kernel)) rfl, zz_in (List.mem_of_getElem? (i := 99) (by decide +kernel)) rfl, by decide, by decide, by decide +kernel⟩
theorem zM_X10_placeOf : zz_MV m_X10_placeOf 1 := ⟨zw_X10_placeOf, zz_in (List.mem_of_getElem? (i := 1302) (by decide +kernel)) rfl, zz_in (List.mem_of_getElem? (i := 53) (by decide +kernel)) rfl⟩
theorem zw_X10_entryAt : zz_Mw m_X10_entryAt 2 := ⟨zz_in (List.mem_of_getElem? (i := 1327) (by decide +kernel)) rfl, zz_in (List.mem_of_getElem? (i := 99) (by decide +kernel)) rfl, by decide, by decide, by decide +kernel⟩
theorem zM_X10_entryAt : zz_MV m_X10_entryAt 2 := ⟨zw_X10_entryAt, zz_in (List.mem_of_getElem? (i := 1326) (by decide +kernel)) rfl, zz_in (List.mem_of_getElem? (i := 57) (by decide +kernel)) rfl⟩
theorem zw_X10_takesPage : zz_Mw m_X10_takesPage 2 := ⟨zz_in (List.mem_of_getElem? (i := 1227) (by decide +kernel)) rfl, zz_in (List.mem_of_getElem? (i := 99) (by decide +kernel)) rfl, by decide, by decide, by decide +kernel⟩
theorem zM_X10_takesPage : zz_MV m_X10_takesPage 2 := ⟨zw_X10_takesPage, zz_in (List.mem_of_getElem? (i := 1226) (by decide +kernel)) rfl, zz_in (List.mem_of_getElem? (i := 39) (by decide +kernel)) rfl⟩
theorem zw_X10_freesPages : zz_Mw m_X10_freesPages 2 := ⟨zz_in (List.mem_of_getElem? (i := 1223) (by decide +kernel)) rfl, zz_in (List.mem_of_getElem? (i := 99) (by decide +kernel)) rfl, by decide, by decide, by decide +kernel⟩
theorem zM_X10_freesPages : zz_MV m_X10_freesPages 2 := ⟨zw_X10_freesPages, zz_in (List.mem_of_getElem? (i := 1222) (by decide +kernel)) rfl, zz_in (List.mem_of_getElem? (i := 38) (by decide +kernel)) rfl⟩
theorem zw_X10_needsPages : zz_Mw m_X10_needsPages 2 := ⟨zz_in (List.mem_of_getElem? (i := 1252) (by decide +kernel)) rfl, zz_in (List.mem_of_getElem? (i := 99) (by decide +kernel)) rfl, by decide, by decide, by decide +kernel⟩
theorem zM_X10_needsPages : zz_MV m_X10_needsPages 2 := ⟨zw_X10_needsPages, zz_in (List.mem_of_getElem? (i := 1251) (by decide +kernel)) rfl, zz_in (List.mem_of_getElem? (i := 43) (by decide +kernel)) rfl⟩
theorem zw_X10_comesBehind : zz_Mw m_X10_comesBehind 2 := ⟨zz_in (List.mem_of_getElem? (i := 1256) (by decide +kernel)) rfl, zz_in (List.mem_of_getElem? (i := 99) (by decide +kernel)) rfl, by decide, by decide, by decide +kernel⟩
theorem zM_X10_comesBehind : zz_MV m_X10_comesBehind 2 := ⟨zw_X10_comesBehind, zz_in (List.mem_of_getElem? (i := 1255) (by decide +kernel)) rfl, zz_in (List.mem_of_getElem? (i := 44) (by decide +kernel)) rfl⟩
theorem zw_X10_load : zz_Mw m_X10_load 0 := ⟨zz_in (List.mem_of_getElem? (i := 1307) (by decide +kernel)) rfl, zz_in (List.mem_of_getElem? (i := 99) (by decide +kernel)) rfl, by decide, by decide, by decide +kernel⟩
theorem zM_X10_load : zz_MV m_X10_load 0 := ⟨zw_X10_load, zz_in (List.mem_of_getElem? (i := 1306) (by decide +kernel)) rfl, zz_in (List.mem_of_getElem? (i := 54) (by decide +kernel)) rfl⟩
theorem zw_X10_lists : zz_Mw m_X10_lists 1 := ⟨zz_in (List.mem_of_getElem? (i := 1219) (by decide +kernel)) rfl, zz_in (List.mem_of_getElem? (i := 99) (by decide +kernel)) rfl, by decide, by decide, by decide +kernel⟩
theorem zM_X10_lists : zz_MV m_X10_lists 1 := ⟨zw_X10_lists, zz_in (List.mem_of_getElem? (i := 1218) (by decide +kernel)) rfl, zz_in (List.mem_of_getElem? (i := 37) (by decide +kernel)) rfl⟩
theorem zw_X10_goesOver : zz_Mw m_X10_goesOver 1 := ⟨zz_in (List.mem_of_getElem? (i := 1231) (by decide +kernel)) rfl, zz_in (List.mem_of_getElem? (i := 99) (by decide +kernel)) rfl, by decide, by decide, by decide +kernel⟩
theorem zM_X10_goesOver : zz_MV m_X10_goesOver 1 := ⟨zw_X10_goesOver, zz_in (List.mem_of_getElem? (i := 1230) (by decide +kernel)) rfl, zz_in (List.mem_of_getElem? (i := 40) (by decide +kernel)) rfl⟩
theorem zw_X10_splits : zz_Mw m_X10_splits 0 := ⟨zz_in (List.mem_of_getElem? (i := 1211) (by decide +kernel)) rfl, zz_in (List.mem_of_getElem? (i := 99) (by decide +kernel)) rfl, by decide, by decide, by decide +kernel⟩
theorem zM_X10_splits : zz_MV m_X10_splits 0 := ⟨zw_X10_splits, zz_in (List.mem_of_getElem? (i := 1210) (by decide +kernel)) rfl, zz_in (List.mem_of_getElem? (i := 35) (by decide +kernel)) rfl⟩
theorem zw_X10_comesTogether : zz_Mw m_X10_comesTogether 0 := ⟨zz_in (List.mem_of_getElem? (i := 1264) (by decide +kernel)) rfl, zz_in (List.mem_of_getElem? (i := 99) (by decide +kernel)) rfl, by decide, by decide, by decide +kernel⟩
theorem zM_X10_comesTogether : zz_MV m_X10_comesTogether 0 := ⟨zw_X10_comesTogether, zz_in (List.mem_of_getElem? (i := 1263) (by decide +kernel)) rfl, zz_in (List.mem_of_getElem? (i := 45) (by decide +kernel)) rfl⟩
theorem zw_X10_split : zz_Mw m_X10_split 0 := ⟨zz_in (List.mem_of_getElem? (i := 1199) (by decide +kernel)) rfl, zz_in (List.mem_of_getElem? (i := 99) (by decide +kernel)) rfl, by decide, by decide, by decide +kernel⟩
theorem zM_X10_split : zz_MV m_X10_split 0 := ⟨zw_X10_split, zz_in (List.mem_of_getElem? (i := 1197) (by decide +kernel)) rfl, zz_in (List.mem_of_getElem? (i := 1198) (by decide +kernel)) rfl⟩
theorem zw_X10_join : zz_Mw m_X10_join 0 := ⟨zz_in (List.mem_of_getElem? (i := 1260) (by decide +kernel)) rfl, zz_in (List.mem_of_getElem? (i := 99) (by decide +kernel)) rfl, by decide, by decide, by decide +kernel⟩
theorem zM_X10_join : zz_MV m_X10_join 0 := ⟨zw_X10_join, zz_in (List.mem_of_getElem? (i := 1258) (by decide +kernel)) rfl, zz_in (List.mem_of_getElem? (i := 1259) (by decide +kernel)) rfl⟩
theorem zw_X10_isKey : zz_Mw m_X10_isKey 1 := ⟨zz_in (List.mem_of_getElem? (i := 1275) (by decide +kernel)) rfl, zz_in (List.mem_of_getElem? (i := 99) (by decide +kernel)) rfl, by decide, by decide, by decide +kernel⟩
theorem zM_X10_isKey : zz_MS m_X10_isKey 1 := ⟨zw_X10_isKey, zz_in (List.mem_of_getElem? (i := 1274) (by decide +kernel)) rfl⟩
theorem zw_X10_readsOf : zz_Mw m_X10_readsOf 1 := ⟨zz_in (List.mem_of_getElem? (i := 1299) (by decide +kernel)) rfl, zz_in (List.mem_of_getElem? (i := 99) (by decide +kernel)) rfl, by decide, by decide, by decide +kernel⟩
theorem zM_X10_readsOf : zz_MV m_X10_readsOf 1 := ⟨zw_X10_readsOf, zz_in (List.mem_of_getElem? (i := 1298) (by decide +kernel)) rfl, zz_in (List.mem_of_getElem? (i := 52) (by decide +kernel)) rfl⟩
theorem zw_X10_findReads : zz_Mw m_X10_findReads 1 := ⟨zz_in (List.mem_of_getElem? (i := 1287) (by decide +kernel)) rfl, zz_in (List.mem_of_getElem? (i := 99) (by decide +kernel)) rfl, by decide, by decide, by decide +kernel⟩
theorem zM_X10_findReads : zz_MV m_X10_findReads 1 := ⟨zw_X10_findReads, zz_in (List.mem_of_getElem? (i := 1286) (by decide +kernel)) rfl, zz_in (List.mem_of_getElem? (i := 49) (by decide +kernel)) rfl⟩
theorem zw_X10_puts : zz_Mw m_X10_puts 2 := ⟨zz_in (List.mem_of_getElem? (i := 1279) (by decide +kernel)) rfl, zz_in (List.mem_of_getElem? (i := 99) (by decide +kernel)) rfl, by decide, by decide, by decide +kernel⟩
theorem zM_X10_puts : zz_MV m_X10_puts 2 := ⟨zw_X10_puts, zz_in (List.mem_of_getElem? (i := 1278) (by decide +kernel)) rfl, zz_in (List.mem_of_getElem? (i := 47) (by decide +kernel)) rfl⟩
theorem zw_X10_put : zz_Mw m_X10_put 2 := ⟨zz_in (List.mem_of_getElem? (i := 1272) (by decide +kernel)) rfl, zz_in (List.mem_of_getElem? (i := 99) (by decide +kernel)) rfl, by decide, by decide, by decide +kernel⟩
theorem zM_X10_put : zz_MV m_X10_put 2 := ⟨zw_X10_put, zz_in (List.mem_of_getElem? (i := 1270) (by decide +kernel)) rfl, zz_in (List.mem_of_getElem? (i := 1271) (by decide +kernel)) rfl⟩
theorem zw_X10_finds0 : zz_Mw m_X10_finds0 1 := ⟨zz_in (List.mem_of_getElem? (i := 1315) (by decide +kernel)) rfl, zz_in (List.mem_of_getElem? (i := 99) (by decide +kernel)) rfl, by decide, by decide, by decide +kernel⟩
theorem zM_X10_finds0 : zz_MV m_X10_finds0 1 := ⟨zw_X10_finds0, zz_in (List.mem_of_getElem? (i := 1314) (by decide +kernel)) rfl, zz_in (List.mem_of_getElem? (i := 55) (by decide +kernel)) rfl⟩
theorem zw_X10_find : zz_Mw m_X10_find 1 := ⟨zz_in (List.mem_of_getElem? (i := 1311) (by decide +kernel)) rfl, zz_in (List.mem_of_getElem? (i := 99) (by decide +kernel)) rfl, by decide, by decide, by decide +kernel⟩
theorem zM_X10_find : zz_MV m_X10_find 1 := ⟨zw_X10_find, zz_in (List.mem_of_getElem? (i := 1309) (by decide +kernel)) rfl, zz_in (List.mem_of_getElem? (i := 1310) (by decide +kernel)) rfl⟩
theorem zw_X10_leaves : zz_Mw m_X10_leaves 1 := ⟨zz_in (List.mem_of_getElem? (i := 1331) (by decide +kernel)) rfl, zz_in (List.mem_of_getElem? (i := 99) (by decide +kernel)) rfl, by decide, by decide, by decide +kernel⟩
theorem zM_X10_leaves : zz_MV m_X10_leaves 1 := ⟨zw_X10_leaves, zz_in (List.mem_of_getElem? (i := 1330) (by decide +kernel)) rfl, zz_in (List.mem_of_getElem? (i := 58) (by decide +kernel)) rfl⟩
theorem zw_X10_drops : zz_Mw m_X10_drops 1 := ⟨zz_in (List.mem_of_getElem? (i := 1323) (by decide +kernel)) rfl, zz_in (List.mem_of_getElem? (i := 99) (by decide +kernel)) rfl, by decide, by decide, by decide +kernel⟩
theorem zM_X10_drops : zz_MV m_X10_drops 1 := ⟨zw_X10_drops, zz_in (List.mem_of_getElem? (i := 1322) (by decide +kernel)) rfl, zz_in (List.mem_of_getElem? (i := 56) (by decide +kernel)) rfl⟩
theorem zw_X10_drop : zz_Mw m_X10_drop 1 := ⟨zz_in (List.mem_of_getElem? (i := 1319) (by decide +kernel)) rfl, zz_in (List.mem_of_getElem? (i := 99) (by decide +kernel)) rfl, by decide, by decide, by decide +kernel⟩
theorem zM_X10_drop : zz_MV m_X10_drop 1 := ⟨zw_X10_drop, zz_in (List.mem_of_getElem? (i := 1317) (by decide +kernel)) rfl, zz_in (List.mem_of_getElem? (i := 1318) (by decide +kernel)) rfl⟩
theorem zw_X10_readsNext : zz_Mw m_X10_readsNext 2 := ⟨zz_in (List.mem_of_getElem? (i := 1347) (by decide +kernel)) rfl, zz_in (List.mem_of_getElem? (i := 99) (by decide +kernel)) rfl, by decide, by decide, by decide +kernel⟩
theorem zM_X10_readsNext : zz_MV m_X10_readsNext 2 := ⟨zw_X10_readsNext, zz_in (List.mem_of_getElem? (i := 1346) (by decide +kernel)) rfl, zz_in (List.mem_of_getElem? (i := 61) (by decide +kernel)) rfl⟩
theorem zw_X10_readsNumbers : zz_Mw m_X10_readsNumbers 1 := ⟨zz_in (List.mem_of_getElem? (i := 1343) (by decide +kernel)) rfl, zz_in (List.mem_of_getElem? (i := 99) (by decide +kernel)) rfl, by decide, by decide, by decide +kernel⟩
theorem zM_X10_readsNumbers : zz_MV m_X10_readsNumbers 1 := ⟨zw_X10_readsNumbers, zz_in (List.mem_of_getElem? (i := 1342) (by decide +kernel)) rfl, zz_in (List.mem_of_getElem? (i := 60) (by decide +kernel)) rfl⟩
theorem zw_X10_readsStep : zz_Mw m_X10_readsStep 0 := ⟨zz_in (List.mem_of_getElem? (i := 1339) (by decide +kernel)) rfl, zz_in (List.mem_of_getElem? (i := 99) (by decide +kernel)) rfl, by decide, by decide, by decide +kernel⟩
theorem zM_X10_readsStep : zz_MV m_X10_readsStep 0 := ⟨zw_X10_readsStep, zz_in (List.mem_of_getElem? (i := 1338) (by decide +kernel)) rfl, zz_in (List.mem_of_getElem? (i := 59) (by decide +kernel)) rfl⟩
theorem zw_X10_lotGoes : zz_Mw m_X10_lotGoes 0 := ⟨zz_in (List.mem_of_getElem? (i := 1361) (by decide +kernel)) rfl, zz_in (List.mem_of_getElem? (i := 99) (by decide +kernel)) rfl, by decide, by decide, by decide +kernel⟩
theorem zM_X10_lotGoes : zz_MV m_X10_lotGoes 0 := ⟨zw_X10_lotGoes, zz_in (List.mem_of_getElem? (i := 1360) (by decide +kernel)) rfl, zz_in (List.mem_of_getElem? (i := 64) (by decide +kernel)) rfl⟩
theorem zw_X10_putsDrawn : zz_Mw m_X10_putsDrawn 1 := ⟨zz_in (List.mem_of_getElem? (i := 1357) (by decide +kernel)) rfl, zz_in (List.mem_of_getElem? (i := 99) (by decide +kernel)) rfl, by decide, by decide, by decide +kernel⟩
theorem zM_X10_putsDrawn : zz_MV m_X10_putsDrawn 1 := ⟨zw_X10_putsDrawn, zz_in (List.mem_of_getElem? (i := 1356) (by decide +kernel)) rfl, zz_in (List.mem_of_getElem? (i := 63) (by decide +kernel)) rfl⟩
theorem zw_X10_dropsDrawn : zz_Mw m_X10_dropsDrawn 1 := ⟨zz_in (List.mem_of_getElem? (i := 1365) (by decide +kernel)) rfl, zz_in (List.mem_of_getElem? (i := 99) (by decide +kernel)) rfl, by decide, by decide, by decide +kernel⟩
theorem zM_X10_dropsDrawn : zz_MV m_X10_dropsDrawn 1 := ⟨zw_X10_dropsDrawn, zz_in (List.mem_of_getElem? (i := 1364) (by decide +kernel)) rfl, zz_in (List.mem_of_getElem? (i := 65) (by decide +kernel)) rfl⟩
theorem zw_X10_does : zz_Mw m_X10_does 1 := ⟨zz_in (List.mem_of_getElem? (i := 1351) (by decide +kernel)) rfl, zz_in (List.mem_of_getElem? (i := 99) (by decide +kernel)) rfl, by decide, by decide, by decide +kernel⟩
theorem zM_X10_does : zz_MV m_X10_does 1 := ⟨zw_X10_does, zz_in (List.mem_of_getElem? (i := 1350) (by decide +kernel)) rfl, zz_in (List.mem_of_getElem? (i := 62) (by decide +kernel)) rfl⟩
theorem zw_X10_work : zz_Mw m_X10_work 1 := ⟨zz_in (List.mem_of_getElem? (i := 1335) (by decide +kernel)) rfl, zz_in (List.mem_of_getElem? (i := 99) (by decide +kernel)) rfl, by decide, by decide, by decide +kernel⟩
theorem zM_X10_work : zz_MV m_X10_work 1 := ⟨zw_X10_work, zz_in (List.mem_of_getElem? (i := 1333) (by decide +kernel)) rfl, zz_in (List.mem_of_getElem? (i := 1334) (by decide +kernel)) rfl⟩
theorem zw_X10_rankOf : zz_Mw m_X10_rankOf 1 := ⟨zz_in (List.mem_of_getElem? (i := 1373) (by decide +kernel)) rfl, zz_in (List.mem_of_getElem? (i := 99) (by decide +kernel)) rfl, by decide, by decide, by decide +kernel⟩
theorem zM_X10_rankOf : zz_MV m_X10_rankOf 1 := ⟨zw_X10_rankOf, zz_in (List.mem_of_getElem? (i := 1372) (by decide +kernel)) rfl, zz_in (List.mem_of_getElem? (i := 67) (by decide +kernel)) rfl⟩
theorem zw_X10_isBehind : zz_Mw m_X10_isBehind 4 := ⟨zz_in (List.mem_of_getElem? (i := 1377) (by decide +kernel)) rfl, zz_in (List.mem_of_getElem? (i := 99) (by decide +kernel)) rfl, by decide, by decide, by decide +kernel⟩
theorem zM_X10_isBehind : zz_MV m_X10_isBehind 4 := ⟨zw_X10_isBehind, zz_in (List.mem_of_getElem? (i := 1376) (by decide +kernel)) rfl, zz_in (List.mem_of_getElem? (i := 68) (by decide +kernel)) rfl⟩
theorem zw_X10_orders : zz_Mw m_X10_orders 0 := ⟨zz_in (List.mem_of_getElem? (i := 1369) (by decide +kernel)) rfl, zz_in (List.mem_of_getElem? (i := 99) (by decide +kernel)) rfl, by decide, by decide, by decide +kernel⟩
theorem zM_X10_orders : zz_MV m_X10_orders 0 := ⟨zw_X10_orders, zz_in (List.mem_of_getElem? (i := 1368) (by decide +kernel)) rfl, zz_in (List.mem_of_getElem? (i := 66) (by decide +kernel)) rfl⟩
theorem zw_X10_inOrder : zz_Mw m_X10_inOrder 1 := ⟨zz_in (List.mem_of_getElem? (i := 1381) (by decide +kernel)) rfl, zz_in (List.mem_of_getElem? (i := 99) (by decide +kernel)) rfl, by decide, by decide, by decide +kernel⟩
theorem zM_X10_inOrder : zz_MV m_X10_inOrder 1 := ⟨zw_X10_inOrder, zz_in (List.mem_of_getElem? (i := 1379) (by decide +kernel)) rfl, zz_in (List.mem_of_getElem? (i := 1380) (by decide +kernel)) rfl⟩
theorem zw_X10_isOpen : zz_Mw m_X10_isOpen 1 := ⟨zz_in (List.mem_of_getElem? (i := 1396) (by decide +kernel)) rfl, zz_in (List.mem_of_getElem? (i := 99) (by decide +kernel)) rfl, by decide, by decide, by decide +kernel⟩
theorem zM_X10_isOpen : zz_MV m_X10_isOpen 1 := ⟨zw_X10_isOpen, zz_in (List.mem_of_getElem? (i := 1395) (by decide +kernel)) rfl, zz_in (List.mem_of_getElem? (i := 69) (by decide +kernel)) rfl⟩
theorem zw_X10_scan : zz_Mw m_X10_scan 0 := ⟨zz_in (List.mem_of_getElem? (i := 1385) (by decide +kernel)) rfl, zz_in (List.mem_of_getElem? (i := 99) (by decide +kernel)) rfl, by decide, by decide, by decide +kernel⟩
theorem zM_X10_scan : zz_MV m_X10_scan 0 := ⟨zw_X10_scan, zz_in (List.mem_of_getElem? (i := 1383) (by decide +kernel)) rfl, zz_in (List.mem_of_getElem? (i := 1384) (by decide +kernel)) rfl⟩
theorem zw_X10_isToCome : zz_Mw m_X10_isToCome 2 := ⟨zz_in (List.mem_of_getElem? (i := 1400) (by decide +kernel)) rfl, zz_in (List.mem_of_getElem? (i := 99) (by decide +kernel)) rfl, by decide, by decide, by decide +kernel⟩
theorem zM_X10_isToCome : zz_MV m_X10_isToCome 2 := ⟨zw_X10_isToCome, zz_in (List.mem_of_getElem? (i := 1399) (by decide +kernel)) rfl, zz_in (List.mem_of_getElem? (i := 70) (by decide +kernel)) rfl⟩
theorem zw_X10_tell : zz_Mw m_X10_tell 1 := ⟨zz_in (List.mem_of_getElem? (i := 1392) (by decide +kernel)) rfl, zz_in (List.mem_of_getElem? (i := 99) (by decide +kernel)) rfl, by decide, by decide, by decide +kernel⟩
theorem zM_X10_tell : zz_MV m_X10_tell 1 := ⟨zw_X10_tell, zz_in (List.mem_of_getElem? (i := 1390) (by decide +kernel)) rfl, zz_in (List.mem_of_getElem? (i := 1391) (by decide +kernel)) rfl⟩
theorem zw_X10_scanIs : zz_Mw m_X10_scanIs 2 := ⟨zz_in (List.mem_of_getElem? (i := 1404) (by decide +kernel)) rfl, zz_in (List.mem_of_getElem? (i := 99) (by decide +kernel)) rfl, by decide, by decide, by decide +kernel⟩
theorem zM_X10_scanIs : zz_MV m_X10_scanIs 2 := ⟨zw_X10_scanIs, zz_in (List.mem_of_getElem? (i := 1402) (by decide +kernel)) rfl, zz_in (List.mem_of_getElem? (i := 1403) (by decide +kernel)) rfl⟩
theorem zw_X10_reach : zz_Mw m_X10_reach 1 := ⟨zz_in (List.mem_of_getElem? (i := 1408) (by decide +kernel)) rfl, zz_in (List.mem_of_getElem? (i := 99) (by decide +kernel)) rfl, by decide, by decide, by decide +kernel⟩
theorem zM_X10_reach : zz_MV m_X10_reach 1 := ⟨zw_X10_reach, zz_in (List.mem_of_getElem? (i := 1406) (by decide +kernel)) rfl, zz_in (List.mem_of_getElem? (i := 1407) (by decide +kernel)) rfl⟩
theorem zw_X10_ends : zz_Mw m_X10_ends 1 := ⟨zz_in (List.mem_of_getElem? (i := 1412) (by decide +kernel)) rfl, zz_in (List.mem_of_getElem? (i := 99) (by decide +kernel)) rfl, by decide, by decide, by decide +kernel⟩
theorem zM_X10_ends : zz_MV m_X10_ends 1 := ⟨zw_X10_ends, zz_in (List.mem_of_getElem? (i := 1410) (by decide +kernel)) rfl, zz_in (List.mem_of_getElem? (i := 1411) (by decide +kernel)) rfl⟩
theorem zw_X10_pagesTaken : zz_Mw m_X10_pagesTaken 0 := ⟨zz_in (List.mem_of_getElem? (i := 1420) (by decide +kernel)) rfl, zz_in (List.mem_of_getElem? (i := 99) (by decide +kernel)) rfl, by decide, by decide, by decide +kernel⟩
theorem zM_X10_pagesTaken : zz_MV m_X10_pagesTaken 0 := ⟨zw_X10_pagesTaken, zz_in (List.mem_of_getElem? (i := 1419) (by decide +kernel)) rfl, zz_in (List.mem_of_getElem? (i := 71) (by decide +kernel)) rfl⟩
theorem zw_X10_longest : zz_Mw m_X10_longest 0 := ⟨zz_in (List.mem_of_getElem? (i := 1424) (by decide +kernel)) rfl, zz_in (List.mem_of_getElem? (i := 99) (by decide +kernel)) rfl, by decide, by decide, by decide +kernel⟩
theorem zM_X10_longest : zz_MV m_X10_longest 0 := ⟨zw_X10_longest, zz_in (List.mem_of_getElem? (i := 1423) (by decide +kernel)) rfl, zz_in (List.mem_of_getElem? (i := 72) (by decide +kernel)) rfl⟩
theorem zw_X10_emptyOnes : zz_Mw m_X10_emptyOnes 0 := ⟨zz_in (List.mem_of_getElem? (i := 1431) (by decide +kernel)) rfl, zz_in (List.mem_of_getElem? (i := 99) (by decide +kernel)) rfl, by decide, by decide, by decide +kernel⟩
theorem zM_X10_emptyOnes : zz_MV m_X10_emptyOnes 0 := ⟨zw_X10_emptyOnes, zz_in (List.mem_of_getElem? (i := 1430) (by decide +kernel)) rfl, zz_in (List.mem_of_getElem? (i := 73) (by decide +kernel)) rfl⟩
theorem zw_X10_fileIs : zz_Mw m_X10_fileIs 1 := ⟨zz_in (List.mem_of_getElem? (i := 1416) (by decide +kernel)) rfl, zz_in (List.mem_of_getElem? (i := 99) (by decide +kernel)) rfl, by decide, by decide, by decide +kernel⟩
theorem zM_X10_fileIs : zz_MV m_X10_fileIs 1 := ⟨zw_X10_fileIs, zz_in (List.mem_of_getElem? (i := 1414) (by decide +kernel)) rfl, zz_in (List.mem_of_getElem? (i := 1415) (by decide +kernel)) rfl⟩
theorem zw_X10_whereIn : zz_Mw m_X10_whereIn 2 := ⟨zz_in (List.mem_of_getElem? (i := 1443) (by decide +kernel)) rfl, zz_in (List.mem_of_getElem? (i := 99) (by decide +kernel)) rfl, by decide, by decide, by decide +kernel⟩
theorem zM_X10_whereIn : zz_MV m_X10_whereIn 2 := ⟨zw_X10_whereIn, zz_in (List.mem_of_getElem? (i := 1442) (by decide +kernel)) rfl, zz_in (List.mem_of_getElem? (i := 75) (by decide +kernel)) rfl⟩
theorem zw_X10_moves : zz_Mw m_X10_moves 1 := ⟨zz_in (List.mem_of_getElem? (i := 1439) (by decide +kernel)) rfl, zz_in (List.mem_of_getElem? (i := 99) (by decide +kernel)) rfl, by decide, by decide, by decide +kernel⟩
theorem zM_X10_moves : zz_MV m_X10_moves 1 := ⟨zw_X10_moves, zz_in (List.mem_of_getElem? (i := 1438) (by decide +kernel)) rfl, zz_in (List.mem_of_getElem? (i := 74) (by decide +kernel)) rfl⟩
theorem zw_X10_keyIs : zz_Mw m_X10_keyIs 2 := ⟨zz_in (List.mem_of_getElem? (i := 1435) (by decide +kernel)) rfl, zz_in (List.mem_of_getElem? (i := 99) (by decide +kernel)) rfl, by decide, by decide, by decide +kernel⟩
theorem zM_X10_keyIs : zz_MV m_X10_keyIs 2 := ⟨zw_X10_keyIs, zz_in (List.mem_of_getElem? (i := 1433) (by decide +kernel)) rfl, zz_in (List.mem_of_getElem? (i := 1434) (by decide +kernel)) rfl⟩
theorem zw_X10_isMany : zz_Mw m_X10_isMany 1 := ⟨zz_in (List.mem_of_getElem? (i := 1451) (by decide +kernel)) rfl, zz_in (List.mem_of_getElem? (i := 99) (by decide +kernel)) rfl, by decide, by decide, by decide +kernel⟩
theorem zM_X10_isMany : zz_MV m_X10_isMany 1 := ⟨zw_X10_isMany, zz_in (List.mem_of_getElem? (i := 1450) (by decide +kernel)) rfl, zz_in (List.mem_of_getElem? (i := 76) (by decide +kernel)) rfl⟩
theorem zw_X10_where : zz_Mw m_X10_where 2 := ⟨zz_in (List.mem_of_getElem? (i := 1447) (by decide +kernel)) rfl, zz_in (List.mem_of_getElem? (i := 99) (by decide +kernel)) rfl, by decide, by decide, by decide +kernel⟩
theorem zM_X10_where : zz_MV m_X10_where 2 := ⟨zw_X10_where, zz_in (List.mem_of_getElem? (i := 1445) (by decide +kernel)) rfl, zz_in (List.mem_of_getElem? (i := 1446) (by decide +kernel)) rfl⟩
theorem zw_X10_bucket : zz_Mw m_X10_bucket 2 := ⟨zz_in (List.mem_of_getElem? (i := 1455) (by decide +kernel)) rfl, zz_in (List.mem_of_getElem? (i := 99) (by decide +kernel)) rfl, by decide, by decide, by decide +kernel⟩
theorem zM_X10_bucket : zz_MV m_X10_bucket 2 := ⟨zw_X10_bucket, zz_in (List.mem_of_getElem? (i := 1453) (by decide +kernel)) rfl, zz_in (List.mem_of_getElem? (i := 1454) (by decide +kernel)) rfl⟩
theorem zw_X10_keysOnPage : zz_Mw m_X10_keysOnPage 1 := ⟨zz_in (List.mem_of_getElem? (i := 1467) (by decide +kernel)) rfl, zz_in (List.mem_of_getElem? (i := 99) (by decide +kernel)) rfl, by decide, by decide, by decide +kernel⟩
theorem zM_X10_keysOnPage : zz_MV m_X10_keysOnPage 1 := ⟨zw_X10_keysOnPage, zz_in (List.mem_of_getElem? (i := 1466) (by decide +kernel)) rfl, zz_in (List.mem_of_getElem? (i := 78) (by decide +kernel)) rfl⟩
theorem zw_X10_page : zz_Mw m_X10_page 2 := ⟨zz_in (List.mem_of_getElem? (i := 1463) (by decide +kernel)) rfl, zz_in (List.mem_of_getElem? (i := 99) (by decide +kernel)) rfl, by decide, by decide, by decide +kernel⟩
theorem zM_X10_page : zz_MV m_X10_page 2 := ⟨zw_X10_page, zz_in (List.mem_of_getElem? (i := 1461) (by decide +kernel)) rfl, zz_in (List.mem_of_getElem? (i := 1462) (by decide +kernel)) rfl⟩
theorem zw_X10_chains : zz_Mw m_X10_chains 1 := ⟨zz_in (List.mem_of_getElem? (i := 1474) (by decide +kernel)) rfl, zz_in (List.mem_of_getElem? (i := 99) (by decide +kernel)) rfl, by decide, by decide, by decide +kernel⟩
theorem zM_X10_chains : zz_MV m_X10_chains 1 := ⟨zw_X10_chains, zz_in (List.mem_of_getElem? (i := 1472) (by decide +kernel)) rfl, zz_in (List.mem_of_getElem? (i := 1473) (by decide +kernel)) rfl⟩
theorem zw_X10_allReads : zz_Mw m_X10_allReads 0 := ⟨zz_in (List.mem_of_getElem? (i := 1482) (by decide +kernel)) rfl, zz_in (List.mem_of_getElem? (i := 99) (by decide +kernel)) rfl, by decide, by decide, by decide +kernel⟩
theorem zM_X10_allReads : zz_MV m_X10_allReads 0 := ⟨zw_X10_allReads, zz_in (List.mem_of_getElem? (i := 1481) (by decide +kernel)) rfl, zz_in (List.mem_of_getElem? (i := 79) (by decide +kernel)) rfl⟩
theorem zw_X10_finds : zz_Mw m_X10_finds 1 := ⟨zz_in (List.mem_of_getElem? (i := 1478) (by decide +kernel)) rfl, zz_in (List.mem_of_getElem? (i := 99) (by decide +kernel)) rfl, by decide, by decide, by decide +kernel⟩
theorem zM_X10_finds : zz_MV m_X10_finds 1 := ⟨zw_X10_finds, zz_in (List.mem_of_getElem? (i := 1476) (by decide +kernel)) rfl, zz_in (List.mem_of_getElem? (i := 1477) (by decide +kernel)) rfl⟩
theorem zw_X10_costing : zz_Mw m_X10_costing 1 := ⟨zz_in (List.mem_of_getElem? (i := 1486) (by decide +kernel)) rfl, zz_in (List.mem_of_getElem? (i := 99) (by decide +kernel)) rfl, by decide, by decide, by decide +kernel⟩
theorem zM_X10_costing : zz_MV m_X10_costing 1 := ⟨zw_X10_costing, zz_in (List.mem_of_getElem? (i := 1484) (by decide +kernel)) rfl, zz_in (List.mem_of_getElem? (i := 1485) (by decide +kernel)) rfl⟩
theorem zw_X10_next : zz_Mw m_X10_next 1 := ⟨zz_in (List.mem_of_getElem? (i := 1490) (by decide +kernel)) rfl, zz_in (List.mem_of_getElem? (i := 99) (by decide +kernel)) rfl, by decide, by decide, by decide +kernel⟩
theorem zM_X10_next : zz_MV m_X10_next 1 := ⟨zw_X10_next, zz_in (List.mem_of_getElem? (i := 1488) (by decide +kernel)) rfl, zz_in (List.mem_of_getElem? (i := 1489) (by decide +kernel)) rfl⟩
theorem zw_X10_parted : zz_Mw m_X10_parted 2 := ⟨zz_in (List.mem_of_getElem? (i := 1494) (by decide +kernel)) rfl, zz_in (List.mem_of_getElem? (i := 99) (by decide +kernel)) rfl, by decide, by decide, by decide +kernel⟩
theorem zM_X10_parted : zz_MV m_X10_parted 2 := ⟨zw_X10_parted, zz_in (List.mem_of_getElem? (i := 1492) (by decide +kernel)) rfl, zz_in (List.mem_of_getElem? (i := 1493) (by decide +kernel)) rfl⟩
theorem zw_X10_countsIn : zz_Mw m_X10_countsIn 1 := ⟨zz_in (List.mem_of_getElem? (i := 1502) (by decide +kernel)) rfl, zz_in (List.mem_of_getElem? (i := 99) (by decide +kernel)) rfl, by decide, by decide, by decide +kernel⟩
theorem zM_X10_countsIn : zz_MV m_X10_countsIn 1 := ⟨zw_X10_countsIn, zz_in (List.mem_of_getElem? (i := 1501) (by decide +kernel)) rfl, zz_in (List.mem_of_getElem? (i := 80) (by decide +kernel)) rfl⟩
theorem zw_X10_enough : zz_Mw m_X10_enough 1 := ⟨zz_in (List.mem_of_getElem? (i := 1498) (by decide +kernel)) rfl, zz_in (List.mem_of_getElem? (i := 99) (by decide +kernel)) rfl, by decide, by decide, by decide +kernel⟩
theorem zM_X10_enough : zz_MV m_X10_enough 1 := ⟨zw_X10_enough, zz_in (List.mem_of_getElem? (i := 1496) (by decide +kernel)) rfl, zz_in (List.mem_of_getElem? (i := 1497) (by decide +kernel)) rfl⟩
theorem zw_X10_anew : zz_Mw m_X10_anew 2 := ⟨zz_in (List.mem_of_getElem? (i := 1506) (by decide +kernel)) rfl, zz_in (List.mem_of_getElem? (i := 99) (by decide +kernel)) rfl, by decide, by decide, by decide +kernel⟩
theorem zM_X10_anew : zz_MV m_X10_anew 2 := ⟨zw_X10_anew, zz_in (List.mem_of_getElem? (i := 1504) (by decide +kernel)) rfl, zz_in (List.mem_of_getElem? (i := 1505) (by decide +kernel)) rfl⟩
theorem zw_X10_notesPages : zz_Mw m_X10_notesPages 1 := ⟨zz_in (List.mem_of_getElem? (i := 1522) (by decide +kernel)) rfl, zz_in (List.mem_of_getElem? (i := 99) (by decide +kernel)) rfl, by decide, by decide, by decide +kernel⟩
theorem zM_X10_notesPages : zz_MV m_X10_notesPages 1 := ⟨zw_X10_notesPages, zz_in (List.mem_of_getElem? (i := 1521) (by decide +kernel)) rfl, zz_in (List.mem_of_getElem? (i := 83) (by decide +kernel)) rfl⟩
theorem zw_X10_isWritten : zz_Mw m_X10_isWritten 2 := ⟨zz_in (List.mem_of_getElem? (i := 1526) (by decide +kernel)) rfl, zz_in (List.mem_of_getElem? (i := 99) (by decide +kernel)) rfl, by decide, by decide, by decide +kernel⟩
theorem zM_X10_isWritten : zz_MV m_X10_isWritten 2 := ⟨zw_X10_isWritten, zz_in (List.mem_of_getElem? (i := 1525) (by decide +kernel)) rfl, zz_in (List.mem_of_getElem? (i := 84) (by decide +kernel)) rfl⟩
theorem zw_X10_pageOf : zz_Mw m_X10_pageOf 1 := ⟨zz_in (List.mem_of_getElem? (i := 1518) (by decide +kernel)) rfl, zz_in (List.mem_of_getElem? (i := 99) (by decide +kernel)) rfl, by decide, by decide, by decide +kernel⟩
theorem zM_X10_pageOf : zz_MV m_X10_pageOf 1 := ⟨zw_X10_pageOf, zz_in (List.mem_of_getElem? (i := 1517) (by decide +kernel)) rfl, zz_in (List.mem_of_getElem? (i := 82) (by decide +kernel)) rfl⟩
theorem zw_X10_torn : zz_Mw m_X10_torn 3 := ⟨zz_in (List.mem_of_getElem? (i := 1510) (by decide +kernel)) rfl, zz_in (List.mem_of_getElem? (i := 99) (by decide +kernel)) rfl, by decide, by decide, by decide +kernel⟩
theorem zM_X10_torn : zz_MV m_X10_torn 3 := ⟨zw_X10_torn, zz_in (List.mem_of_getElem? (i := 1508) (by decide +kernel)) rfl, zz_in (List.mem_of_getElem? (i := 1509) (by decide +kernel)) rfl⟩
theorem zw_X10_grown : zz_Mw m_X10_grown 2 := ⟨zz_in (List.mem_of_getElem? (i := 1530) (by decide +kernel)) rfl, zz_in (List.mem_of_getElem? (i := 99) (by decide +kernel)) rfl, by decide, by decide, by decide +kernel⟩
theorem zM_X10_grown : zz_MV m_X10_grown 2 := ⟨zw_X10_grown, zz_in (List.mem_of_getElem? (i := 1528) (by decide +kernel)) rfl, zz_in (List.mem_of_getElem? (i := 1529) (by decide +kernel)) rfl⟩
theorem zw_X10_tuned : zz_Mw m_X10_tuned 1 := ⟨zz_in (List.mem_of_getElem? (i := 1534) (by decide +kernel)) rfl, zz_in (List.mem_of_getElem? (i := 99) (by decide +kernel)) rfl, by decide, by decide, by decide +kernel⟩
theorem zM_X10_tuned : zz_MV m_X10_tuned 1 := ⟨zw_X10_tuned, zz_in (List.mem_of_getElem? (i := 1532) (by decide +kernel)) rfl, zz_in (List.mem_of_getElem? (i := 1533) (by decide +kernel)) rfl⟩
theorem zw_X10_signOfHash : zz_Mw m_X10_signOfHash 1 := ⟨zz_in (List.mem_of_getElem? (i := 1545) (by decide +kernel)) rfl, zz_in (List.mem_of_getElem? (i := 99) (by decide +kernel)) rfl, by decide, by decide, by decide +kernel⟩
theorem zM_X10_signOfHash : zz_MS m_X10_signOfHash 1 := ⟨zw_X10_signOfHash, zz_in (List.mem_of_getElem? (i := 1544) (by decide +kernel)) rfl⟩
theorem zw_X10_signsOf : zz_Mw m_X10_signsOf 1 := ⟨zz_in (List.mem_of_getElem? (i := 1542) (by decide +kernel)) rfl, zz_in (List.mem_of_getElem? (i := 99) (by decide +kernel)) rfl, by decide, by decide, by decide +kernel⟩
theorem zM_X10_signsOf : zz_MV m_X10_signsOf 1 := ⟨zw_X10_signsOf, zz_in (List.mem_of_getElem? (i := 1541) (by decide +kernel)) rfl, zz_in (List.mem_of_getElem? (i := 85) (by decide +kernel)) rfl⟩
theorem zw_X10_signs : zz_Mw m_X10_signs 1 := ⟨zz_in (List.mem_of_getElem? (i := 1538) (by decide +kernel)) rfl, zz_in (List.mem_of_getElem? (i := 99) (by decide +kernel)) rfl, by decide, by decide, by decide +kernel⟩
theorem zM_X10_signs : zz_MV m_X10_signs 1 := ⟨zw_X10_signs, zz_in (List.mem_of_getElem? (i := 1536) (by decide +kernel)) rfl, zz_in (List.mem_of_getElem? (i := 1537) (by decide +kernel)) rfl⟩
theorem zw_X10_passed : zz_Mw m_X10_passed 1 := ⟨zz_in (List.mem_of_getElem? (i := 1549) (by decide +kernel)) rfl, zz_in (List.mem_of_getElem? (i := 99) (by decide +kernel)) rfl, by decide, by decide, by decide +kernel⟩
theorem zM_X10_passed : zz_MV m_X10_passed 1 := ⟨zw_X10_passed, zz_in (List.mem_of_getElem? (i := 1547) (by decide +kernel)) rfl, zz_in (List.mem_of_getElem? (i := 1548) (by decide +kernel)) rfl⟩
theorem zw_X10_valueKept : zz_Mw m_X10_valueKept 1 := ⟨zz_in (List.mem_of_getElem? (i := 1557) (by decide +kernel)) rfl, zz_in (List.mem_of_getElem? (i := 99) (by decide +kernel)) rfl, by decide, by decide, by decide +kernel⟩
theorem zM_X10_valueKept : zz_MV m_X10_valueKept 1 := ⟨zw_X10_valueKept, zz_in (List.mem_of_getElem? (i := 1556) (by decide +kernel)) rfl, zz_in (List.mem_of_getElem? (i := 86) (by decide +kernel)) rfl⟩
theorem zw_X10_since : zz_Mw m_X10_since 1 := ⟨zz_in (List.mem_of_getElem? (i := 1553) (by decide +kernel)) rfl, zz_in (List.mem_of_getElem? (i := 99) (by decide +kernel)) rfl, by decide, by decide, by decide +kernel⟩
theorem zM_X10_since : zz_MV m_X10_since 1 := ⟨zw_X10_since, zz_in (List.mem_of_getElem? (i := 1551) (by decide +kernel)) rfl, zz_in (List.mem_of_getElem? (i := 1552) (by decide +kernel)) rfl⟩
theorem zw_X10_sameHash : zz_Mw m_X10_sameHash 1 := ⟨zz_in (List.mem_of_getElem? (i := 1565) (by decide +kernel)) rfl, zz_in (List.mem_of_getElem? (i := 99) (by decide +kernel)) rfl, by decide, by decide, by decide +kernel⟩
theorem zM_X10_sameHash : zz_MV m_X10_sameHash 1 := ⟨zw_X10_sameHash, zz_in (List.mem_of_getElem? (i := 1564) (by decide +kernel)) rfl, zz_in (List.mem_of_getElem? (i := 87) (by decide +kernel)) rfl⟩
theorem zw_X10_alike : zz_Mw m_X10_alike 1 := ⟨zz_in (List.mem_of_getElem? (i := 1561) (by decide +kernel)) rfl, zz_in (List.mem_of_getElem? (i := 99) (by decide +kernel)) rfl, by decide, by decide, by decide +kernel⟩
theorem zM_X10_alike : zz_MV m_X10_alike 1 := ⟨zw_X10_alike, zz_in (List.mem_of_getElem? (i := 1559) (by decide +kernel)) rfl, zz_in (List.mem_of_getElem? (i := 1560) (by decide +kernel)) rfl⟩
theorem zw_X10_between : zz_Mw m_X10_between 2 := ⟨zz_in (List.mem_of_getElem? (i := 1569) (by decide +kernel)) rfl, zz_in (List.mem_of_getElem? (i := 99) (by decide +kernel)) rfl, by decide, by decide, by decide +kernel⟩
theorem zM_X10_between : zz_MV m_X10_between 2 := ⟨zw_X10_between, zz_in (List.mem_of_getElem? (i := 1567) (by decide +kernel)) rfl, zz_in (List.mem_of_getElem? (i := 1568) (by decide +kernel)) rfl⟩
theorem zw_X10_bits : zz_Mw m_X10_bits 3 := ⟨zz_in (List.mem_of_getElem? (i := 1573) (by decide +kernel)) rfl, zz_in (List.mem_of_getElem? (i := 99) (by decide +kernel)) rfl, by decide, by decide, by decide +kernel⟩
theorem zM_X10_bits : zz_MV m_X10_bits 3 := ⟨zw_X10_bits, zz_in (List.mem_of_getElem? (i := 1571) (by decide +kernel)) rfl, zz_in (List.mem_of_getElem? (i := 1572) (by decide +kernel)) rfl⟩
theorem zw_X10_seed : zz_Mw m_X10_seed 1 := ⟨zz_in (List.mem_of_getElem? (i := 1577) (by decide +kernel)) rfl, zz_in (List.mem_of_getElem? (i := 99) (by decide +kernel)) rfl, by decide, by decide, by decide +kernel⟩
theorem zM_X10_seed : zz_MV m_X10_seed 1 := ⟨zw_X10_seed, zz_in (List.mem_of_getElem? (i := 1575) (by decide +kernel)) rfl, zz_in (List.mem_of_getElem? (i := 1576) (by decide +kernel)) rfl⟩
theorem zw_X10_keep : zz_Mw m_X10_keep 0 := ⟨zz_in (List.mem_of_getElem? (i := 1581) (by decide +kernel)) rfl, zz_in (List.mem_of_getElem? (i := 99) (by decide +kernel)) rfl, by decide, by decide, by decide +kernel⟩
theorem zM_X10_keep : zz_MV m_X10_keep 0 := ⟨zw_X10_keep, zz_in (List.mem_of_getElem? (i := 1579) (by decide +kernel)) rfl, zz_in (List.mem_of_getElem? (i := 1580) (by decide +kernel)) rfl⟩
theorem zw_X10_undo : zz_Mw m_X10_undo 0 := ⟨zz_in (List.mem_of_getElem? (i := 1585) (by decide +kernel)) rfl, zz_in (List.mem_of_getElem? (i := 99) (by decide +kernel)) rfl, by decide, by decide, by decide +kernel⟩
theorem zM_X10_undo : zz_MV m_X10_undo 0 := ⟨zw_X10_undo, zz_in (List.mem_of_getElem? (i := 1583) (by decide +kernel)) rfl, zz_in (List.mem_of_getElem? (i := 1584) (by decide +kernel)) rfl⟩
theorem zw_X10_check : zz_Mw m_X10_check 1 := ⟨zz_in (List.mem_of_getElem? (i := 1589) (by decide +kernel)) rfl, zz_in (List.mem_of_getElem? (i := 99) (by decide +kernel)) rfl, by decide, by decide, by decide +kernel⟩
theorem zM_X10_check : zz_MV m_X10_check 1 := ⟨zw_X10_check, zz_in (List.mem_of_getElem? (i := 1587) (by decide +kernel)) rfl, zz_in (List.mem_of_getElem? (i := 1588) (by decide +kernel)) rfl⟩
theorem zw_X10_count : zz_Mw m_X10_count 1 := ⟨zz_in (List.mem_of_getElem? (i := 1593) (by decide +kernel)) rfl, zz_in (List.mem_of_getElem? (i := 99) (by decide +kernel)) rfl, by decide, by decide, by decide +kernel⟩
theorem zM_X10_count : zz_MV m_X10_count 1 := ⟨zw_X10_count, zz_in (List.mem_of_getElem? (i := 1591) (by decide +kernel)) rfl, zz_in (List.mem_of_getElem? (i := 1592) (by decide +kernel)) rfl⟩
theorem zw_J9_max_7cf53 : zz_Mw m_J9_max_7cf53 2 := ⟨zz_in (List.mem_of_getElem? (i := 744) (by decide +kernel)) rfl, zz_in (List.mem_of_getElem? (i := 100) (by decide +kernel)) rfl, by decide, by decide, by decide +kernel⟩
theorem zM_J9_max_7cf53 : zz_MS m_J9_max_7cf53 2 := ⟨zw_J9_max_7cf53, zz_in (List.mem_of_getElem? (i := 743) (by decide +kernel)) rfl⟩
theorem zw_J9_min_7cf53 : zz_Mw m_J9_min_7cf53 2 := ⟨zz_in (List.mem_of_getElem? (i := 511) (by decide +kernel)) rfl, zz_in (List.mem_of_getElem? (i := 100) (by decide +kernel)) rfl, by decide, by decide, by decide +kernel⟩
theorem zM_J9_min_7cf53 : zz_MS m_J9_min_7cf53 2 := ⟨zw_J9_min_7cf53, zz_in (List.mem_of_getElem? (i := 510) (by decide +kernel)) rfl⟩
theorem zw_J7_fill_53178 : zz_Mw m_J7_fill_53178 2 := ⟨zz_in (List.mem_of_getElem? (i := 297) (by decide +kernel)) rfl, zz_in (List.mem_of_getElem? (i := 98) (by decide +kernel)) rfl, by decide, by decide, by decide +kernel⟩
theorem zM_J7_fill_53178 : zz_MS m_J7_fill_53178 2 := ⟨zw_J7_fill_53178, zz_in (List.mem_of_getElem? (i := 296) (by decide +kernel)) rfl⟩
theorem zk_X0_3 : Cond.methodLink RX0 3 objectInit ∈ zz_tbl := zz_in (List.mem_of_getElem? (i := 219) (by decide +kernel)) rfl
theorem zk_X0_50 : Cond.methodLink RX0 50 yJ7_fill_53178 ∈ zz_tbl := zz_in (List.mem_of_getElem? (i := 311) (by decide +kernel)) rfl
theorem zk_X0_56 : Cond.methodLink RX0 56 yX0_addPage ∈ zz_tbl := zz_in (List.mem_of_getElem? (i := 312) (by decide +kernel)) rfl
theorem zk_X0_60 : Cond.methodLink RX0 60 arraycopyName ∈ zz_tbl := zz_in (List.mem_of_getElem? (i := 629) (by decide +kernel)) rfl
theorem zk_X0_66 : Cond.methodLink RX0 66 yX1_keyOf ∈ zz_tbl := zz_in (List.mem_of_getElem? (i := 595) (by decide +kernel)) rfl
theorem zk_X0_72 : Cond.methodLink RX0 72 yX0_pageAt ∈ zz_tbl := zz_in (List.mem_of_getElem? (i := 658) (by decide +kernel)) rfl
theorem zk_X0_76 : Cond.methodLink RX0 76 yX0_pageOfKey ∈ zz_tbl := zz_in (List.mem_of_getElem? (i := 789) (by decide +kernel)) rfl
theorem zk_X0_79 : Cond.methodLink RX0 79 yX0_dropLastPage ∈ zz_tbl := zz_in (List.mem_of_getElem? (i := 654) (by decide +kernel)) rfl
theorem zk_X0_83 : Cond.methodLink RX0 83 yJ9_min_7cf53 ∈ zz_tbl := zz_in (List.mem_of_getElem? (i := 628) (by decide +kernel)) rfl
theorem zk_X0_88 : Cond.methodLink RX0 88 yJ9_max_7cf53 ∈ zz_tbl := zz_in (List.mem_of_getElem? (i := 742) (by decide +kernel)) rfl
theorem zd_X1_9 : Cond.constantLong RX1 9 65535 ∈ zz_tbl := zz_in (List.mem_of_getElem? (i := 598) (by decide +kernel)) rfl
theorem zd_X1_11 : Cond.constantLong RX1 11 255 ∈ zz_tbl := zz_in (List.mem_of_getElem? (i := 649) (by decide +kernel)) rfl
theorem zk_X2_3 : Cond.methodLink RX2 3 objectInit ∈ zz_tbl := zz_in (List.mem_of_getElem? (i := 197) (by decide +kernel)) rfl
theorem zk_X2_11 : Cond.methodLink RX2 11 yX3_init ∈ zz_tbl := zz_in (List.mem_of_getElem? (i := 200) (by decide +kernel)) rfl
theorem zk_X2_20 : Cond.methodLinkNest RX2 20 yX0_init "SplitBehind" ∈ lw_tbl := List.mem_of_getElem? (i := 216) (by decide +kernel)
theorem zk_X2_27 : Cond.methodLinkNest RX2 27 yX5_init "SplitBehind" ∈ lw_tbl := List.mem_of_getElem? (i := 276) (by decide +kernel)
theorem zk_X2_34 : Cond.methodLink RX2 34 yX6_init ∈ zz_tbl := zz_in (List.mem_of_getElem? (i := 291) (by decide +kernel)) rfl
theorem zk_X2_73 : Cond.methodLink RX2 73 yX0_clear ∈ zz_tbl := zz_in (List.mem_of_getElem? (i := 307) (by decide +kernel)) rfl
theorem zk_X2_80 : Cond.methodLink RX2 80 yX6_closeAll ∈ zz_tbl := zz_in (List.mem_of_getElem? (i := 425) (by decide +kernel)) rfl
theorem zk_X2_83 : Cond.methodLink RX2 83 yX3_copyFrom ∈ zz_tbl := zz_in (List.mem_of_getElem? (i := 867) (by decide +kernel)) rfl
theorem zk_X2_87 : Cond.methodLink RX2 87 yX0_copyFrom ∈ zz_tbl := zz_in (List.mem_of_getElem? (i := 872) (by decide +kernel)) rfl
theorem zk_X2_90 : Cond.methodLink RX2 90 yX5_copyFrom ∈ zz_tbl := zz_in (List.mem_of_getElem? (i := 876) (by decide +kernel)) rfl
theorem zk_X2_93 : Cond.methodLink RX2 93 yX6_copyFrom ∈ zz_tbl := zz_in (List.mem_of_getElem? (i := 880) (by decide +kernel)) rfl
theorem zk_X2_96 : Cond.methodLink RX2 96 yX2_buckets ∈ zz_tbl := zz_in (List.mem_of_getElem? (i := 612) (by decide +kernel)) rfl
theorem zk_X2_103 : Cond.methodLink RX2 103 yX2_span ∈ zz_tbl := zz_in (List.mem_of_getElem? (i := 565) (by decide +kernel)) rfl
theorem zk_X2_106 : Cond.methodLink RX2 106 yX2_address ∈ zz_tbl := zz_in (List.mem_of_getElem? (i := 569) (by decide +kernel)) rfl
theorem zk_X2_110 : Cond.methodLink RX2 110 yX2_spanAmong ∈ zz_tbl := zz_in (List.mem_of_getElem? (i := 763) (by decide +kernel)) rfl
theorem zk_X2_114 : Cond.methodLink RX2 114 yX5_hashAt ∈ zz_tbl := zz_in (List.mem_of_getElem? (i := 843) (by decide +kernel)) rfl
theorem zk_X2_118 : Cond.methodLink RX2 118 yX5_codeOf ∈ zz_tbl := zz_in (List.mem_of_getElem? (i := 572) (by decide +kernel)) rfl
theorem zk_X2_122 : Cond.methodLink RX2 122 yX5_has ∈ zz_tbl := zz_in (List.mem_of_getElem? (i := 576) (by decide +kernel)) rfl
theorem zk_X2_126 : Cond.methodLink RX2 126 yX3_hashOf ∈ zz_tbl := zz_in (List.mem_of_getElem? (i := 547) (by decide +kernel)) rfl
theorem zk_X2_129 : Cond.methodLink RX2 129 yX2_addressOf ∈ zz_tbl := zz_in (List.mem_of_getElem? (i := 561) (by decide +kernel)) rfl
theorem zk_X2_132 : Cond.methodLink RX2 132 yX0_slotOf ∈ zz_tbl := zz_in (List.mem_of_getElem? (i := 591) (by decide +kernel)) rfl
theorem zk_X2_139 : Cond.methodLink RX2 139 yX1_valueOf ∈ zz_tbl := zz_in (List.mem_of_getElem? (i := 646) (by decide +kernel)) rfl
theorem zk_X2_152 : Cond.methodLink RX2 152 yX5_placeFrom ∈ zz_tbl := zz_in (List.mem_of_getElem? (i := 979) (by decide +kernel)) rfl
theorem zk_X2_155 : Cond.methodLink RX2 155 yX2_readsFor ∈ zz_tbl := zz_in (List.mem_of_getElem? (i := 674) (by decide +kernel)) rfl
theorem zk_X2_158 : Cond.methodLink RX2 158 yX1_of ∈ zz_tbl := zz_in (List.mem_of_getElem? (i := 584) (by decide +kernel)) rfl
theorem zk_X2_161 : Cond.methodLink RX2 161 yX2_overwrite ∈ zz_tbl := zz_in (List.mem_of_getElem? (i := 587) (by decide +kernel)) rfl
theorem zk_X2_165 : Cond.methodLink RX2 165 yX0_append ∈ zz_tbl := zz_in (List.mem_of_getElem? (i := 599) (by decide +kernel)) rfl
theorem zk_X2_169 : Cond.methodLink RX2 169 yX5_insert ∈ zz_tbl := zz_in (List.mem_of_getElem? (i := 603) (by decide +kernel)) rfl
theorem zk_X2_173 : Cond.methodLink RX2 173 yX2_load ∈ zz_tbl := zz_in (List.mem_of_getElem? (i := 608) (by decide +kernel)) rfl
theorem zk_X2_176 : Cond.methodLink RX2 176 yX2_divide ∈ zz_tbl := zz_in (List.mem_of_getElem? (i := 616) (by decide +kernel)) rfl
theorem zk_X2_179 : Cond.methodLink RX2 179 yX0_fillFromLast ∈ zz_tbl := zz_in (List.mem_of_getElem? (i := 650) (by decide +kernel)) rfl
theorem zk_X2_183 : Cond.methodLink RX2 183 yX5_remove ∈ zz_tbl := zz_in (List.mem_of_getElem? (i := 662) (by decide +kernel)) rfl
theorem zk_X2_186 : Cond.methodLink RX2 186 yX2_unite ∈ zz_tbl := zz_in (List.mem_of_getElem? (i := 666) (by decide +kernel)) rfl
theorem zk_X2_189 : Cond.methodLink RX2 189 yX1_hashOf ∈ zz_tbl := zz_in (List.mem_of_getElem? (i := 639) (by decide +kernel)) rfl
theorem zk_X2_191 : Cond.methodLink RX2 191 yX2_isFull ∈ zz_tbl := zz_in (List.mem_of_getElem? (i := 620) (by decide +kernel)) rfl
theorem zk_X2_195 : Cond.methodLink RX2 195 yX0_gather ∈ zz_tbl := zz_in (List.mem_of_getElem? (i := 624) (by decide +kernel)) rfl
theorem zk_X2_199 : Cond.methodLink RX2 199 yX0_empty ∈ zz_tbl := zz_in (List.mem_of_getElem? (i := 630) (by decide +kernel)) rfl
theorem zk_X2_203 : Cond.methodLink RX2 203 yX0_addPage ∈ zz_tbl := zz_in (List.mem_of_getElem? (i := 634) (by decide +kernel)) rfl
theorem zk_X2_212 : Cond.methodLink RX2 212 yX2_goesAtNextSplit ∈ zz_tbl := zz_in (List.mem_of_getElem? (i := 635) (by decide +kernel)) rfl
theorem zd_X2_218 : Cond.constant RX2 218 65535 ∈ zz_tbl := zz_in (List.mem_of_getElem? (i := 693) (by decide +kernel)) rfl
theorem zk_X2_219 : Cond.methodLink RX2 219 yX2_draw ∈ zz_tbl := zz_in (List.mem_of_getElem? (i := 689) (by decide +kernel)) rfl
theorem zk_X2_222 : Cond.methodLink RX2 222 yX2_store ∈ zz_tbl := zz_in (List.mem_of_getElem? (i := 694) (by decide +kernel)) rfl
theorem zk_X2_225 : Cond.methodLink RX2 225 yX5_keyAt ∈ zz_tbl := zz_in (List.mem_of_getElem? (i := 699) (by decide +kernel)) rfl
theorem zk_X2_228 : Cond.methodLink RX2 228 yX2_remove ∈ zz_tbl := zz_in (List.mem_of_getElem? (i := 704) (by decide +kernel)) rfl
theorem zk_X3_3 : Cond.methodLink RX3 3 objectInit ∈ zz_tbl := zz_in (List.mem_of_getElem? (i := 203) (by decide +kernel)) rfl
theorem zk_X3_24 : Cond.methodLink RX3 24 yJ9_min_7cf53 ∈ zz_tbl := zz_in (List.mem_of_getElem? (i := 509) (by decide +kernel)) rfl
theorem zk_X3_30 : Cond.methodLink RX3 30 arraycopyName ∈ zz_tbl := zz_in (List.mem_of_getElem? (i := 512) (by decide +kernel)) rfl
theorem zk_X3_36 : Cond.methodLink RX3 36 yX3_take ∈ zz_tbl := zz_in (List.mem_of_getElem? (i := 871) (by decide +kernel)) rfl
theorem zk_X3_40 : Cond.methodLink RX3 40 yX3_changed ∈ zz_tbl := zz_in (List.mem_of_getElem? (i := 551) (by decide +kernel)) rfl
theorem zk_X3_43 : Cond.methodLink RX3 43 yX3_joined ∈ zz_tbl := zz_in (List.mem_of_getElem? (i := 558) (by decide +kernel)) rfl
theorem zd_X3_47 : Cond.constant RX3 47 65535 ∈ zz_tbl := zz_in (List.mem_of_getElem? (i := 554) (by decide +kernel)) rfl
theorem zk_X3_48 : Cond.methodLinkNest RX3 48 yX9_reversed "SplitBehind" ∈ lw_tbl := List.mem_of_getElem? (i := 555) (by decide +kernel)
theorem zk_X4_3 : Cond.methodLink RX4 3 objectInit ∈ zz_tbl := zz_in (List.mem_of_getElem? (i := 143) (by decide +kernel)) rfl
theorem zk_X4_37 : Cond.methodLink RX4 37 yX4_isWhole ∈ zz_tbl := zz_in (List.mem_of_getElem? (i := 446) (by decide +kernel)) rfl
theorem zk_X4_41 : Cond.methodLink RX4 41 yX4_readPart ∈ zz_tbl := zz_in (List.mem_of_getElem? (i := 454) (by decide +kernel)) rfl
theorem zk_X4_45 : Cond.methodLink RX4 45 yX4_readBehindPart ∈ zz_tbl := zz_in (List.mem_of_getElem? (i := 498) (by decide +kernel)) rfl
theorem zk_X4_48 : Cond.methodLink RX4 48 yX8_sign ∈ zz_tbl := zz_in (List.mem_of_getElem? (i := 450) (by decide +kernel)) rfl
theorem zk_X4_52 : Cond.methodLink RX4 52 yX8_isAtDigit ∈ zz_tbl := zz_in (List.mem_of_getElem? (i := 458) (by decide +kernel)) rfl
theorem zd_X4_56 : Cond.constant RX4 56 65535 ∈ zz_tbl := zz_in (List.mem_of_getElem? (i := 463) (by decide +kernel)) rfl
theorem zk_X4_57 : Cond.methodLink RX4 57 yX8_number ∈ zz_tbl := zz_in (List.mem_of_getElem? (i := 464) (by decide +kernel)) rfl
theorem zk_X4_61 : Cond.methodLink RX4 61 yX4_emit ∈ zz_tbl := zz_in (List.mem_of_getElem? (i := 481) (by decide +kernel)) rfl
theorem zk_X4_65 : Cond.methodLink RX4 65 yX4_endPart ∈ zz_tbl := zz_in (List.mem_of_getElem? (i := 485) (by decide +kernel)) rfl
theorem zk_X4_68 : Cond.methodLink RX4 68 yX8_pass ∈ zz_tbl := zz_in (List.mem_of_getElem? (i := 489) (by decide +kernel)) rfl
theorem zk_X4_73 : Cond.methodLink RX4 73 yX4_openOne ∈ zz_tbl := zz_in (List.mem_of_getElem? (i := 490) (by decide +kernel)) rfl
theorem zk_X4_77 : Cond.methodLink RX4 77 yX8_failHere ∈ zz_tbl := zz_in (List.mem_of_getElem? (i := 494) (by decide +kernel)) rfl
theorem zk_X4_80 : Cond.methodLink RX4 80 yX4_readRound ∈ zz_tbl := zz_in (List.mem_of_getElem? (i := 495) (by decide +kernel)) rfl
theorem zk_X4_84 : Cond.methodLink RX4 84 yX4_isJoiningSign ∈ zz_tbl := zz_in (List.mem_of_getElem? (i := 502) (by decide +kernel)) rfl
theorem zk_X5_3 : Cond.methodLink RX5 3 objectInit ∈ zz_tbl := zz_in (List.mem_of_getElem? (i := 279) (by decide +kernel)) rfl
theorem zk_X5_19 : Cond.methodLinkNest RX5 19 yX9_reversed "SplitBehind" ∈ lw_tbl := List.mem_of_getElem? (i := 575) (by decide +kernel)
theorem zk_X5_23 : Cond.methodLink RX5 23 arraycopyName ∈ zz_tbl := zz_in (List.mem_of_getElem? (i := 607) (by decide +kernel)) rfl
theorem zk_X5_29 : Cond.methodLink RX5 29 yX5_placeFrom ∈ zz_tbl := zz_in (List.mem_of_getElem? (i := 580) (by decide +kernel)) rfl
theorem zd_X5_33 : Cond.constantLong RX5 33 65535 ∈ zz_tbl := zz_in (List.mem_of_getElem? (i := 703) (by decide +kernel)) rfl
theorem zk_X6_3 : Cond.methodLink RX6 3 objectInit ∈ zz_tbl := zz_in (List.mem_of_getElem? (i := 294) (by decide +kernel)) rfl
theorem zk_X6_18 : Cond.methodLink RX6 18 yJ7_fill_53178 ∈ zz_tbl := zz_in (List.mem_of_getElem? (i := 295) (by decide +kernel)) rfl
theorem zk_X6_24 : Cond.methodLink RX6 24 arraycopyName ∈ zz_tbl := zz_in (List.mem_of_getElem? (i := 884) (by decide +kernel)) rfl
theorem zk_X6_30 : Cond.methodLinkNest RX6 30 yX9_within "SplitBehind" ∈ lw_tbl := List.mem_of_getElem? (i := 974) (by decide +kernel)
theorem zk_X7_3 : Cond.methodLink RX7 3 objectInit ∈ zz_tbl := zz_in (List.mem_of_getElem? (i := 170) (by decide +kernel)) rfl
theorem zk_X7_28 : Cond.methodLink RX7 28 yX8_failHere ∈ zz_tbl := zz_in (List.mem_of_getElem? (i := 523) (by decide +kernel)) rfl
theorem zk_X7_37 : Cond.methodLink RX7 37 yX7_readStep ∈ zz_tbl := zz_in (List.mem_of_getElem? (i := 524) (by decide +kernel)) rfl
theorem zk_X7_41 : Cond.methodLink RX7 41 yX8_sign ∈ zz_tbl := zz_in (List.mem_of_getElem? (i := 528) (by decide +kernel)) rfl
theorem zk_X7_45 : Cond.methodLink RX7 45 yX8_expect ∈ zz_tbl := zz_in (List.mem_of_getElem? (i := 535) (by decide +kernel)) rfl
theorem zk_X7_48 : Cond.methodLink RX7 48 yX7_isLetter ∈ zz_tbl := zz_in (List.mem_of_getElem? (i := 529) (by decide +kernel)) rfl
theorem zk_X7_52 : Cond.methodLink RX7 52 yX8_pass ∈ zz_tbl := zz_in (List.mem_of_getElem? (i := 532) (by decide +kernel)) rfl
theorem zd_X7_55 : Cond.constant RX7 55 65535 ∈ zz_tbl := zz_in (List.mem_of_getElem? (i := 533) (by decide +kernel)) rfl
theorem zk_X7_56 : Cond.methodLink RX7 56 yX8_number ∈ zz_tbl := zz_in (List.mem_of_getElem? (i := 534) (by decide +kernel)) rfl
theorem zk_X8_1 : Cond.methodLink RX8 1 objectInit ∈ zz_tbl := zz_in (List.mem_of_getElem? (i := 116) (by decide +kernel)) rfl
theorem zk_X8_26 : Cond.methodLinkNest RX8 26 yX9_within "SplitBehind" ∈ lw_tbl := List.mem_of_getElem? (i := 437) (by decide +kernel)
theorem zk_X8_32 : Cond.methodLink RX8 32 yX8_fail ∈ zz_tbl := zz_in (List.mem_of_getElem? (i := 473) (by decide +kernel)) rfl
theorem zk_X8_36 : Cond.methodLink RX8 36 yX8_sign ∈ zz_tbl := zz_in (List.mem_of_getElem? (i := 462) (by decide +kernel)) rfl
theorem zk_X8_40 : Cond.methodLink RX8 40 yX8_isAtDigit ∈ zz_tbl := zz_in (List.mem_of_getElem? (i := 468) (by decide +kernel)) rfl
theorem zk_X8_44 : Cond.methodLink RX8 44 yX8_failHere ∈ zz_tbl := zz_in (List.mem_of_getElem? (i := 469) (by decide +kernel)) rfl
theorem zk_X8_48 : Cond.methodLink RX8 48 yX8_pass ∈ zz_tbl := zz_in (List.mem_of_getElem? (i := 477) (by decide +kernel)) rfl
theorem zk_X9_1 : Cond.methodLink RX9 1 objectInit ∈ zz_tbl := zz_in (List.mem_of_getElem? (i := 108) (by decide +kernel)) rfl
theorem zk_X9_9 : Cond.methodLinkNest RX9 9 yX8_init "SplitBehind" ∈ lw_tbl := List.mem_of_getElem? (i := 113) (by decide +kernel)
theorem zk_X9_18 : Cond.methodLinkNest RX9 18 yX4_init "SplitBehind" ∈ lw_tbl := List.mem_of_getElem? (i := 140) (by decide +kernel)
theorem zk_X9_25 : Cond.methodLinkNest RX9 25 yX7_init "SplitBehind" ∈ lw_tbl := List.mem_of_getElem? (i := 167) (by decide +kernel)
theorem zk_X9_32 : Cond.methodLink RX9 32 yX2_init ∈ zz_tbl := zz_in (List.mem_of_getElem? (i := 194) (by decide +kernel)) rfl
theorem zk_X9_51 : Cond.methodLink RX9 51 yX8_hasRoom ∈ zz_tbl := zz_in (List.mem_of_getElem? (i := 406) (by decide +kernel)) rfl
theorem zk_X9_55 : Cond.methodLink RX9 55 yX8_append ∈ zz_tbl := zz_in (List.mem_of_getElem? (i := 410) (by decide +kernel)) rfl
theorem zk_X9_63 : Cond.methodLink RX9 63 yX9_within ∈ zz_tbl := zz_in (List.mem_of_getElem? (i := 418) (by decide +kernel)) rfl
theorem zk_X9_67 : Cond.methodLink RX9 67 yX2_reset ∈ zz_tbl := zz_in (List.mem_of_getElem? (i := 421) (by decide +kernel)) rfl
theorem zk_X9_71 : Cond.methodLink RX9 71 yX8_has ∈ zz_tbl := zz_in (List.mem_of_getElem? (i := 433) (by decide +kernel)) rfl
theorem zk_X9_74 : Cond.methodLink RX9 74 yX8_open ∈ zz_tbl := zz_in (List.mem_of_getElem? (i := 438) (by decide +kernel)) rfl
theorem zk_X9_84 : Cond.methodLink RX9 84 yX4_read ∈ zz_tbl := zz_in (List.mem_of_getElem? (i := 442) (by decide +kernel)) rfl
theorem zk_X9_96 : Cond.methodLink RX9 96 yX3_take ∈ zz_tbl := zz_in (List.mem_of_getElem? (i := 505) (by decide +kernel)) rfl
theorem zk_X9_102 : Cond.methodLink RX9 102 yX7_read ∈ zz_tbl := zz_in (List.mem_of_getElem? (i := 519) (by decide +kernel)) rfl
theorem zk_X9_116 : Cond.methodLink RX9 116 yX9_doStep ∈ zz_tbl := zz_in (List.mem_of_getElem? (i := 539) (by decide +kernel)) rfl
theorem zk_X9_120 : Cond.methodLink RX9 120 yX2_store ∈ zz_tbl := zz_in (List.mem_of_getElem? (i := 543) (by decide +kernel)) rfl
theorem zk_X9_124 : Cond.methodLink RX9 124 yX2_remove ∈ zz_tbl := zz_in (List.mem_of_getElem? (i := 642) (by decide +kernel)) rfl
theorem zk_X9_128 : Cond.methodLink RX9 128 yX2_look ∈ zz_tbl := zz_in (List.mem_of_getElem? (i := 670) (by decide +kernel)) rfl
theorem zk_X9_131 : Cond.methodLink RX9 131 yX2_divide ∈ zz_tbl := zz_in (List.mem_of_getElem? (i := 678) (by decide +kernel)) rfl
theorem zk_X9_135 : Cond.methodLink RX9 135 yX2_unite ∈ zz_tbl := zz_in (List.mem_of_getElem? (i := 679) (by decide +kernel)) rfl
theorem zk_X9_138 : Cond.methodLink RX9 138 yX9_storeRow ∈ zz_tbl := zz_in (List.mem_of_getElem? (i := 680) (by decide +kernel)) rfl
theorem zk_X9_142 : Cond.methodLink RX9 142 yX2_storeDrawn ∈ zz_tbl := zz_in (List.mem_of_getElem? (i := 685) (by decide +kernel)) rfl
theorem zk_X9_145 : Cond.methodLink RX9 145 yX2_removeDrawn ∈ zz_tbl := zz_in (List.mem_of_getElem? (i := 695) (by decide +kernel)) rfl
theorem zd_X9_148 : Cond.constant RX9 148 65535 ∈ zz_tbl := zz_in (List.mem_of_getElem? (i := 684) (by decide +kernel)) rfl
theorem zk_X9_149 : Cond.methodLink RX9 149 yX9_isKey ∈ zz_tbl := zz_in (List.mem_of_getElem? (i := 709) (by decide +kernel)) rfl
theorem zk_X9_180 : Cond.methodLink RX9 180 yX2_buckets ∈ zz_tbl := zz_in (List.mem_of_getElem? (i := 732) (by decide +kernel)) rfl
theorem zk_X9_183 : Cond.methodLink RX9 183 yX0_usedPages ∈ zz_tbl := zz_in (List.mem_of_getElem? (i := 733) (by decide +kernel)) rfl
theorem zk_X9_186 : Cond.methodLink RX9 186 yX2_load ∈ zz_tbl := zz_in (List.mem_of_getElem? (i := 737) (by decide +kernel)) rfl
theorem zk_X9_195 : Cond.methodLink RX9 195 yX0_longest ∈ zz_tbl := zz_in (List.mem_of_getElem? (i := 738) (by decide +kernel)) rfl
theorem zk_X9_198 : Cond.methodLink RX9 198 yX0_withoutKeys ∈ zz_tbl := zz_in (List.mem_of_getElem? (i := 745) (by decide +kernel)) rfl
theorem zk_X9_207 : Cond.methodLink RX9 207 yX3_hashOf ∈ zz_tbl := zz_in (List.mem_of_getElem? (i := 753) (by decide +kernel)) rfl
theorem zk_X9_210 : Cond.methodLink RX9 210 yX2_addressOf ∈ zz_tbl := zz_in (List.mem_of_getElem? (i := 754) (by decide +kernel)) rfl
theorem zk_X9_213 : Cond.methodLink RX9 213 yX9_movesOf ∈ zz_tbl := zz_in (List.mem_of_getElem? (i := 755) (by decide +kernel)) rfl
theorem zk_X9_216 : Cond.methodLink RX9 216 yX2_readsFor ∈ zz_tbl := zz_in (List.mem_of_getElem? (i := 767) (by decide +kernel)) rfl
theorem zk_X9_219 : Cond.methodLink RX9 219 yX2_isFull ∈ zz_tbl := zz_in (List.mem_of_getElem? (i := 768) (by decide +kernel)) rfl
theorem zk_X9_222 : Cond.methodLink RX9 222 yX2_addressAmong ∈ zz_tbl := zz_in (List.mem_of_getElem? (i := 759) (by decide +kernel)) rfl
theorem zk_X9_225 : Cond.methodLink RX9 225 yX9_isAmount ∈ zz_tbl := zz_in (List.mem_of_getElem? (i := 773) (by decide +kernel)) rfl
theorem zk_X9_228 : Cond.methodLink RX9 228 yX9_isBucket ∈ zz_tbl := zz_in (List.mem_of_getElem? (i := 781) (by decide +kernel)) rfl
theorem zk_X9_231 : Cond.methodLink RX9 231 yX0_keyAt ∈ zz_tbl := zz_in (List.mem_of_getElem? (i := 785) (by decide +kernel)) rfl
theorem zk_X9_234 : Cond.methodLink RX9 234 yX0_pageAt ∈ zz_tbl := zz_in (List.mem_of_getElem? (i := 793) (by decide +kernel)) rfl
theorem zk_X9_253 : Cond.methodLink RX9 253 yX1_keyOf ∈ zz_tbl := zz_in (List.mem_of_getElem? (i := 798) (by decide +kernel)) rfl
theorem zk_X9_262 : Cond.methodLink RX9 262 yX0_allReads ∈ zz_tbl := zz_in (List.mem_of_getElem? (i := 807) (by decide +kernel)) rfl
theorem zk_X9_265 : Cond.methodLink RX9 265 yX0_mostReads ∈ zz_tbl := zz_in (List.mem_of_getElem? (i := 811) (by decide +kernel)) rfl
theorem zk_X9_268 : Cond.methodLink RX9 268 yX0_gather ∈ zz_tbl := zz_in (List.mem_of_getElem? (i := 819) (by decide +kernel)) rfl
theorem zk_X9_277 : Cond.methodLink RX9 277 yX2_goesAtNextSplit ∈ zz_tbl := zz_in (List.mem_of_getElem? (i := 820) (by decide +kernel)) rfl
theorem zk_X9_281 : Cond.methodLink RX9 281 yX9_mostIn ∈ zz_tbl := zz_in (List.mem_of_getElem? (i := 829) (by decide +kernel)) rfl
theorem zk_X9_284 : Cond.methodLink RX9 284 yX9_countAmong ∈ zz_tbl := zz_in (List.mem_of_getElem? (i := 833) (by decide +kernel)) rfl
theorem zk_X9_287 : Cond.methodLink RX9 287 yJ9_max_7cf53 ∈ zz_tbl := zz_in (List.mem_of_getElem? (i := 848) (by decide +kernel)) rfl
theorem zk_X9_292 : Cond.methodLink RX9 292 yJ7_fill_53178 ∈ zz_tbl := zz_in (List.mem_of_getElem? (i := 837) (by decide +kernel)) rfl
theorem zk_X9_297 : Cond.methodLink RX9 297 yX2_spanAmong ∈ zz_tbl := zz_in (List.mem_of_getElem? (i := 838) (by decide +kernel)) rfl
theorem zk_X9_300 : Cond.methodLink RX9 300 yX2_hashAt ∈ zz_tbl := zz_in (List.mem_of_getElem? (i := 839) (by decide +kernel)) rfl
theorem zk_X9_303 : Cond.methodLink RX9 303 yX2_address ∈ zz_tbl := zz_in (List.mem_of_getElem? (i := 847) (by decide +kernel)) rfl
theorem zk_X9_307 : Cond.methodLink RX9 307 yX9_pagesFor ∈ zz_tbl := zz_in (List.mem_of_getElem? (i := 853) (by decide +kernel)) rfl
theorem zk_X9_310 : Cond.methodLink RX9 310 yX9_readsOfAll ∈ zz_tbl := zz_in (List.mem_of_getElem? (i := 856) (by decide +kernel)) rfl
theorem zk_X9_313 : Cond.methodLink RX9 313 yX2_copyFrom ∈ zz_tbl := zz_in (List.mem_of_getElem? (i := 863) (by decide +kernel)) rfl
theorem zk_X9_317 : Cond.methodLink RX9 317 yX2_span ∈ zz_tbl := zz_in (List.mem_of_getElem? (i := 885) (by decide +kernel)) rfl
theorem zk_X9_320 : Cond.methodLink RX9 320 yX0_pageOfKey ∈ zz_tbl := zz_in (List.mem_of_getElem? (i := 886) (by decide +kernel)) rfl
theorem zk_X9_323 : Cond.methodLink RX9 323 yX9_isWritten ∈ zz_tbl := zz_in (List.mem_of_getElem? (i := 887) (by decide +kernel)) rfl
theorem zk_X9_326 : Cond.methodLink RX9 326 yX5_keyAt ∈ zz_tbl := zz_in (List.mem_of_getElem? (i := 899) (by decide +kernel)) rfl
theorem zk_X9_328 : Cond.methodLink RX9 328 yX9_gatherSigns ∈ zz_tbl := zz_in (List.mem_of_getElem? (i := 904) (by decide +kernel)) rfl
theorem zk_X9_331 : Cond.methodLink RX9 331 yX9_signOf ∈ zz_tbl := zz_in (List.mem_of_getElem? (i := 908) (by decide +kernel)) rfl
theorem zk_X9_334 : Cond.methodLink RX9 334 yX2_holds ∈ zz_tbl := zz_in (List.mem_of_getElem? (i := 915) (by decide +kernel)) rfl
theorem zk_X9_338 : Cond.methodLink RX9 338 yX0_keysCosting ∈ zz_tbl := zz_in (List.mem_of_getElem? (i := 923) (by decide +kernel)) rfl
theorem zk_X9_341 : Cond.methodLink RX9 341 yX9_differs ∈ zz_tbl := zz_in (List.mem_of_getElem? (i := 931) (by decide +kernel)) rfl
theorem zk_X9_345 : Cond.methodLink RX9 345 yX2_valueOf ∈ zz_tbl := zz_in (List.mem_of_getElem? (i := 934) (by decide +kernel)) rfl
theorem zk_X9_352 : Cond.methodLink RX9 352 yX6_lowestClosed ∈ zz_tbl := zz_in (List.mem_of_getElem? (i := 958) (by decide +kernel)) rfl
theorem zk_X9_357 : Cond.methodLink RX9 357 yX6_begin ∈ zz_tbl := zz_in (List.mem_of_getElem? (i := 962) (by decide +kernel)) rfl
theorem zk_X9_360 : Cond.methodLink RX9 360 yX6_isOpen ∈ zz_tbl := zz_in (List.mem_of_getElem? (i := 970) (by decide +kernel)) rfl
theorem zk_X9_366 : Cond.methodLink RX9 366 yX2_placeBehind ∈ zz_tbl := zz_in (List.mem_of_getElem? (i := 975) (by decide +kernel)) rfl
theorem zk_X9_372 : Cond.methodLink RX9 372 yX6_close ∈ zz_tbl := zz_in (List.mem_of_getElem? (i := 992) (by decide +kernel)) rfl
theorem zk_X9_381 : Cond.methodLink RX9 381 yX6_openOnes ∈ zz_tbl := zz_in (List.mem_of_getElem? (i := 1016) (by decide +kernel)) rfl
theorem zk_X10_1 : Cond.methodLink RX10 1 objectInit ∈ zz_tbl := zz_in (List.mem_of_getElem? (i := 1025) (by decide +kernel)) rfl
theorem zd_X10_62 : Cond.constant RX10 62 65536 ∈ zz_tbl := zz_in (List.mem_of_getElem? (i := 1026) (by decide +kernel)) rfl
theorem zk_X10_63 : Cond.methodLink RX10 63 yX10_empties ∈ zz_tbl := zz_in (List.mem_of_getElem? (i := 1027) (by decide +kernel)) rfl
theorem zk_X10_67 : Cond.methodLink RX10 67 yX10_in ∈ zz_tbl := zz_in (List.mem_of_getElem? (i := 1127) (by decide +kernel)) rfl
theorem zk_X10_75 : Cond.methodLink RX10 75 yX10_types ∈ zz_tbl := zz_in (List.mem_of_getElem? (i := 1134) (by decide +kernel)) rfl
theorem zk_X10_88 : Cond.methodLink RX10 88 yX10_here ∈ zz_tbl := zz_in (List.mem_of_getElem? (i := 1150) (by decide +kernel)) rfl
theorem zk_X10_92 : Cond.methodLink RX10 92 yX10_isDigit ∈ zz_tbl := zz_in (List.mem_of_getElem? (i := 1165) (by decide +kernel)) rfl
theorem zk_X10_96 : Cond.methodLink RX10 96 yX10_wrongAt ∈ zz_tbl := zz_in (List.mem_of_getElem? (i := 1161) (by decide +kernel)) rfl
theorem zk_X10_112 : Cond.methodLink RX10 112 yX10_waitsFor ∈ zz_tbl := zz_in (List.mem_of_getElem? (i := 1168) (by decide +kernel)) rfl
theorem zk_X10_116 : Cond.methodLink RX10 116 yX10_uppermost ∈ zz_tbl := zz_in (List.mem_of_getElem? (i := 1185) (by decide +kernel)) rfl
theorem zk_X10_119 : Cond.methodLink RX10 119 yX10_notes ∈ zz_tbl := zz_in (List.mem_of_getElem? (i := 1172) (by decide +kernel)) rfl
theorem zk_X10_122 : Cond.methodLink RX10 122 yX10_opener ∈ zz_tbl := zz_in (List.mem_of_getElem? (i := 1154) (by decide +kernel)) rfl
theorem zk_X10_126 : Cond.methodLink RX10 126 yX10_opens ∈ zz_tbl := zz_in (List.mem_of_getElem? (i := 1157) (by decide +kernel)) rfl
theorem zd_X10_129 : Cond.constant RX10 129 65535 ∈ zz_tbl := zz_in (List.mem_of_getElem? (i := 1176) (by decide +kernel)) rfl
theorem zk_X10_130 : Cond.methodLink RX10 130 yX10_readsNumber ∈ zz_tbl := zz_in (List.mem_of_getElem? (i := 1177) (by decide +kernel)) rfl
theorem zk_X10_133 : Cond.methodLink RX10 133 yX10_settles ∈ zz_tbl := zz_in (List.mem_of_getElem? (i := 1181) (by decide +kernel)) rfl
theorem zk_X10_136 : Cond.methodLink RX10 136 yX10_readsPart ∈ zz_tbl := zz_in (List.mem_of_getElem? (i := 1146) (by decide +kernel)) rfl
theorem zk_X10_140 : Cond.methodLink RX10 140 yX10_signOf ∈ zz_tbl := zz_in (List.mem_of_getElem? (i := 1189) (by decide +kernel)) rfl
theorem zk_X10_143 : Cond.methodLink RX10 143 yX10_closes ∈ zz_tbl := zz_in (List.mem_of_getElem? (i := 1192) (by decide +kernel)) rfl
theorem zk_X10_146 : Cond.methodLink RX10 146 yX10_readsLaw ∈ zz_tbl := zz_in (List.mem_of_getElem? (i := 1142) (by decide +kernel)) rfl
theorem zk_X10_149 : Cond.methodLink RX10 149 yX10_reversed ∈ zz_tbl := zz_in (List.mem_of_getElem? (i := 1243) (by decide +kernel)) rfl
theorem zk_X10_152 : Cond.methodLink RX10 152 yX10_turnedBy ∈ zz_tbl := zz_in (List.mem_of_getElem? (i := 1240) (by decide +kernel)) rfl
theorem zk_X10_156 : Cond.methodLink RX10 156 yX10_joined ∈ zz_tbl := zz_in (List.mem_of_getElem? (i := 1246) (by decide +kernel)) rfl
theorem zk_X10_159 : Cond.methodLink RX10 159 yX10_hashIn ∈ zz_tbl := zz_in (List.mem_of_getElem? (i := 1236) (by decide +kernel)) rfl
theorem zk_X10_163 : Cond.methodLink RX10 163 yX10_first ∈ zz_tbl := zz_in (List.mem_of_getElem? (i := 1204) (by decide +kernel)) rfl
theorem zk_X10_166 : Cond.methodLink RX10 166 yX10_addressIn ∈ zz_tbl := zz_in (List.mem_of_getElem? (i := 1292) (by decide +kernel)) rfl
theorem zk_X10_169 : Cond.methodLink RX10 169 yX10_placeOf ∈ zz_tbl := zz_in (List.mem_of_getElem? (i := 1300) (by decide +kernel)) rfl
theorem zk_X10_172 : Cond.methodLink RX10 172 yX10_chainOf ∈ zz_tbl := zz_in (List.mem_of_getElem? (i := 1212) (by decide +kernel)) rfl
theorem zk_X10_175 : Cond.methodLink RX10 175 yX10_takesPage ∈ zz_tbl := zz_in (List.mem_of_getElem? (i := 1224) (by decide +kernel)) rfl
theorem zk_X10_178 : Cond.methodLink RX10 178 yX10_buckets ∈ zz_tbl := zz_in (List.mem_of_getElem? (i := 1200) (by decide +kernel)) rfl
theorem zk_X10_184 : Cond.methodLink RX10 184 yX10_hashOf ∈ zz_tbl := zz_in (List.mem_of_getElem? (i := 1232) (by decide +kernel)) rfl
theorem zk_X10_187 : Cond.methodLink RX10 187 yX10_lists ∈ zz_tbl := zz_in (List.mem_of_getElem? (i := 1216) (by decide +kernel)) rfl
theorem zk_X10_190 : Cond.methodLink RX10 190 yX10_freesPages ∈ zz_tbl := zz_in (List.mem_of_getElem? (i := 1220) (by decide +kernel)) rfl
theorem zk_X10_193 : Cond.methodLink RX10 193 yX10_goesOver ∈ zz_tbl := zz_in (List.mem_of_getElem? (i := 1228) (by decide +kernel)) rfl
theorem zk_X10_196 : Cond.methodLink RX10 196 yX10_needsPages ∈ zz_tbl := zz_in (List.mem_of_getElem? (i := 1249) (by decide +kernel)) rfl
theorem zk_X10_199 : Cond.methodLink RX10 199 yX10_comesBehind ∈ zz_tbl := zz_in (List.mem_of_getElem? (i := 1253) (by decide +kernel)) rfl
theorem zk_X10_202 : Cond.methodLink RX10 202 yX10_keysIn ∈ zz_tbl := zz_in (List.mem_of_getElem? (i := 1265) (by decide +kernel)) rfl
theorem zk_X10_205 : Cond.methodLink RX10 205 yX10_splits ∈ zz_tbl := zz_in (List.mem_of_getElem? (i := 1208) (by decide +kernel)) rfl
theorem zk_X10_208 : Cond.methodLink RX10 208 yX10_comesTogether ∈ zz_tbl := zz_in (List.mem_of_getElem? (i := 1261) (by decide +kernel)) rfl
theorem zk_X10_211 : Cond.methodLink RX10 211 yX10_entryOf ∈ zz_tbl := zz_in (List.mem_of_getElem? (i := 1280) (by decide +kernel)) rfl
theorem zk_X10_214 : Cond.methodLink RX10 214 yX10_addressOf ∈ zz_tbl := zz_in (List.mem_of_getElem? (i := 1288) (by decide +kernel)) rfl
theorem zk_X10_217 : Cond.methodLink RX10 217 yX10_readsOf ∈ zz_tbl := zz_in (List.mem_of_getElem? (i := 1296) (by decide +kernel)) rfl
theorem zk_X10_220 : Cond.methodLink RX10 220 yX10_findReads ∈ zz_tbl := zz_in (List.mem_of_getElem? (i := 1284) (by decide +kernel)) rfl
theorem zk_X10_223 : Cond.methodLink RX10 223 yX10_load ∈ zz_tbl := zz_in (List.mem_of_getElem? (i := 1304) (by decide +kernel)) rfl
theorem zk_X10_226 : Cond.methodLink RX10 226 yX10_isKey ∈ zz_tbl := zz_in (List.mem_of_getElem? (i := 1273) (by decide +kernel)) rfl
theorem zk_X10_229 : Cond.methodLink RX10 229 yX10_puts ∈ zz_tbl := zz_in (List.mem_of_getElem? (i := 1276) (by decide +kernel)) rfl
theorem zk_X10_232 : Cond.methodLink RX10 232 yX10_finds0 ∈ zz_tbl := zz_in (List.mem_of_getElem? (i := 1312) (by decide +kernel)) rfl
theorem zk_X10_235 : Cond.methodLink RX10 235 yX10_entryAt ∈ zz_tbl := zz_in (List.mem_of_getElem? (i := 1324) (by decide +kernel)) rfl
theorem zk_X10_238 : Cond.methodLink RX10 238 yX10_leaves ∈ zz_tbl := zz_in (List.mem_of_getElem? (i := 1328) (by decide +kernel)) rfl
theorem zk_X10_241 : Cond.methodLink RX10 241 yX10_drops ∈ zz_tbl := zz_in (List.mem_of_getElem? (i := 1320) (by decide +kernel)) rfl
theorem zk_X10_247 : Cond.methodLink RX10 247 yX10_readsNext ∈ zz_tbl := zz_in (List.mem_of_getElem? (i := 1344) (by decide +kernel)) rfl
theorem zk_X10_250 : Cond.methodLink RX10 250 yX10_readsNumbers ∈ zz_tbl := zz_in (List.mem_of_getElem? (i := 1340) (by decide +kernel)) rfl
theorem zk_X10_253 : Cond.methodLink RX10 253 yX10_lotGoes ∈ zz_tbl := zz_in (List.mem_of_getElem? (i := 1358) (by decide +kernel)) rfl
theorem zk_X10_256 : Cond.methodLink RX10 256 yX10_orders ∈ zz_tbl := zz_in (List.mem_of_getElem? (i := 1366) (by decide +kernel)) rfl
theorem zk_X10_259 : Cond.methodLink RX10 259 yX10_split ∈ zz_tbl := zz_in (List.mem_of_getElem? (i := 1352) (by decide +kernel)) rfl
theorem zk_X10_262 : Cond.methodLink RX10 262 yX10_join ∈ zz_tbl := zz_in (List.mem_of_getElem? (i := 1353) (by decide +kernel)) rfl
theorem zk_X10_265 : Cond.methodLink RX10 265 yX10_putsDrawn ∈ zz_tbl := zz_in (List.mem_of_getElem? (i := 1354) (by decide +kernel)) rfl
theorem zk_X10_268 : Cond.methodLink RX10 268 yX10_dropsDrawn ∈ zz_tbl := zz_in (List.mem_of_getElem? (i := 1362) (by decide +kernel)) rfl
theorem zk_X10_271 : Cond.methodLink RX10 271 yX10_readsStep ∈ zz_tbl := zz_in (List.mem_of_getElem? (i := 1336) (by decide +kernel)) rfl
theorem zk_X10_274 : Cond.methodLink RX10 274 yX10_does ∈ zz_tbl := zz_in (List.mem_of_getElem? (i := 1348) (by decide +kernel)) rfl
theorem zk_X10_277 : Cond.methodLink RX10 277 yX10_rankOf ∈ zz_tbl := zz_in (List.mem_of_getElem? (i := 1370) (by decide +kernel)) rfl
theorem zk_X10_280 : Cond.methodLink RX10 280 yX10_isBehind ∈ zz_tbl := zz_in (List.mem_of_getElem? (i := 1374) (by decide +kernel)) rfl
theorem zk_X10_284 : Cond.methodLink RX10 284 yX10_has ∈ zz_tbl := zz_in (List.mem_of_getElem? (i := 1386) (by decide +kernel)) rfl
theorem zk_X10_287 : Cond.methodLink RX10 287 yX10_isOpen ∈ zz_tbl := zz_in (List.mem_of_getElem? (i := 1393) (by decide +kernel)) rfl
theorem zk_X10_290 : Cond.methodLink RX10 290 yX10_isToCome ∈ zz_tbl := zz_in (List.mem_of_getElem? (i := 1397) (by decide +kernel)) rfl
theorem zk_X10_293 : Cond.methodLink RX10 293 yX10_max ∈ zz_tbl := zz_in (List.mem_of_getElem? (i := 1425) (by decide +kernel)) rfl
theorem zk_X10_296 : Cond.methodLink RX10 296 yX10_pagesTaken ∈ zz_tbl := zz_in (List.mem_of_getElem? (i := 1417) (by decide +kernel)) rfl
theorem zk_X10_299 : Cond.methodLink RX10 299 yX10_longest ∈ zz_tbl := zz_in (List.mem_of_getElem? (i := 1421) (by decide +kernel)) rfl
theorem zk_X10_302 : Cond.methodLink RX10 302 yX10_emptyOnes ∈ zz_tbl := zz_in (List.mem_of_getElem? (i := 1428) (by decide +kernel)) rfl
theorem zk_X10_305 : Cond.methodLink RX10 305 yX10_whereIn ∈ zz_tbl := zz_in (List.mem_of_getElem? (i := 1440) (by decide +kernel)) rfl
theorem zk_X10_308 : Cond.methodLink RX10 308 yX10_moves ∈ zz_tbl := zz_in (List.mem_of_getElem? (i := 1436) (by decide +kernel)) rfl
theorem zk_X10_311 : Cond.methodLink RX10 311 yX10_isMany ∈ zz_tbl := zz_in (List.mem_of_getElem? (i := 1448) (by decide +kernel)) rfl
theorem zk_X10_314 : Cond.methodLink RX10 314 yX10_pageAt ∈ zz_tbl := zz_in (List.mem_of_getElem? (i := 1456) (by decide +kernel)) rfl
theorem zk_X10_317 : Cond.methodLink RX10 317 yX10_min ∈ zz_tbl := zz_in (List.mem_of_getElem? (i := 1468) (by decide +kernel)) rfl
theorem zk_X10_320 : Cond.methodLink RX10 320 yX10_keysOnPage ∈ zz_tbl := zz_in (List.mem_of_getElem? (i := 1464) (by decide +kernel)) rfl
theorem zk_X10_323 : Cond.methodLink RX10 323 yX10_allReads ∈ zz_tbl := zz_in (List.mem_of_getElem? (i := 1479) (by decide +kernel)) rfl
theorem zk_X10_326 : Cond.methodLink RX10 326 yX10_countsIn ∈ zz_tbl := zz_in (List.mem_of_getElem? (i := 1499) (by decide +kernel)) rfl
theorem zk_X10_332 : Cond.methodLink RX10 332 yX10_copies ∈ zz_tbl := zz_in (List.mem_of_getElem? (i := 1511) (by decide +kernel)) rfl
theorem zk_X10_338 : Cond.methodLink RX10 338 yX10_pageOf ∈ zz_tbl := zz_in (List.mem_of_getElem? (i := 1515) (by decide +kernel)) rfl
theorem zk_X10_341 : Cond.methodLink RX10 341 yX10_notesPages ∈ zz_tbl := zz_in (List.mem_of_getElem? (i := 1519) (by decide +kernel)) rfl
theorem zk_X10_344 : Cond.methodLink RX10 344 yX10_isWritten ∈ zz_tbl := zz_in (List.mem_of_getElem? (i := 1523) (by decide +kernel)) rfl
theorem zk_X10_347 : Cond.methodLink RX10 347 yX10_signOfHash ∈ zz_tbl := zz_in (List.mem_of_getElem? (i := 1543) (by decide +kernel)) rfl
theorem zk_X10_350 : Cond.methodLink RX10 350 yX10_signsOf ∈ zz_tbl := zz_in (List.mem_of_getElem? (i := 1539) (by decide +kernel)) rfl
theorem zk_X10_357 : Cond.methodLink RX10 357 yX10_valueKept ∈ zz_tbl := zz_in (List.mem_of_getElem? (i := 1554) (by decide +kernel)) rfl
theorem zk_X10_360 : Cond.methodLink RX10 360 yX10_sameHash ∈ zz_tbl := zz_in (List.mem_of_getElem? (i := 1562) (by decide +kernel)) rfl
theorem zk_X10_363 : Cond.methodLink RX10 363 yX10_sizeOf ∈ zz_tbl := zz_in (List.mem_of_getElem? (i := 1594) (by decide +kernel)) rfl
theorem zk_L_9 : Cond.methodLink RL 9 yX9_init ∈ zz_tbl := zz_in (List.mem_of_getElem? (i := 105) (by decide +kernel)) rfl
theorem zk_L_12 : Cond.methodLink RL 12 yX10_init ∈ zz_tbl := zz_in (List.mem_of_getElem? (i := 1022) (by decide +kernel)) rfl
theorem zk_L_13 : Cond.methodLink RL 13 yX9_feed ∈ zz_tbl := zz_in (List.mem_of_getElem? (i := 402) (by decide +kernel)) rfl
theorem zk_L_17 : Cond.methodLink RL 17 yX10_feed ∈ zz_tbl := zz_in (List.mem_of_getElem? (i := 1130) (by decide +kernel)) rfl
theorem zk_L_18 : Cond.methodLink RL 18 yX9_shape ∈ zz_tbl := zz_in (List.mem_of_getElem? (i := 414) (by decide +kernel)) rfl
theorem zk_L_22 : Cond.methodLink RL 22 yX10_shape ∈ zz_tbl := zz_in (List.mem_of_getElem? (i := 1123) (by decide +kernel)) rfl
theorem zk_L_23 : Cond.methodLink RL 23 yX9_law ∈ zz_tbl := zz_in (List.mem_of_getElem? (i := 429) (by decide +kernel)) rfl
theorem zk_L_27 : Cond.methodLink RL 27 yX10_law ∈ zz_tbl := zz_in (List.mem_of_getElem? (i := 1138) (by decide +kernel)) rfl
theorem zk_L_28 : Cond.methodLink RL 28 yX9_work ∈ zz_tbl := zz_in (List.mem_of_getElem? (i := 515) (by decide +kernel)) rfl
theorem zk_L_31 : Cond.methodLink RL 31 yX10_work ∈ zz_tbl := zz_in (List.mem_of_getElem? (i := 1332) (by decide +kernel)) rfl
theorem zk_L_32 : Cond.methodLink RL 32 yX9_put ∈ zz_tbl := zz_in (List.mem_of_getElem? (i := 705) (by decide +kernel)) rfl
theorem zk_L_36 : Cond.methodLink RL 36 yX10_put ∈ zz_tbl := zz_in (List.mem_of_getElem? (i := 1269) (by decide +kernel)) rfl
theorem zk_L_37 : Cond.methodLink RL 37 yX9_find ∈ zz_tbl := zz_in (List.mem_of_getElem? (i := 712) (by decide +kernel)) rfl
theorem zk_L_40 : Cond.methodLink RL 40 yX10_find ∈ zz_tbl := zz_in (List.mem_of_getElem? (i := 1308) (by decide +kernel)) rfl
theorem zk_L_41 : Cond.methodLink RL 41 yX9_drop ∈ zz_tbl := zz_in (List.mem_of_getElem? (i := 716) (by decide +kernel)) rfl
theorem zk_L_44 : Cond.methodLink RL 44 yX10_drop ∈ zz_tbl := zz_in (List.mem_of_getElem? (i := 1316) (by decide +kernel)) rfl
theorem zk_L_45 : Cond.methodLink RL 45 yX9_split ∈ zz_tbl := zz_in (List.mem_of_getElem? (i := 720) (by decide +kernel)) rfl
theorem zk_L_49 : Cond.methodLink RL 49 yX10_split ∈ zz_tbl := zz_in (List.mem_of_getElem? (i := 1196) (by decide +kernel)) rfl
theorem zk_L_50 : Cond.methodLink RL 50 yX9_join ∈ zz_tbl := zz_in (List.mem_of_getElem? (i := 724) (by decide +kernel)) rfl
theorem zk_L_53 : Cond.methodLink RL 53 yX10_join ∈ zz_tbl := zz_in (List.mem_of_getElem? (i := 1257) (by decide +kernel)) rfl
theorem zk_L_54 : Cond.methodLink RL 54 yX9_fileIs ∈ zz_tbl := zz_in (List.mem_of_getElem? (i := 728) (by decide +kernel)) rfl
theorem zk_L_57 : Cond.methodLink RL 57 yX10_fileIs ∈ zz_tbl := zz_in (List.mem_of_getElem? (i := 1413) (by decide +kernel)) rfl
theorem zk_L_58 : Cond.methodLink RL 58 yX9_keyIs ∈ zz_tbl := zz_in (List.mem_of_getElem? (i := 749) (by decide +kernel)) rfl
theorem zk_L_61 : Cond.methodLink RL 61 yX10_keyIs ∈ zz_tbl := zz_in (List.mem_of_getElem? (i := 1432) (by decide +kernel)) rfl
theorem zk_L_62 : Cond.methodLink RL 62 yX9_where ∈ zz_tbl := zz_in (List.mem_of_getElem? (i := 769) (by decide +kernel)) rfl
theorem zk_L_65 : Cond.methodLink RL 65 yX10_where ∈ zz_tbl := zz_in (List.mem_of_getElem? (i := 1444) (by decide +kernel)) rfl
theorem zk_L_66 : Cond.methodLink RL 66 yX9_bucket ∈ zz_tbl := zz_in (List.mem_of_getElem? (i := 777) (by decide +kernel)) rfl
theorem zk_L_69 : Cond.methodLink RL 69 yX10_bucket ∈ zz_tbl := zz_in (List.mem_of_getElem? (i := 1452) (by decide +kernel)) rfl
theorem zk_L_70 : Cond.methodLink RL 70 yX9_page ∈ zz_tbl := zz_in (List.mem_of_getElem? (i := 794) (by decide +kernel)) rfl
theorem zk_L_73 : Cond.methodLink RL 73 yX10_page ∈ zz_tbl := zz_in (List.mem_of_getElem? (i := 1460) (by decide +kernel)) rfl
theorem zk_L_74 : Cond.methodLink RL 74 yX9_chains ∈ zz_tbl := zz_in (List.mem_of_getElem? (i := 799) (by decide +kernel)) rfl
theorem zk_L_77 : Cond.methodLink RL 77 yX10_chains ∈ zz_tbl := zz_in (List.mem_of_getElem? (i := 1471) (by decide +kernel)) rfl
theorem zk_L_78 : Cond.methodLink RL 78 yX9_finds ∈ zz_tbl := zz_in (List.mem_of_getElem? (i := 803) (by decide +kernel)) rfl
theorem zk_L_81 : Cond.methodLink RL 81 yX10_finds ∈ zz_tbl := zz_in (List.mem_of_getElem? (i := 1475) (by decide +kernel)) rfl
theorem zk_L_82 : Cond.methodLink RL 82 yX9_next ∈ zz_tbl := zz_in (List.mem_of_getElem? (i := 815) (by decide +kernel)) rfl
theorem zk_L_85 : Cond.methodLink RL 85 yX10_next ∈ zz_tbl := zz_in (List.mem_of_getElem? (i := 1487) (by decide +kernel)) rfl
theorem zk_L_86 : Cond.methodLink RL 86 yX9_parted ∈ zz_tbl := zz_in (List.mem_of_getElem? (i := 821) (by decide +kernel)) rfl
theorem zk_L_89 : Cond.methodLink RL 89 yX10_parted ∈ zz_tbl := zz_in (List.mem_of_getElem? (i := 1491) (by decide +kernel)) rfl
theorem zk_L_90 : Cond.methodLink RL 90 yX9_enough ∈ zz_tbl := zz_in (List.mem_of_getElem? (i := 825) (by decide +kernel)) rfl
theorem zk_L_93 : Cond.methodLink RL 93 yX10_enough ∈ zz_tbl := zz_in (List.mem_of_getElem? (i := 1495) (by decide +kernel)) rfl
theorem zk_L_94 : Cond.methodLink RL 94 yX9_anew ∈ zz_tbl := zz_in (List.mem_of_getElem? (i := 849) (by decide +kernel)) rfl
theorem zk_L_97 : Cond.methodLink RL 97 yX10_anew ∈ zz_tbl := zz_in (List.mem_of_getElem? (i := 1503) (by decide +kernel)) rfl
theorem zk_L_98 : Cond.methodLink RL 98 yX9_torn ∈ zz_tbl := zz_in (List.mem_of_getElem? (i := 859) (by decide +kernel)) rfl
theorem zk_L_102 : Cond.methodLink RL 102 yX10_torn ∈ zz_tbl := zz_in (List.mem_of_getElem? (i := 1507) (by decide +kernel)) rfl
theorem zk_L_103 : Cond.methodLink RL 103 yX9_grown ∈ zz_tbl := zz_in (List.mem_of_getElem? (i := 891) (by decide +kernel)) rfl
theorem zk_L_106 : Cond.methodLink RL 106 yX10_grown ∈ zz_tbl := zz_in (List.mem_of_getElem? (i := 1527) (by decide +kernel)) rfl
theorem zk_L_107 : Cond.methodLink RL 107 yX9_tuned ∈ zz_tbl := zz_in (List.mem_of_getElem? (i := 895) (by decide +kernel)) rfl
theorem zk_L_110 : Cond.methodLink RL 110 yX10_tuned ∈ zz_tbl := zz_in (List.mem_of_getElem? (i := 1531) (by decide +kernel)) rfl
theorem zk_L_111 : Cond.methodLink RL 111 yX9_signs ∈ zz_tbl := zz_in (List.mem_of_getElem? (i := 900) (by decide +kernel)) rfl
theorem zk_L_114 : Cond.methodLink RL 114 yX10_signs ∈ zz_tbl := zz_in (List.mem_of_getElem? (i := 1535) (by decide +kernel)) rfl
theorem zk_L_115 : Cond.methodLink RL 115 yX9_passed ∈ zz_tbl := zz_in (List.mem_of_getElem? (i := 911) (by decide +kernel)) rfl
theorem zk_L_118 : Cond.methodLink RL 118 yX10_passed ∈ zz_tbl := zz_in (List.mem_of_getElem? (i := 1546) (by decide +kernel)) rfl
theorem zk_L_119 : Cond.methodLink RL 119 yX9_costing ∈ zz_tbl := zz_in (List.mem_of_getElem? (i := 919) (by decide +kernel)) rfl
theorem zk_L_122 : Cond.methodLink RL 122 yX10_costing ∈ zz_tbl := zz_in (List.mem_of_getElem? (i := 1483) (by decide +kernel)) rfl
theorem zk_L_123 : Cond.methodLink RL 123 yX9_since ∈ zz_tbl := zz_in (List.mem_of_getElem? (i := 927) (by decide +kernel)) rfl
theorem zk_L_126 : Cond.methodLink RL 126 yX10_since ∈ zz_tbl := zz_in (List.mem_of_getElem? (i := 1550) (by decide +kernel)) rfl
theorem zk_L_127 : Cond.methodLink RL 127 yX9_alike ∈ zz_tbl := zz_in (List.mem_of_getElem? (i := 938) (by decide +kernel)) rfl
theorem zk_L_130 : Cond.methodLink RL 130 yX10_alike ∈ zz_tbl := zz_in (List.mem_of_getElem? (i := 1558) (by decide +kernel)) rfl
theorem zk_L_131 : Cond.methodLink RL 131 yX9_inOrder ∈ zz_tbl := zz_in (List.mem_of_getElem? (i := 942) (by decide +kernel)) rfl
theorem zk_L_134 : Cond.methodLink RL 134 yX10_inOrder ∈ zz_tbl := zz_in (List.mem_of_getElem? (i := 1378) (by decide +kernel)) rfl
theorem zk_L_135 : Cond.methodLink RL 135 yX9_between ∈ zz_tbl := zz_in (List.mem_of_getElem? (i := 946) (by decide +kernel)) rfl
theorem zk_L_138 : Cond.methodLink RL 138 yX10_between ∈ zz_tbl := zz_in (List.mem_of_getElem? (i := 1566) (by decide +kernel)) rfl
theorem zk_L_139 : Cond.methodLink RL 139 yX9_bits ∈ zz_tbl := zz_in (List.mem_of_getElem? (i := 950) (by decide +kernel)) rfl
theorem zk_L_142 : Cond.methodLink RL 142 yX10_bits ∈ zz_tbl := zz_in (List.mem_of_getElem? (i := 1570) (by decide +kernel)) rfl
theorem zk_L_143 : Cond.methodLink RL 143 yX9_scan ∈ zz_tbl := zz_in (List.mem_of_getElem? (i := 954) (by decide +kernel)) rfl
theorem zk_L_146 : Cond.methodLink RL 146 yX10_scan ∈ zz_tbl := zz_in (List.mem_of_getElem? (i := 1382) (by decide +kernel)) rfl
theorem zk_L_147 : Cond.methodLink RL 147 yX9_tell ∈ zz_tbl := zz_in (List.mem_of_getElem? (i := 966) (by decide +kernel)) rfl
theorem zk_L_150 : Cond.methodLink RL 150 yX10_tell ∈ zz_tbl := zz_in (List.mem_of_getElem? (i := 1389) (by decide +kernel)) rfl
theorem zk_L_151 : Cond.methodLink RL 151 yX9_scanIs ∈ zz_tbl := zz_in (List.mem_of_getElem? (i := 980) (by decide +kernel)) rfl
theorem zk_L_154 : Cond.methodLink RL 154 yX10_scanIs ∈ zz_tbl := zz_in (List.mem_of_getElem? (i := 1401) (by decide +kernel)) rfl
theorem zk_L_155 : Cond.methodLink RL 155 yX9_reach ∈ zz_tbl := zz_in (List.mem_of_getElem? (i := 984) (by decide +kernel)) rfl
theorem zk_L_158 : Cond.methodLink RL 158 yX10_reach ∈ zz_tbl := zz_in (List.mem_of_getElem? (i := 1405) (by decide +kernel)) rfl
theorem zk_L_159 : Cond.methodLink RL 159 yX9_ends ∈ zz_tbl := zz_in (List.mem_of_getElem? (i := 988) (by decide +kernel)) rfl
theorem zk_L_162 : Cond.methodLink RL 162 yX10_ends ∈ zz_tbl := zz_in (List.mem_of_getElem? (i := 1409) (by decide +kernel)) rfl
theorem zk_L_163 : Cond.methodLink RL 163 yX9_seed ∈ zz_tbl := zz_in (List.mem_of_getElem? (i := 996) (by decide +kernel)) rfl
theorem zk_L_167 : Cond.methodLink RL 167 yX10_seed ∈ zz_tbl := zz_in (List.mem_of_getElem? (i := 1574) (by decide +kernel)) rfl
theorem zk_L_168 : Cond.methodLink RL 168 yX9_keep ∈ zz_tbl := zz_in (List.mem_of_getElem? (i := 1000) (by decide +kernel)) rfl
theorem zk_L_171 : Cond.methodLink RL 171 yX10_keep ∈ zz_tbl := zz_in (List.mem_of_getElem? (i := 1578) (by decide +kernel)) rfl
theorem zk_L_172 : Cond.methodLink RL 172 yX9_undo ∈ zz_tbl := zz_in (List.mem_of_getElem? (i := 1004) (by decide +kernel)) rfl
theorem zk_L_176 : Cond.methodLink RL 176 yX10_undo ∈ zz_tbl := zz_in (List.mem_of_getElem? (i := 1582) (by decide +kernel)) rfl
theorem zk_L_177 : Cond.methodLink RL 177 yX9_check ∈ zz_tbl := zz_in (List.mem_of_getElem? (i := 1008) (by decide +kernel)) rfl
theorem zk_L_180 : Cond.methodLink RL 180 yX10_check ∈ zz_tbl := zz_in (List.mem_of_getElem? (i := 1586) (by decide +kernel)) rfl
theorem zk_L_181 : Cond.methodLink RL 181 yX9_count ∈ zz_tbl := zz_in (List.mem_of_getElem? (i := 1012) (by decide +kernel)) rfl
theorem zk_L_184 : Cond.methodLink RL 184 yX10_count ∈ zz_tbl := zz_in (List.mem_of_getElem? (i := 1590) (by decide +kernel)) rfl
theorem zw_copy : Cond.native arraycopyName ∈ zz_tbl ∧ Cond.static arraycopyName ∈ zz_tbl ∧ Cond.initialized "java/lang/System" ∈ zz_tbl := ⟨zz_in (List.mem_of_getElem? (i := 514) (by decide +kernel)) rfl, zz_in (List.mem_of_getElem? (i := 513) (by decide +kernel)) rfl, zz_in (List.mem_of_getElem? (i := 101) (by decide +kernel)) rfl⟩
theorem zw_obj : Cond.instanceMethod objectInit ∈ zz_tbl ∧ Cond.code objectInit ⟨#[0xb1]⟩ 1 none ∈ zz_tbl := ⟨zz_in (List.mem_of_getElem? (i := 109) (by decide +kernel)) rfl, zz_in (List.mem_of_getElem? (i := 110) (by decide +kernel)) rfl⟩
theorem zk_L_7 : Cond.classLink RL 7 RX9 ∈ zz_tbl := zz_in (List.mem_of_getElem? (i := 103) (by decide +kernel)) rfl
theorem zn_X9 : Cond.instantiable RX9 8 ∈ zz_tbl ∧ Cond.initialized RX9 ∈ zz_tbl := ⟨zz_in (List.mem_of_getElem? (i := 104) (by decide +kernel)) rfl, zz_in (List.mem_of_getElem? (i := 89) (by decide +kernel)) rfl⟩
theorem zk_X9_7 : Cond.classLink RX9 7 RX8 ∈ zz_tbl := zz_in (List.mem_of_getElem? (i := 111) (by decide +kernel)) rfl
theorem zn_X8 : Cond.instantiable RX8 5 ∈ zz_tbl ∧ Cond.initialized RX8 ∈ zz_tbl := ⟨zz_in (List.mem_of_getElem? (i := 112) (by decide +kernel)) rfl, zz_in (List.mem_of_getElem? (i := 90) (by decide +kernel)) rfl⟩
theorem zk_X9_16 : Cond.classLink RX9 16 RX4 ∈ zz_tbl := zz_in (List.mem_of_getElem? (i := 138) (by decide +kernel)) rfl
theorem zn_X4 : Cond.instantiable RX4 6 ∈ zz_tbl ∧ Cond.initialized RX4 ∈ zz_tbl := ⟨zz_in (List.mem_of_getElem? (i := 139) (by decide +kernel)) rfl, zz_in (List.mem_of_getElem? (i := 91) (by decide +kernel)) rfl⟩
theorem zk_X9_23 : Cond.classLink RX9 23 RX7 ∈ zz_tbl := zz_in (List.mem_of_getElem? (i := 165) (by decide +kernel)) rfl
theorem zn_X7 : Cond.instantiable RX7 5 ∈ zz_tbl ∧ Cond.initialized RX7 ∈ zz_tbl := ⟨zz_in (List.mem_of_getElem? (i := 166) (by decide +kernel)) rfl, zz_in (List.mem_of_getElem? (i := 92) (by decide +kernel)) rfl⟩
theorem zk_X9_30 : Cond.classLink RX9 30 RX2 ∈ zz_tbl := zz_in (List.mem_of_getElem? (i := 192) (by decide +kernel)) rfl
theorem zn_X2 : Cond.instantiable RX2 15 ∈ zz_tbl ∧ Cond.initialized RX2 ∈ zz_tbl := ⟨zz_in (List.mem_of_getElem? (i := 193) (by decide +kernel)) rfl, zz_in (List.mem_of_getElem? (i := 93) (by decide +kernel)) rfl⟩
theorem zk_X2_9 : Cond.classLink RX2 9 RX3 ∈ zz_tbl := zz_in (List.mem_of_getElem? (i := 198) (by decide +kernel)) rfl
theorem zn_X3 : Cond.instantiable RX3 3 ∈ zz_tbl ∧ Cond.initialized RX3 ∈ zz_tbl := ⟨zz_in (List.mem_of_getElem? (i := 199) (by decide +kernel)) rfl, zz_in (List.mem_of_getElem? (i := 94) (by decide +kernel)) rfl⟩
theorem zk_X2_18 : Cond.classLink RX2 18 RX0 ∈ zz_tbl := zz_in (List.mem_of_getElem? (i := 214) (by decide +kernel)) rfl
theorem zn_X0 : Cond.instantiable RX0 12 ∈ zz_tbl ∧ Cond.initialized RX0 ∈ zz_tbl := ⟨zz_in (List.mem_of_getElem? (i := 215) (by decide +kernel)) rfl, zz_in (List.mem_of_getElem? (i := 95) (by decide +kernel)) rfl⟩
theorem zk_X2_25 : Cond.classLink RX2 25 RX5 ∈ zz_tbl := zz_in (List.mem_of_getElem? (i := 274) (by decide +kernel)) rfl
theorem zn_X5 : Cond.instantiable RX5 2 ∈ zz_tbl ∧ Cond.initialized RX5 ∈ zz_tbl := ⟨zz_in (List.mem_of_getElem? (i := 275) (by decide +kernel)) rfl, zz_in (List.mem_of_getElem? (i := 96) (by decide +kernel)) rfl⟩
theorem zk_X2_32 : Cond.classLink RX2 32 RX6 ∈ zz_tbl := zz_in (List.mem_of_getElem? (i := 289) (by decide +kernel)) rfl
theorem zn_X6 : Cond.instantiable RX6 2 ∈ zz_tbl ∧ Cond.initialized RX6 ∈ zz_tbl := ⟨zz_in (List.mem_of_getElem? (i := 290) (by decide +kernel)) rfl, zz_in (List.mem_of_getElem? (i := 97) (by decide +kernel)) rfl⟩
theorem zk_L_10 : Cond.classLink RL 10 RX10 ∈ zz_tbl := zz_in (List.mem_of_getElem? (i := 1020) (by decide +kernel)) rfl
theorem zn_X10 : Cond.instantiable RX10 30 ∈ zz_tbl ∧ Cond.initialized RX10 ∈ zz_tbl := ⟨zz_in (List.mem_of_getElem? (i := 1021) (by decide +kernel)) rfl, zz_in (List.mem_of_getElem? (i := 99) (by decide +kernel)) rfl⟩
theorem zw_arr : Cond.arrayClass .int ∈ zz_tbl ∧ Cond.arrayClass .long ∈ zz_tbl ∧ Cond.arrayClass .byte ∈ zz_tbl := ⟨zz_in (List.mem_of_getElem? (i := 137) (by decide +kernel)) rfl, zz_in (List.mem_of_getElem? (i := 273) (by decide +kernel)) rfl, zz_in (List.mem_of_getElem? (i := 1122) (by decide +kernel)) rfl⟩
def zI_X2 (t o : Nat) : Prop := (o = 12 ∧ 62 ≤ t) ∨ (o = 32 ∧ 102 ≤ t) ∨ (o = 52 ∧ 142 ≤ t)
def zI_X0 (t o : Nat) : Prop := (o = 16 ∧ 51 ≤ t) ∨ (o = 36 ∧ 91 ≤ t) ∨ (o = 56 ∧ 131 ≤ t)
def zI_X3 (t o : Nat) : Prop := (o = 13 ∧ 29 ≤ t) ∨ (o = 33 ∧ 69 ≤ t) ∨ (o = 53 ∧ 109 ≤ t)
def zI_X5 (t o : Nat) : Prop := (o = 27 ∧ 55 ≤ t) ∨ (o = 47 ∧ 95 ≤ t) ∨ (o = 67 ∧ 135 ≤ t)
def zI_X6 (t o : Nat) : Prop := (o = 29 ∧ 61 ≤ t) ∨ (o = 49 ∧ 101 ≤ t) ∨ (o = 69 ∧ 141 ≤ t)
def zI_X9 (t o : Nat) : Prop := (o = 0 ∧ 180 ≤ t)
def zI_X8 (t o : Nat) : Prop := (o = 1 ∧ 180 ≤ t)
def zI_X4 (t o : Nat) : Prop := (o = 3 ∧ 180 ≤ t)
def zI_X7 (t o : Nat) : Prop := (o = 7 ∧ 180 ≤ t)
def zI_X10 (t o : Nat) : Prop := (o = 73 ∧ 180 ≤ t)
theorem zo_X2 {t o : Nat} (h : zI_X2 t o) : zz_O t o 1 15 := by
  rcases h with ⟨rfl, ht⟩ | ⟨rfl, ht⟩ | ⟨rfl, ht⟩
  · exact ⟨Nat.lt_of_lt_of_le (by decide +kernel) (zz_N_mono ht), rfl⟩
  · exact ⟨Nat.lt_of_lt_of_le (by decide +kernel) (zz_N_mono ht), rfl⟩
  · exact ⟨Nat.lt_of_lt_of_le (by decide +kernel) (zz_N_mono ht), rfl⟩
theorem zr_X2_0 {t o : Nat} (h : zI_X2 t o) : zz_Rf t o 0 (o + 1) := by
  rcases h with ⟨rfl, ht⟩ | ⟨rfl, ht⟩ | ⟨rfl, ht⟩
  · exact ⟨rfl, ⟨by decide, by decide⟩, zz_as_mono (by decide +kernel) ht⟩
  · exact ⟨rfl, ⟨by decide, by decide⟩, zz_as_mono (by decide +kernel) ht⟩
  · exact ⟨rfl, ⟨by decide, by decide⟩, zz_as_mono (by decide +kernel) ht⟩
theorem zc_X2_0 {t o : Nat} (h : zI_X2 t o) : zI_X3 t (o + 1) := by
  rcases h with ⟨rfl, ht⟩ | ⟨rfl, ht⟩ | ⟨rfl, ht⟩
  · exact Or.inl ⟨rfl, Nat.le_trans (by decide) ht⟩
  · exact Or.inr (Or.inl ⟨rfl, Nat.le_trans (by decide) ht⟩)
  · exact Or.inr (Or.inr ⟨rfl, Nat.le_trans (by decide) ht⟩)
theorem zr_X2_1 {t o : Nat} (h : zI_X2 t o) : zz_Rf t o 1 (o + 4) := by
  rcases h with ⟨rfl, ht⟩ | ⟨rfl, ht⟩ | ⟨rfl, ht⟩
  · exact ⟨rfl, ⟨by decide, by decide⟩, zz_as_mono (by decide +kernel) ht⟩
  · exact ⟨rfl, ⟨by decide, by decide⟩, zz_as_mono (by decide +kernel) ht⟩
  · exact ⟨rfl, ⟨by decide, by decide⟩, zz_as_mono (by decide +kernel) ht⟩
theorem zc_X2_1 {t o : Nat} (h : zI_X2 t o) : zI_X0 t (o + 4) := by
  rcases h with ⟨rfl, ht⟩ | ⟨rfl, ht⟩ | ⟨rfl, ht⟩
  · exact Or.inl ⟨rfl, Nat.le_trans (by decide) ht⟩
  · exact Or.inr (Or.inl ⟨rfl, Nat.le_trans (by decide) ht⟩)
  · exact Or.inr (Or.inr ⟨rfl, Nat.le_trans (by decide) ht⟩)
theorem zr_X2_2 {t o : Nat} (h : zI_X2 t o) : zz_Rf t o 2 (o + 15) := by
  rcases h with ⟨rfl, ht⟩ | ⟨rfl, ht⟩ | ⟨rfl, ht⟩
  · exact ⟨rfl, ⟨by decide, by decide⟩, zz_as_mono (by decide +kernel) ht⟩
  · exact ⟨rfl, ⟨by decide, by decide⟩, zz_as_mono (by decide +kernel) ht⟩
  · exact ⟨rfl, ⟨by decide, by decide⟩, zz_as_mono (by decide +kernel) ht⟩
theorem zc_X2_2 {t o : Nat} (h : zI_X2 t o) : zI_X5 t (o + 15) := by
  rcases h with ⟨rfl, ht⟩ | ⟨rfl, ht⟩ | ⟨rfl, ht⟩
  · exact Or.inl ⟨rfl, Nat.le_trans (by decide) ht⟩
  · exact Or.inr (Or.inl ⟨rfl, Nat.le_trans (by decide) ht⟩)
  · exact Or.inr (Or.inr ⟨rfl, Nat.le_trans (by decide) ht⟩)
theorem zr_X2_3 {t o : Nat} (h : zI_X2 t o) : zz_Rf t o 3 (o + 17) := by
  rcases h with ⟨rfl, ht⟩ | ⟨rfl, ht⟩ | ⟨rfl, ht⟩
  · exact ⟨rfl, ⟨by decide, by decide⟩, zz_as_mono (by decide +kernel) ht⟩
  · exact ⟨rfl, ⟨by decide, by decide⟩, zz_as_mono (by decide +kernel) ht⟩
  · exact ⟨rfl, ⟨by decide, by decide⟩, zz_as_mono (by decide +kernel) ht⟩
theorem zc_X2_3 {t o : Nat} (h : zI_X2 t o) : zI_X6 t (o + 17) := by
  rcases h with ⟨rfl, ht⟩ | ⟨rfl, ht⟩ | ⟨rfl, ht⟩
  · exact Or.inl ⟨rfl, Nat.le_trans (by decide) ht⟩
  · exact Or.inr (Or.inl ⟨rfl, Nat.le_trans (by decide) ht⟩)
  · exact Or.inr (Or.inr ⟨rfl, Nat.le_trans (by decide) ht⟩)
theorem zi_X2_4 {t o : Nat} (h : zI_X2 t o) : zz_rf o 4 = 0 := by
  rcases h with ⟨rfl, ht⟩ | ⟨rfl, ht⟩ | ⟨rfl, ht⟩
  · rfl
  · rfl
  · rfl
theorem zi_X2_5 {t o : Nat} (h : zI_X2 t o) : zz_rf o 5 = 0 := by
  rcases h with ⟨rfl, ht⟩ | ⟨rfl, ht⟩ | ⟨rfl, ht⟩
  · rfl
  · rfl
  · rfl
theorem zi_X2_6 {t o : Nat} (h : zI_X2 t o) : zz_rf o 6 = 0 := by
  rcases h with ⟨rfl, ht⟩ | ⟨rfl, ht⟩ | ⟨rfl, ht⟩
  · rfl
  · rfl
  · rfl
theorem zi_X2_7 {t o : Nat} (h : zI_X2 t o) : zz_rf o 7 = 0 := by
  rcases h with ⟨rfl, ht⟩ | ⟨rfl, ht⟩ | ⟨rfl, ht⟩
  · rfl
  · rfl
  · rfl
theorem zi_X2_8 {t o : Nat} (h : zI_X2 t o) : zz_rf o 8 = 0 := by
  rcases h with ⟨rfl, ht⟩ | ⟨rfl, ht⟩ | ⟨rfl, ht⟩
  · rfl
  · rfl
  · rfl
theorem zi_X2_9 {t o : Nat} (h : zI_X2 t o) : zz_rf o 9 = 0 := by
  rcases h with ⟨rfl, ht⟩ | ⟨rfl, ht⟩ | ⟨rfl, ht⟩
  · rfl
  · rfl
  · rfl
theorem zi_X2_10 {t o : Nat} (h : zI_X2 t o) : zz_rf o 10 = 0 := by
  rcases h with ⟨rfl, ht⟩ | ⟨rfl, ht⟩ | ⟨rfl, ht⟩
  · rfl
  · rfl
  · rfl
theorem zi_X2_11 {t o : Nat} (h : zI_X2 t o) : zz_rf o 11 = 0 := by
  rcases h with ⟨rfl, ht⟩ | ⟨rfl, ht⟩ | ⟨rfl, ht⟩
  · rfl
  · rfl
  · rfl
theorem zi_X2_12 {t o : Nat} (h : zI_X2 t o) : zz_rf o 12 = 0 := by
  rcases h with ⟨rfl, ht⟩ | ⟨rfl, ht⟩ | ⟨rfl, ht⟩
  · rfl
  · rfl
  · rfl
theorem zi_X2_13 {t o : Nat} (h : zI_X2 t o) : zz_rf o 13 = 0 := by
  rcases h with ⟨rfl, ht⟩ | ⟨rfl, ht⟩ | ⟨rfl, ht⟩
  · rfl
  · rfl
  · rfl
theorem zi_X2_14 {t o : Nat} (h : zI_X2 t o) : zz_rf o 14 = 0 := by
  rcases h with ⟨rfl, ht⟩ | ⟨rfl, ht⟩ | ⟨rfl, ht⟩
  · rfl
  · rfl
  · rfl
theorem zo_X0 {t o : Nat} (h : zI_X0 t o) : zz_O t o 0 12 := by
  rcases h with ⟨rfl, ht⟩ | ⟨rfl, ht⟩ | ⟨rfl, ht⟩
  · exact ⟨Nat.lt_of_lt_of_le (by decide +kernel) (zz_N_mono ht), rfl⟩
  · exact ⟨Nat.lt_of_lt_of_le (by decide +kernel) (zz_N_mono ht), rfl⟩
  · exact ⟨Nat.lt_of_lt_of_le (by decide +kernel) (zz_N_mono ht), rfl⟩
theorem zr_X0_0 {t o : Nat} (h : zI_X0 t o) : zz_Rf t o 0 (o + 1) := by
  rcases h with ⟨rfl, ht⟩ | ⟨rfl, ht⟩ | ⟨rfl, ht⟩
  · exact ⟨rfl, ⟨by decide, by decide⟩, zz_as_mono (by decide +kernel) ht⟩
  · exact ⟨rfl, ⟨by decide, by decide⟩, zz_as_mono (by decide +kernel) ht⟩
  · exact ⟨rfl, ⟨by decide, by decide⟩, zz_as_mono (by decide +kernel) ht⟩
theorem za_X0_0 {t o : Nat} (h : zI_X0 t o) : zz_O t (o + 1) 20 256 := by
  rcases h with ⟨rfl, ht⟩ | ⟨rfl, ht⟩ | ⟨rfl, ht⟩
  · exact ⟨Nat.lt_of_lt_of_le (by decide +kernel) (zz_N_mono ht), rfl⟩
  · exact ⟨Nat.lt_of_lt_of_le (by decide +kernel) (zz_N_mono ht), rfl⟩
  · exact ⟨Nat.lt_of_lt_of_le (by decide +kernel) (zz_N_mono ht), rfl⟩
theorem zr_X0_1 {t o : Nat} (h : zI_X0 t o) : zz_Rf t o 1 (o + 2) := by
  rcases h with ⟨rfl, ht⟩ | ⟨rfl, ht⟩ | ⟨rfl, ht⟩
  · exact ⟨rfl, ⟨by decide, by decide⟩, zz_as_mono (by decide +kernel) ht⟩
  · exact ⟨rfl, ⟨by decide, by decide⟩, zz_as_mono (by decide +kernel) ht⟩
  · exact ⟨rfl, ⟨by decide, by decide⟩, zz_as_mono (by decide +kernel) ht⟩
theorem za_X0_1 {t o : Nat} (h : zI_X0 t o) : zz_O t (o + 2) 20 256 := by
  rcases h with ⟨rfl, ht⟩ | ⟨rfl, ht⟩ | ⟨rfl, ht⟩
  · exact ⟨Nat.lt_of_lt_of_le (by decide +kernel) (zz_N_mono ht), rfl⟩
  · exact ⟨Nat.lt_of_lt_of_le (by decide +kernel) (zz_N_mono ht), rfl⟩
  · exact ⟨Nat.lt_of_lt_of_le (by decide +kernel) (zz_N_mono ht), rfl⟩
theorem zr_X0_2 {t o : Nat} (h : zI_X0 t o) : zz_Rf t o 2 (o + 3) := by
  rcases h with ⟨rfl, ht⟩ | ⟨rfl, ht⟩ | ⟨rfl, ht⟩
  · exact ⟨rfl, ⟨by decide, by decide⟩, zz_as_mono (by decide +kernel) ht⟩
  · exact ⟨rfl, ⟨by decide, by decide⟩, zz_as_mono (by decide +kernel) ht⟩
  · exact ⟨rfl, ⟨by decide, by decide⟩, zz_as_mono (by decide +kernel) ht⟩
theorem za_X0_2 {t o : Nat} (h : zI_X0 t o) : zz_O t (o + 3) 20 256 := by
  rcases h with ⟨rfl, ht⟩ | ⟨rfl, ht⟩ | ⟨rfl, ht⟩
  · exact ⟨Nat.lt_of_lt_of_le (by decide +kernel) (zz_N_mono ht), rfl⟩
  · exact ⟨Nat.lt_of_lt_of_le (by decide +kernel) (zz_N_mono ht), rfl⟩
  · exact ⟨Nat.lt_of_lt_of_le (by decide +kernel) (zz_N_mono ht), rfl⟩
theorem zr_X0_3 {t o : Nat} (h : zI_X0 t o) : zz_Rf t o 3 (o + 4) := by
  rcases h with ⟨rfl, ht⟩ | ⟨rfl, ht⟩ | ⟨rfl, ht⟩
  · exact ⟨rfl, ⟨by decide, by decide⟩, zz_as_mono (by decide +kernel) ht⟩
  · exact ⟨rfl, ⟨by decide, by decide⟩, zz_as_mono (by decide +kernel) ht⟩
  · exact ⟨rfl, ⟨by decide, by decide⟩, zz_as_mono (by decide +kernel) ht⟩
theorem za_X0_3 {t o : Nat} (h : zI_X0 t o) : zz_O t (o + 4) 20 256 := by
  rcases h with ⟨rfl, ht⟩ | ⟨rfl, ht⟩ | ⟨rfl, ht⟩
  · exact ⟨Nat.lt_of_lt_of_le (by decide +kernel) (zz_N_mono ht), rfl⟩
  · exact ⟨Nat.lt_of_lt_of_le (by decide +kernel) (zz_N_mono ht), rfl⟩
  · exact ⟨Nat.lt_of_lt_of_le (by decide +kernel) (zz_N_mono ht), rfl⟩
theorem zr_X0_4 {t o : Nat} (h : zI_X0 t o) : zz_Rf t o 4 (o + 5) := by
  rcases h with ⟨rfl, ht⟩ | ⟨rfl, ht⟩ | ⟨rfl, ht⟩
  · exact ⟨rfl, ⟨by decide, by decide⟩, zz_as_mono (by decide +kernel) ht⟩
  · exact ⟨rfl, ⟨by decide, by decide⟩, zz_as_mono (by decide +kernel) ht⟩
  · exact ⟨rfl, ⟨by decide, by decide⟩, zz_as_mono (by decide +kernel) ht⟩
theorem za_X0_4 {t o : Nat} (h : zI_X0 t o) : zz_O t (o + 5) 21 1536 := by
  rcases h with ⟨rfl, ht⟩ | ⟨rfl, ht⟩ | ⟨rfl, ht⟩
  · exact ⟨Nat.lt_of_lt_of_le (by decide +kernel) (zz_N_mono ht), rfl⟩
  · exact ⟨Nat.lt_of_lt_of_le (by decide +kernel) (zz_N_mono ht), rfl⟩
  · exact ⟨Nat.lt_of_lt_of_le (by decide +kernel) (zz_N_mono ht), rfl⟩
theorem zr_X0_5 {t o : Nat} (h : zI_X0 t o) : zz_Rf t o 5 (o + 6) := by
  rcases h with ⟨rfl, ht⟩ | ⟨rfl, ht⟩ | ⟨rfl, ht⟩
  · exact ⟨rfl, ⟨by decide, by decide⟩, zz_as_mono (by decide +kernel) ht⟩
  · exact ⟨rfl, ⟨by decide, by decide⟩, zz_as_mono (by decide +kernel) ht⟩
  · exact ⟨rfl, ⟨by decide, by decide⟩, zz_as_mono (by decide +kernel) ht⟩
theorem za_X0_5 {t o : Nat} (h : zI_X0 t o) : zz_O t (o + 6) 20 64 := by
  rcases h with ⟨rfl, ht⟩ | ⟨rfl, ht⟩ | ⟨rfl, ht⟩
  · exact ⟨Nat.lt_of_lt_of_le (by decide +kernel) (zz_N_mono ht), rfl⟩
  · exact ⟨Nat.lt_of_lt_of_le (by decide +kernel) (zz_N_mono ht), rfl⟩
  · exact ⟨Nat.lt_of_lt_of_le (by decide +kernel) (zz_N_mono ht), rfl⟩
theorem zr_X0_6 {t o : Nat} (h : zI_X0 t o) : zz_Rf t o 6 (o + 7) := by
  rcases h with ⟨rfl, ht⟩ | ⟨rfl, ht⟩ | ⟨rfl, ht⟩
  · exact ⟨rfl, ⟨by decide, by decide⟩, zz_as_mono (by decide +kernel) ht⟩
  · exact ⟨rfl, ⟨by decide, by decide⟩, zz_as_mono (by decide +kernel) ht⟩
  · exact ⟨rfl, ⟨by decide, by decide⟩, zz_as_mono (by decide +kernel) ht⟩
theorem za_X0_6 {t o : Nat} (h : zI_X0 t o) : zz_O t (o + 7) 20 64 := by
  rcases h with ⟨rfl, ht⟩ | ⟨rfl, ht⟩ | ⟨rfl, ht⟩
  · exact ⟨Nat.lt_of_lt_of_le (by decide +kernel) (zz_N_mono ht), rfl⟩
  · exact ⟨Nat.lt_of_lt_of_le (by decide +kernel) (zz_N_mono ht), rfl⟩
  · exact ⟨Nat.lt_of_lt_of_le (by decide +kernel) (zz_N_mono ht), rfl⟩
theorem zr_X0_7 {t o : Nat} (h : zI_X0 t o) : zz_Rf t o 7 (o + 8) := by
  rcases h with ⟨rfl, ht⟩ | ⟨rfl, ht⟩ | ⟨rfl, ht⟩
  · exact ⟨rfl, ⟨by decide, by decide⟩, zz_as_mono (by decide +kernel) ht⟩
  · exact ⟨rfl, ⟨by decide, by decide⟩, zz_as_mono (by decide +kernel) ht⟩
  · exact ⟨rfl, ⟨by decide, by decide⟩, zz_as_mono (by decide +kernel) ht⟩
theorem za_X0_7 {t o : Nat} (h : zI_X0 t o) : zz_O t (o + 8) 20 64 := by
  rcases h with ⟨rfl, ht⟩ | ⟨rfl, ht⟩ | ⟨rfl, ht⟩
  · exact ⟨Nat.lt_of_lt_of_le (by decide +kernel) (zz_N_mono ht), rfl⟩
  · exact ⟨Nat.lt_of_lt_of_le (by decide +kernel) (zz_N_mono ht), rfl⟩
  · exact ⟨Nat.lt_of_lt_of_le (by decide +kernel) (zz_N_mono ht), rfl⟩
theorem zr_X0_8 {t o : Nat} (h : zI_X0 t o) : zz_Rf t o 8 (o + 9) := by
  rcases h with ⟨rfl, ht⟩ | ⟨rfl, ht⟩ | ⟨rfl, ht⟩
  · exact ⟨rfl, ⟨by decide, by decide⟩, zz_as_mono (by decide +kernel) ht⟩
  · exact ⟨rfl, ⟨by decide, by decide⟩, zz_as_mono (by decide +kernel) ht⟩
  · exact ⟨rfl, ⟨by decide, by decide⟩, zz_as_mono (by decide +kernel) ht⟩
theorem za_X0_8 {t o : Nat} (h : zI_X0 t o) : zz_O t (o + 9) 20 64 := by
  rcases h with ⟨rfl, ht⟩ | ⟨rfl, ht⟩ | ⟨rfl, ht⟩
  · exact ⟨Nat.lt_of_lt_of_le (by decide +kernel) (zz_N_mono ht), rfl⟩
  · exact ⟨Nat.lt_of_lt_of_le (by decide +kernel) (zz_N_mono ht), rfl⟩
  · exact ⟨Nat.lt_of_lt_of_le (by decide +kernel) (zz_N_mono ht), rfl⟩
theorem zr_X0_9 {t o : Nat} (h : zI_X0 t o) : zz_Rf t o 9 (o + 10) := by
  rcases h with ⟨rfl, ht⟩ | ⟨rfl, ht⟩ | ⟨rfl, ht⟩
  · exact ⟨rfl, ⟨by decide, by decide⟩, zz_as_mono (by decide +kernel) ht⟩
  · exact ⟨rfl, ⟨by decide, by decide⟩, zz_as_mono (by decide +kernel) ht⟩
  · exact ⟨rfl, ⟨by decide, by decide⟩, zz_as_mono (by decide +kernel) ht⟩
theorem za_X0_9 {t o : Nat} (h : zI_X0 t o) : zz_O t (o + 10) 21 300 := by
  rcases h with ⟨rfl, ht⟩ | ⟨rfl, ht⟩ | ⟨rfl, ht⟩
  · exact ⟨Nat.lt_of_lt_of_le (by decide +kernel) (zz_N_mono ht), rfl⟩
  · exact ⟨Nat.lt_of_lt_of_le (by decide +kernel) (zz_N_mono ht), rfl⟩
  · exact ⟨Nat.lt_of_lt_of_le (by decide +kernel) (zz_N_mono ht), rfl⟩
theorem zi_X0_10 {t o : Nat} (h : zI_X0 t o) : zz_rf o 10 = 0 := by
  rcases h with ⟨rfl, ht⟩ | ⟨rfl, ht⟩ | ⟨rfl, ht⟩
  · rfl
  · rfl
  · rfl
theorem zi_X0_11 {t o : Nat} (h : zI_X0 t o) : zz_rf o 11 = 0 := by
  rcases h with ⟨rfl, ht⟩ | ⟨rfl, ht⟩ | ⟨rfl, ht⟩
  · rfl
  · rfl
  · rfl
theorem zo_X3 {t o : Nat} (h : zI_X3 t o) : zz_O t o 2 3 := by
  rcases h with ⟨rfl, ht⟩ | ⟨rfl, ht⟩ | ⟨rfl, ht⟩
  · exact ⟨Nat.lt_of_lt_of_le (by decide +kernel) (zz_N_mono ht), rfl⟩
  · exact ⟨Nat.lt_of_lt_of_le (by decide +kernel) (zz_N_mono ht), rfl⟩
  · exact ⟨Nat.lt_of_lt_of_le (by decide +kernel) (zz_N_mono ht), rfl⟩
theorem zr_X3_0 {t o : Nat} (h : zI_X3 t o) : zz_Rf t o 0 (o + 1) := by
  rcases h with ⟨rfl, ht⟩ | ⟨rfl, ht⟩ | ⟨rfl, ht⟩
  · exact ⟨rfl, ⟨by decide, by decide⟩, zz_as_mono (by decide +kernel) ht⟩
  · exact ⟨rfl, ⟨by decide, by decide⟩, zz_as_mono (by decide +kernel) ht⟩
  · exact ⟨rfl, ⟨by decide, by decide⟩, zz_as_mono (by decide +kernel) ht⟩
theorem za_X3_0 {t o : Nat} (h : zI_X3 t o) : zz_O t (o + 1) 20 60 := by
  rcases h with ⟨rfl, ht⟩ | ⟨rfl, ht⟩ | ⟨rfl, ht⟩
  · exact ⟨Nat.lt_of_lt_of_le (by decide +kernel) (zz_N_mono ht), rfl⟩
  · exact ⟨Nat.lt_of_lt_of_le (by decide +kernel) (zz_N_mono ht), rfl⟩
  · exact ⟨Nat.lt_of_lt_of_le (by decide +kernel) (zz_N_mono ht), rfl⟩
theorem zr_X3_1 {t o : Nat} (h : zI_X3 t o) : zz_Rf t o 1 (o + 2) := by
  rcases h with ⟨rfl, ht⟩ | ⟨rfl, ht⟩ | ⟨rfl, ht⟩
  · exact ⟨rfl, ⟨by decide, by decide⟩, zz_as_mono (by decide +kernel) ht⟩
  · exact ⟨rfl, ⟨by decide, by decide⟩, zz_as_mono (by decide +kernel) ht⟩
  · exact ⟨rfl, ⟨by decide, by decide⟩, zz_as_mono (by decide +kernel) ht⟩
theorem za_X3_1 {t o : Nat} (h : zI_X3 t o) : zz_O t (o + 2) 20 8 := by
  rcases h with ⟨rfl, ht⟩ | ⟨rfl, ht⟩ | ⟨rfl, ht⟩
  · exact ⟨Nat.lt_of_lt_of_le (by decide +kernel) (zz_N_mono ht), rfl⟩
  · exact ⟨Nat.lt_of_lt_of_le (by decide +kernel) (zz_N_mono ht), rfl⟩
  · exact ⟨Nat.lt_of_lt_of_le (by decide +kernel) (zz_N_mono ht), rfl⟩
theorem zi_X3_2 {t o : Nat} (h : zI_X3 t o) : zz_rf o 2 = 0 := by
  rcases h with ⟨rfl, ht⟩ | ⟨rfl, ht⟩ | ⟨rfl, ht⟩
  · rfl
  · rfl
  · rfl
theorem zo_X5 {t o : Nat} (h : zI_X5 t o) : zz_O t o 4 2 := by
  rcases h with ⟨rfl, ht⟩ | ⟨rfl, ht⟩ | ⟨rfl, ht⟩
  · exact ⟨Nat.lt_of_lt_of_le (by decide +kernel) (zz_N_mono ht), rfl⟩
  · exact ⟨Nat.lt_of_lt_of_le (by decide +kernel) (zz_N_mono ht), rfl⟩
  · exact ⟨Nat.lt_of_lt_of_le (by decide +kernel) (zz_N_mono ht), rfl⟩
theorem zr_X5_0 {t o : Nat} (h : zI_X5 t o) : zz_Rf t o 0 (o + 1) := by
  rcases h with ⟨rfl, ht⟩ | ⟨rfl, ht⟩ | ⟨rfl, ht⟩
  · exact ⟨rfl, ⟨by decide, by decide⟩, zz_as_mono (by decide +kernel) ht⟩
  · exact ⟨rfl, ⟨by decide, by decide⟩, zz_as_mono (by decide +kernel) ht⟩
  · exact ⟨rfl, ⟨by decide, by decide⟩, zz_as_mono (by decide +kernel) ht⟩
theorem za_X5_0 {t o : Nat} (h : zI_X5 t o) : zz_O t (o + 1) 21 300 := by
  rcases h with ⟨rfl, ht⟩ | ⟨rfl, ht⟩ | ⟨rfl, ht⟩
  · exact ⟨Nat.lt_of_lt_of_le (by decide +kernel) (zz_N_mono ht), rfl⟩
  · exact ⟨Nat.lt_of_lt_of_le (by decide +kernel) (zz_N_mono ht), rfl⟩
  · exact ⟨Nat.lt_of_lt_of_le (by decide +kernel) (zz_N_mono ht), rfl⟩
theorem zi_X5_1 {t o : Nat} (h : zI_X5 t o) : zz_rf o 1 = 0 := by
  rcases h with ⟨rfl, ht⟩ | ⟨rfl, ht⟩ | ⟨rfl, ht⟩
  · rfl
  · rfl
  · rfl
theorem zo_X6 {t o : Nat} (h : zI_X6 t o) : zz_O t o 5 2 := by
  rcases h with ⟨rfl, ht⟩ | ⟨rfl, ht⟩ | ⟨rfl, ht⟩
  · exact ⟨Nat.lt_of_lt_of_le (by decide +kernel) (zz_N_mono ht), rfl⟩
  · exact ⟨Nat.lt_of_lt_of_le (by decide +kernel) (zz_N_mono ht), rfl⟩
  · exact ⟨Nat.lt_of_lt_of_le (by decide +kernel) (zz_N_mono ht), rfl⟩
theorem zr_X6_0 {t o : Nat} (h : zI_X6 t o) : zz_Rf t o 0 (o + 1) := by
  rcases h with ⟨rfl, ht⟩ | ⟨rfl, ht⟩ | ⟨rfl, ht⟩
  · exact ⟨rfl, ⟨by decide, by decide⟩, zz_as_mono (by decide +kernel) ht⟩
  · exact ⟨rfl, ⟨by decide, by decide⟩, zz_as_mono (by decide +kernel) ht⟩
  · exact ⟨rfl, ⟨by decide, by decide⟩, zz_as_mono (by decide +kernel) ht⟩
theorem za_X6_0 {t o : Nat} (h : zI_X6 t o) : zz_O t (o + 1) 20 4 := by
  rcases h with ⟨rfl, ht⟩ | ⟨rfl, ht⟩ | ⟨rfl, ht⟩
  · exact ⟨Nat.lt_of_lt_of_le (by decide +kernel) (zz_N_mono ht), rfl⟩
  · exact ⟨Nat.lt_of_lt_of_le (by decide +kernel) (zz_N_mono ht), rfl⟩
  · exact ⟨Nat.lt_of_lt_of_le (by decide +kernel) (zz_N_mono ht), rfl⟩
theorem zr_X6_1 {t o : Nat} (h : zI_X6 t o) : zz_Rf t o 1 (o + 2) := by
  rcases h with ⟨rfl, ht⟩ | ⟨rfl, ht⟩ | ⟨rfl, ht⟩
  · exact ⟨rfl, ⟨by decide, by decide⟩, zz_as_mono (by decide +kernel) ht⟩
  · exact ⟨rfl, ⟨by decide, by decide⟩, zz_as_mono (by decide +kernel) ht⟩
  · exact ⟨rfl, ⟨by decide, by decide⟩, zz_as_mono (by decide +kernel) ht⟩
theorem za_X6_1 {t o : Nat} (h : zI_X6 t o) : zz_O t (o + 2) 20 4 := by
  rcases h with ⟨rfl, ht⟩ | ⟨rfl, ht⟩ | ⟨rfl, ht⟩
  · exact ⟨Nat.lt_of_lt_of_le (by decide +kernel) (zz_N_mono ht), rfl⟩
  · exact ⟨Nat.lt_of_lt_of_le (by decide +kernel) (zz_N_mono ht), rfl⟩
  · exact ⟨Nat.lt_of_lt_of_le (by decide +kernel) (zz_N_mono ht), rfl⟩
theorem zo_X9 {t o : Nat} (h : zI_X9 t o) : zz_O t o 8 8 := by
  obtain ⟨rfl, ht⟩ := h
  exact ⟨Nat.lt_of_lt_of_le (by decide +kernel) (zz_N_mono ht), rfl⟩
theorem zr_X9_0 {t o : Nat} (h : zI_X9 t o) : zz_Rf t o 0 (o + 1) := by
  obtain ⟨rfl, ht⟩ := h
  exact ⟨rfl, ⟨by decide, by decide⟩, zz_as_mono (by decide +kernel) ht⟩
theorem zc_X9_0 {t o : Nat} (h : zI_X9 t o) : zI_X8 t (o + 1) := by
  obtain ⟨rfl, ht⟩ := h
  exact ⟨rfl, Nat.le_trans (by decide) ht⟩
theorem zr_X9_1 {t o : Nat} (h : zI_X9 t o) : zz_Rf t o 1 (o + 3) := by
  obtain ⟨rfl, ht⟩ := h
  exact ⟨rfl, ⟨by decide, by decide⟩, zz_as_mono (by decide +kernel) ht⟩
theorem zc_X9_1 {t o : Nat} (h : zI_X9 t o) : zI_X4 t (o + 3) := by
  obtain ⟨rfl, ht⟩ := h
  exact ⟨rfl, Nat.le_trans (by decide) ht⟩
theorem zr_X9_2 {t o : Nat} (h : zI_X9 t o) : zz_Rf t o 2 (o + 7) := by
  obtain ⟨rfl, ht⟩ := h
  exact ⟨rfl, ⟨by decide, by decide⟩, zz_as_mono (by decide +kernel) ht⟩
theorem zc_X9_2 {t o : Nat} (h : zI_X9 t o) : zI_X7 t (o + 7) := by
  obtain ⟨rfl, ht⟩ := h
  exact ⟨rfl, Nat.le_trans (by decide) ht⟩
theorem zr_X9_3 {t o : Nat} (h : zI_X9 t o) : zz_Rf t o 3 (o + 12) := by
  obtain ⟨rfl, ht⟩ := h
  exact ⟨rfl, ⟨by decide, by decide⟩, zz_as_mono (by decide +kernel) ht⟩
theorem zc_X9_3 {t o : Nat} (h : zI_X9 t o) : zI_X2 t (o + 12) := by
  obtain ⟨rfl, ht⟩ := h
  exact Or.inl ⟨rfl, Nat.le_trans (by decide) ht⟩
theorem zr_X9_4 {t o : Nat} (h : zI_X9 t o) : zz_Rf t o 4 (o + 32) := by
  obtain ⟨rfl, ht⟩ := h
  exact ⟨rfl, ⟨by decide, by decide⟩, zz_as_mono (by decide +kernel) ht⟩
theorem zc_X9_4 {t o : Nat} (h : zI_X9 t o) : zI_X2 t (o + 32) := by
  obtain ⟨rfl, ht⟩ := h
  exact Or.inr (Or.inl ⟨rfl, Nat.le_trans (by decide) ht⟩)
theorem zr_X9_5 {t o : Nat} (h : zI_X9 t o) : zz_Rf t o 5 (o + 52) := by
  obtain ⟨rfl, ht⟩ := h
  exact ⟨rfl, ⟨by decide, by decide⟩, zz_as_mono (by decide +kernel) ht⟩
theorem zc_X9_5 {t o : Nat} (h : zI_X9 t o) : zI_X2 t (o + 52) := by
  obtain ⟨rfl, ht⟩ := h
  exact Or.inr (Or.inr ⟨rfl, Nat.le_trans (by decide) ht⟩)
theorem zr_X9_6 {t o : Nat} (h : zI_X9 t o) : zz_Rf t o 6 (o + 72) := by
  obtain ⟨rfl, ht⟩ := h
  exact ⟨rfl, ⟨by decide, by decide⟩, zz_as_mono (by decide +kernel) ht⟩
theorem za_X9_6 {t o : Nat} (h : zI_X9 t o) : zz_O t (o + 72) 20 64 := by
  obtain ⟨rfl, ht⟩ := h
  exact ⟨Nat.lt_of_lt_of_le (by decide +kernel) (zz_N_mono ht), rfl⟩
theorem zi_X9_7 {t o : Nat} (h : zI_X9 t o) : zz_rf o 7 = 0 := by
  obtain ⟨rfl, ht⟩ := h
  rfl
theorem zo_X8 {t o : Nat} (h : zI_X8 t o) : zz_O t o 7 5 := by
  obtain ⟨rfl, ht⟩ := h
  exact ⟨Nat.lt_of_lt_of_le (by decide +kernel) (zz_N_mono ht), rfl⟩
theorem zr_X8_0 {t o : Nat} (h : zI_X8 t o) : zz_Rf t o 0 (o + 1) := by
  obtain ⟨rfl, ht⟩ := h
  exact ⟨rfl, ⟨by decide, by decide⟩, zz_as_mono (by decide +kernel) ht⟩
theorem za_X8_0 {t o : Nat} (h : zI_X8 t o) : zz_O t (o + 1) 20 320 := by
  obtain ⟨rfl, ht⟩ := h
  exact ⟨Nat.lt_of_lt_of_le (by decide +kernel) (zz_N_mono ht), rfl⟩
theorem zi_X8_1 {t o : Nat} (h : zI_X8 t o) : zz_rf o 1 = 0 := by
  obtain ⟨rfl, ht⟩ := h
  rfl
theorem zi_X8_2 {t o : Nat} (h : zI_X8 t o) : zz_rf o 2 = 0 := by
  obtain ⟨rfl, ht⟩ := h
  rfl
theorem zi_X8_3 {t o : Nat} (h : zI_X8 t o) : zz_rf o 3 = 0 := by
  obtain ⟨rfl, ht⟩ := h
  rfl
theorem zi_X8_4 {t o : Nat} (h : zI_X8 t o) : zz_rf o 4 = 0 := by
  obtain ⟨rfl, ht⟩ := h
  rfl
theorem zo_X4 {t o : Nat} (h : zI_X4 t o) : zz_O t o 3 6 := by
  obtain ⟨rfl, ht⟩ := h
  exact ⟨Nat.lt_of_lt_of_le (by decide +kernel) (zz_N_mono ht), rfl⟩
theorem zr_X4_0 {t o : Nat} (h : zI_X4 t o) : zz_Rf t o 0 (o + 1) := by
  obtain ⟨rfl, ht⟩ := h
  exact ⟨rfl, ⟨by decide, by decide⟩, zz_as_mono (by decide +kernel) ht⟩
theorem za_X4_0 {t o : Nat} (h : zI_X4 t o) : zz_O t (o + 1) 20 60 := by
  obtain ⟨rfl, ht⟩ := h
  exact ⟨Nat.lt_of_lt_of_le (by decide +kernel) (zz_N_mono ht), rfl⟩
theorem zi_X4_1 {t o : Nat} (h : zI_X4 t o) : zz_rf o 1 = 0 := by
  obtain ⟨rfl, ht⟩ := h
  rfl
theorem zr_X4_2 {t o : Nat} (h : zI_X4 t o) : zz_Rf t o 2 (o + 2) := by
  obtain ⟨rfl, ht⟩ := h
  exact ⟨rfl, ⟨by decide, by decide⟩, zz_as_mono (by decide +kernel) ht⟩
theorem za_X4_2 {t o : Nat} (h : zI_X4 t o) : zz_O t (o + 2) 20 6 := by
  obtain ⟨rfl, ht⟩ := h
  exact ⟨Nat.lt_of_lt_of_le (by decide +kernel) (zz_N_mono ht), rfl⟩
theorem zr_X4_3 {t o : Nat} (h : zI_X4 t o) : zz_Rf t o 3 (o + 3) := by
  obtain ⟨rfl, ht⟩ := h
  exact ⟨rfl, ⟨by decide, by decide⟩, zz_as_mono (by decide +kernel) ht⟩
theorem za_X4_3 {t o : Nat} (h : zI_X4 t o) : zz_O t (o + 3) 20 7 := by
  obtain ⟨rfl, ht⟩ := h
  exact ⟨Nat.lt_of_lt_of_le (by decide +kernel) (zz_N_mono ht), rfl⟩
theorem zi_X4_4 {t o : Nat} (h : zI_X4 t o) : zz_rf o 4 = 0 := by
  obtain ⟨rfl, ht⟩ := h
  rfl
theorem zi_X4_5 {t o : Nat} (h : zI_X4 t o) : zz_rf o 5 = 0 := by
  obtain ⟨rfl, ht⟩ := h
  rfl
theorem zo_X7 {t o : Nat} (h : zI_X7 t o) : zz_O t o 6 5 := by
  obtain ⟨rfl, ht⟩ := h
  exact ⟨Nat.lt_of_lt_of_le (by decide +kernel) (zz_N_mono ht), rfl⟩
theorem zr_X7_0 {t o : Nat} (h : zI_X7 t o) : zz_Rf t o 0 (o + 1) := by
  obtain ⟨rfl, ht⟩ := h
  exact ⟨rfl, ⟨by decide, by decide⟩, zz_as_mono (by decide +kernel) ht⟩
theorem za_X7_0 {t o : Nat} (h : zI_X7 t o) : zz_O t (o + 1) 20 20 := by
  obtain ⟨rfl, ht⟩ := h
  exact ⟨Nat.lt_of_lt_of_le (by decide +kernel) (zz_N_mono ht), rfl⟩
theorem zr_X7_1 {t o : Nat} (h : zI_X7 t o) : zz_Rf t o 1 (o + 2) := by
  obtain ⟨rfl, ht⟩ := h
  exact ⟨rfl, ⟨by decide, by decide⟩, zz_as_mono (by decide +kernel) ht⟩
theorem za_X7_1 {t o : Nat} (h : zI_X7 t o) : zz_O t (o + 2) 20 20 := by
  obtain ⟨rfl, ht⟩ := h
  exact ⟨Nat.lt_of_lt_of_le (by decide +kernel) (zz_N_mono ht), rfl⟩
theorem zr_X7_2 {t o : Nat} (h : zI_X7 t o) : zz_Rf t o 2 (o + 3) := by
  obtain ⟨rfl, ht⟩ := h
  exact ⟨rfl, ⟨by decide, by decide⟩, zz_as_mono (by decide +kernel) ht⟩
theorem za_X7_2 {t o : Nat} (h : zI_X7 t o) : zz_O t (o + 3) 20 20 := by
  obtain ⟨rfl, ht⟩ := h
  exact ⟨Nat.lt_of_lt_of_le (by decide +kernel) (zz_N_mono ht), rfl⟩
theorem zr_X7_3 {t o : Nat} (h : zI_X7 t o) : zz_Rf t o 3 (o + 4) := by
  obtain ⟨rfl, ht⟩ := h
  exact ⟨rfl, ⟨by decide, by decide⟩, zz_as_mono (by decide +kernel) ht⟩
theorem za_X7_3 {t o : Nat} (h : zI_X7 t o) : zz_O t (o + 4) 20 20 := by
  obtain ⟨rfl, ht⟩ := h
  exact ⟨Nat.lt_of_lt_of_le (by decide +kernel) (zz_N_mono ht), rfl⟩
theorem zi_X7_4 {t o : Nat} (h : zI_X7 t o) : zz_rf o 4 = 0 := by
  obtain ⟨rfl, ht⟩ := h
  rfl
theorem zo_X10 {t o : Nat} (h : zI_X10 t o) : zz_O t o 9 30 := by
  obtain ⟨rfl, ht⟩ := h
  exact ⟨Nat.lt_of_lt_of_le (by decide +kernel) (zz_N_mono ht), rfl⟩
theorem zr_X10_0 {t o : Nat} (h : zI_X10 t o) : zz_Rf t o 0 (o + 1) := by
  obtain ⟨rfl, ht⟩ := h
  exact ⟨rfl, ⟨by decide, by decide⟩, zz_as_mono (by decide +kernel) ht⟩
theorem za_X10_0 {t o : Nat} (h : zI_X10 t o) : zz_O t (o + 1) 20 5676 := by
  obtain ⟨rfl, ht⟩ := h
  exact ⟨Nat.lt_of_lt_of_le (by decide +kernel) (zz_N_mono ht), rfl⟩
theorem zi_X10_1 {t o : Nat} (h : zI_X10 t o) : zz_rf o 1 = 0 := by
  obtain ⟨rfl, ht⟩ := h
  rfl
theorem zr_X10_2 {t o : Nat} (h : zI_X10 t o) : zz_Rf t o 2 (o + 2) := by
  obtain ⟨rfl, ht⟩ := h
  exact ⟨rfl, ⟨by decide, by decide⟩, zz_as_mono (by decide +kernel) ht⟩
theorem za_X10_2 {t o : Nat} (h : zI_X10 t o) : zz_O t (o + 2) 22 320 := by
  obtain ⟨rfl, ht⟩ := h
  exact ⟨Nat.lt_of_lt_of_le (by decide +kernel) (zz_N_mono ht), rfl⟩
theorem zr_X10_3 {t o : Nat} (h : zI_X10 t o) : zz_Rf t o 3 (o + 3) := by
  obtain ⟨rfl, ht⟩ := h
  exact ⟨rfl, ⟨by decide, by decide⟩, zz_as_mono (by decide +kernel) ht⟩
theorem za_X10_3 {t o : Nat} (h : zI_X10 t o) : zz_O t (o + 3) 20 140 := by
  obtain ⟨rfl, ht⟩ := h
  exact ⟨Nat.lt_of_lt_of_le (by decide +kernel) (zz_N_mono ht), rfl⟩
theorem zr_X10_4 {t o : Nat} (h : zI_X10 t o) : zz_Rf t o 4 (o + 4) := by
  obtain ⟨rfl, ht⟩ := h
  exact ⟨rfl, ⟨by decide, by decide⟩, zz_as_mono (by decide +kernel) ht⟩
theorem za_X10_4 {t o : Nat} (h : zI_X10 t o) : zz_O t (o + 4) 20 70 := by
  obtain ⟨rfl, ht⟩ := h
  exact ⟨Nat.lt_of_lt_of_le (by decide +kernel) (zz_N_mono ht), rfl⟩
theorem zr_X10_5 {t o : Nat} (h : zI_X10 t o) : zz_Rf t o 5 (o + 5) := by
  obtain ⟨rfl, ht⟩ := h
  exact ⟨rfl, ⟨by decide, by decide⟩, zz_as_mono (by decide +kernel) ht⟩
theorem za_X10_5 {t o : Nat} (h : zI_X10 t o) : zz_O t (o + 5) 20 70 := by
  obtain ⟨rfl, ht⟩ := h
  exact ⟨Nat.lt_of_lt_of_le (by decide +kernel) (zz_N_mono ht), rfl⟩
theorem zi_X10_6 {t o : Nat} (h : zI_X10 t o) : zz_rf o 6 = 0 := by
  obtain ⟨rfl, ht⟩ := h
  rfl
theorem zi_X10_7 {t o : Nat} (h : zI_X10 t o) : zz_rf o 7 = 0 := by
  obtain ⟨rfl, ht⟩ := h
  rfl
theorem zi_X10_8 {t o : Nat} (h : zI_X10 t o) : zz_rf o 8 = 0 := by
  obtain ⟨rfl, ht⟩ := h
  rfl
theorem zi_X10_9 {t o : Nat} (h : zI_X10 t o) : zz_rf o 9 = 0 := by
  obtain ⟨rfl, ht⟩ := h
  rfl
theorem zi_X10_10 {t o : Nat} (h : zI_X10 t o) : zz_rf o 10 = 0 := by
  obtain ⟨rfl, ht⟩ := h
  rfl
theorem zi_X10_11 {t o : Nat} (h : zI_X10 t o) : zz_rf o 11 = 0 := by
  obtain ⟨rfl, ht⟩ := h
  rfl
theorem zi_X10_12 {t o : Nat} (h : zI_X10 t o) : zz_rf o 12 = 0 := by
  obtain ⟨rfl, ht⟩ := h
  rfl
theorem zi_X10_13 {t o : Nat} (h : zI_X10 t o) : zz_rf o 13 = 0 := by
  obtain ⟨rfl, ht⟩ := h
  rfl
theorem zr_X10_14 {t o : Nat} (h : zI_X10 t o) : zz_Rf t o 14 (o + 6) := by
  obtain ⟨rfl, ht⟩ := h
  exact ⟨rfl, ⟨by decide, by decide⟩, zz_as_mono (by decide +kernel) ht⟩
theorem za_X10_14 {t o : Nat} (h : zI_X10 t o) : zz_O t (o + 6) 20 300 := by
  obtain ⟨rfl, ht⟩ := h
  exact ⟨Nat.lt_of_lt_of_le (by decide +kernel) (zz_N_mono ht), rfl⟩
theorem zi_X10_15 {t o : Nat} (h : zI_X10 t o) : zz_rf o 15 = 0 := by
  obtain ⟨rfl, ht⟩ := h
  rfl
theorem zr_X10_16 {t o : Nat} (h : zI_X10 t o) : zz_Rf t o 16 (o + 7) := by
  obtain ⟨rfl, ht⟩ := h
  exact ⟨rfl, ⟨by decide, by decide⟩, zz_as_mono (by decide +kernel) ht⟩
theorem za_X10_16 {t o : Nat} (h : zI_X10 t o) : zz_O t (o + 7) 20 20 := by
  obtain ⟨rfl, ht⟩ := h
  exact ⟨Nat.lt_of_lt_of_le (by decide +kernel) (zz_N_mono ht), rfl⟩
theorem zr_X10_17 {t o : Nat} (h : zI_X10 t o) : zz_Rf t o 17 (o + 8) := by
  obtain ⟨rfl, ht⟩ := h
  exact ⟨rfl, ⟨by decide, by decide⟩, zz_as_mono (by decide +kernel) ht⟩
theorem za_X10_17 {t o : Nat} (h : zI_X10 t o) : zz_O t (o + 8) 20 20 := by
  obtain ⟨rfl, ht⟩ := h
  exact ⟨Nat.lt_of_lt_of_le (by decide +kernel) (zz_N_mono ht), rfl⟩
theorem zr_X10_18 {t o : Nat} (h : zI_X10 t o) : zz_Rf t o 18 (o + 9) := by
  obtain ⟨rfl, ht⟩ := h
  exact ⟨rfl, ⟨by decide, by decide⟩, zz_as_mono (by decide +kernel) ht⟩
theorem za_X10_18 {t o : Nat} (h : zI_X10 t o) : zz_O t (o + 9) 20 20 := by
  obtain ⟨rfl, ht⟩ := h
  exact ⟨Nat.lt_of_lt_of_le (by decide +kernel) (zz_N_mono ht), rfl⟩
theorem zr_X10_19 {t o : Nat} (h : zI_X10 t o) : zz_Rf t o 19 (o + 10) := by
  obtain ⟨rfl, ht⟩ := h
  exact ⟨rfl, ⟨by decide, by decide⟩, zz_as_mono (by decide +kernel) ht⟩
theorem za_X10_19 {t o : Nat} (h : zI_X10 t o) : zz_O t (o + 10) 20 20 := by
  obtain ⟨rfl, ht⟩ := h
  exact ⟨Nat.lt_of_lt_of_le (by decide +kernel) (zz_N_mono ht), rfl⟩
theorem zi_X10_20 {t o : Nat} (h : zI_X10 t o) : zz_rf o 20 = 0 := by
  obtain ⟨rfl, ht⟩ := h
  rfl
theorem zr_X10_21 {t o : Nat} (h : zI_X10 t o) : zz_Rf t o 21 (o + 11) := by
  obtain ⟨rfl, ht⟩ := h
  exact ⟨rfl, ⟨by decide, by decide⟩, zz_as_mono (by decide +kernel) ht⟩
theorem za_X10_21 {t o : Nat} (h : zI_X10 t o) : zz_O t (o + 11) 20 300 := by
  obtain ⟨rfl, ht⟩ := h
  exact ⟨Nat.lt_of_lt_of_le (by decide +kernel) (zz_N_mono ht), rfl⟩
theorem zr_X10_22 {t o : Nat} (h : zI_X10 t o) : zz_Rf t o 22 (o + 12) := by
  obtain ⟨rfl, ht⟩ := h
  exact ⟨rfl, ⟨by decide, by decide⟩, zz_as_mono (by decide +kernel) ht⟩
theorem za_X10_22 {t o : Nat} (h : zI_X10 t o) : zz_O t (o + 12) 20 300 := by
  obtain ⟨rfl, ht⟩ := h
  exact ⟨Nat.lt_of_lt_of_le (by decide +kernel) (zz_N_mono ht), rfl⟩
theorem zr_X10_23 {t o : Nat} (h : zI_X10 t o) : zz_Rf t o 23 (o + 13) := by
  obtain ⟨rfl, ht⟩ := h
  exact ⟨rfl, ⟨by decide, by decide⟩, zz_as_mono (by decide +kernel) ht⟩
theorem za_X10_23 {t o : Nat} (h : zI_X10 t o) : zz_O t (o + 13) 20 64 := by
  obtain ⟨rfl, ht⟩ := h
  exact ⟨Nat.lt_of_lt_of_le (by decide +kernel) (zz_N_mono ht), rfl⟩
theorem zr_X10_24 {t o : Nat} (h : zI_X10 t o) : zz_Rf t o 24 (o + 14) := by
  obtain ⟨rfl, ht⟩ := h
  exact ⟨rfl, ⟨by decide, by decide⟩, zz_as_mono (by decide +kernel) ht⟩
theorem za_X10_24 {t o : Nat} (h : zI_X10 t o) : zz_O t (o + 14) 20 300 := by
  obtain ⟨rfl, ht⟩ := h
  exact ⟨Nat.lt_of_lt_of_le (by decide +kernel) (zz_N_mono ht), rfl⟩
theorem zr_X10_25 {t o : Nat} (h : zI_X10 t o) : zz_Rf t o 25 (o + 15) := by
  obtain ⟨rfl, ht⟩ := h
  exact ⟨rfl, ⟨by decide, by decide⟩, zz_as_mono (by decide +kernel) ht⟩
theorem za_X10_25 {t o : Nat} (h : zI_X10 t o) : zz_O t (o + 15) 20 300 := by
  obtain ⟨rfl, ht⟩ := h
  exact ⟨Nat.lt_of_lt_of_le (by decide +kernel) (zz_N_mono ht), rfl⟩
theorem zr_X10_26 {t o : Nat} (h : zI_X10 t o) : zz_Rf t o 26 (o + 16) := by
  obtain ⟨rfl, ht⟩ := h
  exact ⟨rfl, ⟨by decide, by decide⟩, zz_as_mono (by decide +kernel) ht⟩
theorem za_X10_26 {t o : Nat} (h : zI_X10 t o) : zz_O t (o + 16) 20 256 := by
  obtain ⟨rfl, ht⟩ := h
  exact ⟨Nat.lt_of_lt_of_le (by decide +kernel) (zz_N_mono ht), rfl⟩
theorem zi_X10_27 {t o : Nat} (h : zI_X10 t o) : zz_rf o 27 = 0 := by
  obtain ⟨rfl, ht⟩ := h
  rfl
theorem zi_X10_28 {t o : Nat} (h : zI_X10 t o) : zz_rf o 28 = 0 := by
  obtain ⟨rfl, ht⟩ := h
  rfl
theorem zr_X10_29 {t o : Nat} (h : zI_X10 t o) : zz_Rf t o 29 (o + 17) := by
  obtain ⟨rfl, ht⟩ := h
  exact ⟨rfl, ⟨by decide, by decide⟩, zz_as_mono (by decide +kernel) ht⟩
theorem za_X10_29 {t o : Nat} (h : zI_X10 t o) : zz_O t (o + 17) 20 300 := by
  obtain ⟨rfl, ht⟩ := h
  exact ⟨Nat.lt_of_lt_of_le (by decide +kernel) (zz_N_mono ht), rfl⟩
