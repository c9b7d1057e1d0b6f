def FU : Nat := 10000
def RF : Nat := 10
theorem mem_gs {ws : List Cond} (is : List Nat) (h : ws = is.filterMap (fun i => lw_tbl[i]?)) (hg : ws.all goodWord = true) : ∀ w ∈ ws, w ∈ lw_g := fun w hw => mem_g (by
  rw [h] at hw
  obtain ⟨i, -, hi⟩ := List.mem_filterMap.mp hw
  exact List.mem_of_getElem? hi) (List.all_eq_true.mp hg w hw)
theorem iw0 : ∀ w ∈ u_ws RX0 TX0 11, w ∈ lw_g := mem_gs [158, 160, 162, 164, 166, 168, 170, 172, 174, 176, 178] (by decide +kernel) (by decide +kernel)
theorem iw1 : ∀ w ∈ u_ws RX1 TX1 4, w ∈ lw_g := mem_gs [233, 235, 237, 239] (by decide +kernel) (by decide +kernel)
theorem iw2 : ∀ w ∈ u_ws RX2 TX2 7, w ∈ lw_g := mem_gs [258, 260, 262, 264, 266, 268, 270] (by decide +kernel) (by decide +kernel)
theorem iw3 : ∀ w ∈ u_ws RX3 TX3 3, w ∈ lw_g := mem_gs [350, 352, 354] (by decide +kernel) (by decide +kernel)
theorem iw4 : ∀ w ∈ u_ws RX4 TX4 8, w ∈ lw_g := mem_gs [321, 323, 325, 327, 329, 331, 333, 335] (by decide +kernel) (by decide +kernel)
theorem iw5 : ∀ w ∈ u_ws RX5 TX5 6, w ∈ lw_g := mem_gs [117, 119, 121, 123, 125, 127] (by decide +kernel) (by decide +kernel)
theorem iw6 : ∀ w ∈ u_ws RX6 TX6 4, w ∈ lw_g := mem_gs [195, 197, 199, 201] (by decide +kernel) (by decide +kernel)
theorem iw7 : ∀ w ∈ u_ws RX7 TX7 6, w ∈ lw_g := mem_gs [290, 292, 294, 296, 298, 300] (by decide +kernel) (by decide +kernel)
theorem iw8 : ∀ w ∈ u_ws RX8 TX8 4, w ∈ lw_g := mem_gs [212, 214, 216, 218] (by decide +kernel) (by decide +kernel)
theorem iw9 : ∀ w ∈ u_ws RX9 TX9 3, w ∈ lw_g := mem_gs [370, 372, 374] (by decide +kernel) (by decide +kernel)
theorem iw10 : ∀ w ∈ u_ws RX10 TX10 17, w ∈ lw_g := mem_gs [395, 397, 399, 401, 403, 405, 407, 409, 411, 413, 415, 417, 419, 421, 423, 425, 427] (by decide +kernel) (by decide +kernel)
theorem iw11 : ∀ w ∈ u_ws RX11 TX11 36, w ∈ lw_g := mem_gs [1108, 1110, 1112, 1114, 1116, 1118, 1120, 1122, 1124, 1126, 1128, 1130, 1132, 1134, 1136, 1138, 1140, 1142, 1144, 1146, 1148, 1150, 1152, 1154, 1156, 1158, 1160, 1162, 1164, 1166, 1168, 1170, 1172, 1174, 1176, 1178] (by decide +kernel) (by decide +kernel)
theorem F_X5_9 : FldOK RX5 9 5 0 := ⟨RX5, TX5, 6, rfl, by decide, iw5, mem_g (List.mem_of_getElem? (i := 104) (by decide +kernel)) (by decide +kernel)⟩
theorem F_X5_15 : FldOK RX5 15 5 1 := ⟨RX5, TX5, 6, rfl, by decide, iw5, mem_g (List.mem_of_getElem? (i := 107) (by decide +kernel)) (by decide +kernel)⟩
theorem F_X5_18 : FldOK RX5 18 5 2 := ⟨RX5, TX5, 6, rfl, by decide, iw5, mem_g (List.mem_of_getElem? (i := 109) (by decide +kernel)) (by decide +kernel)⟩
theorem F_X5_21 : FldOK RX5 21 5 3 := ⟨RX5, TX5, 6, rfl, by decide, iw5, mem_g (List.mem_of_getElem? (i := 111) (by decide +kernel)) (by decide +kernel)⟩
theorem F_X5_24 : FldOK RX5 24 5 4 := ⟨RX5, TX5, 6, rfl, by decide, iw5, mem_g (List.mem_of_getElem? (i := 113) (by decide +kernel)) (by decide +kernel)⟩
theorem F_X5_27 : FldOK RX5 27 5 5 := ⟨RX5, TX5, 6, rfl, by decide, iw5, mem_g (List.mem_of_getElem? (i := 115) (by decide +kernel)) (by decide +kernel)⟩
theorem F_X0_9 : FldOK RX0 9 0 0 := ⟨RX0, TX0, 11, rfl, by decide, iw0, mem_g (List.mem_of_getElem? (i := 131) (by decide +kernel)) (by decide +kernel)⟩
theorem F_X0_15 : FldOK RX0 15 0 1 := ⟨RX0, TX0, 11, rfl, by decide, iw0, mem_g (List.mem_of_getElem? (i := 134) (by decide +kernel)) (by decide +kernel)⟩
theorem F_X0_18 : FldOK RX0 18 0 2 := ⟨RX0, TX0, 11, rfl, by decide, iw0, mem_g (List.mem_of_getElem? (i := 137) (by decide +kernel)) (by decide +kernel)⟩
theorem F_X0_21 : FldOK RX0 21 0 3 := ⟨RX0, TX0, 11, rfl, by decide, iw0, mem_g (List.mem_of_getElem? (i := 140) (by decide +kernel)) (by decide +kernel)⟩
theorem F_X0_24 : FldOK RX0 24 0 4 := ⟨RX0, TX0, 11, rfl, by decide, iw0, mem_g (List.mem_of_getElem? (i := 143) (by decide +kernel)) (by decide +kernel)⟩
theorem F_X0_28 : FldOK RX0 28 0 5 := ⟨RX0, TX0, 11, rfl, by decide, iw0, mem_g (List.mem_of_getElem? (i := 144) (by decide +kernel)) (by decide +kernel)⟩
theorem F_X0_31 : FldOK RX0 31 0 6 := ⟨RX0, TX0, 11, rfl, by decide, iw0, mem_g (List.mem_of_getElem? (i := 148) (by decide +kernel)) (by decide +kernel)⟩
theorem F_X0_34 : FldOK RX0 34 0 7 := ⟨RX0, TX0, 11, rfl, by decide, iw0, mem_g (List.mem_of_getElem? (i := 150) (by decide +kernel)) (by decide +kernel)⟩
theorem F_X0_43 : FldOK RX0 43 0 9 := ⟨RX0, TX0, 11, rfl, by decide, iw0, mem_g (List.mem_of_getElem? (i := 155) (by decide +kernel)) (by decide +kernel)⟩
theorem F_X0_46 : FldOK RX0 46 0 10 := ⟨RX0, TX0, 11, rfl, by decide, iw0, mem_g (List.mem_of_getElem? (i := 156) (by decide +kernel)) (by decide +kernel)⟩
theorem F_X0_39 : FldOK RX0 39 0 8 := ⟨RX0, TX0, 11, rfl, by decide, iw0, mem_g (List.mem_of_getElem? (i := 152) (by decide +kernel)) (by decide +kernel)⟩
theorem F_X0_88 : FldOK RX0 88 5 1 := ⟨RX5, TX5, 6, rfl, by decide, iw5, mem_g (List.mem_of_getElem? (i := 108) (by decide +kernel)) (by decide +kernel)⟩
theorem F_X6_9 : FldOK RX6 9 6 3 := ⟨RX6, TX6, 4, rfl, by decide, iw6, mem_g (List.mem_of_getElem? (i := 190) (by decide +kernel)) (by decide +kernel)⟩
theorem F_X6_15 : FldOK RX6 15 6 0 := ⟨RX6, TX6, 4, rfl, by decide, iw6, mem_g (List.mem_of_getElem? (i := 187) (by decide +kernel)) (by decide +kernel)⟩
theorem F_X6_21 : FldOK RX6 21 6 2 := ⟨RX6, TX6, 4, rfl, by decide, iw6, mem_g (List.mem_of_getElem? (i := 189) (by decide +kernel)) (by decide +kernel)⟩
theorem F_X0_122 : FldOK RX0 122 6 3 := ⟨RX6, TX6, 4, rfl, by decide, iw6, mem_g (List.mem_of_getElem? (i := 193) (by decide +kernel)) (by decide +kernel)⟩
theorem F_X1_9 : FldOK RX1 9 1 0 := ⟨RX1, TX1, 4, rfl, by decide, iw1, mem_g (List.mem_of_getElem? (i := 229) (by decide +kernel)) (by decide +kernel)⟩
theorem F_X1_18 : FldOK RX1 18 1 2 := ⟨RX1, TX1, 4, rfl, by decide, iw1, mem_g (List.mem_of_getElem? (i := 231) (by decide +kernel)) (by decide +kernel)⟩
theorem F_X1_22 : FldOK RX1 22 1 3 := ⟨RX1, TX1, 4, rfl, by decide, iw1, mem_g (List.mem_of_getElem? (i := 232) (by decide +kernel)) (by decide +kernel)⟩
theorem F_X1_78 : FldOK RX1 78 0 2 := ⟨RX0, TX0, 11, rfl, by decide, iw0, mem_g (List.mem_of_getElem? (i := 139) (by decide +kernel)) (by decide +kernel)⟩
theorem F_X1_15 : FldOK RX1 15 1 1 := ⟨RX1, TX1, 4, rfl, by decide, iw1, mem_g (List.mem_of_getElem? (i := 230) (by decide +kernel)) (by decide +kernel)⟩
theorem F_X1_47 : FldOK RX1 47 0 1 := ⟨RX0, TX0, 11, rfl, by decide, iw0, mem_g (List.mem_of_getElem? (i := 135) (by decide +kernel)) (by decide +kernel)⟩
theorem F_X1_54 : FldOK RX1 54 0 0 := ⟨RX0, TX0, 11, rfl, by decide, iw0, mem_g (List.mem_of_getElem? (i := 132) (by decide +kernel)) (by decide +kernel)⟩
theorem F_X1_72 : FldOK RX1 72 0 5 := ⟨RX0, TX0, 11, rfl, by decide, iw0, mem_g (List.mem_of_getElem? (i := 146) (by decide +kernel)) (by decide +kernel)⟩
theorem F_X1_57 : FldOK RX1 57 0 3 := ⟨RX0, TX0, 11, rfl, by decide, iw0, mem_g (List.mem_of_getElem? (i := 141) (by decide +kernel)) (by decide +kernel)⟩
theorem F_X2_9 : FldOK RX2 9 2 0 := ⟨RX2, TX2, 7, rfl, by decide, iw2, mem_g (List.mem_of_getElem? (i := 249) (by decide +kernel)) (by decide +kernel)⟩
theorem F_X2_41 : FldOK RX2 41 0 5 := ⟨RX0, TX0, 11, rfl, by decide, iw0, mem_g (List.mem_of_getElem? (i := 145) (by decide +kernel)) (by decide +kernel)⟩
theorem F_X2_15 : FldOK RX2 15 2 1 := ⟨RX2, TX2, 7, rfl, by decide, iw2, mem_g (List.mem_of_getElem? (i := 250) (by decide +kernel)) (by decide +kernel)⟩
theorem F_X2_18 : FldOK RX2 18 2 2 := ⟨RX2, TX2, 7, rfl, by decide, iw2, mem_g (List.mem_of_getElem? (i := 251) (by decide +kernel)) (by decide +kernel)⟩
theorem F_X2_25 : FldOK RX2 25 2 4 := ⟨RX2, TX2, 7, rfl, by decide, iw2, mem_g (List.mem_of_getElem? (i := 253) (by decide +kernel)) (by decide +kernel)⟩
theorem F_X2_21 : FldOK RX2 21 2 3 := ⟨RX2, TX2, 7, rfl, by decide, iw2, mem_g (List.mem_of_getElem? (i := 252) (by decide +kernel)) (by decide +kernel)⟩
theorem F_X2_31 : FldOK RX2 31 2 6 := ⟨RX2, TX2, 7, rfl, by decide, iw2, mem_g (List.mem_of_getElem? (i := 256) (by decide +kernel)) (by decide +kernel)⟩
theorem F_X2_28 : FldOK RX2 28 2 5 := ⟨RX2, TX2, 7, rfl, by decide, iw2, mem_g (List.mem_of_getElem? (i := 254) (by decide +kernel)) (by decide +kernel)⟩
theorem F_X3_19 : FldOK RX3 19 3 2 := ⟨RX3, TX3, 3, rfl, by decide, iw3, mem_g (List.mem_of_getElem? (i := 349) (by decide +kernel)) (by decide +kernel)⟩
theorem F_X3_9 : FldOK RX3 9 3 0 := ⟨RX3, TX3, 3, rfl, by decide, iw3, mem_g (List.mem_of_getElem? (i := 347) (by decide +kernel)) (by decide +kernel)⟩
theorem F_X3_15 : FldOK RX3 15 3 1 := ⟨RX3, TX3, 3, rfl, by decide, iw3, mem_g (List.mem_of_getElem? (i := 348) (by decide +kernel)) (by decide +kernel)⟩
theorem F_X3_26 : FldOK RX3 26 6 3 := ⟨RX6, TX6, 4, rfl, by decide, iw6, mem_g (List.mem_of_getElem? (i := 192) (by decide +kernel)) (by decide +kernel)⟩
theorem F_X7_9 : FldOK RX7 9 7 0 := ⟨RX7, TX7, 6, rfl, by decide, iw7, mem_g (List.mem_of_getElem? (i := 279) (by decide +kernel)) (by decide +kernel)⟩
theorem F_X7_15 : FldOK RX7 15 7 1 := ⟨RX7, TX7, 6, rfl, by decide, iw7, mem_g (List.mem_of_getElem? (i := 281) (by decide +kernel)) (by decide +kernel)⟩
theorem F_X7_18 : FldOK RX7 18 7 2 := ⟨RX7, TX7, 6, rfl, by decide, iw7, mem_g (List.mem_of_getElem? (i := 282) (by decide +kernel)) (by decide +kernel)⟩
theorem F_X7_24 : FldOK RX7 24 7 4 := ⟨RX7, TX7, 6, rfl, by decide, iw7, mem_g (List.mem_of_getElem? (i := 286) (by decide +kernel)) (by decide +kernel)⟩
theorem F_X7_48 : FldOK RX7 48 0 2 := ⟨RX0, TX0, 11, rfl, by decide, iw0, mem_g (List.mem_of_getElem? (i := 138) (by decide +kernel)) (by decide +kernel)⟩
theorem F_X7_21 : FldOK RX7 21 7 3 := ⟨RX7, TX7, 6, rfl, by decide, iw7, mem_g (List.mem_of_getElem? (i := 284) (by decide +kernel)) (by decide +kernel)⟩
theorem F_X4_41 : FldOK RX4 41 6 3 := ⟨RX6, TX6, 4, rfl, by decide, iw6, mem_g (List.mem_of_getElem? (i := 191) (by decide +kernel)) (by decide +kernel)⟩
theorem F_X4_18 : FldOK RX4 18 4 1 := ⟨RX4, TX4, 8, rfl, by decide, iw4, mem_g (List.mem_of_getElem? (i := 312) (by decide +kernel)) (by decide +kernel)⟩
theorem F_X4_25 : FldOK RX4 25 4 3 := ⟨RX4, TX4, 8, rfl, by decide, iw4, mem_g (List.mem_of_getElem? (i := 315) (by decide +kernel)) (by decide +kernel)⟩
theorem F_X4_12 : FldOK RX4 12 4 0 := ⟨RX4, TX4, 8, rfl, by decide, iw4, mem_g (List.mem_of_getElem? (i := 311) (by decide +kernel)) (by decide +kernel)⟩
theorem F_X4_29 : FldOK RX4 29 4 4 := ⟨RX4, TX4, 8, rfl, by decide, iw4, mem_g (List.mem_of_getElem? (i := 317) (by decide +kernel)) (by decide +kernel)⟩
theorem F_X4_63 : FldOK RX4 63 7 5 := ⟨RX7, TX7, 6, rfl, by decide, iw7, mem_g (List.mem_of_getElem? (i := 289) (by decide +kernel)) (by decide +kernel)⟩
theorem F_X4_32 : FldOK RX4 32 4 5 := ⟨RX4, TX4, 8, rfl, by decide, iw4, mem_g (List.mem_of_getElem? (i := 318) (by decide +kernel)) (by decide +kernel)⟩
theorem F_X4_64 : FldOK RX4 64 7 3 := ⟨RX7, TX7, 6, rfl, by decide, iw7, mem_g (List.mem_of_getElem? (i := 285) (by decide +kernel)) (by decide +kernel)⟩
theorem F_X4_35 : FldOK RX4 35 4 6 := ⟨RX4, TX4, 8, rfl, by decide, iw4, mem_g (List.mem_of_getElem? (i := 319) (by decide +kernel)) (by decide +kernel)⟩
theorem F_X4_65 : FldOK RX4 65 7 0 := ⟨RX7, TX7, 6, rfl, by decide, iw7, mem_g (List.mem_of_getElem? (i := 280) (by decide +kernel)) (by decide +kernel)⟩
theorem F_X4_38 : FldOK RX4 38 4 7 := ⟨RX4, TX4, 8, rfl, by decide, iw4, mem_g (List.mem_of_getElem? (i := 320) (by decide +kernel)) (by decide +kernel)⟩
theorem F_X4_66 : FldOK RX4 66 7 2 := ⟨RX7, TX7, 6, rfl, by decide, iw7, mem_g (List.mem_of_getElem? (i := 283) (by decide +kernel)) (by decide +kernel)⟩
theorem F_X4_22 : FldOK RX4 22 4 2 := ⟨RX4, TX4, 8, rfl, by decide, iw4, mem_g (List.mem_of_getElem? (i := 314) (by decide +kernel)) (by decide +kernel)⟩
theorem F_X4_67 : FldOK RX4 67 7 4 := ⟨RX7, TX7, 6, rfl, by decide, iw7, mem_g (List.mem_of_getElem? (i := 287) (by decide +kernel)) (by decide +kernel)⟩
theorem F_X4_91 : FldOK RX4 91 0 8 := ⟨RX0, TX0, 11, rfl, by decide, iw0, mem_g (List.mem_of_getElem? (i := 153) (by decide +kernel)) (by decide +kernel)⟩
theorem F_X6_18 : FldOK RX6 18 6 1 := ⟨RX6, TX6, 4, rfl, by decide, iw6, mem_g (List.mem_of_getElem? (i := 188) (by decide +kernel)) (by decide +kernel)⟩
theorem F_X7_27 : FldOK RX7 27 7 5 := ⟨RX7, TX7, 6, rfl, by decide, iw7, mem_g (List.mem_of_getElem? (i := 288) (by decide +kernel)) (by decide +kernel)⟩
theorem F_X8_12 : FldOK RX8 12 8 0 := ⟨RX8, TX8, 4, rfl, by decide, iw8, mem_g (List.mem_of_getElem? (i := 204) (by decide +kernel)) (by decide +kernel)⟩
theorem F_X8_23 : FldOK RX8 23 8 1 := ⟨RX8, TX8, 4, rfl, by decide, iw8, mem_g (List.mem_of_getElem? (i := 206) (by decide +kernel)) (by decide +kernel)⟩
theorem F_X8_27 : FldOK RX8 27 8 2 := ⟨RX8, TX8, 4, rfl, by decide, iw8, mem_g (List.mem_of_getElem? (i := 208) (by decide +kernel)) (by decide +kernel)⟩
theorem F_X8_30 : FldOK RX8 30 8 3 := ⟨RX8, TX8, 4, rfl, by decide, iw8, mem_g (List.mem_of_getElem? (i := 210) (by decide +kernel)) (by decide +kernel)⟩
theorem F_X9_18 : FldOK RX9 18 9 2 := ⟨RX9, TX9, 3, rfl, by decide, iw9, mem_g (List.mem_of_getElem? (i := 368) (by decide +kernel)) (by decide +kernel)⟩
theorem F_X9_15 : FldOK RX9 15 9 1 := ⟨RX9, TX9, 3, rfl, by decide, iw9, mem_g (List.mem_of_getElem? (i := 366) (by decide +kernel)) (by decide +kernel)⟩
theorem F_X9_9 : FldOK RX9 9 9 0 := ⟨RX9, TX9, 3, rfl, by decide, iw9, mem_g (List.mem_of_getElem? (i := 364) (by decide +kernel)) (by decide +kernel)⟩
theorem F_X10_14 : FldOK RX10 14 10 0 := ⟨RX10, TX10, 17, rfl, by decide, iw10, mem_g (List.mem_of_getElem? (i := 378) (by decide +kernel)) (by decide +kernel)⟩
theorem F_X10_106 : FldOK RX10 106 8 0 := ⟨RX8, TX8, 4, rfl, by decide, iw8, mem_g (List.mem_of_getElem? (i := 205) (by decide +kernel)) (by decide +kernel)⟩
theorem F_X10_85 : FldOK RX10 85 10 14 := ⟨RX10, TX10, 17, rfl, by decide, iw10, mem_g (List.mem_of_getElem? (i := 392) (by decide +kernel)) (by decide +kernel)⟩
theorem F_X10_92 : FldOK RX10 92 10 15 := ⟨RX10, TX10, 17, rfl, by decide, iw10, mem_g (List.mem_of_getElem? (i := 393) (by decide +kernel)) (by decide +kernel)⟩
theorem F_X10_153 : FldOK RX10 153 0 10 := ⟨RX0, TX0, 11, rfl, by decide, iw0, mem_g (List.mem_of_getElem? (i := 157) (by decide +kernel)) (by decide +kernel)⟩
theorem F_X10_162 : FldOK RX10 162 0 6 := ⟨RX0, TX0, 11, rfl, by decide, iw0, mem_g (List.mem_of_getElem? (i := 149) (by decide +kernel)) (by decide +kernel)⟩
theorem F_X10_166 : FldOK RX10 166 0 7 := ⟨RX0, TX0, 11, rfl, by decide, iw0, mem_g (List.mem_of_getElem? (i := 151) (by decide +kernel)) (by decide +kernel)⟩
theorem F_X10_179 : FldOK RX10 179 0 5 := ⟨RX0, TX0, 11, rfl, by decide, iw0, mem_g (List.mem_of_getElem? (i := 147) (by decide +kernel)) (by decide +kernel)⟩
theorem F_X10_188 : FldOK RX10 188 0 8 := ⟨RX0, TX0, 11, rfl, by decide, iw0, mem_g (List.mem_of_getElem? (i := 154) (by decide +kernel)) (by decide +kernel)⟩
theorem F_X10_197 : FldOK RX10 197 5 0 := ⟨RX5, TX5, 6, rfl, by decide, iw5, mem_g (List.mem_of_getElem? (i := 106) (by decide +kernel)) (by decide +kernel)⟩
theorem F_X10_276 : FldOK RX10 276 0 0 := ⟨RX0, TX0, 11, rfl, by decide, iw0, mem_g (List.mem_of_getElem? (i := 133) (by decide +kernel)) (by decide +kernel)⟩
theorem F_X10_65 : FldOK RX10 65 10 11 := ⟨RX10, TX10, 17, rfl, by decide, iw10, mem_g (List.mem_of_getElem? (i := 389) (by decide +kernel)) (by decide +kernel)⟩
theorem F_X10_42 : FldOK RX10 42 10 6 := ⟨RX10, TX10, 17, rfl, by decide, iw10, mem_g (List.mem_of_getElem? (i := 384) (by decide +kernel)) (by decide +kernel)⟩
theorem F_X10_35 : FldOK RX10 35 10 4 := ⟨RX10, TX10, 17, rfl, by decide, iw10, mem_g (List.mem_of_getElem? (i := 382) (by decide +kernel)) (by decide +kernel)⟩
theorem F_X10_225 : FldOK RX10 225 0 1 := ⟨RX0, TX0, 11, rfl, by decide, iw0, mem_g (List.mem_of_getElem? (i := 136) (by decide +kernel)) (by decide +kernel)⟩
theorem F_X10_58 : FldOK RX10 58 10 10 := ⟨RX10, TX10, 17, rfl, by decide, iw10, mem_g (List.mem_of_getElem? (i := 388) (by decide +kernel)) (by decide +kernel)⟩
theorem F_X10_259 : FldOK RX10 259 2 5 := ⟨RX2, TX2, 7, rfl, by decide, iw2, mem_g (List.mem_of_getElem? (i := 255) (by decide +kernel)) (by decide +kernel)⟩
theorem F_X10_262 : FldOK RX10 262 2 6 := ⟨RX2, TX2, 7, rfl, by decide, iw2, mem_g (List.mem_of_getElem? (i := 257) (by decide +kernel)) (by decide +kernel)⟩
theorem F_X10_39 : FldOK RX10 39 10 5 := ⟨RX10, TX10, 17, rfl, by decide, iw10, mem_g (List.mem_of_getElem? (i := 383) (by decide +kernel)) (by decide +kernel)⟩
theorem F_X10_28 : FldOK RX10 28 10 3 := ⟨RX10, TX10, 17, rfl, by decide, iw10, mem_g (List.mem_of_getElem? (i := 381) (by decide +kernel)) (by decide +kernel)⟩
theorem F_X10_78 : FldOK RX10 78 10 13 := ⟨RX10, TX10, 17, rfl, by decide, iw10, mem_g (List.mem_of_getElem? (i := 391) (by decide +kernel)) (by decide +kernel)⟩
theorem F_X10_72 : FldOK RX10 72 10 12 := ⟨RX10, TX10, 17, rfl, by decide, iw10, mem_g (List.mem_of_getElem? (i := 390) (by decide +kernel)) (by decide +kernel)⟩
theorem F_X10_285 : FldOK RX10 285 6 3 := ⟨RX6, TX6, 4, rfl, by decide, iw6, mem_g (List.mem_of_getElem? (i := 194) (by decide +kernel)) (by decide +kernel)⟩
theorem F_X10_305 : FldOK RX10 305 8 1 := ⟨RX8, TX8, 4, rfl, by decide, iw8, mem_g (List.mem_of_getElem? (i := 207) (by decide +kernel)) (by decide +kernel)⟩
theorem F_X10_45 : FldOK RX10 45 10 7 := ⟨RX10, TX10, 17, rfl, by decide, iw10, mem_g (List.mem_of_getElem? (i := 385) (by decide +kernel)) (by decide +kernel)⟩
theorem F_X10_48 : FldOK RX10 48 10 8 := ⟨RX10, TX10, 17, rfl, by decide, iw10, mem_g (List.mem_of_getElem? (i := 386) (by decide +kernel)) (by decide +kernel)⟩
theorem F_X10_52 : FldOK RX10 52 10 9 := ⟨RX10, TX10, 17, rfl, by decide, iw10, mem_g (List.mem_of_getElem? (i := 387) (by decide +kernel)) (by decide +kernel)⟩
theorem F_X10_314 : FldOK RX10 314 8 2 := ⟨RX8, TX8, 4, rfl, by decide, iw8, mem_g (List.mem_of_getElem? (i := 209) (by decide +kernel)) (by decide +kernel)⟩
theorem F_X10_330 : FldOK RX10 330 8 3 := ⟨RX8, TX8, 4, rfl, by decide, iw8, mem_g (List.mem_of_getElem? (i := 211) (by decide +kernel)) (by decide +kernel)⟩
theorem F_X10_98 : FldOK RX10 98 10 16 := ⟨RX10, TX10, 17, rfl, by decide, iw10, mem_g (List.mem_of_getElem? (i := 394) (by decide +kernel)) (by decide +kernel)⟩
theorem F_X10_338 : FldOK RX10 338 9 0 := ⟨RX9, TX9, 3, rfl, by decide, iw9, mem_g (List.mem_of_getElem? (i := 365) (by decide +kernel)) (by decide +kernel)⟩
theorem F_X10_341 : FldOK RX10 341 4 3 := ⟨RX4, TX4, 8, rfl, by decide, iw4, mem_g (List.mem_of_getElem? (i := 316) (by decide +kernel)) (by decide +kernel)⟩
theorem F_X10_344 : FldOK RX10 344 9 1 := ⟨RX9, TX9, 3, rfl, by decide, iw9, mem_g (List.mem_of_getElem? (i := 367) (by decide +kernel)) (by decide +kernel)⟩
theorem F_X10_345 : FldOK RX10 345 9 2 := ⟨RX9, TX9, 3, rfl, by decide, iw9, mem_g (List.mem_of_getElem? (i := 369) (by decide +kernel)) (by decide +kernel)⟩
theorem F_X10_349 : FldOK RX10 349 4 1 := ⟨RX4, TX4, 8, rfl, by decide, iw4, mem_g (List.mem_of_getElem? (i := 313) (by decide +kernel)) (by decide +kernel)⟩
theorem F_X10_18 : FldOK RX10 18 10 1 := ⟨RX10, TX10, 17, rfl, by decide, iw10, mem_g (List.mem_of_getElem? (i := 379) (by decide +kernel)) (by decide +kernel)⟩
theorem F_X10_21 : FldOK RX10 21 10 2 := ⟨RX10, TX10, 17, rfl, by decide, iw10, mem_g (List.mem_of_getElem? (i := 380) (by decide +kernel)) (by decide +kernel)⟩
theorem F_X11_11 : FldOK RX11 11 11 0 := ⟨RX11, TX11, 36, rfl, by decide, iw11, mem_g (List.mem_of_getElem? (i := 1072) (by decide +kernel)) (by decide +kernel)⟩
theorem F_X11_124 : FldOK RX11 124 11 3 := ⟨RX11, TX11, 36, rfl, by decide, iw11, mem_g (List.mem_of_getElem? (i := 1075) (by decide +kernel)) (by decide +kernel)⟩
theorem F_X11_34 : FldOK RX11 34 11 9 := ⟨RX11, TX11, 36, rfl, by decide, iw11, mem_g (List.mem_of_getElem? (i := 1081) (by decide +kernel)) (by decide +kernel)⟩
theorem F_X11_31 : FldOK RX11 31 11 8 := ⟨RX11, TX11, 36, rfl, by decide, iw11, mem_g (List.mem_of_getElem? (i := 1080) (by decide +kernel)) (by decide +kernel)⟩
theorem F_X11_151 : FldOK RX11 151 11 10 := ⟨RX11, TX11, 36, rfl, by decide, iw11, mem_g (List.mem_of_getElem? (i := 1082) (by decide +kernel)) (by decide +kernel)⟩
theorem F_X11_154 : FldOK RX11 154 11 11 := ⟨RX11, TX11, 36, rfl, by decide, iw11, mem_g (List.mem_of_getElem? (i := 1083) (by decide +kernel)) (by decide +kernel)⟩
theorem F_X11_157 : FldOK RX11 157 11 12 := ⟨RX11, TX11, 36, rfl, by decide, iw11, mem_g (List.mem_of_getElem? (i := 1084) (by decide +kernel)) (by decide +kernel)⟩
theorem F_X11_160 : FldOK RX11 160 11 13 := ⟨RX11, TX11, 36, rfl, by decide, iw11, mem_g (List.mem_of_getElem? (i := 1085) (by decide +kernel)) (by decide +kernel)⟩
theorem F_X11_163 : FldOK RX11 163 11 14 := ⟨RX11, TX11, 36, rfl, by decide, iw11, mem_g (List.mem_of_getElem? (i := 1086) (by decide +kernel)) (by decide +kernel)⟩
theorem F_X11_166 : FldOK RX11 166 11 15 := ⟨RX11, TX11, 36, rfl, by decide, iw11, mem_g (List.mem_of_getElem? (i := 1087) (by decide +kernel)) (by decide +kernel)⟩
theorem F_X11_24 : FldOK RX11 24 11 6 := ⟨RX11, TX11, 36, rfl, by decide, iw11, mem_g (List.mem_of_getElem? (i := 1078) (by decide +kernel)) (by decide +kernel)⟩
theorem F_X11_28 : FldOK RX11 28 11 7 := ⟨RX11, TX11, 36, rfl, by decide, iw11, mem_g (List.mem_of_getElem? (i := 1079) (by decide +kernel)) (by decide +kernel)⟩
theorem F_X11_37 : FldOK RX11 37 11 16 := ⟨RX11, TX11, 36, rfl, by decide, iw11, mem_g (List.mem_of_getElem? (i := 1088) (by decide +kernel)) (by decide +kernel)⟩
theorem F_X11_211 : FldOK RX11 211 11 17 := ⟨RX11, TX11, 36, rfl, by decide, iw11, mem_g (List.mem_of_getElem? (i := 1089) (by decide +kernel)) (by decide +kernel)⟩
theorem F_X11_218 : FldOK RX11 218 11 18 := ⟨RX11, TX11, 36, rfl, by decide, iw11, mem_g (List.mem_of_getElem? (i := 1090) (by decide +kernel)) (by decide +kernel)⟩
theorem F_X11_18 : FldOK RX11 18 11 4 := ⟨RX11, TX11, 36, rfl, by decide, iw11, mem_g (List.mem_of_getElem? (i := 1076) (by decide +kernel)) (by decide +kernel)⟩
theorem F_X11_21 : FldOK RX11 21 11 5 := ⟨RX11, TX11, 36, rfl, by decide, iw11, mem_g (List.mem_of_getElem? (i := 1077) (by decide +kernel)) (by decide +kernel)⟩
theorem F_X11_40 : FldOK RX11 40 11 24 := ⟨RX11, TX11, 36, rfl, by decide, iw11, mem_g (List.mem_of_getElem? (i := 1096) (by decide +kernel)) (by decide +kernel)⟩
theorem F_X11_235 : FldOK RX11 235 11 19 := ⟨RX11, TX11, 36, rfl, by decide, iw11, mem_g (List.mem_of_getElem? (i := 1091) (by decide +kernel)) (by decide +kernel)⟩
theorem F_X11_238 : FldOK RX11 238 11 20 := ⟨RX11, TX11, 36, rfl, by decide, iw11, mem_g (List.mem_of_getElem? (i := 1092) (by decide +kernel)) (by decide +kernel)⟩
theorem F_X11_241 : FldOK RX11 241 11 21 := ⟨RX11, TX11, 36, rfl, by decide, iw11, mem_g (List.mem_of_getElem? (i := 1093) (by decide +kernel)) (by decide +kernel)⟩
theorem F_X11_244 : FldOK RX11 244 11 22 := ⟨RX11, TX11, 36, rfl, by decide, iw11, mem_g (List.mem_of_getElem? (i := 1094) (by decide +kernel)) (by decide +kernel)⟩
theorem F_X11_253 : FldOK RX11 253 11 23 := ⟨RX11, TX11, 36, rfl, by decide, iw11, mem_g (List.mem_of_getElem? (i := 1095) (by decide +kernel)) (by decide +kernel)⟩
theorem F_X11_250 : FldOK RX11 250 11 26 := ⟨RX11, TX11, 36, rfl, by decide, iw11, mem_g (List.mem_of_getElem? (i := 1098) (by decide +kernel)) (by decide +kernel)⟩
theorem F_X11_247 : FldOK RX11 247 11 25 := ⟨RX11, TX11, 36, rfl, by decide, iw11, mem_g (List.mem_of_getElem? (i := 1097) (by decide +kernel)) (by decide +kernel)⟩
theorem F_X11_43 : FldOK RX11 43 11 27 := ⟨RX11, TX11, 36, rfl, by decide, iw11, mem_g (List.mem_of_getElem? (i := 1099) (by decide +kernel)) (by decide +kernel)⟩
theorem F_X11_281 : FldOK RX11 281 11 29 := ⟨RX11, TX11, 36, rfl, by decide, iw11, mem_g (List.mem_of_getElem? (i := 1101) (by decide +kernel)) (by decide +kernel)⟩
theorem F_X11_46 : FldOK RX11 46 11 28 := ⟨RX11, TX11, 36, rfl, by decide, iw11, mem_g (List.mem_of_getElem? (i := 1100) (by decide +kernel)) (by decide +kernel)⟩
theorem F_X11_284 : FldOK RX11 284 11 30 := ⟨RX11, TX11, 36, rfl, by decide, iw11, mem_g (List.mem_of_getElem? (i := 1102) (by decide +kernel)) (by decide +kernel)⟩
theorem F_X11_291 : FldOK RX11 291 11 31 := ⟨RX11, TX11, 36, rfl, by decide, iw11, mem_g (List.mem_of_getElem? (i := 1103) (by decide +kernel)) (by decide +kernel)⟩
theorem F_X11_50 : FldOK RX11 50 11 32 := ⟨RX11, TX11, 36, rfl, by decide, iw11, mem_g (List.mem_of_getElem? (i := 1104) (by decide +kernel)) (by decide +kernel)⟩
theorem F_X11_53 : FldOK RX11 53 11 33 := ⟨RX11, TX11, 36, rfl, by decide, iw11, mem_g (List.mem_of_getElem? (i := 1105) (by decide +kernel)) (by decide +kernel)⟩
theorem F_X11_56 : FldOK RX11 56 11 34 := ⟨RX11, TX11, 36, rfl, by decide, iw11, mem_g (List.mem_of_getElem? (i := 1106) (by decide +kernel)) (by decide +kernel)⟩
theorem F_X11_59 : FldOK RX11 59 11 35 := ⟨RX11, TX11, 36, rfl, by decide, iw11, mem_g (List.mem_of_getElem? (i := 1107) (by decide +kernel)) (by decide +kernel)⟩
theorem F_X11_15 : FldOK RX11 15 11 1 := ⟨RX11, TX11, 36, rfl, by decide, iw11, mem_g (List.mem_of_getElem? (i := 1073) (by decide +kernel)) (by decide +kernel)⟩
theorem F_X11_338 : FldOK RX11 338 11 2 := ⟨RX11, TX11, 36, rfl, by decide, iw11, mem_g (List.mem_of_getElem? (i := 1074) (by decide +kernel)) (by decide +kernel)⟩
theorem P_X5_9 : PutOK RX5 9 5 0 .int := ⟨RX5, TX5, 6, tyX5, rfl, by decide, iw5, mem_g (List.mem_of_getElem? (i := 104) (by decide +kernel)) (by decide +kernel), tyX5_ok, nmX5, by decide +kernel, by decide +kernel⟩
theorem P_X5_15 : PutOK RX5 15 5 1 .int := ⟨RX5, TX5, 6, tyX5, rfl, by decide, iw5, mem_g (List.mem_of_getElem? (i := 107) (by decide +kernel)) (by decide +kernel), tyX5_ok, nmX5, by decide +kernel, by decide +kernel⟩
theorem P_X5_18 : PutOK RX5 18 5 2 .int := ⟨RX5, TX5, 6, tyX5, rfl, by decide, iw5, mem_g (List.mem_of_getElem? (i := 109) (by decide +kernel)) (by decide +kernel), tyX5_ok, nmX5, by decide +kernel, by decide +kernel⟩
theorem P_X5_21 : PutOK RX5 21 5 3 .int := ⟨RX5, TX5, 6, tyX5, rfl, by decide, iw5, mem_g (List.mem_of_getElem? (i := 111) (by decide +kernel)) (by decide +kernel), tyX5_ok, nmX5, by decide +kernel, by decide +kernel⟩
theorem P_X5_24 : PutOK RX5 24 5 4 .int := ⟨RX5, TX5, 6, tyX5, rfl, by decide, iw5, mem_g (List.mem_of_getElem? (i := 113) (by decide +kernel)) (by decide +kernel), tyX5_ok, nmX5, by decide +kernel, by decide +kernel⟩
theorem P_X5_27 : PutOK RX5 27 5 5 .int := ⟨RX5, TX5, 6, tyX5, rfl, by decide, iw5, mem_g (List.mem_of_getElem? (i := 115) (by decide +kernel)) (by decide +kernel), tyX5_ok, nmX5, by decide +kernel, by decide +kernel⟩
theorem P_X0_9 : PutOK RX0 9 0 0 .int := ⟨RX0, TX0, 11, tyX0, rfl, by decide, iw0, mem_g (List.mem_of_getElem? (i := 131) (by decide +kernel)) (by decide +kernel), tyX0_ok, nmX0, by decide +kernel, by decide +kernel⟩
theorem P_X0_15 : PutOK RX0 15 0 1 .int := ⟨RX0, TX0, 11, tyX0, rfl, by decide, iw0, mem_g (List.mem_of_getElem? (i := 134) (by decide +kernel)) (by decide +kernel), tyX0_ok, nmX0, by decide +kernel, by decide +kernel⟩
theorem P_X0_18 : PutOK RX0 18 0 2 .int := ⟨RX0, TX0, 11, tyX0, rfl, by decide, iw0, mem_g (List.mem_of_getElem? (i := 137) (by decide +kernel)) (by decide +kernel), tyX0_ok, nmX0, by decide +kernel, by decide +kernel⟩
theorem P_X0_21 : PutOK RX0 21 0 3 .int := ⟨RX0, TX0, 11, tyX0, rfl, by decide, iw0, mem_g (List.mem_of_getElem? (i := 140) (by decide +kernel)) (by decide +kernel), tyX0_ok, nmX0, by decide +kernel, by decide +kernel⟩
theorem P_X0_46 : PutOK RX0 46 0 10 .int := ⟨RX0, TX0, 11, tyX0, rfl, by decide, iw0, mem_g (List.mem_of_getElem? (i := 156) (by decide +kernel)) (by decide +kernel), tyX0_ok, nmX0, by decide +kernel, by decide +kernel⟩
theorem P_X0_85 : PutOK RX0 85 5 0 .int := ⟨RX5, TX5, 6, tyX5, rfl, by decide, iw5, mem_g (List.mem_of_getElem? (i := 105) (by decide +kernel)) (by decide +kernel), tyX5_ok, nmX5, by decide +kernel, by decide +kernel⟩
theorem P_X0_88 : PutOK RX0 88 5 1 .int := ⟨RX5, TX5, 6, tyX5, rfl, by decide, iw5, mem_g (List.mem_of_getElem? (i := 108) (by decide +kernel)) (by decide +kernel), tyX5_ok, nmX5, by decide +kernel, by decide +kernel⟩
theorem P_X0_91 : PutOK RX0 91 5 2 .int := ⟨RX5, TX5, 6, tyX5, rfl, by decide, iw5, mem_g (List.mem_of_getElem? (i := 110) (by decide +kernel)) (by decide +kernel), tyX5_ok, nmX5, by decide +kernel, by decide +kernel⟩
theorem P_X0_94 : PutOK RX0 94 5 3 .int := ⟨RX5, TX5, 6, tyX5, rfl, by decide, iw5, mem_g (List.mem_of_getElem? (i := 112) (by decide +kernel)) (by decide +kernel), tyX5_ok, nmX5, by decide +kernel, by decide +kernel⟩
theorem P_X0_97 : PutOK RX0 97 5 4 .int := ⟨RX5, TX5, 6, tyX5, rfl, by decide, iw5, mem_g (List.mem_of_getElem? (i := 114) (by decide +kernel)) (by decide +kernel), tyX5_ok, nmX5, by decide +kernel, by decide +kernel⟩
theorem P_X0_100 : PutOK RX0 100 5 5 .int := ⟨RX5, TX5, 6, tyX5, rfl, by decide, iw5, mem_g (List.mem_of_getElem? (i := 116) (by decide +kernel)) (by decide +kernel), tyX5_ok, nmX5, by decide +kernel, by decide +kernel⟩
theorem P_X2_15 : PutOK RX2 15 2 1 (.array .float) := ⟨RX2, TX2, 7, tyX2, rfl, by decide, iw2, mem_g (List.mem_of_getElem? (i := 250) (by decide +kernel)) (by decide +kernel), tyX2_ok, nmX2, by decide +kernel, by decide +kernel⟩
theorem P_X2_18 : PutOK RX2 18 2 2 (.array .float) := ⟨RX2, TX2, 7, tyX2, rfl, by decide, iw2, mem_g (List.mem_of_getElem? (i := 251) (by decide +kernel)) (by decide +kernel), tyX2_ok, nmX2, by decide +kernel, by decide +kernel⟩
theorem P_X2_31 : PutOK RX2 31 2 6 .float := ⟨RX2, TX2, 7, tyX2, rfl, by decide, iw2, mem_g (List.mem_of_getElem? (i := 256) (by decide +kernel)) (by decide +kernel), tyX2_ok, nmX2, by decide +kernel, by decide +kernel⟩
theorem P_X3_19 : PutOK RX3 19 3 2 .int := ⟨RX3, TX3, 3, tyX3, rfl, by decide, iw3, mem_g (List.mem_of_getElem? (i := 349) (by decide +kernel)) (by decide +kernel), tyX3_ok, nmX3, by decide +kernel, by decide +kernel⟩
theorem P_X3_15 : PutOK RX3 15 3 1 .int := ⟨RX3, TX3, 3, tyX3, rfl, by decide, iw3, mem_g (List.mem_of_getElem? (i := 348) (by decide +kernel)) (by decide +kernel), tyX3_ok, nmX3, by decide +kernel, by decide +kernel⟩
theorem P_X7_9 : PutOK RX7 9 7 0 .int := ⟨RX7, TX7, 6, tyX7, rfl, by decide, iw7, mem_g (List.mem_of_getElem? (i := 279) (by decide +kernel)) (by decide +kernel), tyX7_ok, nmX7, by decide +kernel, by decide +kernel⟩
theorem P_X7_15 : PutOK RX7 15 7 1 .int := ⟨RX7, TX7, 6, tyX7, rfl, by decide, iw7, mem_g (List.mem_of_getElem? (i := 281) (by decide +kernel)) (by decide +kernel), tyX7_ok, nmX7, by decide +kernel, by decide +kernel⟩
theorem P_X7_18 : PutOK RX7 18 7 2 .int := ⟨RX7, TX7, 6, tyX7, rfl, by decide, iw7, mem_g (List.mem_of_getElem? (i := 282) (by decide +kernel)) (by decide +kernel), tyX7_ok, nmX7, by decide +kernel, by decide +kernel⟩
theorem P_X7_24 : PutOK RX7 24 7 4 .int := ⟨RX7, TX7, 6, tyX7, rfl, by decide, iw7, mem_g (List.mem_of_getElem? (i := 286) (by decide +kernel)) (by decide +kernel), tyX7_ok, nmX7, by decide +kernel, by decide +kernel⟩
theorem P_X7_21 : PutOK RX7 21 7 3 .int := ⟨RX7, TX7, 6, tyX7, rfl, by decide, iw7, mem_g (List.mem_of_getElem? (i := 284) (by decide +kernel)) (by decide +kernel), tyX7_ok, nmX7, by decide +kernel, by decide +kernel⟩
theorem P_X7_27 : PutOK RX7 27 7 5 .int := ⟨RX7, TX7, 6, tyX7, rfl, by decide, iw7, mem_g (List.mem_of_getElem? (i := 288) (by decide +kernel)) (by decide +kernel), tyX7_ok, nmX7, by decide +kernel, by decide +kernel⟩
theorem P_X4_25 : PutOK RX4 25 4 3 .int := ⟨RX4, TX4, 8, tyX4, rfl, by decide, iw4, mem_g (List.mem_of_getElem? (i := 315) (by decide +kernel)) (by decide +kernel), tyX4_ok, nmX4, by decide +kernel, by decide +kernel⟩
theorem P_X4_29 : PutOK RX4 29 4 4 .int := ⟨RX4, TX4, 8, tyX4, rfl, by decide, iw4, mem_g (List.mem_of_getElem? (i := 317) (by decide +kernel)) (by decide +kernel), tyX4_ok, nmX4, by decide +kernel, by decide +kernel⟩
theorem P_X4_32 : PutOK RX4 32 4 5 .int := ⟨RX4, TX4, 8, tyX4, rfl, by decide, iw4, mem_g (List.mem_of_getElem? (i := 318) (by decide +kernel)) (by decide +kernel), tyX4_ok, nmX4, by decide +kernel, by decide +kernel⟩
theorem P_X4_35 : PutOK RX4 35 4 6 .int := ⟨RX4, TX4, 8, tyX4, rfl, by decide, iw4, mem_g (List.mem_of_getElem? (i := 319) (by decide +kernel)) (by decide +kernel), tyX4_ok, nmX4, by decide +kernel, by decide +kernel⟩
theorem P_X4_38 : PutOK RX4 38 4 7 .int := ⟨RX4, TX4, 8, tyX4, rfl, by decide, iw4, mem_g (List.mem_of_getElem? (i := 320) (by decide +kernel)) (by decide +kernel), tyX4_ok, nmX4, by decide +kernel, by decide +kernel⟩
theorem P_X6_9 : PutOK RX6 9 6 3 .int := ⟨RX6, TX6, 4, tyX6, rfl, by decide, iw6, mem_g (List.mem_of_getElem? (i := 190) (by decide +kernel)) (by decide +kernel), tyX6_ok, nmX6, by decide +kernel, by decide +kernel⟩
theorem P_X9_9 : PutOK RX9 9 9 0 .int := ⟨RX9, TX9, 3, tyX9, rfl, by decide, iw9, mem_g (List.mem_of_getElem? (i := 364) (by decide +kernel)) (by decide +kernel), tyX9_ok, nmX9, by decide +kernel, by decide +kernel⟩
theorem P_X9_15 : PutOK RX9 15 9 1 .int := ⟨RX9, TX9, 3, tyX9, rfl, by decide, iw9, mem_g (List.mem_of_getElem? (i := 366) (by decide +kernel)) (by decide +kernel), tyX9_ok, nmX9, by decide +kernel, by decide +kernel⟩
theorem P_X10_42 : PutOK RX10 42 10 6 .boolean := ⟨RX10, TX10, 17, tyX10, rfl, by decide, iw10, mem_g (List.mem_of_getElem? (i := 384) (by decide +kernel)) (by decide +kernel), tyX10_ok, nmX10, by decide +kernel, by decide +kernel⟩
theorem P_X10_45 : PutOK RX10 45 10 7 .boolean := ⟨RX10, TX10, 17, tyX10, rfl, by decide, iw10, mem_g (List.mem_of_getElem? (i := 385) (by decide +kernel)) (by decide +kernel), tyX10_ok, nmX10, by decide +kernel, by decide +kernel⟩
theorem P_X10_276 : PutOK RX10 276 0 0 .int := ⟨RX0, TX0, 11, tyX0, rfl, by decide, iw0, mem_g (List.mem_of_getElem? (i := 133) (by decide +kernel)) (by decide +kernel), tyX0_ok, nmX0, by decide +kernel, by decide +kernel⟩
theorem P_X10_48 : PutOK RX10 48 10 8 .int := ⟨RX10, TX10, 17, tyX10, rfl, by decide, iw10, mem_g (List.mem_of_getElem? (i := 386) (by decide +kernel)) (by decide +kernel), tyX10_ok, nmX10, by decide +kernel, by decide +kernel⟩
theorem P_X10_52 : PutOK RX10 52 10 9 .int := ⟨RX10, TX10, 17, tyX10, rfl, by decide, iw10, mem_g (List.mem_of_getElem? (i := 387) (by decide +kernel)) (by decide +kernel), tyX10_ok, nmX10, by decide +kernel, by decide +kernel⟩
theorem P_X10_387 : PutOK RX10 387 0 3 .int := ⟨RX0, TX0, 11, tyX0, rfl, by decide, iw0, mem_g (List.mem_of_getElem? (i := 142) (by decide +kernel)) (by decide +kernel), tyX0_ok, nmX0, by decide +kernel, by decide +kernel⟩
theorem P_X10_21 : PutOK RX10 21 10 2 .boolean := ⟨RX10, TX10, 17, tyX10, rfl, by decide, iw10, mem_g (List.mem_of_getElem? (i := 380) (by decide +kernel)) (by decide +kernel), tyX10_ok, nmX10, by decide +kernel, by decide +kernel⟩
theorem P_X11_151 : PutOK RX11 151 11 10 .int := ⟨RX11, TX11, 36, tyX11, rfl, by decide, iw11, mem_g (List.mem_of_getElem? (i := 1082) (by decide +kernel)) (by decide +kernel), tyX11_ok, nmX11, by decide +kernel, by decide +kernel⟩
theorem P_X11_154 : PutOK RX11 154 11 11 .int := ⟨RX11, TX11, 36, tyX11, rfl, by decide, iw11, mem_g (List.mem_of_getElem? (i := 1083) (by decide +kernel)) (by decide +kernel), tyX11_ok, nmX11, by decide +kernel, by decide +kernel⟩
theorem P_X11_157 : PutOK RX11 157 11 12 .int := ⟨RX11, TX11, 36, tyX11, rfl, by decide, iw11, mem_g (List.mem_of_getElem? (i := 1084) (by decide +kernel)) (by decide +kernel), tyX11_ok, nmX11, by decide +kernel, by decide +kernel⟩
theorem P_X11_160 : PutOK RX11 160 11 13 .int := ⟨RX11, TX11, 36, tyX11, rfl, by decide, iw11, mem_g (List.mem_of_getElem? (i := 1085) (by decide +kernel)) (by decide +kernel), tyX11_ok, nmX11, by decide +kernel, by decide +kernel⟩
theorem P_X11_163 : PutOK RX11 163 11 14 .int := ⟨RX11, TX11, 36, tyX11, rfl, by decide, iw11, mem_g (List.mem_of_getElem? (i := 1086) (by decide +kernel)) (by decide +kernel), tyX11_ok, nmX11, by decide +kernel, by decide +kernel⟩
theorem P_X11_166 : PutOK RX11 166 11 15 .int := ⟨RX11, TX11, 36, tyX11, rfl, by decide, iw11, mem_g (List.mem_of_getElem? (i := 1087) (by decide +kernel)) (by decide +kernel), tyX11_ok, nmX11, by decide +kernel, by decide +kernel⟩
theorem P_X11_211 : PutOK RX11 211 11 17 .float := ⟨RX11, TX11, 36, tyX11, rfl, by decide, iw11, mem_g (List.mem_of_getElem? (i := 1089) (by decide +kernel)) (by decide +kernel), tyX11_ok, nmX11, by decide +kernel, by decide +kernel⟩
theorem P_X11_218 : PutOK RX11 218 11 18 .int := ⟨RX11, TX11, 36, tyX11, rfl, by decide, iw11, mem_g (List.mem_of_getElem? (i := 1090) (by decide +kernel)) (by decide +kernel), tyX11_ok, nmX11, by decide +kernel, by decide +kernel⟩
theorem P_X11_124 : PutOK RX11 124 11 3 .int := ⟨RX11, TX11, 36, tyX11, rfl, by decide, iw11, mem_g (List.mem_of_getElem? (i := 1075) (by decide +kernel)) (by decide +kernel), tyX11_ok, nmX11, by decide +kernel, by decide +kernel⟩
theorem P_X11_235 : PutOK RX11 235 11 19 .int := ⟨RX11, TX11, 36, tyX11, rfl, by decide, iw11, mem_g (List.mem_of_getElem? (i := 1091) (by decide +kernel)) (by decide +kernel), tyX11_ok, nmX11, by decide +kernel, by decide +kernel⟩
theorem P_X11_238 : PutOK RX11 238 11 20 .int := ⟨RX11, TX11, 36, tyX11, rfl, by decide, iw11, mem_g (List.mem_of_getElem? (i := 1092) (by decide +kernel)) (by decide +kernel), tyX11_ok, nmX11, by decide +kernel, by decide +kernel⟩
theorem P_X11_241 : PutOK RX11 241 11 21 .int := ⟨RX11, TX11, 36, tyX11, rfl, by decide, iw11, mem_g (List.mem_of_getElem? (i := 1093) (by decide +kernel)) (by decide +kernel), tyX11_ok, nmX11, by decide +kernel, by decide +kernel⟩
theorem P_X11_244 : PutOK RX11 244 11 22 .int := ⟨RX11, TX11, 36, tyX11, rfl, by decide, iw11, mem_g (List.mem_of_getElem? (i := 1094) (by decide +kernel)) (by decide +kernel), tyX11_ok, nmX11, by decide +kernel, by decide +kernel⟩
theorem P_X11_247 : PutOK RX11 247 11 25 .int := ⟨RX11, TX11, 36, tyX11, rfl, by decide, iw11, mem_g (List.mem_of_getElem? (i := 1097) (by decide +kernel)) (by decide +kernel), tyX11_ok, nmX11, by decide +kernel, by decide +kernel⟩
theorem P_X11_250 : PutOK RX11 250 11 26 .int := ⟨RX11, TX11, 36, tyX11, rfl, by decide, iw11, mem_g (List.mem_of_getElem? (i := 1098) (by decide +kernel)) (by decide +kernel), tyX11_ok, nmX11, by decide +kernel, by decide +kernel⟩
theorem P_X11_253 : PutOK RX11 253 11 23 .int := ⟨RX11, TX11, 36, tyX11, rfl, by decide, iw11, mem_g (List.mem_of_getElem? (i := 1095) (by decide +kernel)) (by decide +kernel), tyX11_ok, nmX11, by decide +kernel, by decide +kernel⟩
theorem P_X11_281 : PutOK RX11 281 11 29 .int := ⟨RX11, TX11, 36, tyX11, rfl, by decide, iw11, mem_g (List.mem_of_getElem? (i := 1101) (by decide +kernel)) (by decide +kernel), tyX11_ok, nmX11, by decide +kernel, by decide +kernel⟩
theorem P_X11_291 : PutOK RX11 291 11 31 .int := ⟨RX11, TX11, 36, tyX11, rfl, by decide, iw11, mem_g (List.mem_of_getElem? (i := 1103) (by decide +kernel)) (by decide +kernel), tyX11_ok, nmX11, by decide +kernel, by decide +kernel⟩
theorem P_X11_284 : PutOK RX11 284 11 30 .int := ⟨RX11, TX11, 36, tyX11, rfl, by decide, iw11, mem_g (List.mem_of_getElem? (i := 1102) (by decide +kernel)) (by decide +kernel), tyX11_ok, nmX11, by decide +kernel, by decide +kernel⟩
theorem P_X11_338 : PutOK RX11 338 11 2 .boolean := ⟨RX11, TX11, 36, tyX11, rfl, by decide, iw11, mem_g (List.mem_of_getElem? (i := 1074) (by decide +kernel)) (by decide +kernel), tyX11_ok, nmX11, by decide +kernel, by decide +kernel⟩
theorem cal_X5_copyFrom : CalOK yX5_copyFrom cX5_copyFrom 2 none 1 := ⟨mem_g (List.mem_of_getElem? (i := 535) (by decide +kernel)) (by decide +kernel), mem_g (List.mem_of_getElem? (i := 61) (by decide +kernel)) (by decide +kernel), ⟨by decide +kernel, by decide +kernel, by decide +kernel⟩, by decide⟩
theorem cal_X10_within : CalOK yX10_within cX10_within 3 (some .boolean) 3 := ⟨mem_g (List.mem_of_getElem? (i := 444) (by decide +kernel)) (by decide +kernel), mem_g (List.mem_of_getElem? (i := 58) (by decide +kernel)) (by decide +kernel), ⟨by decide +kernel, by decide +kernel, by decide +kernel⟩, by decide⟩
theorem cal_X0_settingOf : CalOK yX0_settingOf cX0_settingOf 2 (some .int) 1 := ⟨mem_g (List.mem_of_getElem? (i := 452) (by decide +kernel)) (by decide +kernel), mem_g (List.mem_of_getElem? (i := 60) (by decide +kernel)) (by decide +kernel), ⟨by decide +kernel, by decide +kernel, by decide +kernel⟩, by decide⟩
theorem cal_X10_isState : CalOK yX10_isState cX10_isState 1 (some .boolean) 1 := ⟨mem_g (List.mem_of_getElem? (i := 463) (by decide +kernel)) (by decide +kernel), mem_g (List.mem_of_getElem? (i := 58) (by decide +kernel)) (by decide +kernel), ⟨by decide +kernel, by decide +kernel, by decide +kernel⟩, by decide⟩
theorem cal_X0_allPartsFrom : CalOK yX0_allPartsFrom cX0_allPartsFrom 2 (some .int) 1 := ⟨mem_g (List.mem_of_getElem? (i := 476) (by decide +kernel)) (by decide +kernel), mem_g (List.mem_of_getElem? (i := 60) (by decide +kernel)) (by decide +kernel), ⟨by decide +kernel, by decide +kernel, by decide +kernel⟩, by decide⟩
theorem cal_X0_placeByRank : CalOK yX0_placeByRank cX0_placeByRank 4 (some .int) 1 := ⟨mem_g (List.mem_of_getElem? (i := 507) (by decide +kernel)) (by decide +kernel), mem_g (List.mem_of_getElem? (i := 60) (by decide +kernel)) (by decide +kernel), ⟨by decide +kernel, by decide +kernel, by decide +kernel⟩, by decide⟩
theorem cal_X0_isFit : CalOK yX0_isFit cX0_isFit 2 (some .boolean) 2 := ⟨mem_g (List.mem_of_getElem? (i := 495) (by decide +kernel)) (by decide +kernel), mem_g (List.mem_of_getElem? (i := 60) (by decide +kernel)) (by decide +kernel), ⟨by decide +kernel, by decide +kernel, by decide +kernel⟩, by decide⟩
theorem cal_X0_sortByRank : CalOK yX0_sortByRank cX0_sortByRank 2 none 0 := ⟨mem_g (List.mem_of_getElem? (i := 503) (by decide +kernel)) (by decide +kernel), mem_g (List.mem_of_getElem? (i := 60) (by decide +kernel)) (by decide +kernel), ⟨by decide +kernel, by decide +kernel, by decide +kernel⟩, by decide⟩
theorem cal_X0_hasDemand : CalOK yX0_hasDemand cX0_hasDemand 2 (some .boolean) 1 := ⟨mem_g (List.mem_of_getElem? (i := 519) (by decide +kernel)) (by decide +kernel), mem_g (List.mem_of_getElem? (i := 60) (by decide +kernel)) (by decide +kernel), ⟨by decide +kernel, by decide +kernel, by decide +kernel⟩, by decide⟩
theorem cal_X5_tell : CalOK yX5_tell cX5_tell 2 (some .int) 1 := ⟨mem_g (List.mem_of_getElem? (i := 523) (by decide +kernel)) (by decide +kernel), mem_g (List.mem_of_getElem? (i := 61) (by decide +kernel)) (by decide +kernel), ⟨by decide +kernel, by decide +kernel, by decide +kernel⟩, by decide⟩
theorem cal_X0_silence : CalOK yX0_silence cX0_silence 2 none 1 := ⟨mem_g (List.mem_of_getElem? (i := 877) (by decide +kernel)) (by decide +kernel), mem_g (List.mem_of_getElem? (i := 60) (by decide +kernel)) (by decide +kernel), ⟨by decide +kernel, by decide +kernel, by decide +kernel⟩, by decide⟩
theorem cal_X0_inflowIn : CalOK yX0_inflowIn cX0_inflowIn 3 (some .int) 2 := ⟨mem_g (List.mem_of_getElem? (i := 671) (by decide +kernel)) (by decide +kernel), mem_g (List.mem_of_getElem? (i := 60) (by decide +kernel)) (by decide +kernel), ⟨by decide +kernel, by decide +kernel, by decide +kernel⟩, by decide⟩
theorem cal_X6_at : CalOK yX6_at cX6_at 3 (some .int) 2 := ⟨mem_g (List.mem_of_getElem? (i := 567) (by decide +kernel)) (by decide +kernel), mem_g (List.mem_of_getElem? (i := 62) (by decide +kernel)) (by decide +kernel), ⟨by decide +kernel, by decide +kernel, by decide +kernel⟩, by decide⟩
theorem cal_X0_nearestState : CalOK yX0_nearestState cX0_nearestState 5 (some .int) 2 := ⟨mem_g (List.mem_of_getElem? (i := 911) (by decide +kernel)) (by decide +kernel), mem_g (List.mem_of_getElem? (i := 60) (by decide +kernel)) (by decide +kernel), ⟨by decide +kernel, by decide +kernel, by decide +kernel⟩, by decide⟩
theorem cal_X5_wantedIn : CalOK yX5_wantedIn cX5_wantedIn 3 (some .int) 1 := ⟨mem_g (List.mem_of_getElem? (i := 705) (by decide +kernel)) (by decide +kernel), mem_g (List.mem_of_getElem? (i := 61) (by decide +kernel)) (by decide +kernel), ⟨by decide +kernel, by decide +kernel, by decide +kernel⟩, by decide⟩
theorem cal_X5_trickleOf : CalOK yX5_trickleOf cX5_trickleOf 5 (some .int) 1 := ⟨mem_g (List.mem_of_getElem? (i := 727) (by decide +kernel)) (by decide +kernel), mem_g (List.mem_of_getElem? (i := 61) (by decide +kernel)) (by decide +kernel), ⟨by decide +kernel, by decide +kernel, by decide +kernel⟩, by decide⟩
theorem cal_X5_gainOf : CalOK yX5_gainOf cX5_gainOf 5 (some .int) 2 := ⟨mem_g (List.mem_of_getElem? (i := 723) (by decide +kernel)) (by decide +kernel), mem_g (List.mem_of_getElem? (i := 61) (by decide +kernel)) (by decide +kernel), ⟨by decide +kernel, by decide +kernel, by decide +kernel⟩, by decide⟩
theorem cal_X1_spot : CalOK yX1_spot cX1_spot 3 (some .int) 3 := ⟨mem_g (List.mem_of_getElem? (i := 775) (by decide +kernel)) (by decide +kernel), mem_g (List.mem_of_getElem? (i := 63) (by decide +kernel)) (by decide +kernel), ⟨by decide +kernel, by decide +kernel, by decide +kernel⟩, by decide⟩
theorem cal_X0_topOf : CalOK yX0_topOf cX0_topOf 2 (some .int) 1 := ⟨mem_g (List.mem_of_getElem? (i := 675) (by decide +kernel)) (by decide +kernel), mem_g (List.mem_of_getElem? (i := 60) (by decide +kernel)) (by decide +kernel), ⟨by decide +kernel, by decide +kernel, by decide +kernel⟩, by decide⟩
theorem cal_X0_driedIn : CalOK yX0_driedIn cX0_driedIn 3 (some .int) 2 := ⟨mem_g (List.mem_of_getElem? (i := 743) (by decide +kernel)) (by decide +kernel), mem_g (List.mem_of_getElem? (i := 60) (by decide +kernel)) (by decide +kernel), ⟨by decide +kernel, by decide +kernel, by decide +kernel⟩, by decide⟩
theorem cal_X1_valueOf : CalOK yX1_valueOf cX1_valueOf 8 (some .float) 5 := ⟨mem_g (List.mem_of_getElem? (i := 791) (by decide +kernel)) (by decide +kernel), mem_g (List.mem_of_getElem? (i := 63) (by decide +kernel)) (by decide +kernel), ⟨by decide +kernel, by decide +kernel, by decide +kernel⟩, by decide⟩
theorem cal_X0_gainsOf : CalOK yX0_gainsOf cX0_gainsOf 9 (some .int) 2 := ⟨mem_g (List.mem_of_getElem? (i := 749) (by decide +kernel)) (by decide +kernel), mem_g (List.mem_of_getElem? (i := 60) (by decide +kernel)) (by decide +kernel), ⟨by decide +kernel, by decide +kernel, by decide +kernel⟩, by decide⟩
theorem cal_X1_fillMeans : CalOK yX1_fillMeans cX1_fillMeans 8 none 2 := ⟨mem_g (List.mem_of_getElem? (i := 779) (by decide +kernel)) (by decide +kernel), mem_g (List.mem_of_getElem? (i := 63) (by decide +kernel)) (by decide +kernel), ⟨by decide +kernel, by decide +kernel, by decide +kernel⟩, by decide⟩
theorem cal_X1_choose : CalOK yX1_choose cX1_choose 11 none 4 := ⟨mem_g (List.mem_of_getElem? (i := 784) (by decide +kernel)) (by decide +kernel), mem_g (List.mem_of_getElem? (i := 63) (by decide +kernel)) (by decide +kernel), ⟨by decide +kernel, by decide +kernel, by decide +kernel⟩, by decide⟩
theorem cal_X2_weighFrom : CalOK yX2_weighFrom cX2_weighFrom 4 (some .int) 2 := ⟨mem_g (List.mem_of_getElem? (i := 849) (by decide +kernel)) (by decide +kernel), mem_g (List.mem_of_getElem? (i := 64) (by decide +kernel)) (by decide +kernel), ⟨by decide +kernel, by decide +kernel, by decide +kernel⟩, by decide⟩
theorem cal_X2_turnOn : CalOK yX2_turnOn cX2_turnOn 3 (some .int) 1 := ⟨mem_g (List.mem_of_getElem? (i := 856) (by decide +kernel)) (by decide +kernel), mem_g (List.mem_of_getElem? (i := 64) (by decide +kernel)) (by decide +kernel), ⟨by decide +kernel, by decide +kernel, by decide +kernel⟩, by decide⟩
theorem cal_J0_coder_7d493 : CalOK yJ0_coder_7d493 cJ0_coder_7d493 1 (some .byte) 0 := ⟨mem_g (List.mem_of_getElem? (i := 589) (by decide +kernel)) (by decide +kernel), mem_g (List.mem_of_getElem? (i := 70) (by decide +kernel)) (by decide +kernel), ⟨by decide +kernel, by decide +kernel, by decide +kernel⟩, by decide⟩
theorem cal_J3_checkIndex_8e157 : CalOK yJ3_checkIndex_8e157 cJ3_checkIndex_8e157 3 (some .int) 3 := ⟨mem_g (List.mem_of_getElem? (i := 610) (by decide +kernel)) (by decide +kernel), mem_g (List.mem_of_getElem? (i := 72) (by decide +kernel)) (by decide +kernel), ⟨by decide +kernel, by decide +kernel, by decide +kernel⟩, by decide⟩
theorem cal_J0_checkIndex_df160 : CalOK yJ0_checkIndex_df160 cJ0_checkIndex_df160 2 none 2 := ⟨mem_g (List.mem_of_getElem? (i := 605) (by decide +kernel)) (by decide +kernel), mem_g (List.mem_of_getElem? (i := 70) (by decide +kernel)) (by decide +kernel), ⟨by decide +kernel, by decide +kernel, by decide +kernel⟩, by decide⟩
theorem cal_J0_isLatin1_aae02 : CalOK yJ0_isLatin1_aae02 cJ0_isLatin1_aae02 1 (some .boolean) 0 := ⟨mem_g (List.mem_of_getElem? (i := 599) (by decide +kernel)) (by decide +kernel), mem_g (List.mem_of_getElem? (i := 70) (by decide +kernel)) (by decide +kernel), ⟨by decide +kernel, by decide +kernel, by decide +kernel⟩, by decide⟩
theorem cal_J1_charAt_3b067 : CalOK yJ1_charAt_3b067 cJ1_charAt_3b067 2 (some .char) 2 := ⟨mem_g (List.mem_of_getElem? (i := 602) (by decide +kernel)) (by decide +kernel), mem_g (List.mem_of_getElem? (i := 71) (by decide +kernel)) (by decide +kernel), ⟨by decide +kernel, by decide +kernel, by decide +kernel⟩, by decide⟩
theorem cal_X3_isDigit : CalOK yX3_isDigit cX3_isDigit 1 (some .boolean) 1 := ⟨mem_g (List.mem_of_getElem? (i := 636) (by decide +kernel)) (by decide +kernel), mem_g (List.mem_of_getElem? (i := 67) (by decide +kernel)) (by decide +kernel), ⟨by decide +kernel, by decide +kernel, by decide +kernel⟩, by decide⟩
theorem cal_X3_formOf : CalOK yX3_formOf cX3_formOf 1 (some (.object "java/lang/String")) 1 := ⟨mem_g (List.mem_of_getElem? (i := 571) (by decide +kernel)) (by decide +kernel), mem_g (List.mem_of_getElem? (i := 67) (by decide +kernel)) (by decide +kernel), ⟨by decide +kernel, by decide +kernel, by decide +kernel⟩, by decide⟩
theorem cal_J0_isEmpty_aae02 : CalOK yJ0_isEmpty_aae02 cJ0_isEmpty_aae02 1 (some .boolean) 0 := ⟨mem_g (List.mem_of_getElem? (i := 581) (by decide +kernel)) (by decide +kernel), mem_g (List.mem_of_getElem? (i := 70) (by decide +kernel)) (by decide +kernel), ⟨by decide +kernel, by decide +kernel, by decide +kernel⟩, by decide⟩
theorem cal_J0_length_8abf5 : CalOK yJ0_length_8abf5 cJ0_length_8abf5 1 (some .int) 0 := ⟨mem_g (List.mem_of_getElem? (i := 585) (by decide +kernel)) (by decide +kernel), mem_g (List.mem_of_getElem? (i := 70) (by decide +kernel)) (by decide +kernel), ⟨by decide +kernel, by decide +kernel, by decide +kernel⟩, by decide⟩
theorem cal_J0_charAt_5068e : CalOK yJ0_charAt_5068e cJ0_charAt_5068e 2 (some .char) 1 := ⟨mem_g (List.mem_of_getElem? (i := 595) (by decide +kernel)) (by decide +kernel), mem_g (List.mem_of_getElem? (i := 70) (by decide +kernel)) (by decide +kernel), ⟨by decide +kernel, by decide +kernel, by decide +kernel⟩, by decide⟩
theorem cal_X3_takeNumber : CalOK yX3_takeNumber cX3_takeNumber 5 (some .boolean) 3 := ⟨mem_g (List.mem_of_getElem? (i := 633) (by decide +kernel)) (by decide +kernel), mem_g (List.mem_of_getElem? (i := 67) (by decide +kernel)) (by decide +kernel), ⟨by decide +kernel, by decide +kernel, by decide +kernel⟩, by decide⟩
theorem cal_X3_takeClause : CalOK yX3_takeClause cX3_takeClause 7 (some .boolean) 1 := ⟨mem_g (List.mem_of_getElem? (i := 563) (by decide +kernel)) (by decide +kernel), mem_g (List.mem_of_getElem? (i := 67) (by decide +kernel)) (by decide +kernel), ⟨by decide +kernel, by decide +kernel, by decide +kernel⟩, by decide⟩
theorem cal_X0_addDemand : CalOK yX0_addDemand cX0_addDemand 8 (some .int) 6 := ⟨mem_g (List.mem_of_getElem? (i := 492) (by decide +kernel)) (by decide +kernel), mem_g (List.mem_of_getElem? (i := 60) (by decide +kernel)) (by decide +kernel), ⟨by decide +kernel, by decide +kernel, by decide +kernel⟩, by decide⟩
theorem cal_X0_changeMonth : CalOK yX0_changeMonth cX0_changeMonth 6 (some .int) 3 := ⟨mem_g (List.mem_of_getElem? (i := 484) (by decide +kernel)) (by decide +kernel), mem_g (List.mem_of_getElem? (i := 60) (by decide +kernel)) (by decide +kernel), ⟨by decide +kernel, by decide +kernel, by decide +kernel⟩, by decide⟩
theorem cal_X0_changeSetting : CalOK yX0_changeSetting cX0_changeSetting 4 (some .int) 2 := ⟨mem_g (List.mem_of_getElem? (i := 441) (by decide +kernel)) (by decide +kernel), mem_g (List.mem_of_getElem? (i := 60) (by decide +kernel)) (by decide +kernel), ⟨by decide +kernel, by decide +kernel, by decide +kernel⟩, by decide⟩
theorem cal_X0_changeParts : CalOK yX0_changeParts cX0_changeParts 5 (some .boolean) 4 := ⟨mem_g (List.mem_of_getElem? (i := 655) (by decide +kernel)) (by decide +kernel), mem_g (List.mem_of_getElem? (i := 60) (by decide +kernel)) (by decide +kernel), ⟨by decide +kernel, by decide +kernel, by decide +kernel⟩, by decide⟩
theorem cal_X0_changeInflow : CalOK yX0_changeInflow cX0_changeInflow 5 (some .int) 3 := ⟨mem_g (List.mem_of_getElem? (i := 460) (by decide +kernel)) (by decide +kernel), mem_g (List.mem_of_getElem? (i := 60) (by decide +kernel)) (by decide +kernel), ⟨by decide +kernel, by decide +kernel, by decide +kernel⟩, by decide⟩
theorem cal_X3_isDone : CalOK yX3_isDone cX3_isDone 7 (some .boolean) 2 := ⟨mem_g (List.mem_of_getElem? (i := 649) (by decide +kernel)) (by decide +kernel), mem_g (List.mem_of_getElem? (i := 67) (by decide +kernel)) (by decide +kernel), ⟨by decide +kernel, by decide +kernel, by decide +kernel⟩, by decide⟩
theorem cal_X0_isAhead : CalOK yX0_isAhead cX0_isAhead 3 (some .boolean) 2 := ⟨mem_g (List.mem_of_getElem? (i := 810) (by decide +kernel)) (by decide +kernel), mem_g (List.mem_of_getElem? (i := 60) (by decide +kernel)) (by decide +kernel), ⟨by decide +kernel, by decide +kernel, by decide +kernel⟩, by decide⟩
theorem cal_X1_releaseAt : CalOK yX1_releaseAt cX1_releaseAt 4 (some .int) 3 := ⟨mem_g (List.mem_of_getElem? (i := 814) (by decide +kernel)) (by decide +kernel), mem_g (List.mem_of_getElem? (i := 63) (by decide +kernel)) (by decide +kernel), ⟨by decide +kernel, by decide +kernel, by decide +kernel⟩, by decide⟩
theorem cal_X4_bestRelease : CalOK yX4_bestRelease cX4_bestRelease 5 (some .int) 5 := ⟨mem_g (List.mem_of_getElem? (i := 906) (by decide +kernel)) (by decide +kernel), mem_g (List.mem_of_getElem? (i := 66) (by decide +kernel)) (by decide +kernel), ⟨by decide +kernel, by decide +kernel, by decide +kernel⟩, by decide⟩
theorem cal_X7_go : CalOK yX7_go cX7_go 7 none 5 := ⟨mem_g (List.mem_of_getElem? (i := 739) (by decide +kernel)) (by decide +kernel), mem_g (List.mem_of_getElem? (i := 65) (by decide +kernel)) (by decide +kernel), ⟨by decide +kernel, by decide +kernel, by decide +kernel⟩, by decide⟩
theorem cal_X4_leastStore : CalOK yX4_leastStore cX4_leastStore 3 (some .int) 0 := ⟨mem_g (List.mem_of_getElem? (i := 925) (by decide +kernel)) (by decide +kernel), mem_g (List.mem_of_getElem? (i := 66) (by decide +kernel)) (by decide +kernel), ⟨by decide +kernel, by decide +kernel, by decide +kernel⟩, by decide⟩
theorem cal_X0_gotBy : CalOK yX0_gotBy cX0_gotBy 7 (some .int) 3 := ⟨mem_g (List.mem_of_getElem? (i := 715) (by decide +kernel)) (by decide +kernel), mem_g (List.mem_of_getElem? (i := 60) (by decide +kernel)) (by decide +kernel), ⟨by decide +kernel, by decide +kernel, by decide +kernel⟩, by decide⟩
theorem cal_X6_setInLast : CalOK yX6_setInLast cX6_setInLast 3 none 2 := ⟨mem_g (List.mem_of_getElem? (i := 551) (by decide +kernel)) (by decide +kernel), mem_g (List.mem_of_getElem? (i := 62) (by decide +kernel)) (by decide +kernel), ⟨by decide +kernel, by decide +kernel, by decide +kernel⟩, by decide⟩
theorem cal_X6_add___ : CalOK yX6_add___ cX6_add___ 5 (some .int) 4 := ⟨mem_g (List.mem_of_getElem? (i := 547) (by decide +kernel)) (by decide +kernel), mem_g (List.mem_of_getElem? (i := 62) (by decide +kernel)) (by decide +kernel), ⟨by decide +kernel, by decide +kernel, by decide +kernel⟩, by decide⟩
theorem cal_X0_copyFrom : CalOK yX0_copyFrom cX0_copyFrom 3 none 1 := ⟨mem_g (List.mem_of_getElem? (i := 872) (by decide +kernel)) (by decide +kernel), mem_g (List.mem_of_getElem? (i := 60) (by decide +kernel)) (by decide +kernel), ⟨by decide +kernel, by decide +kernel, by decide +kernel⟩, by decide⟩
theorem cal_X6_copyFrom : CalOK yX6_copyFrom cX6_copyFrom 3 none 1 := ⟨mem_g (List.mem_of_getElem? (i := 1021) (by decide +kernel)) (by decide +kernel), mem_g (List.mem_of_getElem? (i := 62) (by decide +kernel)) (by decide +kernel), ⟨by decide +kernel, by decide +kernel, by decide +kernel⟩, by decide⟩
theorem cal_X10_forgetFound : CalOK yX10_forgetFound cX10_forgetFound 1 none 0 := ⟨mem_g (List.mem_of_getElem? (i := 437) (by decide +kernel)) (by decide +kernel), mem_g (List.mem_of_getElem? (i := 58) (by decide +kernel)) (by decide +kernel), ⟨by decide +kernel, by decide +kernel, by decide +kernel⟩, by decide⟩
theorem cal_X0_changePart : CalOK yX0_changePart cX0_changePart 5 (some .int) 3 := ⟨mem_g (List.mem_of_getElem? (i := 472) (by decide +kernel)) (by decide +kernel), mem_g (List.mem_of_getElem? (i := 60) (by decide +kernel)) (by decide +kernel), ⟨by decide +kernel, by decide +kernel, by decide +kernel⟩, by decide⟩
theorem cal_X0_changeDemand : CalOK yX0_changeDemand cX0_changeDemand 6 (some .int) 3 := ⟨mem_g (List.mem_of_getElem? (i := 515) (by decide +kernel)) (by decide +kernel), mem_g (List.mem_of_getElem? (i := 60) (by decide +kernel)) (by decide +kernel), ⟨by decide +kernel, by decide +kernel, by decide +kernel⟩, by decide⟩
theorem cal_X0_removeDemand : CalOK yX0_removeDemand cX0_removeDemand 3 (some .int) 1 := ⟨mem_g (List.mem_of_getElem? (i := 531) (by decide +kernel)) (by decide +kernel), mem_g (List.mem_of_getElem? (i := 60) (by decide +kernel)) (by decide +kernel), ⟨by decide +kernel, by decide +kernel, by decide +kernel⟩, by decide⟩
theorem cal_X6_add : CalOK yX6_add cX6_add 2 (some .int) 1 := ⟨mem_g (List.mem_of_getElem? (i := 543) (by decide +kernel)) (by decide +kernel), mem_g (List.mem_of_getElem? (i := 62) (by decide +kernel)) (by decide +kernel), ⟨by decide +kernel, by decide +kernel, by decide +kernel⟩, by decide⟩
theorem cal_X3_takeAll : CalOK yX3_takeAll cX3_takeAll 2 (some .int) 1 := ⟨mem_g (List.mem_of_getElem? (i := 559) (by decide +kernel)) (by decide +kernel), mem_g (List.mem_of_getElem? (i := 67) (by decide +kernel)) (by decide +kernel), ⟨by decide +kernel, by decide +kernel, by decide +kernel⟩, by decide⟩
theorem cal_X6_clear : CalOK yX6_clear cX6_clear 1 (some .int) 0 := ⟨mem_g (List.mem_of_getElem? (i := 641) (by decide +kernel)) (by decide +kernel), mem_g (List.mem_of_getElem? (i := 62) (by decide +kernel)) (by decide +kernel), ⟨by decide +kernel, by decide +kernel, by decide +kernel⟩, by decide⟩
theorem cal_X3_doAll : CalOK yX3_doAll cX3_doAll 4 (some .int) 1 := ⟨mem_g (List.mem_of_getElem? (i := 645) (by decide +kernel)) (by decide +kernel), mem_g (List.mem_of_getElem? (i := 67) (by decide +kernel)) (by decide +kernel), ⟨by decide +kernel, by decide +kernel, by decide +kernel⟩, by decide⟩
theorem cal_X10_isUnder : CalOK yX10_isUnder cX10_isUnder 4 (some .boolean) 2 := ⟨mem_g (List.mem_of_getElem? (i := 695) (by decide +kernel)) (by decide +kernel), mem_g (List.mem_of_getElem? (i := 58) (by decide +kernel)) (by decide +kernel), ⟨by decide +kernel, by decide +kernel, by decide +kernel⟩, by decide⟩
theorem cal_X10_isStore : CalOK yX10_isStore cX10_isStore 2 (some .boolean) 1 := ⟨mem_g (List.mem_of_getElem? (i := 735) (by decide +kernel)) (by decide +kernel), mem_g (List.mem_of_getElem? (i := 58) (by decide +kernel)) (by decide +kernel), ⟨by decide +kernel, by decide +kernel, by decide +kernel⟩, by decide⟩
theorem cal_X7_tell : CalOK yX7_tell cX7_tell 2 (some .long) 1 := ⟨mem_g (List.mem_of_getElem? (i := 754) (by decide +kernel)) (by decide +kernel), mem_g (List.mem_of_getElem? (i := 65) (by decide +kernel)) (by decide +kernel), ⟨by decide +kernel, by decide +kernel, by decide +kernel⟩, by decide⟩
theorem cal_X1_fillGains : CalOK yX1_fillGains cX1_fillGains 5 none 2 := ⟨mem_g (List.mem_of_getElem? (i := 767) (by decide +kernel)) (by decide +kernel), mem_g (List.mem_of_getElem? (i := 63) (by decide +kernel)) (by decide +kernel), ⟨by decide +kernel, by decide +kernel, by decide +kernel⟩, by decide⟩
theorem cal_X1_sweep : CalOK yX1_sweep cX1_sweep 6 none 2 := ⟨mem_g (List.mem_of_getElem? (i := 772) (by decide +kernel)) (by decide +kernel), mem_g (List.mem_of_getElem? (i := 63) (by decide +kernel)) (by decide +kernel), ⟨by decide +kernel, by decide +kernel, by decide +kernel⟩, by decide⟩
theorem cal_X10_solveNow : CalOK yX10_solveNow cX10_solveNow 1 none 0 := ⟨mem_g (List.mem_of_getElem? (i := 763) (by decide +kernel)) (by decide +kernel), mem_g (List.mem_of_getElem? (i := 58) (by decide +kernel)) (by decide +kernel), ⟨by decide +kernel, by decide +kernel, by decide +kernel⟩, by decide⟩
theorem cal_X1_bestAt : CalOK yX1_bestAt cX1_bestAt 4 (some .float) 3 := ⟨mem_g (List.mem_of_getElem? (i := 796) (by decide +kernel)) (by decide +kernel), mem_g (List.mem_of_getElem? (i := 63) (by decide +kernel)) (by decide +kernel), ⟨by decide +kernel, by decide +kernel, by decide +kernel⟩, by decide⟩
theorem cal_X10_bitsOf : CalOK yX10_bitsOf cX10_bitsOf 4 (some .int) 1 := ⟨mem_g (List.mem_of_getElem? (i := 799) (by decide +kernel)) (by decide +kernel), mem_g (List.mem_of_getElem? (i := 58) (by decide +kernel)) (by decide +kernel), ⟨by decide +kernel, by decide +kernel, by decide +kernel⟩, by decide⟩
theorem cal_X1_comesTo : CalOK yX1_comesTo cX1_comesTo 7 (some .float) 5 := ⟨mem_g (List.mem_of_getElem? (i := 822) (by decide +kernel)) (by decide +kernel), mem_g (List.mem_of_getElem? (i := 63) (by decide +kernel)) (by decide +kernel), ⟨by decide +kernel, by decide +kernel, by decide +kernel⟩, by decide⟩
theorem cal_X2_load : CalOK yX2_load cX2_load 5 none 1 := ⟨mem_g (List.mem_of_getElem? (i := 830) (by decide +kernel)) (by decide +kernel), mem_g (List.mem_of_getElem? (i := 64) (by decide +kernel)) (by decide +kernel), ⟨by decide +kernel, by decide +kernel, by decide +kernel⟩, by decide⟩
theorem cal_X2_oddsAfter : CalOK yX2_oddsAfter cX2_oddsAfter 8 (some .float) 3 := ⟨mem_g (List.mem_of_getElem? (i := 835) (by decide +kernel)) (by decide +kernel), mem_g (List.mem_of_getElem? (i := 64) (by decide +kernel)) (by decide +kernel), ⟨by decide +kernel, by decide +kernel, by decide +kernel⟩, by decide⟩
theorem cal_X2_findLikeliest : CalOK yX2_findLikeliest cX2_findLikeliest 7 none 2 := ⟨mem_g (List.mem_of_getElem? (i := 843) (by decide +kernel)) (by decide +kernel), mem_g (List.mem_of_getElem? (i := 64) (by decide +kernel)) (by decide +kernel), ⟨by decide +kernel, by decide +kernel, by decide +kernel⟩, by decide⟩
theorem cal_X10_canBeWorth : CalOK yX10_canBeWorth cX10_canBeWorth 3 (some .boolean) 2 := ⟨mem_g (List.mem_of_getElem? (i := 868) (by decide +kernel)) (by decide +kernel), mem_g (List.mem_of_getElem? (i := 58) (by decide +kernel)) (by decide +kernel), ⟨by decide +kernel, by decide +kernel, by decide +kernel⟩, by decide⟩
theorem cal_X10_solveThought : CalOK yX10_solveThought cX10_solveThought 1 none 0 := ⟨mem_g (List.mem_of_getElem? (i := 881) (by decide +kernel)) (by decide +kernel), mem_g (List.mem_of_getElem? (i := 58) (by decide +kernel)) (by decide +kernel), ⟨by decide +kernel, by decide +kernel, by decide +kernel⟩, by decide⟩
theorem cal_X4_go : CalOK yX4_go cX4_go 11 none 6 := ⟨mem_g (List.mem_of_getElem? (i := 901) (by decide +kernel)) (by decide +kernel), mem_g (List.mem_of_getElem? (i := 66) (by decide +kernel)) (by decide +kernel), ⟨by decide +kernel, by decide +kernel, by decide +kernel⟩, by decide⟩
theorem cal_X10_canReplay : CalOK yX10_canReplay cX10_canReplay 4 (some .boolean) 3 := ⟨mem_g (List.mem_of_getElem? (i := 893) (by decide +kernel)) (by decide +kernel), mem_g (List.mem_of_getElem? (i := 58) (by decide +kernel)) (by decide +kernel), ⟨by decide +kernel, by decide +kernel, by decide +kernel⟩, by decide⟩
theorem cal_X10_goThrough : CalOK yX10_goThrough cX10_goThrough 5 none 4 := ⟨mem_g (List.mem_of_getElem? (i := 897) (by decide +kernel)) (by decide +kernel), mem_g (List.mem_of_getElem? (i := 58) (by decide +kernel)) (by decide +kernel), ⟨by decide +kernel, by decide +kernel, by decide +kernel⟩, by decide⟩
theorem cal_X4_tell : CalOK yX4_tell cX4_tell 2 (some .long) 1 := ⟨mem_g (List.mem_of_getElem? (i := 921) (by decide +kernel)) (by decide +kernel), mem_g (List.mem_of_getElem? (i := 66) (by decide +kernel)) (by decide +kernel), ⟨by decide +kernel, by decide +kernel, by decide +kernel⟩, by decide⟩
theorem cal_X4_monthsWanting : CalOK yX4_monthsWanting cX4_monthsWanting 5 (some .int) 2 := ⟨mem_g (List.mem_of_getElem? (i := 934) (by decide +kernel)) (by decide +kernel), mem_g (List.mem_of_getElem? (i := 66) (by decide +kernel)) (by decide +kernel), ⟨by decide +kernel, by decide +kernel, by decide +kernel⟩, by decide⟩
theorem cal_X4_monthsMet : CalOK yX4_monthsMet cX4_monthsMet 6 (some .int) 2 := ⟨mem_g (List.mem_of_getElem? (i := 939) (by decide +kernel)) (by decide +kernel), mem_g (List.mem_of_getElem? (i := 66) (by decide +kernel)) (by decide +kernel), ⟨by decide +kernel, by decide +kernel, by decide +kernel⟩, by decide⟩
theorem cal_X10_commonDivisor : CalOK yX10_commonDivisor cX10_commonDivisor 4 (some .int) 2 := ⟨mem_g (List.mem_of_getElem? (i := 943) (by decide +kernel)) (by decide +kernel), mem_g (List.mem_of_getElem? (i := 58) (by decide +kernel)) (by decide +kernel), ⟨by decide +kernel, by decide +kernel, by decide +kernel⟩, by decide⟩
theorem cal_X0_learnParts : CalOK yX0_learnParts cX0_learnParts 5 none 1 := ⟨mem_g (List.mem_of_getElem? (i := 951) (by decide +kernel)) (by decide +kernel), mem_g (List.mem_of_getElem? (i := 60) (by decide +kernel)) (by decide +kernel), ⟨by decide +kernel, by decide +kernel, by decide +kernel⟩, by decide⟩
theorem cal_X10_goesAsSeen : CalOK yX10_goesAsSeen cX10_goesAsSeen 4 (some .boolean) 1 := ⟨mem_g (List.mem_of_getElem? (i := 972) (by decide +kernel)) (by decide +kernel), mem_g (List.mem_of_getElem? (i := 58) (by decide +kernel)) (by decide +kernel), ⟨by decide +kernel, by decide +kernel, by decide +kernel⟩, by decide⟩
theorem cal_X10_findFits : CalOK yX10_findFits cX10_findFits 3 none 0 := ⟨mem_g (List.mem_of_getElem? (i := 966) (by decide +kernel)) (by decide +kernel), mem_g (List.mem_of_getElem? (i := 58) (by decide +kernel)) (by decide +kernel), ⟨by decide +kernel, by decide +kernel, by decide +kernel⟩, by decide⟩
theorem cal_X6_add_ : CalOK yX6_add_ cX6_add_ 3 (some .int) 2 := ⟨mem_g (List.mem_of_getElem? (i := 980) (by decide +kernel)) (by decide +kernel), mem_g (List.mem_of_getElem? (i := 62) (by decide +kernel)) (by decide +kernel), ⟨by decide +kernel, by decide +kernel, by decide +kernel⟩, by decide⟩
theorem cal_X0_goByPlan : CalOK yX0_goByPlan cX0_goByPlan 4 none 2 := ⟨mem_g (List.mem_of_getElem? (i := 988) (by decide +kernel)) (by decide +kernel), mem_g (List.mem_of_getElem? (i := 60) (by decide +kernel)) (by decide +kernel), ⟨by decide +kernel, by decide +kernel, by decide +kernel⟩, by decide⟩
theorem cal_X6_add__ : CalOK yX6_add__ cX6_add__ 4 (some .int) 3 := ⟨mem_g (List.mem_of_getElem? (i := 997) (by decide +kernel)) (by decide +kernel), mem_g (List.mem_of_getElem? (i := 62) (by decide +kernel)) (by decide +kernel), ⟨by decide +kernel, by decide +kernel, by decide +kernel⟩, by decide⟩
theorem cal_X10_isTape : CalOK yX10_isTape cX10_isTape 1 (some .boolean) 1 := ⟨mem_g (List.mem_of_getElem? (i := 1008) (by decide +kernel)) (by decide +kernel), mem_g (List.mem_of_getElem? (i := 58) (by decide +kernel)) (by decide +kernel), ⟨by decide +kernel, by decide +kernel, by decide +kernel⟩, by decide⟩
theorem cal_X8_copyFrom : CalOK yX8_copyFrom cX8_copyFrom 2 none 1 := ⟨mem_g (List.mem_of_getElem? (i := 1016) (by decide +kernel)) (by decide +kernel), mem_g (List.mem_of_getElem? (i := 59) (by decide +kernel)) (by decide +kernel), ⟨by decide +kernel, by decide +kernel, by decide +kernel⟩, by decide⟩
theorem cal_X9_become : CalOK yX9_become cX9_become 4 none 2 := ⟨mem_g (List.mem_of_getElem? (i := 1039) (by decide +kernel)) (by decide +kernel), mem_g (List.mem_of_getElem? (i := 68) (by decide +kernel)) (by decide +kernel), ⟨by decide +kernel, by decide +kernel, by decide +kernel⟩, by decide⟩
theorem cal_X9_hasPlace : CalOK yX9_hasPlace cX9_hasPlace 2 (some .boolean) 1 := ⟨mem_g (List.mem_of_getElem? (i := 1047) (by decide +kernel)) (by decide +kernel), mem_g (List.mem_of_getElem? (i := 68) (by decide +kernel)) (by decide +kernel), ⟨by decide +kernel, by decide +kernel, by decide +kernel⟩, by decide⟩
theorem cal_X9_asItem : CalOK yX9_asItem cX9_asItem 3 (some .long) 1 := ⟨mem_g (List.mem_of_getElem? (i := 1052) (by decide +kernel)) (by decide +kernel), mem_g (List.mem_of_getElem? (i := 68) (by decide +kernel)) (by decide +kernel), ⟨by decide +kernel, by decide +kernel, by decide +kernel⟩, by decide⟩
theorem cal_X9_hasRange : CalOK yX9_hasRange cX9_hasRange 3 (some .boolean) 2 := ⟨mem_g (List.mem_of_getElem? (i := 1064) (by decide +kernel)) (by decide +kernel), mem_g (List.mem_of_getElem? (i := 68) (by decide +kernel)) (by decide +kernel), ⟨by decide +kernel, by decide +kernel, by decide +kernel⟩, by decide⟩
theorem cal_X11_in : CalOK yX11_in cX11_in 6 (some .boolean) 3 := ⟨mem_g (List.mem_of_getElem? (i := 1188) (by decide +kernel)) (by decide +kernel), mem_g (List.mem_of_getElem? (i := 69) (by decide +kernel)) (by decide +kernel), ⟨by decide +kernel, by decide +kernel, by decide +kernel⟩, by decide⟩
theorem cal_X11_becomes : CalOK yX11_becomes cX11_becomes 4 (some .int) 2 := ⟨mem_g (List.mem_of_getElem? (i := 1195) (by decide +kernel)) (by decide +kernel), mem_g (List.mem_of_getElem? (i := 69) (by decide +kernel)) (by decide +kernel), ⟨by decide +kernel, by decide +kernel, by decide +kernel⟩, by decide⟩
theorem cal_X11_isMonth : CalOK yX11_isMonth cX11_isMonth 1 (some .boolean) 1 := ⟨mem_g (List.mem_of_getElem? (i := 1202) (by decide +kernel)) (by decide +kernel), mem_g (List.mem_of_getElem? (i := 69) (by decide +kernel)) (by decide +kernel), ⟨by decide +kernel, by decide +kernel, by decide +kernel⟩, by decide⟩
theorem cal_X11_isState : CalOK yX11_isState cX11_isState 1 (some .boolean) 1 := ⟨mem_g (List.mem_of_getElem? (i := 1206) (by decide +kernel)) (by decide +kernel), mem_g (List.mem_of_getElem? (i := 69) (by decide +kernel)) (by decide +kernel), ⟨by decide +kernel, by decide +kernel, by decide +kernel⟩, by decide⟩
theorem cal_X11_part : CalOK yX11_part cX11_part 3 (some .int) 2 := ⟨mem_g (List.mem_of_getElem? (i := 1219) (by decide +kernel)) (by decide +kernel), mem_g (List.mem_of_getElem? (i := 69) (by decide +kernel)) (by decide +kernel), ⟨by decide +kernel, by decide +kernel, by decide +kernel⟩, by decide⟩
theorem cal_X11_parts : CalOK yX11_parts cX11_parts 2 (some .int) 1 := ⟨mem_g (List.mem_of_getElem? (i := 1215) (by decide +kernel)) (by decide +kernel), mem_g (List.mem_of_getElem? (i := 69) (by decide +kernel)) (by decide +kernel), ⟨by decide +kernel, by decide +kernel, by decide +kernel⟩, by decide⟩
theorem cal_X11_isDemand : CalOK yX11_isDemand cX11_isDemand 2 (some .boolean) 1 := ⟨mem_g (List.mem_of_getElem? (i := 1236) (by decide +kernel)) (by decide +kernel), mem_g (List.mem_of_getElem? (i := 69) (by decide +kernel)) (by decide +kernel), ⟨by decide +kernel, by decide +kernel, by decide +kernel⟩, by decide⟩
theorem cal_X11_top : CalOK yX11_top cX11_top 2 (some .int) 1 := ⟨mem_g (List.mem_of_getElem? (i := 1253) (by decide +kernel)) (by decide +kernel), mem_g (List.mem_of_getElem? (i := 69) (by decide +kernel)) (by decide +kernel), ⟨by decide +kernel, by decide +kernel, by decide +kernel⟩, by decide⟩
theorem cal_X11_at : CalOK yX11_at cX11_at 3 (some .int) 2 := ⟨mem_g (List.mem_of_getElem? (i := 1277) (by decide +kernel)) (by decide +kernel), mem_g (List.mem_of_getElem? (i := 69) (by decide +kernel)) (by decide +kernel), ⟨by decide +kernel, by decide +kernel, by decide +kernel⟩, by decide⟩
theorem cal_X11_isServedAhead : CalOK yX11_isServedAhead cX11_isServedAhead 3 (some .boolean) 2 := ⟨mem_g (List.mem_of_getElem? (i := 1273) (by decide +kernel)) (by decide +kernel), mem_g (List.mem_of_getElem? (i := 69) (by decide +kernel)) (by decide +kernel), ⟨by decide +kernel, by decide +kernel, by decide +kernel⟩, by decide⟩
theorem cal_X11_rankOf : CalOK yX11_rankOf cX11_rankOf 4 (some .int) 1 := ⟨mem_g (List.mem_of_getElem? (i := 1269) (by decide +kernel)) (by decide +kernel), mem_g (List.mem_of_getElem? (i := 69) (by decide +kernel)) (by decide +kernel), ⟨by decide +kernel, by decide +kernel, by decide +kernel⟩, by decide⟩
theorem cal_X11_wants : CalOK yX11_wants cX11_wants 6 (some .int) 2 := ⟨mem_g (List.mem_of_getElem? (i := 1289) (by decide +kernel)) (by decide +kernel), mem_g (List.mem_of_getElem? (i := 69) (by decide +kernel)) (by decide +kernel), ⟨by decide +kernel, by decide +kernel, by decide +kernel⟩, by decide⟩
theorem cal_X11_byRank : CalOK yX11_byRank cX11_byRank 3 (some .int) 1 := ⟨mem_g (List.mem_of_getElem? (i := 1303) (by decide +kernel)) (by decide +kernel), mem_g (List.mem_of_getElem? (i := 69) (by decide +kernel)) (by decide +kernel), ⟨by decide +kernel, by decide +kernel, by decide +kernel⟩, by decide⟩
theorem cal_X11_gain : CalOK yX11_gain cX11_gain 8 (some .int) 3 := ⟨mem_g (List.mem_of_getElem? (i := 1312) (by decide +kernel)) (by decide +kernel), mem_g (List.mem_of_getElem? (i := 69) (by decide +kernel)) (by decide +kernel), ⟨by decide +kernel, by decide +kernel, by decide +kernel⟩, by decide⟩
theorem cal_X11_ranks : CalOK yX11_ranks cX11_ranks 2 none 0 := ⟨mem_g (List.mem_of_getElem? (i := 1299) (by decide +kernel)) (by decide +kernel), mem_g (List.mem_of_getElem? (i := 69) (by decide +kernel)) (by decide +kernel), ⟨by decide +kernel, by decide +kernel, by decide +kernel⟩, by decide⟩
theorem cal_X11_serves : CalOK yX11_serves cX11_serves 8 (some .int) 2 := ⟨mem_g (List.mem_of_getElem? (i := 1307) (by decide +kernel)) (by decide +kernel), mem_g (List.mem_of_getElem? (i := 69) (by decide +kernel)) (by decide +kernel), ⟨by decide +kernel, by decide +kernel, by decide +kernel⟩, by decide⟩
theorem cal_X11_isStore : CalOK yX11_isStore cX11_isStore 2 (some .boolean) 1 := ⟨mem_g (List.mem_of_getElem? (i := 1320) (by decide +kernel)) (by decide +kernel), mem_g (List.mem_of_getElem? (i := 69) (by decide +kernel)) (by decide +kernel), ⟨by decide +kernel, by decide +kernel, by decide +kernel⟩, by decide⟩
theorem cal_X11_goes : CalOK yX11_goes cX11_goes 6 none 4 := ⟨mem_g (List.mem_of_getElem? (i := 1324) (by decide +kernel)) (by decide +kernel), mem_g (List.mem_of_getElem? (i := 69) (by decide +kernel)) (by decide +kernel), ⟨by decide +kernel, by decide +kernel, by decide +kernel⟩, by decide⟩
theorem cal_X11_place : CalOK yX11_place cX11_place 3 (some .int) 3 := ⟨mem_g (List.mem_of_getElem? (i := 1335) (by decide +kernel)) (by decide +kernel), mem_g (List.mem_of_getElem? (i := 69) (by decide +kernel)) (by decide +kernel), ⟨by decide +kernel, by decide +kernel, by decide +kernel⟩, by decide⟩
theorem cal_X11_mean : CalOK yX11_mean cX11_mean 6 (some .float) 3 := ⟨mem_g (List.mem_of_getElem? (i := 1347) (by decide +kernel)) (by decide +kernel), mem_g (List.mem_of_getElem? (i := 69) (by decide +kernel)) (by decide +kernel), ⟨by decide +kernel, by decide +kernel, by decide +kernel⟩, by decide⟩
theorem cal_X11_comesTo : CalOK yX11_comesTo cX11_comesTo 5 (some .float) 4 := ⟨mem_g (List.mem_of_getElem? (i := 1343) (by decide +kernel)) (by decide +kernel), mem_g (List.mem_of_getElem? (i := 69) (by decide +kernel)) (by decide +kernel), ⟨by decide +kernel, by decide +kernel, by decide +kernel⟩, by decide⟩
theorem cal_X11_findsOne : CalOK yX11_findsOne cX11_findsOne 7 none 3 := ⟨mem_g (List.mem_of_getElem? (i := 1339) (by decide +kernel)) (by decide +kernel), mem_g (List.mem_of_getElem? (i := 69) (by decide +kernel)) (by decide +kernel), ⟨by decide +kernel, by decide +kernel, by decide +kernel⟩, by decide⟩
theorem cal_Jxf58ca_isNaN_12338 : CalOK yJxf58ca_isNaN_12338 cJxf58ca_isNaN_12338 1 (some .boolean) 1 := ⟨mem_g (List.mem_of_getElem? (i := 1356) (by decide +kernel)) (by decide +kernel), mem_g (List.mem_of_getElem? (i := 75) (by decide +kernel)) (by decide +kernel), ⟨by decide +kernel, by decide +kernel, by decide +kernel⟩, by decide⟩
theorem cal_Jxf58ca_floatToIntBits_5c35a : CalOK yJxf58ca_floatToIntBits_5c35a cJxf58ca_floatToIntBits_5c35a 1 (some .int) 1 := ⟨mem_g (List.mem_of_getElem? (i := 1353) (by decide +kernel)) (by decide +kernel), mem_g (List.mem_of_getElem? (i := 75) (by decide +kernel)) (by decide +kernel), ⟨by decide +kernel, by decide +kernel, by decide +kernel⟩, by decide⟩
theorem cal_X11_finds : CalOK yX11_finds cX11_finds 5 none 1 := ⟨mem_g (List.mem_of_getElem? (i := 1332) (by decide +kernel)) (by decide +kernel), mem_g (List.mem_of_getElem? (i := 69) (by decide +kernel)) (by decide +kernel), ⟨by decide +kernel, by decide +kernel, by decide +kernel⟩, by decide⟩
theorem cal_X11_bits : CalOK yX11_bits cX11_bits 1 (some .long) 1 := ⟨mem_g (List.mem_of_getElem? (i := 1350) (by decide +kernel)) (by decide +kernel), mem_g (List.mem_of_getElem? (i := 69) (by decide +kernel)) (by decide +kernel), ⟨by decide +kernel, by decide +kernel, by decide +kernel⟩, by decide⟩
theorem cal_X11_isAhead : CalOK yX11_isAhead cX11_isAhead 2 (some .boolean) 1 := ⟨mem_g (List.mem_of_getElem? (i := 1368) (by decide +kernel)) (by decide +kernel), mem_g (List.mem_of_getElem? (i := 69) (by decide +kernel)) (by decide +kernel), ⟨by decide +kernel, by decide +kernel, by decide +kernel⟩, by decide⟩
theorem cal_X11_stateOf : CalOK yX11_stateOf cX11_stateOf 5 (some .int) 3 := ⟨mem_g (List.mem_of_getElem? (i := 1389) (by decide +kernel)) (by decide +kernel), mem_g (List.mem_of_getElem? (i := 69) (by decide +kernel)) (by decide +kernel), ⟨by decide +kernel, by decide +kernel, by decide +kernel⟩, by decide⟩
theorem cal_X11_findWay : CalOK yX11_findWay cX11_findWay 9 none 2 := ⟨mem_g (List.mem_of_getElem? (i := 1385) (by decide +kernel)) (by decide +kernel), mem_g (List.mem_of_getElem? (i := 69) (by decide +kernel)) (by decide +kernel), ⟨by decide +kernel, by decide +kernel, by decide +kernel⟩, by decide⟩
theorem cal_X11_bestNow : CalOK yX11_bestNow cX11_bestNow 3 (some .float) 2 := ⟨mem_g (List.mem_of_getElem? (i := 1401) (by decide +kernel)) (by decide +kernel), mem_g (List.mem_of_getElem? (i := 69) (by decide +kernel)) (by decide +kernel), ⟨by decide +kernel, by decide +kernel, by decide +kernel⟩, by decide⟩
theorem cal_X11_isRecord : CalOK yX11_isRecord cX11_isRecord 1 (some .boolean) 1 := ⟨mem_g (List.mem_of_getElem? (i := 1408) (by decide +kernel)) (by decide +kernel), mem_g (List.mem_of_getElem? (i := 69) (by decide +kernel)) (by decide +kernel), ⟨by decide +kernel, by decide +kernel, by decide +kernel⟩, by decide⟩
theorem cal_X11_nearest : CalOK yX11_nearest cX11_nearest 7 (some .int) 2 := ⟨mem_g (List.mem_of_getElem? (i := 1424) (by decide +kernel)) (by decide +kernel), mem_g (List.mem_of_getElem? (i := 69) (by decide +kernel)) (by decide +kernel), ⟨by decide +kernel, by decide +kernel, by decide +kernel⟩, by decide⟩
theorem cal_X11_isReplay : CalOK yX11_isReplay cX11_isReplay 4 (some .boolean) 3 := ⟨mem_g (List.mem_of_getElem? (i := 1416) (by decide +kernel)) (by decide +kernel), mem_g (List.mem_of_getElem? (i := 69) (by decide +kernel)) (by decide +kernel), ⟨by decide +kernel, by decide +kernel, by decide +kernel⟩, by decide⟩
theorem cal_X11_replays : CalOK yX11_replays cX11_replays 10 none 5 := ⟨mem_g (List.mem_of_getElem? (i := 1420) (by decide +kernel)) (by decide +kernel), mem_g (List.mem_of_getElem? (i := 69) (by decide +kernel)) (by decide +kernel), ⟨by decide +kernel, by decide +kernel, by decide +kernel⟩, by decide⟩
theorem cal_X11_isRelease : CalOK yX11_isRelease cX11_isRelease 5 (some .boolean) 4 := ⟨mem_g (List.mem_of_getElem? (i := 1449) (by decide +kernel)) (by decide +kernel), mem_g (List.mem_of_getElem? (i := 69) (by decide +kernel)) (by decide +kernel), ⟨by decide +kernel, by decide +kernel, by decide +kernel⟩, by decide⟩
theorem cal_X11_isSeen : CalOK yX11_isSeen cX11_isSeen 3 (some .boolean) 0 := ⟨mem_g (List.mem_of_getElem? (i := 1445) (by decide +kernel)) (by decide +kernel), mem_g (List.mem_of_getElem? (i := 69) (by decide +kernel)) (by decide +kernel), ⟨by decide +kernel, by decide +kernel, by decide +kernel⟩, by decide⟩
theorem cal_X11_lays : CalOK yX11_lays cX11_lays 3 none 2 := ⟨mem_g (List.mem_of_getElem? (i := 1460) (by decide +kernel)) (by decide +kernel), mem_g (List.mem_of_getElem? (i := 69) (by decide +kernel)) (by decide +kernel), ⟨by decide +kernel, by decide +kernel, by decide +kernel⟩, by decide⟩
theorem cal_X11_isDigit : CalOK yX11_isDigit cX11_isDigit 1 (some .boolean) 0 := ⟨mem_g (List.mem_of_getElem? (i := 1493) (by decide +kernel)) (by decide +kernel), mem_g (List.mem_of_getElem? (i := 69) (by decide +kernel)) (by decide +kernel), ⟨by decide +kernel, by decide +kernel, by decide +kernel⟩, by decide⟩
theorem cal_X11_wrong : CalOK yX11_wrong cX11_wrong 1 none 0 := ⟨mem_g (List.mem_of_getElem? (i := 1499) (by decide +kernel)) (by decide +kernel), mem_g (List.mem_of_getElem? (i := 69) (by decide +kernel)) (by decide +kernel), ⟨by decide +kernel, by decide +kernel, by decide +kernel⟩, by decide⟩
theorem cal_X11_digit : CalOK yX11_digit cX11_digit 1 (some .int) 0 := ⟨mem_g (List.mem_of_getElem? (i := 1489) (by decide +kernel)) (by decide +kernel), mem_g (List.mem_of_getElem? (i := 69) (by decide +kernel)) (by decide +kernel), ⟨by decide +kernel, by decide +kernel, by decide +kernel⟩, by decide⟩
theorem cal_X11_takes : CalOK yX11_takes cX11_takes 2 (some .boolean) 1 := ⟨mem_g (List.mem_of_getElem? (i := 1511) (by decide +kernel)) (by decide +kernel), mem_g (List.mem_of_getElem? (i := 69) (by decide +kernel)) (by decide +kernel), ⟨by decide +kernel, by decide +kernel, by decide +kernel⟩, by decide⟩
theorem cal_X11_twoDigits : CalOK yX11_twoDigits cX11_twoDigits 2 (some .int) 0 := ⟨mem_g (List.mem_of_getElem? (i := 1503) (by decide +kernel)) (by decide +kernel), mem_g (List.mem_of_getElem? (i := 69) (by decide +kernel)) (by decide +kernel), ⟨by decide +kernel, by decide +kernel, by decide +kernel⟩, by decide⟩
theorem cal_X11_digits : CalOK yX11_digits cX11_digits 4 none 2 := ⟨mem_g (List.mem_of_getElem? (i := 1485) (by decide +kernel)) (by decide +kernel), mem_g (List.mem_of_getElem? (i := 69) (by decide +kernel)) (by decide +kernel), ⟨by decide +kernel, by decide +kernel, by decide +kernel⟩, by decide⟩
theorem cal_X11_must : CalOK yX11_must cX11_must 2 none 1 := ⟨mem_g (List.mem_of_getElem? (i := 1507) (by decide +kernel)) (by decide +kernel), mem_g (List.mem_of_getElem? (i := 69) (by decide +kernel)) (by decide +kernel), ⟨by decide +kernel, by decide +kernel, by decide +kernel⟩, by decide⟩
theorem cal_X11_put : CalOK yX11_put cX11_put 4 (some .int) 2 := ⟨mem_g (List.mem_of_getElem? (i := 1184) (by decide +kernel)) (by decide +kernel), mem_g (List.mem_of_getElem? (i := 69) (by decide +kernel)) (by decide +kernel), ⟨by decide +kernel, by decide +kernel, by decide +kernel⟩, by decide⟩
theorem cal_X11_demand : CalOK yX11_demand cX11_demand 8 (some .int) 6 := ⟨mem_g (List.mem_of_getElem? (i := 1227) (by decide +kernel)) (by decide +kernel), mem_g (List.mem_of_getElem? (i := 69) (by decide +kernel)) (by decide +kernel), ⟨by decide +kernel, by decide +kernel, by decide +kernel⟩, by decide⟩
theorem cal_X11_inflow : CalOK yX11_inflow cX11_inflow 4 (some .int) 3 := ⟨mem_g (List.mem_of_getElem? (i := 1199) (by decide +kernel)) (by decide +kernel), mem_g (List.mem_of_getElem? (i := 69) (by decide +kernel)) (by decide +kernel), ⟨by decide +kernel, by decide +kernel, by decide +kernel⟩, by decide⟩
theorem cal_X11_month : CalOK yX11_month cX11_month 4 (some .int) 3 := ⟨mem_g (List.mem_of_getElem? (i := 1223) (by decide +kernel)) (by decide +kernel), mem_g (List.mem_of_getElem? (i := 69) (by decide +kernel)) (by decide +kernel), ⟨by decide +kernel, by decide +kernel, by decide +kernel⟩, by decide⟩
theorem cal_X11_readClause : CalOK yX11_readClause cX11_readClause 3 none 1 := ⟨mem_g (List.mem_of_getElem? (i := 1481) (by decide +kernel)) (by decide +kernel), mem_g (List.mem_of_getElem? (i := 69) (by decide +kernel)) (by decide +kernel), ⟨by decide +kernel, by decide +kernel, by decide +kernel⟩, by decide⟩
theorem cal_X11_isDone : CalOK yX11_isDone cX11_isDone 4 (some .boolean) 1 := ⟨mem_g (List.mem_of_getElem? (i := 1515) (by decide +kernel)) (by decide +kernel), mem_g (List.mem_of_getElem? (i := 69) (by decide +kernel)) (by decide +kernel), ⟨by decide +kernel, by decide +kernel, by decide +kernel⟩, by decide⟩
theorem cal_X11_isTape : CalOK yX11_isTape cX11_isTape 1 (some .boolean) 1 := ⟨mem_g (List.mem_of_getElem? (i := 1526) (by decide +kernel)) (by decide +kernel), mem_g (List.mem_of_getElem? (i := 69) (by decide +kernel)) (by decide +kernel), ⟨by decide +kernel, by decide +kernel, by decide +kernel⟩, by decide⟩
theorem cal_X11_cutTo : CalOK yX11_cutTo cX11_cutTo 3 (some .long) 2 := ⟨mem_g (List.mem_of_getElem? (i := 1550) (by decide +kernel)) (by decide +kernel), mem_g (List.mem_of_getElem? (i := 69) (by decide +kernel)) (by decide +kernel), ⟨by decide +kernel, by decide +kernel, by decide +kernel⟩, by decide⟩
theorem vir_X5_copyFrom : VirOK yX5_copyFrom 5 := ⟨TX5, 6, rfl, mem_g (List.mem_of_getElem? (i := 533) (by decide +kernel)) (by decide +kernel), mem_g (List.mem_of_getElem? (i := 534) (by decide +kernel)) (by decide +kernel)⟩
theorem vir_X0_settingOf : VirOK yX0_settingOf 0 := ⟨TX0, 11, rfl, mem_g (List.mem_of_getElem? (i := 450) (by decide +kernel)) (by decide +kernel), mem_g (List.mem_of_getElem? (i := 451) (by decide +kernel)) (by decide +kernel)⟩
theorem vir_X0_allPartsFrom : VirOK yX0_allPartsFrom 0 := ⟨TX0, 11, rfl, mem_g (List.mem_of_getElem? (i := 474) (by decide +kernel)) (by decide +kernel), mem_g (List.mem_of_getElem? (i := 475) (by decide +kernel)) (by decide +kernel)⟩
theorem vir_X0_placeByRank : VirOK yX0_placeByRank 0 := ⟨TX0, 11, rfl, mem_g (List.mem_of_getElem? (i := 505) (by decide +kernel)) (by decide +kernel), mem_g (List.mem_of_getElem? (i := 506) (by decide +kernel)) (by decide +kernel)⟩
theorem vir_X0_sortByRank : VirOK yX0_sortByRank 0 := ⟨TX0, 11, rfl, mem_g (List.mem_of_getElem? (i := 502) (by decide +kernel)) (by decide +kernel), mem_g (List.mem_of_getElem? (i := 1) (by decide +kernel)) (by decide +kernel)⟩
theorem vir_X0_hasDemand : VirOK yX0_hasDemand 0 := ⟨TX0, 11, rfl, mem_g (List.mem_of_getElem? (i := 517) (by decide +kernel)) (by decide +kernel), mem_g (List.mem_of_getElem? (i := 518) (by decide +kernel)) (by decide +kernel)⟩
theorem vir_X5_tell : VirOK yX5_tell 5 := ⟨TX5, 6, rfl, mem_g (List.mem_of_getElem? (i := 521) (by decide +kernel)) (by decide +kernel), mem_g (List.mem_of_getElem? (i := 522) (by decide +kernel)) (by decide +kernel)⟩
theorem vir_X0_silence : VirOK yX0_silence 0 := ⟨TX0, 11, rfl, mem_g (List.mem_of_getElem? (i := 875) (by decide +kernel)) (by decide +kernel), mem_g (List.mem_of_getElem? (i := 876) (by decide +kernel)) (by decide +kernel)⟩
theorem vir_X0_inflowIn : VirOK yX0_inflowIn 0 := ⟨TX0, 11, rfl, mem_g (List.mem_of_getElem? (i := 669) (by decide +kernel)) (by decide +kernel), mem_g (List.mem_of_getElem? (i := 670) (by decide +kernel)) (by decide +kernel)⟩
theorem vir_X6_at : VirOK yX6_at 6 := ⟨TX6, 4, rfl, mem_g (List.mem_of_getElem? (i := 565) (by decide +kernel)) (by decide +kernel), mem_g (List.mem_of_getElem? (i := 566) (by decide +kernel)) (by decide +kernel)⟩
theorem vir_X0_nearestState : VirOK yX0_nearestState 0 := ⟨TX0, 11, rfl, mem_g (List.mem_of_getElem? (i := 909) (by decide +kernel)) (by decide +kernel), mem_g (List.mem_of_getElem? (i := 910) (by decide +kernel)) (by decide +kernel)⟩
theorem vir_X5_wantedIn : VirOK yX5_wantedIn 5 := ⟨TX5, 6, rfl, mem_g (List.mem_of_getElem? (i := 703) (by decide +kernel)) (by decide +kernel), mem_g (List.mem_of_getElem? (i := 704) (by decide +kernel)) (by decide +kernel)⟩
theorem vir_X5_trickleOf : VirOK yX5_trickleOf 5 := ⟨TX5, 6, rfl, mem_g (List.mem_of_getElem? (i := 726) (by decide +kernel)) (by decide +kernel), mem_g (List.mem_of_getElem? (i := 6) (by decide +kernel)) (by decide +kernel)⟩
theorem vir_X5_gainOf : VirOK yX5_gainOf 5 := ⟨TX5, 6, rfl, mem_g (List.mem_of_getElem? (i := 721) (by decide +kernel)) (by decide +kernel), mem_g (List.mem_of_getElem? (i := 722) (by decide +kernel)) (by decide +kernel)⟩
theorem vir_X0_topOf : VirOK yX0_topOf 0 := ⟨TX0, 11, rfl, mem_g (List.mem_of_getElem? (i := 673) (by decide +kernel)) (by decide +kernel), mem_g (List.mem_of_getElem? (i := 674) (by decide +kernel)) (by decide +kernel)⟩
theorem vir_X0_driedIn : VirOK yX0_driedIn 0 := ⟨TX0, 11, rfl, mem_g (List.mem_of_getElem? (i := 741) (by decide +kernel)) (by decide +kernel), mem_g (List.mem_of_getElem? (i := 742) (by decide +kernel)) (by decide +kernel)⟩
theorem vir_X1_valueOf : VirOK yX1_valueOf 1 := ⟨TX1, 4, rfl, mem_g (List.mem_of_getElem? (i := 790) (by decide +kernel)) (by decide +kernel), mem_g (List.mem_of_getElem? (i := 11) (by decide +kernel)) (by decide +kernel)⟩
theorem vir_X0_gainsOf : VirOK yX0_gainsOf 0 := ⟨TX0, 11, rfl, mem_g (List.mem_of_getElem? (i := 747) (by decide +kernel)) (by decide +kernel), mem_g (List.mem_of_getElem? (i := 748) (by decide +kernel)) (by decide +kernel)⟩
theorem vir_X1_fillMeans : VirOK yX1_fillMeans 1 := ⟨TX1, 4, rfl, mem_g (List.mem_of_getElem? (i := 778) (by decide +kernel)) (by decide +kernel), mem_g (List.mem_of_getElem? (i := 9) (by decide +kernel)) (by decide +kernel)⟩
theorem vir_X1_choose : VirOK yX1_choose 1 := ⟨TX1, 4, rfl, mem_g (List.mem_of_getElem? (i := 783) (by decide +kernel)) (by decide +kernel), mem_g (List.mem_of_getElem? (i := 10) (by decide +kernel)) (by decide +kernel)⟩
theorem vir_X2_weighFrom : VirOK yX2_weighFrom 2 := ⟨TX2, 7, rfl, mem_g (List.mem_of_getElem? (i := 848) (by decide +kernel)) (by decide +kernel), mem_g (List.mem_of_getElem? (i := 12) (by decide +kernel)) (by decide +kernel)⟩
theorem vir_X2_turnOn : VirOK yX2_turnOn 2 := ⟨TX2, 7, rfl, mem_g (List.mem_of_getElem? (i := 855) (by decide +kernel)) (by decide +kernel), mem_g (List.mem_of_getElem? (i := 13) (by decide +kernel)) (by decide +kernel)⟩
theorem vir_X3_takeNumber : VirOK yX3_takeNumber 3 := ⟨TX3, 3, rfl, mem_g (List.mem_of_getElem? (i := 632) (by decide +kernel)) (by decide +kernel), mem_g (List.mem_of_getElem? (i := 4) (by decide +kernel)) (by decide +kernel)⟩
theorem vir_X3_takeClause : VirOK yX3_takeClause 3 := ⟨TX3, 3, rfl, mem_g (List.mem_of_getElem? (i := 562) (by decide +kernel)) (by decide +kernel), mem_g (List.mem_of_getElem? (i := 3) (by decide +kernel)) (by decide +kernel)⟩
theorem vir_X0_addDemand : VirOK yX0_addDemand 0 := ⟨TX0, 11, rfl, mem_g (List.mem_of_getElem? (i := 490) (by decide +kernel)) (by decide +kernel), mem_g (List.mem_of_getElem? (i := 491) (by decide +kernel)) (by decide +kernel)⟩
theorem vir_X0_changeMonth : VirOK yX0_changeMonth 0 := ⟨TX0, 11, rfl, mem_g (List.mem_of_getElem? (i := 482) (by decide +kernel)) (by decide +kernel), mem_g (List.mem_of_getElem? (i := 483) (by decide +kernel)) (by decide +kernel)⟩
theorem vir_X0_changeSetting : VirOK yX0_changeSetting 0 := ⟨TX0, 11, rfl, mem_g (List.mem_of_getElem? (i := 439) (by decide +kernel)) (by decide +kernel), mem_g (List.mem_of_getElem? (i := 440) (by decide +kernel)) (by decide +kernel)⟩
theorem vir_X0_changeParts : VirOK yX0_changeParts 0 := ⟨TX0, 11, rfl, mem_g (List.mem_of_getElem? (i := 653) (by decide +kernel)) (by decide +kernel), mem_g (List.mem_of_getElem? (i := 654) (by decide +kernel)) (by decide +kernel)⟩
theorem vir_X0_changeInflow : VirOK yX0_changeInflow 0 := ⟨TX0, 11, rfl, mem_g (List.mem_of_getElem? (i := 458) (by decide +kernel)) (by decide +kernel), mem_g (List.mem_of_getElem? (i := 459) (by decide +kernel)) (by decide +kernel)⟩
theorem vir_X3_isDone : VirOK yX3_isDone 3 := ⟨TX3, 3, rfl, mem_g (List.mem_of_getElem? (i := 648) (by decide +kernel)) (by decide +kernel), mem_g (List.mem_of_getElem? (i := 5) (by decide +kernel)) (by decide +kernel)⟩
theorem vir_X0_isAhead : VirOK yX0_isAhead 0 := ⟨TX0, 11, rfl, mem_g (List.mem_of_getElem? (i := 808) (by decide +kernel)) (by decide +kernel), mem_g (List.mem_of_getElem? (i := 809) (by decide +kernel)) (by decide +kernel)⟩
theorem vir_X1_releaseAt : VirOK yX1_releaseAt 1 := ⟨TX1, 4, rfl, mem_g (List.mem_of_getElem? (i := 812) (by decide +kernel)) (by decide +kernel), mem_g (List.mem_of_getElem? (i := 813) (by decide +kernel)) (by decide +kernel)⟩
theorem vir_X7_go : VirOK yX7_go 7 := ⟨TX7, 6, rfl, mem_g (List.mem_of_getElem? (i := 737) (by decide +kernel)) (by decide +kernel), mem_g (List.mem_of_getElem? (i := 738) (by decide +kernel)) (by decide +kernel)⟩
theorem vir_X4_leastStore : VirOK yX4_leastStore 4 := ⟨TX4, 8, rfl, mem_g (List.mem_of_getElem? (i := 924) (by decide +kernel)) (by decide +kernel), mem_g (List.mem_of_getElem? (i := 18) (by decide +kernel)) (by decide +kernel)⟩
theorem vir_X0_gotBy : VirOK yX0_gotBy 0 := ⟨TX0, 11, rfl, mem_g (List.mem_of_getElem? (i := 713) (by decide +kernel)) (by decide +kernel), mem_g (List.mem_of_getElem? (i := 714) (by decide +kernel)) (by decide +kernel)⟩
theorem vir_X6_setInLast : VirOK yX6_setInLast 6 := ⟨TX6, 4, rfl, mem_g (List.mem_of_getElem? (i := 550) (by decide +kernel)) (by decide +kernel), mem_g (List.mem_of_getElem? (i := 2) (by decide +kernel)) (by decide +kernel)⟩
theorem vir_X6_add___ : VirOK yX6_add___ 6 := ⟨TX6, 4, rfl, mem_g (List.mem_of_getElem? (i := 545) (by decide +kernel)) (by decide +kernel), mem_g (List.mem_of_getElem? (i := 546) (by decide +kernel)) (by decide +kernel)⟩
theorem vir_X0_copyFrom : VirOK yX0_copyFrom 0 := ⟨TX0, 11, rfl, mem_g (List.mem_of_getElem? (i := 870) (by decide +kernel)) (by decide +kernel), mem_g (List.mem_of_getElem? (i := 871) (by decide +kernel)) (by decide +kernel)⟩
theorem vir_X6_copyFrom : VirOK yX6_copyFrom 6 := ⟨TX6, 4, rfl, mem_g (List.mem_of_getElem? (i := 1019) (by decide +kernel)) (by decide +kernel), mem_g (List.mem_of_getElem? (i := 1020) (by decide +kernel)) (by decide +kernel)⟩
theorem vir_X10_forgetFound : VirOK yX10_forgetFound 10 := ⟨TX10, 17, rfl, mem_g (List.mem_of_getElem? (i := 436) (by decide +kernel)) (by decide +kernel), mem_g (List.mem_of_getElem? (i := 0) (by decide +kernel)) (by decide +kernel)⟩
theorem vir_X0_changePart : VirOK yX0_changePart 0 := ⟨TX0, 11, rfl, mem_g (List.mem_of_getElem? (i := 470) (by decide +kernel)) (by decide +kernel), mem_g (List.mem_of_getElem? (i := 471) (by decide +kernel)) (by decide +kernel)⟩
theorem vir_X0_changeDemand : VirOK yX0_changeDemand 0 := ⟨TX0, 11, rfl, mem_g (List.mem_of_getElem? (i := 513) (by decide +kernel)) (by decide +kernel), mem_g (List.mem_of_getElem? (i := 514) (by decide +kernel)) (by decide +kernel)⟩
theorem vir_X0_removeDemand : VirOK yX0_removeDemand 0 := ⟨TX0, 11, rfl, mem_g (List.mem_of_getElem? (i := 529) (by decide +kernel)) (by decide +kernel), mem_g (List.mem_of_getElem? (i := 530) (by decide +kernel)) (by decide +kernel)⟩
theorem vir_X6_add : VirOK yX6_add 6 := ⟨TX6, 4, rfl, mem_g (List.mem_of_getElem? (i := 541) (by decide +kernel)) (by decide +kernel), mem_g (List.mem_of_getElem? (i := 542) (by decide +kernel)) (by decide +kernel)⟩
theorem vir_X3_takeAll : VirOK yX3_takeAll 3 := ⟨TX3, 3, rfl, mem_g (List.mem_of_getElem? (i := 557) (by decide +kernel)) (by decide +kernel), mem_g (List.mem_of_getElem? (i := 558) (by decide +kernel)) (by decide +kernel)⟩
theorem vir_X6_clear : VirOK yX6_clear 6 := ⟨TX6, 4, rfl, mem_g (List.mem_of_getElem? (i := 639) (by decide +kernel)) (by decide +kernel), mem_g (List.mem_of_getElem? (i := 640) (by decide +kernel)) (by decide +kernel)⟩
theorem vir_X3_doAll : VirOK yX3_doAll 3 := ⟨TX3, 3, rfl, mem_g (List.mem_of_getElem? (i := 643) (by decide +kernel)) (by decide +kernel), mem_g (List.mem_of_getElem? (i := 644) (by decide +kernel)) (by decide +kernel)⟩
theorem vir_X10_isStore : VirOK yX10_isStore 10 := ⟨TX10, 17, rfl, mem_g (List.mem_of_getElem? (i := 734) (by decide +kernel)) (by decide +kernel), mem_g (List.mem_of_getElem? (i := 7) (by decide +kernel)) (by decide +kernel)⟩
theorem vir_X7_tell : VirOK yX7_tell 7 := ⟨TX7, 6, rfl, mem_g (List.mem_of_getElem? (i := 752) (by decide +kernel)) (by decide +kernel), mem_g (List.mem_of_getElem? (i := 753) (by decide +kernel)) (by decide +kernel)⟩
theorem vir_X1_fillGains : VirOK yX1_fillGains 1 := ⟨TX1, 4, rfl, mem_g (List.mem_of_getElem? (i := 765) (by decide +kernel)) (by decide +kernel), mem_g (List.mem_of_getElem? (i := 766) (by decide +kernel)) (by decide +kernel)⟩
theorem vir_X1_sweep : VirOK yX1_sweep 1 := ⟨TX1, 4, rfl, mem_g (List.mem_of_getElem? (i := 770) (by decide +kernel)) (by decide +kernel), mem_g (List.mem_of_getElem? (i := 771) (by decide +kernel)) (by decide +kernel)⟩
theorem vir_X10_solveNow : VirOK yX10_solveNow 10 := ⟨TX10, 17, rfl, mem_g (List.mem_of_getElem? (i := 762) (by decide +kernel)) (by decide +kernel), mem_g (List.mem_of_getElem? (i := 8) (by decide +kernel)) (by decide +kernel)⟩
theorem vir_X1_bestAt : VirOK yX1_bestAt 1 := ⟨TX1, 4, rfl, mem_g (List.mem_of_getElem? (i := 794) (by decide +kernel)) (by decide +kernel), mem_g (List.mem_of_getElem? (i := 795) (by decide +kernel)) (by decide +kernel)⟩
theorem vir_X1_comesTo : VirOK yX1_comesTo 1 := ⟨TX1, 4, rfl, mem_g (List.mem_of_getElem? (i := 820) (by decide +kernel)) (by decide +kernel), mem_g (List.mem_of_getElem? (i := 821) (by decide +kernel)) (by decide +kernel)⟩
theorem vir_X2_load : VirOK yX2_load 2 := ⟨TX2, 7, rfl, mem_g (List.mem_of_getElem? (i := 828) (by decide +kernel)) (by decide +kernel), mem_g (List.mem_of_getElem? (i := 829) (by decide +kernel)) (by decide +kernel)⟩
theorem vir_X2_oddsAfter : VirOK yX2_oddsAfter 2 := ⟨TX2, 7, rfl, mem_g (List.mem_of_getElem? (i := 833) (by decide +kernel)) (by decide +kernel), mem_g (List.mem_of_getElem? (i := 834) (by decide +kernel)) (by decide +kernel)⟩
theorem vir_X2_findLikeliest : VirOK yX2_findLikeliest 2 := ⟨TX2, 7, rfl, mem_g (List.mem_of_getElem? (i := 841) (by decide +kernel)) (by decide +kernel), mem_g (List.mem_of_getElem? (i := 842) (by decide +kernel)) (by decide +kernel)⟩
theorem vir_X10_canBeWorth : VirOK yX10_canBeWorth 10 := ⟨TX10, 17, rfl, mem_g (List.mem_of_getElem? (i := 867) (by decide +kernel)) (by decide +kernel), mem_g (List.mem_of_getElem? (i := 14) (by decide +kernel)) (by decide +kernel)⟩
theorem vir_X10_solveThought : VirOK yX10_solveThought 10 := ⟨TX10, 17, rfl, mem_g (List.mem_of_getElem? (i := 880) (by decide +kernel)) (by decide +kernel), mem_g (List.mem_of_getElem? (i := 15) (by decide +kernel)) (by decide +kernel)⟩
theorem vir_X4_go : VirOK yX4_go 4 := ⟨TX4, 8, rfl, mem_g (List.mem_of_getElem? (i := 899) (by decide +kernel)) (by decide +kernel), mem_g (List.mem_of_getElem? (i := 900) (by decide +kernel)) (by decide +kernel)⟩
theorem vir_X10_canReplay : VirOK yX10_canReplay 10 := ⟨TX10, 17, rfl, mem_g (List.mem_of_getElem? (i := 892) (by decide +kernel)) (by decide +kernel), mem_g (List.mem_of_getElem? (i := 16) (by decide +kernel)) (by decide +kernel)⟩
theorem vir_X10_goThrough : VirOK yX10_goThrough 10 := ⟨TX10, 17, rfl, mem_g (List.mem_of_getElem? (i := 896) (by decide +kernel)) (by decide +kernel), mem_g (List.mem_of_getElem? (i := 17) (by decide +kernel)) (by decide +kernel)⟩
theorem vir_X4_tell : VirOK yX4_tell 4 := ⟨TX4, 8, rfl, mem_g (List.mem_of_getElem? (i := 919) (by decide +kernel)) (by decide +kernel), mem_g (List.mem_of_getElem? (i := 920) (by decide +kernel)) (by decide +kernel)⟩
theorem vir_X4_monthsWanting : VirOK yX4_monthsWanting 4 := ⟨TX4, 8, rfl, mem_g (List.mem_of_getElem? (i := 932) (by decide +kernel)) (by decide +kernel), mem_g (List.mem_of_getElem? (i := 933) (by decide +kernel)) (by decide +kernel)⟩
theorem vir_X4_monthsMet : VirOK yX4_monthsMet 4 := ⟨TX4, 8, rfl, mem_g (List.mem_of_getElem? (i := 937) (by decide +kernel)) (by decide +kernel), mem_g (List.mem_of_getElem? (i := 938) (by decide +kernel)) (by decide +kernel)⟩
theorem vir_X0_learnParts : VirOK yX0_learnParts 0 := ⟨TX0, 11, rfl, mem_g (List.mem_of_getElem? (i := 949) (by decide +kernel)) (by decide +kernel), mem_g (List.mem_of_getElem? (i := 950) (by decide +kernel)) (by decide +kernel)⟩
theorem vir_X10_goesAsSeen : VirOK yX10_goesAsSeen 10 := ⟨TX10, 17, rfl, mem_g (List.mem_of_getElem? (i := 971) (by decide +kernel)) (by decide +kernel), mem_g (List.mem_of_getElem? (i := 20) (by decide +kernel)) (by decide +kernel)⟩
theorem vir_X10_findFits : VirOK yX10_findFits 10 := ⟨TX10, 17, rfl, mem_g (List.mem_of_getElem? (i := 965) (by decide +kernel)) (by decide +kernel), mem_g (List.mem_of_getElem? (i := 19) (by decide +kernel)) (by decide +kernel)⟩
theorem vir_X6_add_ : VirOK yX6_add_ 6 := ⟨TX6, 4, rfl, mem_g (List.mem_of_getElem? (i := 978) (by decide +kernel)) (by decide +kernel), mem_g (List.mem_of_getElem? (i := 979) (by decide +kernel)) (by decide +kernel)⟩
theorem vir_X0_goByPlan : VirOK yX0_goByPlan 0 := ⟨TX0, 11, rfl, mem_g (List.mem_of_getElem? (i := 986) (by decide +kernel)) (by decide +kernel), mem_g (List.mem_of_getElem? (i := 987) (by decide +kernel)) (by decide +kernel)⟩
theorem vir_X6_add__ : VirOK yX6_add__ 6 := ⟨TX6, 4, rfl, mem_g (List.mem_of_getElem? (i := 995) (by decide +kernel)) (by decide +kernel), mem_g (List.mem_of_getElem? (i := 996) (by decide +kernel)) (by decide +kernel)⟩
theorem vir_X8_copyFrom : VirOK yX8_copyFrom 8 := ⟨TX8, 4, rfl, mem_g (List.mem_of_getElem? (i := 1014) (by decide +kernel)) (by decide +kernel), mem_g (List.mem_of_getElem? (i := 1015) (by decide +kernel)) (by decide +kernel)⟩
theorem vir_X9_become : VirOK yX9_become 9 := ⟨TX9, 3, rfl, mem_g (List.mem_of_getElem? (i := 1037) (by decide +kernel)) (by decide +kernel), mem_g (List.mem_of_getElem? (i := 1038) (by decide +kernel)) (by decide +kernel)⟩
theorem vir_X9_hasPlace : VirOK yX9_hasPlace 9 := ⟨TX9, 3, rfl, mem_g (List.mem_of_getElem? (i := 1045) (by decide +kernel)) (by decide +kernel), mem_g (List.mem_of_getElem? (i := 1046) (by decide +kernel)) (by decide +kernel)⟩
theorem vir_X9_asItem : VirOK yX9_asItem 9 := ⟨TX9, 3, rfl, mem_g (List.mem_of_getElem? (i := 1050) (by decide +kernel)) (by decide +kernel), mem_g (List.mem_of_getElem? (i := 1051) (by decide +kernel)) (by decide +kernel)⟩
theorem vir_X9_hasRange : VirOK yX9_hasRange 9 := ⟨TX9, 3, rfl, mem_g (List.mem_of_getElem? (i := 1062) (by decide +kernel)) (by decide +kernel), mem_g (List.mem_of_getElem? (i := 1063) (by decide +kernel)) (by decide +kernel)⟩
theorem vir_X11_becomes : VirOK yX11_becomes 11 := ⟨TX11, 36, rfl, mem_g (List.mem_of_getElem? (i := 1194) (by decide +kernel)) (by decide +kernel), mem_g (List.mem_of_getElem? (i := 21) (by decide +kernel)) (by decide +kernel)⟩
theorem vir_X11_part : VirOK yX11_part 11 := ⟨TX11, 36, rfl, mem_g (List.mem_of_getElem? (i := 1218) (by decide +kernel)) (by decide +kernel), mem_g (List.mem_of_getElem? (i := 23) (by decide +kernel)) (by decide +kernel)⟩
theorem vir_X11_parts : VirOK yX11_parts 11 := ⟨TX11, 36, rfl, mem_g (List.mem_of_getElem? (i := 1214) (by decide +kernel)) (by decide +kernel), mem_g (List.mem_of_getElem? (i := 22) (by decide +kernel)) (by decide +kernel)⟩
theorem vir_X11_isDemand : VirOK yX11_isDemand 11 := ⟨TX11, 36, rfl, mem_g (List.mem_of_getElem? (i := 1235) (by decide +kernel)) (by decide +kernel), mem_g (List.mem_of_getElem? (i := 24) (by decide +kernel)) (by decide +kernel)⟩
theorem vir_X11_top : VirOK yX11_top 11 := ⟨TX11, 36, rfl, mem_g (List.mem_of_getElem? (i := 1252) (by decide +kernel)) (by decide +kernel), mem_g (List.mem_of_getElem? (i := 25) (by decide +kernel)) (by decide +kernel)⟩
theorem vir_X11_at : VirOK yX11_at 11 := ⟨TX11, 36, rfl, mem_g (List.mem_of_getElem? (i := 1276) (by decide +kernel)) (by decide +kernel), mem_g (List.mem_of_getElem? (i := 28) (by decide +kernel)) (by decide +kernel)⟩
theorem vir_X11_isServedAhead : VirOK yX11_isServedAhead 11 := ⟨TX11, 36, rfl, mem_g (List.mem_of_getElem? (i := 1272) (by decide +kernel)) (by decide +kernel), mem_g (List.mem_of_getElem? (i := 27) (by decide +kernel)) (by decide +kernel)⟩
theorem vir_X11_rankOf : VirOK yX11_rankOf 11 := ⟨TX11, 36, rfl, mem_g (List.mem_of_getElem? (i := 1268) (by decide +kernel)) (by decide +kernel), mem_g (List.mem_of_getElem? (i := 26) (by decide +kernel)) (by decide +kernel)⟩
theorem vir_X11_wants : VirOK yX11_wants 11 := ⟨TX11, 36, rfl, mem_g (List.mem_of_getElem? (i := 1288) (by decide +kernel)) (by decide +kernel), mem_g (List.mem_of_getElem? (i := 29) (by decide +kernel)) (by decide +kernel)⟩
theorem vir_X11_byRank : VirOK yX11_byRank 11 := ⟨TX11, 36, rfl, mem_g (List.mem_of_getElem? (i := 1302) (by decide +kernel)) (by decide +kernel), mem_g (List.mem_of_getElem? (i := 31) (by decide +kernel)) (by decide +kernel)⟩
theorem vir_X11_gain : VirOK yX11_gain 11 := ⟨TX11, 36, rfl, mem_g (List.mem_of_getElem? (i := 1311) (by decide +kernel)) (by decide +kernel), mem_g (List.mem_of_getElem? (i := 33) (by decide +kernel)) (by decide +kernel)⟩
theorem vir_X11_ranks : VirOK yX11_ranks 11 := ⟨TX11, 36, rfl, mem_g (List.mem_of_getElem? (i := 1298) (by decide +kernel)) (by decide +kernel), mem_g (List.mem_of_getElem? (i := 30) (by decide +kernel)) (by decide +kernel)⟩
theorem vir_X11_serves : VirOK yX11_serves 11 := ⟨TX11, 36, rfl, mem_g (List.mem_of_getElem? (i := 1306) (by decide +kernel)) (by decide +kernel), mem_g (List.mem_of_getElem? (i := 32) (by decide +kernel)) (by decide +kernel)⟩
theorem vir_X11_isStore : VirOK yX11_isStore 11 := ⟨TX11, 36, rfl, mem_g (List.mem_of_getElem? (i := 1319) (by decide +kernel)) (by decide +kernel), mem_g (List.mem_of_getElem? (i := 34) (by decide +kernel)) (by decide +kernel)⟩
theorem vir_X11_goes : VirOK yX11_goes 11 := ⟨TX11, 36, rfl, mem_g (List.mem_of_getElem? (i := 1323) (by decide +kernel)) (by decide +kernel), mem_g (List.mem_of_getElem? (i := 35) (by decide +kernel)) (by decide +kernel)⟩
theorem vir_X11_mean : VirOK yX11_mean 11 := ⟨TX11, 36, rfl, mem_g (List.mem_of_getElem? (i := 1346) (by decide +kernel)) (by decide +kernel), mem_g (List.mem_of_getElem? (i := 39) (by decide +kernel)) (by decide +kernel)⟩
theorem vir_X11_comesTo : VirOK yX11_comesTo 11 := ⟨TX11, 36, rfl, mem_g (List.mem_of_getElem? (i := 1342) (by decide +kernel)) (by decide +kernel), mem_g (List.mem_of_getElem? (i := 38) (by decide +kernel)) (by decide +kernel)⟩
theorem vir_X11_findsOne : VirOK yX11_findsOne 11 := ⟨TX11, 36, rfl, mem_g (List.mem_of_getElem? (i := 1338) (by decide +kernel)) (by decide +kernel), mem_g (List.mem_of_getElem? (i := 37) (by decide +kernel)) (by decide +kernel)⟩
theorem vir_X11_finds : VirOK yX11_finds 11 := ⟨TX11, 36, rfl, mem_g (List.mem_of_getElem? (i := 1331) (by decide +kernel)) (by decide +kernel), mem_g (List.mem_of_getElem? (i := 36) (by decide +kernel)) (by decide +kernel)⟩
theorem vir_X11_isAhead : VirOK yX11_isAhead 11 := ⟨TX11, 36, rfl, mem_g (List.mem_of_getElem? (i := 1367) (by decide +kernel)) (by decide +kernel), mem_g (List.mem_of_getElem? (i := 40) (by decide +kernel)) (by decide +kernel)⟩
theorem vir_X11_findWay : VirOK yX11_findWay 11 := ⟨TX11, 36, rfl, mem_g (List.mem_of_getElem? (i := 1384) (by decide +kernel)) (by decide +kernel), mem_g (List.mem_of_getElem? (i := 41) (by decide +kernel)) (by decide +kernel)⟩
theorem vir_X11_bestNow : VirOK yX11_bestNow 11 := ⟨TX11, 36, rfl, mem_g (List.mem_of_getElem? (i := 1400) (by decide +kernel)) (by decide +kernel), mem_g (List.mem_of_getElem? (i := 42) (by decide +kernel)) (by decide +kernel)⟩
theorem vir_X11_nearest : VirOK yX11_nearest 11 := ⟨TX11, 36, rfl, mem_g (List.mem_of_getElem? (i := 1423) (by decide +kernel)) (by decide +kernel), mem_g (List.mem_of_getElem? (i := 45) (by decide +kernel)) (by decide +kernel)⟩
theorem vir_X11_isReplay : VirOK yX11_isReplay 11 := ⟨TX11, 36, rfl, mem_g (List.mem_of_getElem? (i := 1415) (by decide +kernel)) (by decide +kernel), mem_g (List.mem_of_getElem? (i := 43) (by decide +kernel)) (by decide +kernel)⟩
theorem vir_X11_replays : VirOK yX11_replays 11 := ⟨TX11, 36, rfl, mem_g (List.mem_of_getElem? (i := 1419) (by decide +kernel)) (by decide +kernel), mem_g (List.mem_of_getElem? (i := 44) (by decide +kernel)) (by decide +kernel)⟩
theorem vir_X11_isRelease : VirOK yX11_isRelease 11 := ⟨TX11, 36, rfl, mem_g (List.mem_of_getElem? (i := 1448) (by decide +kernel)) (by decide +kernel), mem_g (List.mem_of_getElem? (i := 47) (by decide +kernel)) (by decide +kernel)⟩
theorem vir_X11_isSeen : VirOK yX11_isSeen 11 := ⟨TX11, 36, rfl, mem_g (List.mem_of_getElem? (i := 1444) (by decide +kernel)) (by decide +kernel), mem_g (List.mem_of_getElem? (i := 46) (by decide +kernel)) (by decide +kernel)⟩
theorem vir_X11_isDigit : VirOK yX11_isDigit 11 := ⟨TX11, 36, rfl, mem_g (List.mem_of_getElem? (i := 1492) (by decide +kernel)) (by decide +kernel), mem_g (List.mem_of_getElem? (i := 51) (by decide +kernel)) (by decide +kernel)⟩
theorem vir_X11_wrong : VirOK yX11_wrong 11 := ⟨TX11, 36, rfl, mem_g (List.mem_of_getElem? (i := 1498) (by decide +kernel)) (by decide +kernel), mem_g (List.mem_of_getElem? (i := 52) (by decide +kernel)) (by decide +kernel)⟩
theorem vir_X11_digit : VirOK yX11_digit 11 := ⟨TX11, 36, rfl, mem_g (List.mem_of_getElem? (i := 1488) (by decide +kernel)) (by decide +kernel), mem_g (List.mem_of_getElem? (i := 50) (by decide +kernel)) (by decide +kernel)⟩
theorem vir_X11_takes : VirOK yX11_takes 11 := ⟨TX11, 36, rfl, mem_g (List.mem_of_getElem? (i := 1510) (by decide +kernel)) (by decide +kernel), mem_g (List.mem_of_getElem? (i := 55) (by decide +kernel)) (by decide +kernel)⟩
theorem vir_X11_twoDigits : VirOK yX11_twoDigits 11 := ⟨TX11, 36, rfl, mem_g (List.mem_of_getElem? (i := 1502) (by decide +kernel)) (by decide +kernel), mem_g (List.mem_of_getElem? (i := 53) (by decide +kernel)) (by decide +kernel)⟩
theorem vir_X11_digits : VirOK yX11_digits 11 := ⟨TX11, 36, rfl, mem_g (List.mem_of_getElem? (i := 1484) (by decide +kernel)) (by decide +kernel), mem_g (List.mem_of_getElem? (i := 49) (by decide +kernel)) (by decide +kernel)⟩
theorem vir_X11_must : VirOK yX11_must 11 := ⟨TX11, 36, rfl, mem_g (List.mem_of_getElem? (i := 1506) (by decide +kernel)) (by decide +kernel), mem_g (List.mem_of_getElem? (i := 54) (by decide +kernel)) (by decide +kernel)⟩
theorem vir_X11_put : VirOK yX11_put 11 := ⟨TX11, 36, rfl, mem_g (List.mem_of_getElem? (i := 1182) (by decide +kernel)) (by decide +kernel), mem_g (List.mem_of_getElem? (i := 1183) (by decide +kernel)) (by decide +kernel)⟩
theorem vir_X11_demand : VirOK yX11_demand 11 := ⟨TX11, 36, rfl, mem_g (List.mem_of_getElem? (i := 1225) (by decide +kernel)) (by decide +kernel), mem_g (List.mem_of_getElem? (i := 1226) (by decide +kernel)) (by decide +kernel)⟩
theorem vir_X11_inflow : VirOK yX11_inflow 11 := ⟨TX11, 36, rfl, mem_g (List.mem_of_getElem? (i := 1197) (by decide +kernel)) (by decide +kernel), mem_g (List.mem_of_getElem? (i := 1198) (by decide +kernel)) (by decide +kernel)⟩
theorem vir_X11_month : VirOK yX11_month 11 := ⟨TX11, 36, rfl, mem_g (List.mem_of_getElem? (i := 1221) (by decide +kernel)) (by decide +kernel), mem_g (List.mem_of_getElem? (i := 1222) (by decide +kernel)) (by decide +kernel)⟩
theorem vir_X11_readClause : VirOK yX11_readClause 11 := ⟨TX11, 36, rfl, mem_g (List.mem_of_getElem? (i := 1480) (by decide +kernel)) (by decide +kernel), mem_g (List.mem_of_getElem? (i := 48) (by decide +kernel)) (by decide +kernel)⟩
theorem vir_X11_isDone : VirOK yX11_isDone 11 := ⟨TX11, 36, rfl, mem_g (List.mem_of_getElem? (i := 1514) (by decide +kernel)) (by decide +kernel), mem_g (List.mem_of_getElem? (i := 56) (by decide +kernel)) (by decide +kernel)⟩
theorem lk_X0_50 : Cond.methodLink RX0 50 arraycopyName ∈ lw_g := mem_g (List.mem_of_getElem? (i := 873) (by decide +kernel)) (by decide +kernel)
theorem na_arraycopy : Cond.native arraycopyName ∈ lw_g := mem_g (List.mem_of_getElem? (i := 852) (by decide +kernel)) (by decide +kernel)
theorem st_arraycopy : Cond.static arraycopyName ∈ lw_g := mem_g (List.mem_of_getElem? (i := 851) (by decide +kernel)) (by decide +kernel)
theorem in_System : Cond.initialized "java/lang/System" ∈ lw_g := mem_g (List.mem_of_getElem? (i := 76) (by decide +kernel)) (by decide +kernel)
theorem lk_X0_56 : Cond.methodLink RX0 56 yX5_copyFrom ∈ lw_g := mem_g (List.mem_of_getElem? (i := 532) (by decide +kernel)) (by decide +kernel)
theorem st_X10_within : Cond.static yX10_within ∈ lw_g := mem_g (List.mem_of_getElem? (i := 443) (by decide +kernel)) (by decide +kernel)
theorem lk_X0_60 : Cond.methodLinkNest RX0 60 yX10_within "ReservoirMind" ∈ lw_tbl := List.mem_of_getElem? (i := 442) (by decide +kernel)
theorem gs_X0_64 : Cond.fieldLinkNest RX0 64 "ReservoirMind" "SETTING_LEAST" "[I" "ReservoirMind" ∈ lw_tbl := List.mem_of_getElem? (i := 445) (by decide +kernel)
theorem gs_X0_67 : Cond.fieldLinkNest RX0 67 "ReservoirMind" "SETTING_MOST" "[I" "ReservoirMind" ∈ lw_tbl := List.mem_of_getElem? (i := 447) (by decide +kernel)
theorem lk_X0_70 : Cond.methodLink RX0 70 yX0_settingOf ∈ lw_g := mem_g (List.mem_of_getElem? (i := 449) (by decide +kernel)) (by decide +kernel)
theorem lk_X10_134 : Cond.methodLink RX10 134 yX10_within ∈ lw_g := mem_g (List.mem_of_getElem? (i := 464) (by decide +kernel)) (by decide +kernel)
theorem st_X10_isState : Cond.static yX10_isState ∈ lw_g := mem_g (List.mem_of_getElem? (i := 462) (by decide +kernel)) (by decide +kernel)
theorem lk_X0_74 : Cond.methodLinkNest RX0 74 yX10_isState "ReservoirMind" ∈ lw_tbl := List.mem_of_getElem? (i := 461) (by decide +kernel)
theorem lk_X0_78 : Cond.methodLink RX0 78 yX0_allPartsFrom ∈ lw_g := mem_g (List.mem_of_getElem? (i := 473) (by decide +kernel)) (by decide +kernel)
theorem gs_X0_106 : Cond.fieldLinkNest RX0 106 "ReservoirMind" "RENEW_LEAST" "[I" "ReservoirMind" ∈ lw_tbl := List.mem_of_getElem? (i := 496) (by decide +kernel)
theorem gs_X0_109 : Cond.fieldLinkNest RX0 109 "ReservoirMind" "RENEW_MOST" "[I" "ReservoirMind" ∈ lw_tbl := List.mem_of_getElem? (i := 498) (by decide +kernel)
theorem lk_X0_143 : Cond.methodLink RX0 143 yX0_placeByRank ∈ lw_g := mem_g (List.mem_of_getElem? (i := 504) (by decide +kernel)) (by decide +kernel)
theorem st_X0_isFit : Cond.static yX0_isFit ∈ lw_g := mem_g (List.mem_of_getElem? (i := 494) (by decide +kernel)) (by decide +kernel)
theorem lk_X0_81 : Cond.methodLink RX0 81 yX0_isFit ∈ lw_g := mem_g (List.mem_of_getElem? (i := 493) (by decide +kernel)) (by decide +kernel)
theorem lk_X0_103 : Cond.methodLink RX0 103 yX0_sortByRank ∈ lw_g := mem_g (List.mem_of_getElem? (i := 500) (by decide +kernel)) (by decide +kernel)
theorem lk_X0_112 : Cond.methodLink RX0 112 yX0_hasDemand ∈ lw_g := mem_g (List.mem_of_getElem? (i := 516) (by decide +kernel)) (by decide +kernel)
theorem lk_X0_115 : Cond.methodLink RX0 115 yX5_tell ∈ lw_g := mem_g (List.mem_of_getElem? (i := 520) (by decide +kernel)) (by decide +kernel)
theorem lk_X0_118 : Cond.methodLink RX0 118 yX0_silence ∈ lw_g := mem_g (List.mem_of_getElem? (i := 989) (by decide +kernel)) (by decide +kernel)
theorem lk_X6_33 : Cond.methodLinkNest RX6 33 yX10_within "ReservoirMind" ∈ lw_tbl := List.mem_of_getElem? (i := 568) (by decide +kernel)
theorem lk_X0_137 : Cond.methodLink RX0 137 yX0_inflowIn ∈ lw_g := mem_g (List.mem_of_getElem? (i := 912) (by decide +kernel)) (by decide +kernel)
theorem lk_X0_140 : Cond.methodLink RX0 140 Lib.Math.abs.name ∈ lw_g := mem_g (List.mem_of_getElem? (i := 913) (by decide +kernel)) (by decide +kernel)
theorem co_Math_abs : Cond.code Lib.Math.abs.name Lib.Math.abs.code 1 (some .int) ∈ lw_g := mem_g (List.mem_of_getElem? (i := 915) (by decide +kernel)) (by decide +kernel)
theorem st_Math_abs : Cond.static Lib.Math.abs.name ∈ lw_g := mem_g (List.mem_of_getElem? (i := 914) (by decide +kernel)) (by decide +kernel)
theorem in_Math : Cond.initialized "java/lang/Math" ∈ lw_g := mem_g (List.mem_of_getElem? (i := 74) (by decide +kernel)) (by decide +kernel)
theorem lk_X0_125 : Cond.methodLink RX0 125 yX6_at ∈ lw_g := mem_g (List.mem_of_getElem? (i := 952) (by decide +kernel)) (by decide +kernel)
theorem lk_X0_129 : Cond.methodLink RX0 129 yX0_nearestState ∈ lw_g := mem_g (List.mem_of_getElem? (i := 953) (by decide +kernel)) (by decide +kernel)
theorem lk_X0_132 : Cond.methodLink RX0 132 Lib.Math.min.name ∈ lw_g := mem_g (List.mem_of_getElem? (i := 717) (by decide +kernel)) (by decide +kernel)
theorem co_Math_min : Cond.code Lib.Math.min.name Lib.Math.min.code 2 (some .int) ∈ lw_g := mem_g (List.mem_of_getElem? (i := 719) (by decide +kernel)) (by decide +kernel)
theorem st_Math_min : Cond.static Lib.Math.min.name ∈ lw_g := mem_g (List.mem_of_getElem? (i := 718) (by decide +kernel)) (by decide +kernel)
theorem lk_X5_30 : Cond.methodLinkNest RX5 30 yX10_within "ReservoirMind" ∈ lw_tbl := List.mem_of_getElem? (i := 706) (by decide +kernel)
theorem lk_X0_146 : Cond.methodLink RX0 146 yX5_wantedIn ∈ lw_g := mem_g (List.mem_of_getElem? (i := 716) (by decide +kernel)) (by decide +kernel)
theorem lk_X5_34 : Cond.methodLink RX5 34 yX5_trickleOf ∈ lw_g := mem_g (List.mem_of_getElem? (i := 724) (by decide +kernel)) (by decide +kernel)
theorem lk_X0_149 : Cond.methodLink RX0 149 yX5_gainOf ∈ lw_g := mem_g (List.mem_of_getElem? (i := 750) (by decide +kernel)) (by decide +kernel)
theorem st_X1_spot : Cond.static yX1_spot ∈ lw_g := mem_g (List.mem_of_getElem? (i := 774) (by decide +kernel)) (by decide +kernel)
theorem lk_X1_25 : Cond.methodLink RX1 25 yX1_spot ∈ lw_g := mem_g (List.mem_of_getElem? (i := 773) (by decide +kernel)) (by decide +kernel)
theorem lk_X1_75 : Cond.methodLink RX1 75 yX0_topOf ∈ lw_g := mem_g (List.mem_of_getElem? (i := 792) (by decide +kernel)) (by decide +kernel)
theorem lk_X1_38 : Cond.methodLink RX1 38 Lib.Math.min.name ∈ lw_g := mem_g (List.mem_of_getElem? (i := 787) (by decide +kernel)) (by decide +kernel)
theorem lk_X1_29 : Cond.methodLink RX1 29 yX0_driedIn ∈ lw_g := mem_g (List.mem_of_getElem? (i := 785) (by decide +kernel)) (by decide +kernel)
theorem lk_X1_35 : Cond.methodLink RX1 35 yX0_inflowIn ∈ lw_g := mem_g (List.mem_of_getElem? (i := 786) (by decide +kernel)) (by decide +kernel)
theorem lk_X1_43 : Cond.methodLink RX1 43 yX1_valueOf ∈ lw_g := mem_g (List.mem_of_getElem? (i := 788) (by decide +kernel)) (by decide +kernel)
theorem lk_X1_51 : Cond.methodLink RX1 51 yX0_gainsOf ∈ lw_g := mem_g (List.mem_of_getElem? (i := 768) (by decide +kernel)) (by decide +kernel)
theorem lk_X1_68 : Cond.methodLink RX1 68 yX0_allPartsFrom ∈ lw_g := mem_g (List.mem_of_getElem? (i := 780) (by decide +kernel)) (by decide +kernel)
theorem lk_X1_60 : Cond.methodLink RX1 60 yX1_fillMeans ∈ lw_g := mem_g (List.mem_of_getElem? (i := 776) (by decide +kernel)) (by decide +kernel)
theorem lk_X1_64 : Cond.methodLink RX1 64 yX1_choose ∈ lw_g := mem_g (List.mem_of_getElem? (i := 781) (by decide +kernel)) (by decide +kernel)
theorem lk_X2_35 : Cond.methodLink RX2 35 yX0_allPartsFrom ∈ lw_g := mem_g (List.mem_of_getElem? (i := 831) (by decide +kernel)) (by decide +kernel)
theorem lk_X2_44 : Cond.methodLink RX2 44 Lib.Math.min.name ∈ lw_g := mem_g (List.mem_of_getElem? (i := 844) (by decide +kernel)) (by decide +kernel)
theorem k_X2_50 : Cond.constantFloat RX2 50 (3212836864 : UInt32) ∈ lw_g := mem_g (List.mem_of_getElem? (i := 845) (by decide +kernel)) (by decide +kernel)
theorem lk_X2_51 : Cond.methodLink RX2 51 yX2_weighFrom ∈ lw_g := mem_g (List.mem_of_getElem? (i := 846) (by decide +kernel)) (by decide +kernel)
theorem lk_X2_54 : Cond.methodLink RX2 54 arraycopyName ∈ lw_g := mem_g (List.mem_of_getElem? (i := 850) (by decide +kernel)) (by decide +kernel)
theorem lk_X2_60 : Cond.methodLink RX2 60 yX2_turnOn ∈ lw_g := mem_g (List.mem_of_getElem? (i := 853) (by decide +kernel)) (by decide +kernel)
theorem fl_J0_9 : Cond.fieldLink RJ0 9 "java/lang/String" "value" "[B" ∈ lw_g := mem_g (List.mem_of_getElem? (i := 1560) (by decide +kernel)) (by decide +kernel)
theorem fl_J0_38 : Cond.fieldLink RJ0 38 "java/lang/String" "COMPACT_STRINGS" "Z" ∈ lw_g := mem_g (List.mem_of_getElem? (i := 590) (by decide +kernel)) (by decide +kernel)
theorem fl_J0_15 : Cond.fieldLink RJ0 15 "java/lang/String" "coder" "B" ∈ lw_g := mem_g (List.mem_of_getElem? (i := 1561) (by decide +kernel)) (by decide +kernel)
theorem lk_J0_335 : Cond.methodLink RJ0 335 yJ0_coder_7d493 ∈ lw_g := mem_g (List.mem_of_getElem? (i := 586) (by decide +kernel)) (by decide +kernel)
theorem im_J0_coder_7d493 : Cond.instanceMethod yJ0_coder_7d493 ∈ lw_g := mem_g (List.mem_of_getElem? (i := 587) (by decide +kernel)) (by decide +kernel)
theorem se_J0_coder_7d493 : Cond.selects RJ0 yJ0_coder_7d493 yJ0_coder_7d493 ∈ lw_g := mem_g (List.mem_of_getElem? (i := 588) (by decide +kernel)) (by decide +kernel)
theorem fl_J0_1053 : Cond.fieldLink RJ0 1053 "jdk/internal/util/Preconditions" "SIOOBE_FORMATTER" "Ljava/util/function/BiFunction;" ∈ lw_g := mem_g (List.mem_of_getElem? (i := 606) (by decide +kernel)) (by decide +kernel)
theorem st_J3_checkIndex_8e157 : Cond.static yJ3_checkIndex_8e157 ∈ lw_g := mem_g (List.mem_of_getElem? (i := 609) (by decide +kernel)) (by decide +kernel)
theorem lk_J0_1059 : Cond.methodLink RJ0 1059 yJ3_checkIndex_8e157 ∈ lw_g := mem_g (List.mem_of_getElem? (i := 608) (by decide +kernel)) (by decide +kernel)
theorem st_J0_checkIndex_df160 : Cond.static yJ0_checkIndex_df160 ∈ lw_g := mem_g (List.mem_of_getElem? (i := 604) (by decide +kernel)) (by decide +kernel)
theorem lk_J1_9 : Cond.methodLink RJ1 9 yJ0_checkIndex_df160 ∈ lw_g := mem_g (List.mem_of_getElem? (i := 603) (by decide +kernel)) (by decide +kernel)
theorem lk_J0_492 : Cond.methodLink RJ0 492 yJ0_isLatin1_aae02 ∈ lw_g := mem_g (List.mem_of_getElem? (i := 596) (by decide +kernel)) (by decide +kernel)
theorem im_J0_isLatin1_aae02 : Cond.instanceMethod yJ0_isLatin1_aae02 ∈ lw_g := mem_g (List.mem_of_getElem? (i := 597) (by decide +kernel)) (by decide +kernel)
theorem se_J0_isLatin1_aae02 : Cond.selects RJ0 yJ0_isLatin1_aae02 yJ0_isLatin1_aae02 ∈ lw_g := mem_g (List.mem_of_getElem? (i := 598) (by decide +kernel)) (by decide +kernel)
theorem st_J1_charAt_3b067 : Cond.static yJ1_charAt_3b067 ∈ lw_g := mem_g (List.mem_of_getElem? (i := 601) (by decide +kernel)) (by decide +kernel)
theorem lk_J0_495 : Cond.methodLink RJ0 495 yJ1_charAt_3b067 ∈ lw_g := mem_g (List.mem_of_getElem? (i := 600) (by decide +kernel)) (by decide +kernel)
theorem lk_X3_71 : Cond.methodLinkNest RX3 71 yX10_within "ReservoirMind" ∈ lw_tbl := List.mem_of_getElem? (i := 637) (by decide +kernel)
theorem lk_X3_29 : Cond.methodLink RX3 29 yX6_at ∈ lw_g := mem_g (List.mem_of_getElem? (i := 564) (by decide +kernel)) (by decide +kernel)
theorem st_X3_isDigit : Cond.static yX3_isDigit ∈ lw_g := mem_g (List.mem_of_getElem? (i := 635) (by decide +kernel)) (by decide +kernel)
theorem lk_X3_67 : Cond.methodLink RX3 67 yX3_isDigit ∈ lw_g := mem_g (List.mem_of_getElem? (i := 634) (by decide +kernel)) (by decide +kernel)
theorem st_X3_formOf : Cond.static yX3_formOf ∈ lw_g := mem_g (List.mem_of_getElem? (i := 570) (by decide +kernel)) (by decide +kernel)
theorem lk_X3_45 : Cond.methodLink RX3 45 yX3_formOf ∈ lw_g := mem_g (List.mem_of_getElem? (i := 569) (by decide +kernel)) (by decide +kernel)
theorem lk_X3_49 : Cond.methodLink RX3 49 yJ0_isEmpty_aae02 ∈ lw_g := mem_g (List.mem_of_getElem? (i := 578) (by decide +kernel)) (by decide +kernel)
theorem im_J0_isEmpty_aae02 : Cond.instanceMethod yJ0_isEmpty_aae02 ∈ lw_g := mem_g (List.mem_of_getElem? (i := 579) (by decide +kernel)) (by decide +kernel)
theorem se_J0_isEmpty_aae02 : Cond.selects RJ0 yJ0_isEmpty_aae02 yJ0_isEmpty_aae02 ∈ lw_g := mem_g (List.mem_of_getElem? (i := 580) (by decide +kernel)) (by decide +kernel)
theorem lk_X3_55 : Cond.methodLink RX3 55 yJ0_length_8abf5 ∈ lw_g := mem_g (List.mem_of_getElem? (i := 582) (by decide +kernel)) (by decide +kernel)
theorem im_J0_length_8abf5 : Cond.instanceMethod yJ0_length_8abf5 ∈ lw_g := mem_g (List.mem_of_getElem? (i := 583) (by decide +kernel)) (by decide +kernel)
theorem se_J0_length_8abf5 : Cond.selects RJ0 yJ0_length_8abf5 yJ0_length_8abf5 ∈ lw_g := mem_g (List.mem_of_getElem? (i := 584) (by decide +kernel)) (by decide +kernel)
theorem lk_X3_59 : Cond.methodLink RX3 59 yJ0_charAt_5068e ∈ lw_g := mem_g (List.mem_of_getElem? (i := 592) (by decide +kernel)) (by decide +kernel)
theorem im_J0_charAt_5068e : Cond.instanceMethod yJ0_charAt_5068e ∈ lw_g := mem_g (List.mem_of_getElem? (i := 593) (by decide +kernel)) (by decide +kernel)
theorem se_J0_charAt_5068e : Cond.selects RJ0 yJ0_charAt_5068e yJ0_charAt_5068e ∈ lw_g := mem_g (List.mem_of_getElem? (i := 594) (by decide +kernel)) (by decide +kernel)
theorem lk_X3_63 : Cond.methodLink RX3 63 yX3_takeNumber ∈ lw_g := mem_g (List.mem_of_getElem? (i := 630) (by decide +kernel)) (by decide +kernel)
theorem lk_X3_22 : Cond.methodLink RX3 22 yX3_takeClause ∈ lw_g := mem_g (List.mem_of_getElem? (i := 560) (by decide +kernel)) (by decide +kernel)
theorem lk_X3_79 : Cond.methodLink RX3 79 yX0_addDemand ∈ lw_g := mem_g (List.mem_of_getElem? (i := 650) (by decide +kernel)) (by decide +kernel)
theorem lk_X3_93 : Cond.methodLink RX3 93 yX0_changeMonth ∈ lw_g := mem_g (List.mem_of_getElem? (i := 656) (by decide +kernel)) (by decide +kernel)
theorem lk_X3_96 : Cond.methodLink RX3 96 yX0_changeSetting ∈ lw_g := mem_g (List.mem_of_getElem? (i := 657) (by decide +kernel)) (by decide +kernel)
theorem lk_X3_89 : Cond.methodLink RX3 89 yX0_changeParts ∈ lw_g := mem_g (List.mem_of_getElem? (i := 652) (by decide +kernel)) (by decide +kernel)
theorem lk_X3_85 : Cond.methodLink RX3 85 yX0_changeInflow ∈ lw_g := mem_g (List.mem_of_getElem? (i := 651) (by decide +kernel)) (by decide +kernel)
theorem lk_X3_75 : Cond.methodLink RX3 75 yX3_isDone ∈ lw_g := mem_g (List.mem_of_getElem? (i := 646) (by decide +kernel)) (by decide +kernel)
theorem lk_X4_70 : Cond.methodLink RX4 70 yX0_isAhead ∈ lw_g := mem_g (List.mem_of_getElem? (i := 907) (by decide +kernel)) (by decide +kernel)
theorem lk_X4_76 : Cond.methodLink RX4 76 yX0_nearestState ∈ lw_g := mem_g (List.mem_of_getElem? (i := 908) (by decide +kernel)) (by decide +kernel)
theorem lk_X4_79 : Cond.methodLink RX4 79 yX1_releaseAt ∈ lw_g := mem_g (List.mem_of_getElem? (i := 916) (by decide +kernel)) (by decide +kernel)
theorem lk_X7_30 : Cond.methodLink RX7 30 yX0_driedIn ∈ lw_g := mem_g (List.mem_of_getElem? (i := 740) (by decide +kernel)) (by decide +kernel)
theorem lk_X7_36 : Cond.methodLink RX7 36 Lib.Math.min.name ∈ lw_g := mem_g (List.mem_of_getElem? (i := 744) (by decide +kernel)) (by decide +kernel)
theorem lk_X7_41 : Cond.methodLink RX7 41 yX0_topOf ∈ lw_g := mem_g (List.mem_of_getElem? (i := 745) (by decide +kernel)) (by decide +kernel)
theorem lk_X7_45 : Cond.methodLink RX7 45 yX0_gainsOf ∈ lw_g := mem_g (List.mem_of_getElem? (i := 746) (by decide +kernel)) (by decide +kernel)
theorem lk_X4_46 : Cond.methodLink RX4 46 Lib.Math.min.name ∈ lw_g := mem_g (List.mem_of_getElem? (i := 902) (by decide +kernel)) (by decide +kernel)
theorem lk_X4_52 : Cond.methodLink RX4 52 yX6_at ∈ lw_g := mem_g (List.mem_of_getElem? (i := 903) (by decide +kernel)) (by decide +kernel)
theorem st_X4_bestRelease : Cond.static yX4_bestRelease ∈ lw_g := mem_g (List.mem_of_getElem? (i := 905) (by decide +kernel)) (by decide +kernel)
theorem lk_X4_55 : Cond.methodLink RX4 55 yX4_bestRelease ∈ lw_g := mem_g (List.mem_of_getElem? (i := 904) (by decide +kernel)) (by decide +kernel)
theorem lk_X4_59 : Cond.methodLink RX4 59 yX7_go ∈ lw_g := mem_g (List.mem_of_getElem? (i := 917) (by decide +kernel)) (by decide +kernel)
theorem lk_X4_85 : Cond.methodLink RX4 85 yX4_leastStore ∈ lw_g := mem_g (List.mem_of_getElem? (i := 922) (by decide +kernel)) (by decide +kernel)
theorem k_X4_89 : Cond.constantLong RX4 89 (-9223372036854775808 : Int64) ∈ lw_g := mem_g (List.mem_of_getElem? (i := 926) (by decide +kernel)) (by decide +kernel)
theorem lk_X4_95 : Cond.methodLink RX4 95 yX5_wantedIn ∈ lw_g := mem_g (List.mem_of_getElem? (i := 935) (by decide +kernel)) (by decide +kernel)
theorem lk_X4_101 : Cond.methodLink RX4 101 yX0_gotBy ∈ lw_g := mem_g (List.mem_of_getElem? (i := 940) (by decide +kernel)) (by decide +kernel)
theorem lk_X6_29 : Cond.methodLink RX6 29 yX6_setInLast ∈ lw_g := mem_g (List.mem_of_getElem? (i := 548) (by decide +kernel)) (by decide +kernel)
theorem lk_X6_25 : Cond.methodLink RX6 25 yX6_add___ ∈ lw_g := mem_g (List.mem_of_getElem? (i := 544) (by decide +kernel)) (by decide +kernel)
theorem lk_X6_37 : Cond.methodLink RX6 37 Lib.Math.min.name ∈ lw_g := mem_g (List.mem_of_getElem? (i := 1022) (by decide +kernel)) (by decide +kernel)
theorem lk_X6_43 : Cond.methodLink RX6 43 arraycopyName ∈ lw_g := mem_g (List.mem_of_getElem? (i := 1023) (by decide +kernel)) (by decide +kernel)
theorem k_X7_51 : Cond.constantLong RX7 51 (-9223372036854775808 : Int64) ∈ lw_g := mem_g (List.mem_of_getElem? (i := 755) (by decide +kernel)) (by decide +kernel)
theorem lk_X8_33 : Cond.methodLink RX8 33 yX0_copyFrom ∈ lw_g := mem_g (List.mem_of_getElem? (i := 1017) (by decide +kernel)) (by decide +kernel)
theorem lk_X8_37 : Cond.methodLink RX8 37 yX6_copyFrom ∈ lw_g := mem_g (List.mem_of_getElem? (i := 1018) (by decide +kernel)) (by decide +kernel)
theorem lk_X9_22 : Cond.methodLinkNest RX9 22 yX10_within "ReservoirMind" ∈ lw_tbl := List.mem_of_getElem? (i := 1048) (by decide +kernel)
theorem lk_X10_103 : Cond.methodLink RX10 103 yX10_forgetFound ∈ lw_g := mem_g (List.mem_of_getElem? (i := 434) (by decide +kernel)) (by decide +kernel)
theorem lk_X10_109 : Cond.methodLink RX10 109 yX0_changeSetting ∈ lw_g := mem_g (List.mem_of_getElem? (i := 438) (by decide +kernel)) (by decide +kernel)
theorem lk_X10_113 : Cond.methodLink RX10 113 yX0_changeInflow ∈ lw_g := mem_g (List.mem_of_getElem? (i := 457) (by decide +kernel)) (by decide +kernel)
theorem lk_X10_117 : Cond.methodLink RX10 117 yX0_changePart ∈ lw_g := mem_g (List.mem_of_getElem? (i := 469) (by decide +kernel)) (by decide +kernel)
theorem lk_X10_120 : Cond.methodLink RX10 120 yX0_changeMonth ∈ lw_g := mem_g (List.mem_of_getElem? (i := 481) (by decide +kernel)) (by decide +kernel)
theorem lk_X10_123 : Cond.methodLink RX10 123 yX0_addDemand ∈ lw_g := mem_g (List.mem_of_getElem? (i := 489) (by decide +kernel)) (by decide +kernel)
theorem lk_X10_127 : Cond.methodLink RX10 127 yX0_changeDemand ∈ lw_g := mem_g (List.mem_of_getElem? (i := 512) (by decide +kernel)) (by decide +kernel)
theorem lk_X10_130 : Cond.methodLink RX10 130 yX0_removeDemand ∈ lw_g := mem_g (List.mem_of_getElem? (i := 528) (by decide +kernel)) (by decide +kernel)
theorem lk_X10_138 : Cond.methodLink RX10 138 yX6_add ∈ lw_g := mem_g (List.mem_of_getElem? (i := 540) (by decide +kernel)) (by decide +kernel)
theorem lk_X10_141 : Cond.methodLink RX10 141 yX3_takeAll ∈ lw_g := mem_g (List.mem_of_getElem? (i := 556) (by decide +kernel)) (by decide +kernel)
theorem lk_X10_145 : Cond.methodLink RX10 145 yX6_clear ∈ lw_g := mem_g (List.mem_of_getElem? (i := 638) (by decide +kernel)) (by decide +kernel)
theorem lk_X10_149 : Cond.methodLink RX10 149 yX3_doAll ∈ lw_g := mem_g (List.mem_of_getElem? (i := 642) (by decide +kernel)) (by decide +kernel)
theorem lk_X10_156 : Cond.methodLink RX10 156 yX0_settingOf ∈ lw_g := mem_g (List.mem_of_getElem? (i := 663) (by decide +kernel)) (by decide +kernel)
theorem lk_X10_159 : Cond.methodLink RX10 159 yX0_inflowIn ∈ lw_g := mem_g (List.mem_of_getElem? (i := 668) (by decide +kernel)) (by decide +kernel)
theorem lk_X10_169 : Cond.methodLink RX10 169 yX0_topOf ∈ lw_g := mem_g (List.mem_of_getElem? (i := 672) (by decide +kernel)) (by decide +kernel)
theorem lk_X10_172 : Cond.methodLink RX10 172 yX10_isState ∈ lw_g := mem_g (List.mem_of_getElem? (i := 680) (by decide +kernel)) (by decide +kernel)
theorem lk_X10_176 : Cond.methodLink RX10 176 yX0_allPartsFrom ∈ lw_g := mem_g (List.mem_of_getElem? (i := 681) (by decide +kernel)) (by decide +kernel)
theorem lk_X10_182 : Cond.methodLink RX10 182 yX0_hasDemand ∈ lw_g := mem_g (List.mem_of_getElem? (i := 686) (by decide +kernel)) (by decide +kernel)
theorem lk_X10_192 : Cond.methodLink RX10 192 yX5_tell ∈ lw_g := mem_g (List.mem_of_getElem? (i := 688) (by decide +kernel)) (by decide +kernel)
theorem lk_X10_185 : Cond.methodLink RX10 185 yX0_placeByRank ∈ lw_g := mem_g (List.mem_of_getElem? (i := 687) (by decide +kernel)) (by decide +kernel)
theorem gs_X10_374 : Cond.fieldLink RX10 374 "ReservoirMind" "KIND_ABOVE" "[I" ∈ lw_g := mem_g (List.mem_of_getElem? (i := 696) (by decide +kernel)) (by decide +kernel)
theorem st_X10_isUnder : Cond.static yX10_isUnder ∈ lw_g := mem_g (List.mem_of_getElem? (i := 694) (by decide +kernel)) (by decide +kernel)
theorem lk_X10_200 : Cond.methodLink RX10 200 yX10_isUnder ∈ lw_g := mem_g (List.mem_of_getElem? (i := 693) (by decide +kernel)) (by decide +kernel)
theorem lk_X10_204 : Cond.methodLink RX10 204 yX5_wantedIn ∈ lw_g := mem_g (List.mem_of_getElem? (i := 702) (by decide +kernel)) (by decide +kernel)
theorem k_X10_207 : Cond.constantLong RX10 207 (-9223372036854775808 : Int64) ∈ lw_g := mem_g (List.mem_of_getElem? (i := 711) (by decide +kernel)) (by decide +kernel)
theorem lk_X10_209 : Cond.methodLink RX10 209 yX0_gotBy ∈ lw_g := mem_g (List.mem_of_getElem? (i := 712) (by decide +kernel)) (by decide +kernel)
theorem lk_X10_212 : Cond.methodLink RX10 212 yX5_gainOf ∈ lw_g := mem_g (List.mem_of_getElem? (i := 720) (by decide +kernel)) (by decide +kernel)
theorem lk_X10_215 : Cond.methodLink RX10 215 yX10_isStore ∈ lw_g := mem_g (List.mem_of_getElem? (i := 732) (by decide +kernel)) (by decide +kernel)
theorem lk_X10_218 : Cond.methodLink RX10 218 yX7_go ∈ lw_g := mem_g (List.mem_of_getElem? (i := 736) (by decide +kernel)) (by decide +kernel)
theorem lk_X10_222 : Cond.methodLink RX10 222 yX7_tell ∈ lw_g := mem_g (List.mem_of_getElem? (i := 751) (by decide +kernel)) (by decide +kernel)
theorem lk_X10_377 : Cond.methodLink RX10 377 yX1_fillGains ∈ lw_g := mem_g (List.mem_of_getElem? (i := 764) (by decide +kernel)) (by decide +kernel)
theorem lk_X10_381 : Cond.methodLink RX10 381 yX1_sweep ∈ lw_g := mem_g (List.mem_of_getElem? (i := 769) (by decide +kernel)) (by decide +kernel)
theorem k_X10_394 : Cond.constantFloat RX10 394 (1258291200 : UInt32) ∈ lw_g := mem_g (List.mem_of_getElem? (i := 800) (by decide +kernel)) (by decide +kernel)
theorem k_X10_395 : Cond.constant RX10 395 (8388608 : Int32) ∈ lw_g := mem_g (List.mem_of_getElem? (i := 801) (by decide +kernel)) (by decide +kernel)
theorem k_X10_396 : Cond.constant RX10 396 (-2147483648 : Int32) ∈ lw_g := mem_g (List.mem_of_getElem? (i := 802) (by decide +kernel)) (by decide +kernel)
theorem lk_X10_228 : Cond.methodLink RX10 228 yX10_solveNow ∈ lw_g := mem_g (List.mem_of_getElem? (i := 760) (by decide +kernel)) (by decide +kernel)
theorem lk_X10_231 : Cond.methodLink RX10 231 yX1_bestAt ∈ lw_g := mem_g (List.mem_of_getElem? (i := 793) (by decide +kernel)) (by decide +kernel)
theorem st_X10_bitsOf : Cond.static yX10_bitsOf ∈ lw_g := mem_g (List.mem_of_getElem? (i := 798) (by decide +kernel)) (by decide +kernel)
theorem lk_X10_235 : Cond.methodLink RX10 235 yX10_bitsOf ∈ lw_g := mem_g (List.mem_of_getElem? (i := 797) (by decide +kernel)) (by decide +kernel)
theorem lk_X10_239 : Cond.methodLink RX10 239 yX0_isAhead ∈ lw_g := mem_g (List.mem_of_getElem? (i := 807) (by decide +kernel)) (by decide +kernel)
theorem lk_X10_242 : Cond.methodLink RX10 242 yX1_releaseAt ∈ lw_g := mem_g (List.mem_of_getElem? (i := 811) (by decide +kernel)) (by decide +kernel)
theorem lk_X10_245 : Cond.methodLink RX10 245 yX1_comesTo ∈ lw_g := mem_g (List.mem_of_getElem? (i := 819) (by decide +kernel)) (by decide +kernel)
theorem lk_X10_249 : Cond.methodLink RX10 249 yX2_load ∈ lw_g := mem_g (List.mem_of_getElem? (i := 827) (by decide +kernel)) (by decide +kernel)
theorem lk_X10_253 : Cond.methodLink RX10 253 yX2_oddsAfter ∈ lw_g := mem_g (List.mem_of_getElem? (i := 832) (by decide +kernel)) (by decide +kernel)
theorem lk_X10_256 : Cond.methodLink RX10 256 yX2_findLikeliest ∈ lw_g := mem_g (List.mem_of_getElem? (i := 840) (by decide +kernel)) (by decide +kernel)
theorem lk_X10_266 : Cond.methodLink RX10 266 yX10_canBeWorth ∈ lw_g := mem_g (List.mem_of_getElem? (i := 865) (by decide +kernel)) (by decide +kernel)
theorem lk_X10_269 : Cond.methodLink RX10 269 yX0_copyFrom ∈ lw_g := mem_g (List.mem_of_getElem? (i := 869) (by decide +kernel)) (by decide +kernel)
theorem lk_X10_272 : Cond.methodLink RX10 272 yX0_silence ∈ lw_g := mem_g (List.mem_of_getElem? (i := 874) (by decide +kernel)) (by decide +kernel)
theorem lk_X10_279 : Cond.methodLink RX10 279 yX10_solveThought ∈ lw_g := mem_g (List.mem_of_getElem? (i := 878) (by decide +kernel)) (by decide +kernel)
theorem lk_X10_384 : Cond.methodLink RX10 384 yX4_go ∈ lw_g := mem_g (List.mem_of_getElem? (i := 898) (by decide +kernel)) (by decide +kernel)
theorem lk_X10_282 : Cond.methodLink RX10 282 yX10_canReplay ∈ lw_g := mem_g (List.mem_of_getElem? (i := 890) (by decide +kernel)) (by decide +kernel)
theorem lk_X10_286 : Cond.methodLink RX10 286 yX10_goThrough ∈ lw_g := mem_g (List.mem_of_getElem? (i := 894) (by decide +kernel)) (by decide +kernel)
theorem lk_X10_290 : Cond.methodLink RX10 290 yX4_tell ∈ lw_g := mem_g (List.mem_of_getElem? (i := 918) (by decide +kernel)) (by decide +kernel)
theorem lk_X10_291 : Cond.methodLink RX10 291 yX4_monthsWanting ∈ lw_g := mem_g (List.mem_of_getElem? (i := 931) (by decide +kernel)) (by decide +kernel)
theorem lk_X10_295 : Cond.methodLink RX10 295 yX4_monthsMet ∈ lw_g := mem_g (List.mem_of_getElem? (i := 936) (by decide +kernel)) (by decide +kernel)
theorem st_X10_commonDivisor : Cond.static yX10_commonDivisor ∈ lw_g := mem_g (List.mem_of_getElem? (i := 942) (by decide +kernel)) (by decide +kernel)
theorem lk_X10_298 : Cond.methodLink RX10 298 yX10_commonDivisor ∈ lw_g := mem_g (List.mem_of_getElem? (i := 941) (by decide +kernel)) (by decide +kernel)
theorem lk_X10_301 : Cond.methodLink RX10 301 yX0_learnParts ∈ lw_g := mem_g (List.mem_of_getElem? (i := 948) (by decide +kernel)) (by decide +kernel)
theorem lk_X10_308 : Cond.methodLink RX10 308 yX6_add___ ∈ lw_g := mem_g (List.mem_of_getElem? (i := 958) (by decide +kernel)) (by decide +kernel)
theorem lk_X10_319 : Cond.methodLink RX10 319 yX6_at ∈ lw_g := mem_g (List.mem_of_getElem? (i := 967) (by decide +kernel)) (by decide +kernel)
theorem lk_X10_325 : Cond.methodLink RX10 325 Lib.Math.min.name ∈ lw_g := mem_g (List.mem_of_getElem? (i := 968) (by decide +kernel)) (by decide +kernel)
theorem lk_X10_390 : Cond.methodLink RX10 390 yX10_goesAsSeen ∈ lw_g := mem_g (List.mem_of_getElem? (i := 969) (by decide +kernel)) (by decide +kernel)
theorem lk_X10_311 : Cond.methodLink RX10 311 yX10_findFits ∈ lw_g := mem_g (List.mem_of_getElem? (i := 963) (by decide +kernel)) (by decide +kernel)
theorem lk_X10_317 : Cond.methodLink RX10 317 yX6_add_ ∈ lw_g := mem_g (List.mem_of_getElem? (i := 977) (by decide +kernel)) (by decide +kernel)
theorem lk_X10_322 : Cond.methodLink RX10 322 yX0_goByPlan ∈ lw_g := mem_g (List.mem_of_getElem? (i := 985) (by decide +kernel)) (by decide +kernel)
theorem lk_X10_333 : Cond.methodLink RX10 333 yX6_add__ ∈ lw_g := mem_g (List.mem_of_getElem? (i := 994) (by decide +kernel)) (by decide +kernel)
theorem st_X10_isTape : Cond.static yX10_isTape ∈ lw_g := mem_g (List.mem_of_getElem? (i := 1007) (by decide +kernel)) (by decide +kernel)
theorem lk_X10_335 : Cond.methodLink RX10 335 yX10_isTape ∈ lw_g := mem_g (List.mem_of_getElem? (i := 1006) (by decide +kernel)) (by decide +kernel)
theorem lk_X10_352 : Cond.methodLink RX10 352 yX8_copyFrom ∈ lw_g := mem_g (List.mem_of_getElem? (i := 1013) (by decide +kernel)) (by decide +kernel)
theorem lk_X10_355 : Cond.methodLink RX10 355 yX9_become ∈ lw_g := mem_g (List.mem_of_getElem? (i := 1036) (by decide +kernel)) (by decide +kernel)
theorem lk_X10_358 : Cond.methodLink RX10 358 yX9_hasPlace ∈ lw_g := mem_g (List.mem_of_getElem? (i := 1044) (by decide +kernel)) (by decide +kernel)
theorem lk_X10_361 : Cond.methodLink RX10 361 yX9_asItem ∈ lw_g := mem_g (List.mem_of_getElem? (i := 1049) (by decide +kernel)) (by decide +kernel)
theorem lk_X10_365 : Cond.methodLink RX10 365 yX9_hasRange ∈ lw_g := mem_g (List.mem_of_getElem? (i := 1061) (by decide +kernel)) (by decide +kernel)
theorem lk_X10_368 : Cond.methodLink RX10 368 arraycopyName ∈ lw_g := mem_g (List.mem_of_getElem? (i := 1065) (by decide +kernel)) (by decide +kernel)
theorem k_X11_63 : Cond.constantLong RX11 63 (11 : Int64) ∈ lw_g := mem_g (List.mem_of_getElem? (i := 1203) (by decide +kernel)) (by decide +kernel)
theorem st_X11_in : Cond.static yX11_in ∈ lw_g := mem_g (List.mem_of_getElem? (i := 1187) (by decide +kernel)) (by decide +kernel)
theorem lk_X11_65 : Cond.methodLink RX11 65 yX11_in ∈ lw_g := mem_g (List.mem_of_getElem? (i := 1186) (by decide +kernel)) (by decide +kernel)
theorem k_X11_69 : Cond.constantLong RX11 69 (2 : Int64) ∈ lw_g := mem_g (List.mem_of_getElem? (i := 1207) (by decide +kernel)) (by decide +kernel)
theorem k_X11_71 : Cond.constantLong RX11 71 (3 : Int64) ∈ lw_g := mem_g (List.mem_of_getElem? (i := 1185) (by decide +kernel)) (by decide +kernel)
theorem k_X11_77 : Cond.constantLong RX11 77 (99 : Int64) ∈ lw_g := mem_g (List.mem_of_getElem? (i := 1191) (by decide +kernel)) (by decide +kernel)
theorem k_X11_75 : Cond.constantLong RX11 75 (9 : Int64) ∈ lw_g := mem_g (List.mem_of_getElem? (i := 1190) (by decide +kernel)) (by decide +kernel)
theorem k_X11_73 : Cond.constantLong RX11 73 (12 : Int64) ∈ lw_g := mem_g (List.mem_of_getElem? (i := 1189) (by decide +kernel)) (by decide +kernel)
theorem lk_X11_79 : Cond.methodLink RX11 79 yX11_becomes ∈ lw_g := mem_g (List.mem_of_getElem? (i := 1192) (by decide +kernel)) (by decide +kernel)
theorem st_X11_isMonth : Cond.static yX11_isMonth ∈ lw_g := mem_g (List.mem_of_getElem? (i := 1201) (by decide +kernel)) (by decide +kernel)
theorem lk_X11_83 : Cond.methodLink RX11 83 yX11_isMonth ∈ lw_g := mem_g (List.mem_of_getElem? (i := 1200) (by decide +kernel)) (by decide +kernel)
theorem st_X11_isState : Cond.static yX11_isState ∈ lw_g := mem_g (List.mem_of_getElem? (i := 1205) (by decide +kernel)) (by decide +kernel)
theorem lk_X11_87 : Cond.methodLink RX11 87 yX11_isState ∈ lw_g := mem_g (List.mem_of_getElem? (i := 1204) (by decide +kernel)) (by decide +kernel)
theorem lk_X11_90 : Cond.methodLink RX11 90 yX11_part ∈ lw_g := mem_g (List.mem_of_getElem? (i := 1216) (by decide +kernel)) (by decide +kernel)
theorem lk_X11_93 : Cond.methodLink RX11 93 yX11_parts ∈ lw_g := mem_g (List.mem_of_getElem? (i := 1212) (by decide +kernel)) (by decide +kernel)
theorem k_X11_97 : Cond.constantLong RX11 97 (4 : Int64) ∈ lw_g := mem_g (List.mem_of_getElem? (i := 1228) (by decide +kernel)) (by decide +kernel)
theorem lk_X11_99 : Cond.methodLink RX11 99 yX11_isDemand ∈ lw_g := mem_g (List.mem_of_getElem? (i := 1233) (by decide +kernel)) (by decide +kernel)
theorem lk_X11_102 : Cond.methodLink RX11 102 Lib.Math.max.name ∈ lw_g := mem_g (List.mem_of_getElem? (i := 1254) (by decide +kernel)) (by decide +kernel)
theorem co_Math_max : Cond.code Lib.Math.max.name Lib.Math.max.code 2 (some .int) ∈ lw_g := mem_g (List.mem_of_getElem? (i := 1256) (by decide +kernel)) (by decide +kernel)
theorem st_Math_max : Cond.static Lib.Math.max.name ∈ lw_g := mem_g (List.mem_of_getElem? (i := 1255) (by decide +kernel)) (by decide +kernel)
theorem k_X11_107 : Cond.constantLong RX11 107 (5 : Int64) ∈ lw_g := mem_g (List.mem_of_getElem? (i := 1249) (by decide +kernel)) (by decide +kernel)
theorem lk_X11_109 : Cond.methodLink RX11 109 yX11_top ∈ lw_g := mem_g (List.mem_of_getElem? (i := 1250) (by decide +kernel)) (by decide +kernel)
theorem lk_X11_112 : Cond.methodLink RX11 112 yX11_at ∈ lw_g := mem_g (List.mem_of_getElem? (i := 1274) (by decide +kernel)) (by decide +kernel)
theorem lk_X11_118 : Cond.methodLink RX11 118 yX11_isServedAhead ∈ lw_g := mem_g (List.mem_of_getElem? (i := 1270) (by decide +kernel)) (by decide +kernel)
theorem lk_X11_115 : Cond.methodLink RX11 115 yX11_rankOf ∈ lw_g := mem_g (List.mem_of_getElem? (i := 1266) (by decide +kernel)) (by decide +kernel)
theorem k_X11_122 : Cond.constantLong RX11 122 (6 : Int64) ∈ lw_g := mem_g (List.mem_of_getElem? (i := 1265) (by decide +kernel)) (by decide +kernel)
theorem k_X11_128 : Cond.constantLong RX11 128 (8 : Int64) ∈ lw_g := mem_g (List.mem_of_getElem? (i := 1290) (by decide +kernel)) (by decide +kernel)
theorem lk_X11_130 : Cond.methodLink RX11 130 yX11_wants ∈ lw_g := mem_g (List.mem_of_getElem? (i := 1286) (by decide +kernel)) (by decide +kernel)
theorem lk_X11_133 : Cond.methodLink RX11 133 yX11_byRank ∈ lw_g := mem_g (List.mem_of_getElem? (i := 1300) (by decide +kernel)) (by decide +kernel)
theorem lk_X11_136 : Cond.methodLink RX11 136 Lib.Math.min.name ∈ lw_g := mem_g (List.mem_of_getElem? (i := 1308) (by decide +kernel)) (by decide +kernel)
theorem lk_X11_139 : Cond.methodLink RX11 139 yX11_gain ∈ lw_g := mem_g (List.mem_of_getElem? (i := 1309) (by decide +kernel)) (by decide +kernel)
theorem k_X11_143 : Cond.constantLong RX11 143 (-9223372036854775808 : Int64) ∈ lw_g := mem_g (List.mem_of_getElem? (i := 1295) (by decide +kernel)) (by decide +kernel)
theorem lk_X11_145 : Cond.methodLink RX11 145 yX11_ranks ∈ lw_g := mem_g (List.mem_of_getElem? (i := 1296) (by decide +kernel)) (by decide +kernel)
theorem lk_X11_148 : Cond.methodLink RX11 148 yX11_serves ∈ lw_g := mem_g (List.mem_of_getElem? (i := 1304) (by decide +kernel)) (by decide +kernel)
theorem lk_X11_169 : Cond.methodLink RX11 169 yX11_isStore ∈ lw_g := mem_g (List.mem_of_getElem? (i := 1317) (by decide +kernel)) (by decide +kernel)
theorem lk_X11_172 : Cond.methodLink RX11 172 yX11_goes ∈ lw_g := mem_g (List.mem_of_getElem? (i := 1321) (by decide +kernel)) (by decide +kernel)
theorem st_X11_place : Cond.static yX11_place ∈ lw_g := mem_g (List.mem_of_getElem? (i := 1334) (by decide +kernel)) (by decide +kernel)
theorem lk_X11_176 : Cond.methodLink RX11 176 yX11_place ∈ lw_g := mem_g (List.mem_of_getElem? (i := 1333) (by decide +kernel)) (by decide +kernel)
theorem lk_X11_179 : Cond.methodLink RX11 179 yX11_mean ∈ lw_g := mem_g (List.mem_of_getElem? (i := 1344) (by decide +kernel)) (by decide +kernel)
theorem lk_X11_187 : Cond.methodLink RX11 187 yX11_comesTo ∈ lw_g := mem_g (List.mem_of_getElem? (i := 1340) (by decide +kernel)) (by decide +kernel)
theorem lk_X11_183 : Cond.methodLink RX11 183 yX11_findsOne ∈ lw_g := mem_g (List.mem_of_getElem? (i := 1336) (by decide +kernel)) (by decide +kernel)
theorem st_Jxf58ca_isNaN_12338 : Cond.static yJxf58ca_isNaN_12338 ∈ lw_g := mem_g (List.mem_of_getElem? (i := 1355) (by decide +kernel)) (by decide +kernel)
theorem lk_Jxf58ca_59 : Cond.methodLink RJxf58ca 59 yJxf58ca_isNaN_12338 ∈ lw_g := mem_g (List.mem_of_getElem? (i := 1354) (by decide +kernel)) (by decide +kernel)
theorem k_Jxf58ca_77 : Cond.constant RJxf58ca 77 (2143289344 : Int32) ∈ lw_g := mem_g (List.mem_of_getElem? (i := 1360) (by decide +kernel)) (by decide +kernel)
theorem lk_Jxf58ca_74 : Cond.methodLink RJxf58ca 74 ⟨"java/lang/Float", "floatToRawIntBits", "(F)I"⟩ ∈ lw_g := mem_g (List.mem_of_getElem? (i := 1357) (by decide +kernel)) (by decide +kernel)
theorem na_raw : Cond.native ⟨"java/lang/Float", "floatToRawIntBits", "(F)I"⟩ ∈ lw_g := mem_g (List.mem_of_getElem? (i := 1359) (by decide +kernel)) (by decide +kernel)
theorem st_raw : Cond.static ⟨"java/lang/Float", "floatToRawIntBits", "(F)I"⟩ ∈ lw_g := mem_g (List.mem_of_getElem? (i := 1358) (by decide +kernel)) (by decide +kernel)
theorem in_Float : Cond.initialized "java/lang/Float" ∈ lw_g := mem_g (List.mem_of_getElem? (i := 75) (by decide +kernel)) (by decide +kernel)
theorem st_Jxf58ca_floatToIntBits_5c35a : Cond.static yJxf58ca_floatToIntBits_5c35a ∈ lw_g := mem_g (List.mem_of_getElem? (i := 1352) (by decide +kernel)) (by decide +kernel)
theorem lk_X11_191 : Cond.methodLink RX11 191 yJxf58ca_floatToIntBits_5c35a ∈ lw_g := mem_g (List.mem_of_getElem? (i := 1351) (by decide +kernel)) (by decide +kernel)
theorem lk_X11_197 : Cond.methodLink RX11 197 yX11_finds ∈ lw_g := mem_g (List.mem_of_getElem? (i := 1329) (by decide +kernel)) (by decide +kernel)
theorem st_X11_bits : Cond.static yX11_bits ∈ lw_g := mem_g (List.mem_of_getElem? (i := 1349) (by decide +kernel)) (by decide +kernel)
theorem lk_X11_201 : Cond.methodLink RX11 201 yX11_bits ∈ lw_g := mem_g (List.mem_of_getElem? (i := 1348) (by decide +kernel)) (by decide +kernel)
theorem lk_X11_205 : Cond.methodLink RX11 205 yX11_isAhead ∈ lw_g := mem_g (List.mem_of_getElem? (i := 1365) (by decide +kernel)) (by decide +kernel)
theorem k_X11_208 : Cond.constantLong RX11 208 (20 : Int64) ∈ lw_g := mem_g (List.mem_of_getElem? (i := 1373) (by decide +kernel)) (by decide +kernel)
theorem k_X11_210 : Cond.constantFloat RX11 210 (3212836864 : UInt32) ∈ lw_g := mem_g (List.mem_of_getElem? (i := 1386) (by decide +kernel)) (by decide +kernel)
theorem st_X11_stateOf : Cond.static yX11_stateOf ∈ lw_g := mem_g (List.mem_of_getElem? (i := 1388) (by decide +kernel)) (by decide +kernel)
theorem lk_X11_215 : Cond.methodLink RX11 215 yX11_stateOf ∈ lw_g := mem_g (List.mem_of_getElem? (i := 1387) (by decide +kernel)) (by decide +kernel)
theorem lk_X11_221 : Cond.methodLink RX11 221 yX11_findWay ∈ lw_g := mem_g (List.mem_of_getElem? (i := 1382) (by decide +kernel)) (by decide +kernel)
theorem lk_X11_225 : Cond.methodLink RX11 225 yX11_bestNow ∈ lw_g := mem_g (List.mem_of_getElem? (i := 1398) (by decide +kernel)) (by decide +kernel)
theorem st_X11_isRecord : Cond.static yX11_isRecord ∈ lw_g := mem_g (List.mem_of_getElem? (i := 1407) (by decide +kernel)) (by decide +kernel)
theorem lk_X11_229 : Cond.methodLink RX11 229 yX11_isRecord ∈ lw_g := mem_g (List.mem_of_getElem? (i := 1406) (by decide +kernel)) (by decide +kernel)
theorem lk_X11_232 : Cond.methodLink RX11 232 Lib.Math.abs.name ∈ lw_g := mem_g (List.mem_of_getElem? (i := 1425) (by decide +kernel)) (by decide +kernel)
theorem lk_X11_256 : Cond.methodLink RX11 256 yX11_nearest ∈ lw_g := mem_g (List.mem_of_getElem? (i := 1421) (by decide +kernel)) (by decide +kernel)
theorem lk_X11_259 : Cond.methodLink RX11 259 yX11_isReplay ∈ lw_g := mem_g (List.mem_of_getElem? (i := 1413) (by decide +kernel)) (by decide +kernel)
theorem lk_X11_263 : Cond.methodLink RX11 263 yX11_replays ∈ lw_g := mem_g (List.mem_of_getElem? (i := 1417) (by decide +kernel)) (by decide +kernel)
theorem lk_X11_267 : Cond.methodLink RX11 267 yX11_isRelease ∈ lw_g := mem_g (List.mem_of_getElem? (i := 1446) (by decide +kernel)) (by decide +kernel)
theorem lk_X11_271 : Cond.methodLink RX11 271 yX11_isSeen ∈ lw_g := mem_g (List.mem_of_getElem? (i := 1442) (by decide +kernel)) (by decide +kernel)
theorem st_X11_lays : Cond.static yX11_lays ∈ lw_g := mem_g (List.mem_of_getElem? (i := 1459) (by decide +kernel)) (by decide +kernel)
theorem lk_X11_275 : Cond.methodLink RX11 275 yX11_lays ∈ lw_g := mem_g (List.mem_of_getElem? (i := 1458) (by decide +kernel)) (by decide +kernel)
theorem k_X11_279 : Cond.constantLong RX11 279 (127 : Int64) ∈ lw_g := mem_g (List.mem_of_getElem? (i := 1473) (by decide +kernel)) (by decide +kernel)
theorem k_X11_287 : Cond.constantLong RX11 287 (48 : Int64) ∈ lw_g := mem_g (List.mem_of_getElem? (i := 1494) (by decide +kernel)) (by decide +kernel)
theorem k_X11_289 : Cond.constantLong RX11 289 (57 : Int64) ∈ lw_g := mem_g (List.mem_of_getElem? (i := 1495) (by decide +kernel)) (by decide +kernel)
theorem lk_X11_294 : Cond.methodLink RX11 294 yX11_isDigit ∈ lw_g := mem_g (List.mem_of_getElem? (i := 1490) (by decide +kernel)) (by decide +kernel)
theorem lk_X11_297 : Cond.methodLink RX11 297 yX11_wrong ∈ lw_g := mem_g (List.mem_of_getElem? (i := 1496) (by decide +kernel)) (by decide +kernel)
theorem lk_X11_300 : Cond.methodLink RX11 300 yX11_digit ∈ lw_g := mem_g (List.mem_of_getElem? (i := 1486) (by decide +kernel)) (by decide +kernel)
theorem lk_X11_304 : Cond.methodLink RX11 304 yX11_takes ∈ lw_g := mem_g (List.mem_of_getElem? (i := 1508) (by decide +kernel)) (by decide +kernel)
theorem lk_X11_310 : Cond.methodLink RX11 310 yX11_twoDigits ∈ lw_g := mem_g (List.mem_of_getElem? (i := 1500) (by decide +kernel)) (by decide +kernel)
theorem lk_X11_307 : Cond.methodLink RX11 307 yX11_digits ∈ lw_g := mem_g (List.mem_of_getElem? (i := 1482) (by decide +kernel)) (by decide +kernel)
theorem lk_X11_313 : Cond.methodLink RX11 313 yX11_must ∈ lw_g := mem_g (List.mem_of_getElem? (i := 1504) (by decide +kernel)) (by decide +kernel)
theorem lk_X11_323 : Cond.methodLink RX11 323 yX11_put ∈ lw_g := mem_g (List.mem_of_getElem? (i := 1518) (by decide +kernel)) (by decide +kernel)
theorem lk_X11_316 : Cond.methodLink RX11 316 yX11_demand ∈ lw_g := mem_g (List.mem_of_getElem? (i := 1516) (by decide +kernel)) (by decide +kernel)
theorem lk_X11_320 : Cond.methodLink RX11 320 yX11_inflow ∈ lw_g := mem_g (List.mem_of_getElem? (i := 1517) (by decide +kernel)) (by decide +kernel)
theorem lk_X11_326 : Cond.methodLink RX11 326 yX11_month ∈ lw_g := mem_g (List.mem_of_getElem? (i := 1519) (by decide +kernel)) (by decide +kernel)
theorem lk_X11_329 : Cond.methodLink RX11 329 yX11_readClause ∈ lw_g := mem_g (List.mem_of_getElem? (i := 1478) (by decide +kernel)) (by decide +kernel)
theorem lk_X11_332 : Cond.methodLink RX11 332 yX11_isDone ∈ lw_g := mem_g (List.mem_of_getElem? (i := 1512) (by decide +kernel)) (by decide +kernel)
theorem st_X11_isTape : Cond.static yX11_isTape ∈ lw_g := mem_g (List.mem_of_getElem? (i := 1525) (by decide +kernel)) (by decide +kernel)
theorem lk_X11_335 : Cond.methodLink RX11 335 yX11_isTape ∈ lw_g := mem_g (List.mem_of_getElem? (i := 1524) (by decide +kernel)) (by decide +kernel)
theorem k_X11_342 : Cond.constantLong RX11 342 (-1 : Int64) ∈ lw_g := mem_g (List.mem_of_getElem? (i := 1543) (by decide +kernel)) (by decide +kernel)
theorem st_X11_cutTo : Cond.static yX11_cutTo ∈ lw_g := mem_g (List.mem_of_getElem? (i := 1549) (by decide +kernel)) (by decide +kernel)
theorem lk_X11_344 : Cond.methodLink RX11 344 yX11_cutTo ∈ lw_g := mem_g (List.mem_of_getElem? (i := 1548) (by decide +kernel)) (by decide +kernel)
