def dfl7 : List Value := [.int 0, .int 0, .int 0, .int 0, .int 0, .int 0]
theorem dfl7_ok (ad : Nat → Nat) : ∀ j, j < 6 → defaultValue (tyX7 j) = vp_V (dfl7.map (cV ad)) j := fun j hj => match j, hj with
  | 0, _ => rfl
  | 1, _ => rfl
  | 2, _ => rfl
  | 3, _ => rfl
  | 4, _ => rfl
  | 5, _ => rfl
  | n + 6, h => absurd h (by omega)
def dfl5 : List Value := [.int 0, .int 0, .int 0, .int 0, .int 0, .int 0]
theorem dfl5_ok (ad : Nat → Nat) : ∀ j, j < 6 → defaultValue (tyX5 j) = vp_V (dfl5.map (cV ad)) j := fun j hj => match j, hj with
  | 0, _ => rfl
  | 1, _ => rfl
  | 2, _ => rfl
  | 3, _ => rfl
  | 4, _ => rfl
  | 5, _ => rfl
  | n + 6, h => absurd h (by omega)
def dfl0 : List Value := [.int 0, .int 0, .int 0, .int 0, .null, .null, .null, .null, .null, .null, .int 0]
theorem dfl0_ok (ad : Nat → Nat) : ∀ j, j < 11 → defaultValue (tyX0 j) = vp_V (dfl0.map (cV ad)) j := fun j hj => match j, hj with
  | 0, _ => rfl
  | 1, _ => rfl
  | 2, _ => rfl
  | 3, _ => rfl
  | 4, _ => rfl
  | 5, _ => rfl
  | 6, _ => rfl
  | 7, _ => rfl
  | 8, _ => rfl
  | 9, _ => rfl
  | 10, _ => rfl
  | n + 11, h => absurd h (by omega)
def dfl6 : List Value := [.int 0, .int 0, .null, .int 0]
theorem dfl6_ok (ad : Nat → Nat) : ∀ j, j < 4 → defaultValue (tyX6 j) = vp_V (dfl6.map (cV ad)) j := fun j hj => match j, hj with
  | 0, _ => rfl
  | 1, _ => rfl
  | 2, _ => rfl
  | 3, _ => rfl
  | n + 4, h => absurd h (by omega)
def dfl8 : List Value := [.null, .null, .null, .null]
theorem dfl8_ok (ad : Nat → Nat) : ∀ j, j < 4 → defaultValue (tyX8 j) = vp_V (dfl8.map (cV ad)) j := fun j hj => match j, hj with
  | 0, _ => rfl
  | 1, _ => rfl
  | 2, _ => rfl
  | 3, _ => rfl
  | n + 4, h => absurd h (by omega)
def dfl1 : List Value := [.null, .null, .null, .null]
theorem dfl1_ok (ad : Nat → Nat) : ∀ j, j < 4 → defaultValue (tyX1 j) = vp_V (dfl1.map (cV ad)) j := fun j hj => match j, hj with
  | 0, _ => rfl
  | 1, _ => rfl
  | 2, _ => rfl
  | 3, _ => rfl
  | n + 4, h => absurd h (by omega)
def dfl2 : List Value := [.null, .null, .null, .null, .null, .null, .float 0]
theorem dfl2_ok (ad : Nat → Nat) : ∀ j, j < 7 → defaultValue (tyX2 j) = vp_V (dfl2.map (cV ad)) j := fun j hj => match j, hj with
  | 0, _ => rfl
  | 1, _ => rfl
  | 2, _ => rfl
  | 3, _ => rfl
  | 4, _ => rfl
  | 5, _ => rfl
  | 6, _ => rfl
  | n + 7, h => absurd h (by omega)
def dfl4 : List Value := [.null, .null, .null, .int 0, .int 0, .int 0, .int 0, .int 0]
theorem dfl4_ok (ad : Nat → Nat) : ∀ j, j < 8 → defaultValue (tyX4 j) = vp_V (dfl4.map (cV ad)) j := fun j hj => match j, hj with
  | 0, _ => rfl
  | 1, _ => rfl
  | 2, _ => rfl
  | 3, _ => rfl
  | 4, _ => rfl
  | 5, _ => rfl
  | 6, _ => rfl
  | 7, _ => rfl
  | n + 8, h => absurd h (by omega)
def dfl3 : List Value := [.null, .int 0, .int 0]
theorem dfl3_ok (ad : Nat → Nat) : ∀ j, j < 3 → defaultValue (tyX3 j) = vp_V (dfl3.map (cV ad)) j := fun j hj => match j, hj with
  | 0, _ => rfl
  | 1, _ => rfl
  | 2, _ => rfl
  | n + 3, h => absurd h (by omega)
def dfl9 : List Value := [.int 0, .int 0, .null]
theorem dfl9_ok (ad : Nat → Nat) : ∀ j, j < 3 → defaultValue (tyX9 j) = vp_V (dfl9.map (cV ad)) j := fun j hj => match j, hj with
  | 0, _ => rfl
  | 1, _ => rfl
  | 2, _ => rfl
  | n + 3, h => absurd h (by omega)
theorem cal_X7_init : CalOK yX7_init cX7_init 1 none 0 := ⟨mem_g (List.mem_of_getElem? (i := 277) (by decide +kernel)) (by decide +kernel), mem_g (List.mem_of_getElem? (i := 65) (by decide +kernel)) (by decide +kernel), ⟨by decide +kernel, by decide +kernel, by decide +kernel⟩, by decide⟩
theorem cal_X5_init : CalOK yX5_init cX5_init 1 none 0 := ⟨mem_g (List.mem_of_getElem? (i := 102) (by decide +kernel)) (by decide +kernel), mem_g (List.mem_of_getElem? (i := 61) (by decide +kernel)) (by decide +kernel), ⟨by decide +kernel, by decide +kernel, by decide +kernel⟩, by decide⟩
theorem cal_X0_init : CalOK yX0_init cX0_init 2 none 0 := ⟨mem_g (List.mem_of_getElem? (i := 95) (by decide +kernel)) (by decide +kernel), mem_g (List.mem_of_getElem? (i := 60) (by decide +kernel)) (by decide +kernel), ⟨by decide +kernel, by decide +kernel, by decide +kernel⟩, by decide⟩
theorem cal_X6_init : CalOK yX6_init cX6_init 3 none 2 := ⟨mem_g (List.mem_of_getElem? (i := 185) (by decide +kernel)) (by decide +kernel), mem_g (List.mem_of_getElem? (i := 62) (by decide +kernel)) (by decide +kernel), ⟨by decide +kernel, by decide +kernel, by decide +kernel⟩, by decide⟩
theorem cal_X8_init : CalOK yX8_init cX8_init 1 none 0 := ⟨mem_g (List.mem_of_getElem? (i := 89) (by decide +kernel)) (by decide +kernel), mem_g (List.mem_of_getElem? (i := 59) (by decide +kernel)) (by decide +kernel), ⟨by decide +kernel, by decide +kernel, by decide +kernel⟩, by decide⟩
theorem cal_X1_init : CalOK yX1_init cX1_init 1 none 0 := ⟨mem_g (List.mem_of_getElem? (i := 227) (by decide +kernel)) (by decide +kernel), mem_g (List.mem_of_getElem? (i := 63) (by decide +kernel)) (by decide +kernel), ⟨by decide +kernel, by decide +kernel, by decide +kernel⟩, by decide⟩
theorem cal_X2_init : CalOK yX2_init cX2_init 1 none 0 := ⟨mem_g (List.mem_of_getElem? (i := 247) (by decide +kernel)) (by decide +kernel), mem_g (List.mem_of_getElem? (i := 64) (by decide +kernel)) (by decide +kernel), ⟨by decide +kernel, by decide +kernel, by decide +kernel⟩, by decide⟩
theorem cal_X4_init : CalOK yX4_init cX4_init 1 none 0 := ⟨mem_g (List.mem_of_getElem? (i := 307) (by decide +kernel)) (by decide +kernel), mem_g (List.mem_of_getElem? (i := 66) (by decide +kernel)) (by decide +kernel), ⟨by decide +kernel, by decide +kernel, by decide +kernel⟩, by decide⟩
theorem cal_X3_init : CalOK yX3_init cX3_init 1 none 0 := ⟨mem_g (List.mem_of_getElem? (i := 345) (by decide +kernel)) (by decide +kernel), mem_g (List.mem_of_getElem? (i := 67) (by decide +kernel)) (by decide +kernel), ⟨by decide +kernel, by decide +kernel, by decide +kernel⟩, by decide⟩
theorem cal_X9_init : CalOK yX9_init cX9_init 1 none 0 := ⟨mem_g (List.mem_of_getElem? (i := 362) (by decide +kernel)) (by decide +kernel), mem_g (List.mem_of_getElem? (i := 68) (by decide +kernel)) (by decide +kernel), ⟨by decide +kernel, by decide +kernel, by decide +kernel⟩, by decide⟩
theorem lk_X5_3 : Cond.methodLink RX5 3 Lib.objectInit ∈ lw_g := mem_g (List.mem_of_getElem? (i := 103) (by decide +kernel)) (by decide +kernel)
theorem oi_i : Cond.instanceMethod Lib.objectInit ∈ lw_g := mem_g (List.mem_of_getElem? (i := 83) (by decide +kernel)) (by decide +kernel)
theorem oi_c : Cond.code Lib.objectInit ⟨#[0xb1]⟩ 1 none ∈ lw_g := mem_g (List.mem_of_getElem? (i := 84) (by decide +kernel)) (by decide +kernel)
theorem lk_X6_3 : Cond.methodLink RX6 3 Lib.objectInit ∈ lw_g := mem_g (List.mem_of_getElem? (i := 186) (by decide +kernel)) (by decide +kernel)
theorem ac_int : Cond.arrayClass .int ∈ lw_g := mem_g (List.mem_of_getElem? (i := 130) (by decide +kernel)) (by decide +kernel)
theorem lk_X7_3 : Cond.methodLink RX7 3 Lib.objectInit ∈ lw_g := mem_g (List.mem_of_getElem? (i := 278) (by decide +kernel)) (by decide +kernel)
theorem lk_X9_3 : Cond.methodLink RX9 3 Lib.objectInit ∈ lw_g := mem_g (List.mem_of_getElem? (i := 363) (by decide +kernel)) (by decide +kernel)
theorem ac_long : Cond.arrayClass .long ∈ lw_g := mem_g (List.mem_of_getElem? (i := 377) (by decide +kernel)) (by decide +kernel)
theorem lk_X1_3 : Cond.methodLink RX1 3 Lib.objectInit ∈ lw_g := mem_g (List.mem_of_getElem? (i := 228) (by decide +kernel)) (by decide +kernel)
theorem ac_float : Cond.arrayClass .float ∈ lw_g := mem_g (List.mem_of_getElem? (i := 242) (by decide +kernel)) (by decide +kernel)
theorem lk_X2_3 : Cond.methodLink RX2 3 Lib.objectInit ∈ lw_g := mem_g (List.mem_of_getElem? (i := 248) (by decide +kernel)) (by decide +kernel)
theorem lk_X3_3 : Cond.methodLink RX3 3 Lib.objectInit ∈ lw_g := mem_g (List.mem_of_getElem? (i := 346) (by decide +kernel)) (by decide +kernel)
theorem lk_X4_3 : Cond.methodLink RX4 3 Lib.objectInit ∈ lw_g := mem_g (List.mem_of_getElem? (i := 308) (by decide +kernel)) (by decide +kernel)
theorem cl_X4_9 : Cond.classLink RX4 9 RX7 ∈ lw_g := mem_g (List.mem_of_getElem? (i := 309) (by decide +kernel)) (by decide +kernel)
theorem ins_X7 : Cond.instantiable RX7 6 ∈ lw_g := mem_g (List.mem_of_getElem? (i := 274) (by decide +kernel)) (by decide +kernel)
theorem ini_X7 : Cond.initialized RX7 ∈ lw_g := mem_g (List.mem_of_getElem? (i := 65) (by decide +kernel)) (by decide +kernel)
theorem im_X7_init : Cond.instanceMethod yX7_init ∈ lw_g := mem_g (List.mem_of_getElem? (i := 276) (by decide +kernel)) (by decide +kernel)
theorem lk_X4_11 : Cond.methodLinkNest RX4 11 yX7_init "ReservoirMind" ∈ lw_tbl := List.mem_of_getElem? (i := 310) (by decide +kernel)
theorem lk_X0_3 : Cond.methodLink RX0 3 Lib.objectInit ∈ lw_g := mem_g (List.mem_of_getElem? (i := 96) (by decide +kernel)) (by decide +kernel)
theorem cl_X0_37 : Cond.classLink RX0 37 RX5 ∈ lw_g := mem_g (List.mem_of_getElem? (i := 97) (by decide +kernel)) (by decide +kernel)
theorem ao_X5 : Cond.arrayOver (.object RX5) ∈ lw_tbl := List.mem_of_getElem? (i := 98) (by decide +kernel)
theorem ins_X5 : Cond.instantiable RX5 6 ∈ lw_g := mem_g (List.mem_of_getElem? (i := 99) (by decide +kernel)) (by decide +kernel)
theorem ini_X5 : Cond.initialized RX5 ∈ lw_g := mem_g (List.mem_of_getElem? (i := 61) (by decide +kernel)) (by decide +kernel)
theorem im_X5_init : Cond.instanceMethod yX5_init ∈ lw_g := mem_g (List.mem_of_getElem? (i := 101) (by decide +kernel)) (by decide +kernel)
theorem lk_X0_49 : Cond.methodLinkNest RX0 49 yX5_init "ReservoirMind" ∈ lw_tbl := List.mem_of_getElem? (i := 100) (by decide +kernel)
theorem lk_X8_3 : Cond.methodLink RX8 3 Lib.objectInit ∈ lw_g := mem_g (List.mem_of_getElem? (i := 90) (by decide +kernel)) (by decide +kernel)
theorem cl_X8_9 : Cond.classLink RX8 9 RX0 ∈ lw_g := mem_g (List.mem_of_getElem? (i := 91) (by decide +kernel)) (by decide +kernel)
theorem ins_X0 : Cond.instantiable RX0 11 ∈ lw_g := mem_g (List.mem_of_getElem? (i := 92) (by decide +kernel)) (by decide +kernel)
theorem ini_X0 : Cond.initialized RX0 ∈ lw_g := mem_g (List.mem_of_getElem? (i := 60) (by decide +kernel)) (by decide +kernel)
theorem im_X0_init : Cond.instanceMethod yX0_init ∈ lw_g := mem_g (List.mem_of_getElem? (i := 94) (by decide +kernel)) (by decide +kernel)
theorem lk_X8_11 : Cond.methodLink RX8 11 yX0_init ∈ lw_g := mem_g (List.mem_of_getElem? (i := 93) (by decide +kernel)) (by decide +kernel)
theorem cl_X8_18 : Cond.classLink RX8 18 RX6 ∈ lw_g := mem_g (List.mem_of_getElem? (i := 181) (by decide +kernel)) (by decide +kernel)
theorem ins_X6 : Cond.instantiable RX6 4 ∈ lw_g := mem_g (List.mem_of_getElem? (i := 182) (by decide +kernel)) (by decide +kernel)
theorem ini_X6 : Cond.initialized RX6 ∈ lw_g := mem_g (List.mem_of_getElem? (i := 62) (by decide +kernel)) (by decide +kernel)
theorem im_X6_init : Cond.instanceMethod yX6_init ∈ lw_g := mem_g (List.mem_of_getElem? (i := 184) (by decide +kernel)) (by decide +kernel)
theorem lk_X8_20 : Cond.methodLink RX8 20 yX6_init ∈ lw_g := mem_g (List.mem_of_getElem? (i := 183) (by decide +kernel)) (by decide +kernel)
theorem lk_X10_5 : Cond.methodLink RX10 5 Lib.objectInit ∈ lw_g := mem_g (List.mem_of_getElem? (i := 82) (by decide +kernel)) (by decide +kernel)
theorem cl_X10_11 : Cond.classLink RX10 11 RX8 ∈ lw_g := mem_g (List.mem_of_getElem? (i := 85) (by decide +kernel)) (by decide +kernel)
theorem ins_X8 : Cond.instantiable RX8 4 ∈ lw_g := mem_g (List.mem_of_getElem? (i := 86) (by decide +kernel)) (by decide +kernel)
theorem ini_X8 : Cond.initialized RX8 ∈ lw_g := mem_g (List.mem_of_getElem? (i := 59) (by decide +kernel)) (by decide +kernel)
theorem im_X8_init : Cond.instanceMethod yX8_init ∈ lw_g := mem_g (List.mem_of_getElem? (i := 88) (by decide +kernel)) (by decide +kernel)
theorem lk_X10_13 : Cond.methodLinkNest RX10 13 yX8_init "ReservoirMind" ∈ lw_tbl := List.mem_of_getElem? (i := 87) (by decide +kernel)
theorem cl_X10_25 : Cond.classLink RX10 25 RX0 ∈ lw_g := mem_g (List.mem_of_getElem? (i := 221) (by decide +kernel)) (by decide +kernel)
theorem lk_X10_27 : Cond.methodLink RX10 27 yX0_init ∈ lw_g := mem_g (List.mem_of_getElem? (i := 222) (by decide +kernel)) (by decide +kernel)
theorem cl_X10_32 : Cond.classLink RX10 32 RX1 ∈ lw_g := mem_g (List.mem_of_getElem? (i := 223) (by decide +kernel)) (by decide +kernel)
theorem ins_X1 : Cond.instantiable RX1 4 ∈ lw_g := mem_g (List.mem_of_getElem? (i := 224) (by decide +kernel)) (by decide +kernel)
theorem ini_X1 : Cond.initialized RX1 ∈ lw_g := mem_g (List.mem_of_getElem? (i := 63) (by decide +kernel)) (by decide +kernel)
theorem im_X1_init : Cond.instanceMethod yX1_init ∈ lw_g := mem_g (List.mem_of_getElem? (i := 226) (by decide +kernel)) (by decide +kernel)
theorem lk_X10_34 : Cond.methodLinkNest RX10 34 yX1_init "ReservoirMind" ∈ lw_tbl := List.mem_of_getElem? (i := 225) (by decide +kernel)
theorem cl_X10_55 : Cond.classLink RX10 55 RX2 ∈ lw_g := mem_g (List.mem_of_getElem? (i := 243) (by decide +kernel)) (by decide +kernel)
theorem ins_X2 : Cond.instantiable RX2 7 ∈ lw_g := mem_g (List.mem_of_getElem? (i := 244) (by decide +kernel)) (by decide +kernel)
theorem ini_X2 : Cond.initialized RX2 ∈ lw_g := mem_g (List.mem_of_getElem? (i := 64) (by decide +kernel)) (by decide +kernel)
theorem im_X2_init : Cond.instanceMethod yX2_init ∈ lw_g := mem_g (List.mem_of_getElem? (i := 246) (by decide +kernel)) (by decide +kernel)
theorem lk_X10_57 : Cond.methodLinkNest RX10 57 yX2_init "ReservoirMind" ∈ lw_tbl := List.mem_of_getElem? (i := 245) (by decide +kernel)
theorem cl_X10_62 : Cond.classLink RX10 62 RX7 ∈ lw_g := mem_g (List.mem_of_getElem? (i := 273) (by decide +kernel)) (by decide +kernel)
theorem lk_X10_64 : Cond.methodLinkNest RX10 64 yX7_init "ReservoirMind" ∈ lw_tbl := List.mem_of_getElem? (i := 275) (by decide +kernel)
theorem cl_X10_69 : Cond.classLink RX10 69 RX4 ∈ lw_g := mem_g (List.mem_of_getElem? (i := 303) (by decide +kernel)) (by decide +kernel)
theorem ins_X4 : Cond.instantiable RX4 8 ∈ lw_g := mem_g (List.mem_of_getElem? (i := 304) (by decide +kernel)) (by decide +kernel)
theorem ini_X4 : Cond.initialized RX4 ∈ lw_g := mem_g (List.mem_of_getElem? (i := 66) (by decide +kernel)) (by decide +kernel)
theorem im_X4_init : Cond.instanceMethod yX4_init ∈ lw_g := mem_g (List.mem_of_getElem? (i := 306) (by decide +kernel)) (by decide +kernel)
theorem lk_X10_71 : Cond.methodLinkNest RX10 71 yX4_init "ReservoirMind" ∈ lw_tbl := List.mem_of_getElem? (i := 305) (by decide +kernel)
theorem cl_X10_76 : Cond.classLink RX10 76 RX6 ∈ lw_g := mem_g (List.mem_of_getElem? (i := 338) (by decide +kernel)) (by decide +kernel)
theorem ao_X6 : Cond.arrayOver (.object RX6) ∈ lw_tbl := List.mem_of_getElem? (i := 339) (by decide +kernel)
theorem lk_X10_82 : Cond.methodLink RX10 82 yX6_init ∈ lw_g := mem_g (List.mem_of_getElem? (i := 340) (by decide +kernel)) (by decide +kernel)
theorem cl_X10_89 : Cond.classLink RX10 89 RX3 ∈ lw_g := mem_g (List.mem_of_getElem? (i := 341) (by decide +kernel)) (by decide +kernel)
theorem ins_X3 : Cond.instantiable RX3 3 ∈ lw_g := mem_g (List.mem_of_getElem? (i := 342) (by decide +kernel)) (by decide +kernel)
theorem ini_X3 : Cond.initialized RX3 ∈ lw_g := mem_g (List.mem_of_getElem? (i := 67) (by decide +kernel)) (by decide +kernel)
theorem im_X3_init : Cond.instanceMethod yX3_init ∈ lw_g := mem_g (List.mem_of_getElem? (i := 344) (by decide +kernel)) (by decide +kernel)
theorem lk_X10_91 : Cond.methodLinkNest RX10 91 yX3_init "ReservoirMind" ∈ lw_tbl := List.mem_of_getElem? (i := 343) (by decide +kernel)
theorem cl_X10_96 : Cond.classLink RX10 96 RX9 ∈ lw_g := mem_g (List.mem_of_getElem? (i := 357) (by decide +kernel)) (by decide +kernel)
theorem ao_X9 : Cond.arrayOver (.object RX9) ∈ lw_tbl := List.mem_of_getElem? (i := 358) (by decide +kernel)
theorem ins_X9 : Cond.instantiable RX9 3 ∈ lw_g := mem_g (List.mem_of_getElem? (i := 359) (by decide +kernel)) (by decide +kernel)
theorem ini_X9 : Cond.initialized RX9 ∈ lw_g := mem_g (List.mem_of_getElem? (i := 68) (by decide +kernel)) (by decide +kernel)
theorem im_X9_init : Cond.instanceMethod yX9_init ∈ lw_g := mem_g (List.mem_of_getElem? (i := 361) (by decide +kernel)) (by decide +kernel)
theorem lk_X10_102 : Cond.methodLinkNest RX10 102 yX9_init "ReservoirMind" ∈ lw_tbl := List.mem_of_getElem? (i := 360) (by decide +kernel)
theorem lk_X11_5 : Cond.methodLink RX11 5 Lib.objectInit ∈ lw_g := mem_g (List.mem_of_getElem? (i := 1071) (by decide +kernel)) (by decide +kernel)
theorem ac_byte : Cond.arrayClass .byte ∈ lw_g := mem_g (List.mem_of_getElem? (i := 658) (by decide +kernel)) (by decide +kernel)
theorem PF_X6_15 : PutFin RX6 15 6 0 .int := ⟨RX6, TX6, 4, tyX6, rfl, by decide, iw6, mem_g (List.mem_of_getElem? (i := 187) (by decide +kernel)) (by decide +kernel), tyX6_ok, nmX6, by decide +kernel, by decide +kernel, by decide +kernel⟩
theorem PF_X6_18 : PutFin RX6 18 6 1 .int := ⟨RX6, TX6, 4, tyX6, rfl, by decide, iw6, mem_g (List.mem_of_getElem? (i := 188) (by decide +kernel)) (by decide +kernel), tyX6_ok, nmX6, by decide +kernel, by decide +kernel, by decide +kernel⟩
theorem PF_X6_21 : PutFin RX6 21 6 2 (.array .int) := ⟨RX6, TX6, 4, tyX6, rfl, by decide, iw6, mem_g (List.mem_of_getElem? (i := 189) (by decide +kernel)) (by decide +kernel), tyX6_ok, nmX6, by decide +kernel, by decide +kernel, by decide +kernel⟩
theorem PF_X9_18 : PutFin RX9 18 9 2 (.array .long) := ⟨RX9, TX9, 3, tyX9, rfl, by decide, iw9, mem_g (List.mem_of_getElem? (i := 368) (by decide +kernel)) (by decide +kernel), tyX9_ok, nmX9, by decide +kernel, by decide +kernel, by decide +kernel⟩
theorem PF_X1_9 : PutFin RX1 9 1 0 (.array .float) := ⟨RX1, TX1, 4, tyX1, rfl, by decide, iw1, mem_g (List.mem_of_getElem? (i := 229) (by decide +kernel)) (by decide +kernel), tyX1_ok, nmX1, by decide +kernel, by decide +kernel, by decide +kernel⟩
theorem PF_X1_15 : PutFin RX1 15 1 1 (.array .float) := ⟨RX1, TX1, 4, tyX1, rfl, by decide, iw1, mem_g (List.mem_of_getElem? (i := 230) (by decide +kernel)) (by decide +kernel), tyX1_ok, nmX1, by decide +kernel, by decide +kernel, by decide +kernel⟩
theorem PF_X1_18 : PutFin RX1 18 1 2 (.array .int) := ⟨RX1, TX1, 4, tyX1, rfl, by decide, iw1, mem_g (List.mem_of_getElem? (i := 231) (by decide +kernel)) (by decide +kernel), tyX1_ok, nmX1, by decide +kernel, by decide +kernel, by decide +kernel⟩
theorem PF_X1_22 : PutFin RX1 22 1 3 (.array .int) := ⟨RX1, TX1, 4, tyX1, rfl, by decide, iw1, mem_g (List.mem_of_getElem? (i := 232) (by decide +kernel)) (by decide +kernel), tyX1_ok, nmX1, by decide +kernel, by decide +kernel, by decide +kernel⟩
theorem PF_X2_9 : PutFin RX2 9 2 0 (.array .float) := ⟨RX2, TX2, 7, tyX2, rfl, by decide, iw2, mem_g (List.mem_of_getElem? (i := 249) (by decide +kernel)) (by decide +kernel), tyX2_ok, nmX2, by decide +kernel, by decide +kernel, by decide +kernel⟩
theorem PF_X2_21 : PutFin RX2 21 2 3 (.array .int) := ⟨RX2, TX2, 7, tyX2, rfl, by decide, iw2, mem_g (List.mem_of_getElem? (i := 252) (by decide +kernel)) (by decide +kernel), tyX2_ok, nmX2, by decide +kernel, by decide +kernel, by decide +kernel⟩
theorem PF_X2_25 : PutFin RX2 25 2 4 (.array .float) := ⟨RX2, TX2, 7, tyX2, rfl, by decide, iw2, mem_g (List.mem_of_getElem? (i := 253) (by decide +kernel)) (by decide +kernel), tyX2_ok, nmX2, by decide +kernel, by decide +kernel, by decide +kernel⟩
theorem PF_X2_28 : PutFin RX2 28 2 5 (.array .int) := ⟨RX2, TX2, 7, tyX2, rfl, by decide, iw2, mem_g (List.mem_of_getElem? (i := 254) (by decide +kernel)) (by decide +kernel), tyX2_ok, nmX2, by decide +kernel, by decide +kernel, by decide +kernel⟩
theorem PF_X3_9 : PutFin RX3 9 3 0 (.array .int) := ⟨RX3, TX3, 3, tyX3, rfl, by decide, iw3, mem_g (List.mem_of_getElem? (i := 347) (by decide +kernel)) (by decide +kernel), tyX3_ok, nmX3, by decide +kernel, by decide +kernel, by decide +kernel⟩
theorem PF_X4_12 : PutFin RX4 12 4 0 (.object "ReservoirMind$Passage") := ⟨RX4, TX4, 8, tyX4, rfl, by decide, iw4, mem_g (List.mem_of_getElem? (i := 311) (by decide +kernel)) (by decide +kernel), tyX4_ok, nmX4, by decide +kernel, by decide +kernel, by decide +kernel⟩
theorem PF_X4_18 : PutFin RX4 18 4 1 (.array .int) := ⟨RX4, TX4, 8, tyX4, rfl, by decide, iw4, mem_g (List.mem_of_getElem? (i := 312) (by decide +kernel)) (by decide +kernel), tyX4_ok, nmX4, by decide +kernel, by decide +kernel, by decide +kernel⟩
theorem PF_X4_22 : PutFin RX4 22 4 2 (.array .int) := ⟨RX4, TX4, 8, tyX4, rfl, by decide, iw4, mem_g (List.mem_of_getElem? (i := 314) (by decide +kernel)) (by decide +kernel), tyX4_ok, nmX4, by decide +kernel, by decide +kernel, by decide +kernel⟩
theorem PF_X0_24 : PutFin RX0 24 0 4 (.array .int) := ⟨RX0, TX0, 11, tyX0, rfl, by decide, iw0, mem_g (List.mem_of_getElem? (i := 143) (by decide +kernel)) (by decide +kernel), tyX0_ok, nmX0, by decide +kernel, by decide +kernel, by decide +kernel⟩
theorem PF_X0_28 : PutFin RX0 28 0 5 (.array .int) := ⟨RX0, TX0, 11, tyX0, rfl, by decide, iw0, mem_g (List.mem_of_getElem? (i := 144) (by decide +kernel)) (by decide +kernel), tyX0_ok, nmX0, by decide +kernel, by decide +kernel, by decide +kernel⟩
theorem PF_X0_31 : PutFin RX0 31 0 6 (.array .int) := ⟨RX0, TX0, 11, tyX0, rfl, by decide, iw0, mem_g (List.mem_of_getElem? (i := 148) (by decide +kernel)) (by decide +kernel), tyX0_ok, nmX0, by decide +kernel, by decide +kernel, by decide +kernel⟩
theorem PF_X0_34 : PutFin RX0 34 0 7 (.array .int) := ⟨RX0, TX0, 11, tyX0, rfl, by decide, iw0, mem_g (List.mem_of_getElem? (i := 150) (by decide +kernel)) (by decide +kernel), tyX0_ok, nmX0, by decide +kernel, by decide +kernel, by decide +kernel⟩
theorem PF_X0_39 : PutFin RX0 39 0 8 (.array (.object "ReservoirMind$Demand")) := ⟨RX0, TX0, 11, tyX0, rfl, by decide, iw0, mem_g (List.mem_of_getElem? (i := 152) (by decide +kernel)) (by decide +kernel), tyX0_ok, nmX0, by decide +kernel, by decide +kernel, by decide +kernel⟩
theorem PF_X0_43 : PutFin RX0 43 0 9 (.array .int) := ⟨RX0, TX0, 11, tyX0, rfl, by decide, iw0, mem_g (List.mem_of_getElem? (i := 155) (by decide +kernel)) (by decide +kernel), tyX0_ok, nmX0, by decide +kernel, by decide +kernel, by decide +kernel⟩
theorem PF_X8_12 : PutFin RX8 12 8 0 (.object "ReservoirMind$Basin") := ⟨RX8, TX8, 4, tyX8, rfl, by decide, iw8, mem_g (List.mem_of_getElem? (i := 204) (by decide +kernel)) (by decide +kernel), tyX8_ok, nmX8, by decide +kernel, by decide +kernel, by decide +kernel⟩
theorem PF_X8_23 : PutFin RX8 23 8 1 (.object "ReservoirMind$Lines") := ⟨RX8, TX8, 4, tyX8, rfl, by decide, iw8, mem_g (List.mem_of_getElem? (i := 206) (by decide +kernel)) (by decide +kernel), tyX8_ok, nmX8, by decide +kernel, by decide +kernel, by decide +kernel⟩
theorem PF_X8_27 : PutFin RX8 27 8 2 (.object "ReservoirMind$Lines") := ⟨RX8, TX8, 4, tyX8, rfl, by decide, iw8, mem_g (List.mem_of_getElem? (i := 208) (by decide +kernel)) (by decide +kernel), tyX8_ok, nmX8, by decide +kernel, by decide +kernel, by decide +kernel⟩
theorem PF_X8_30 : PutFin RX8 30 8 3 (.object "ReservoirMind$Lines") := ⟨RX8, TX8, 4, tyX8, rfl, by decide, iw8, mem_g (List.mem_of_getElem? (i := 210) (by decide +kernel)) (by decide +kernel), tyX8_ok, nmX8, by decide +kernel, by decide +kernel, by decide +kernel⟩
theorem PF_X10_14 : PutFin RX10 14 10 0 (.object "ReservoirMind$Setting") := ⟨RX10, TX10, 17, tyX10, rfl, by decide, iw10, mem_g (List.mem_of_getElem? (i := 378) (by decide +kernel)) (by decide +kernel), tyX10_ok, nmX10, by decide +kernel, by decide +kernel, by decide +kernel⟩
theorem PF_X10_18 : PutFin RX10 18 10 1 (.object "ReservoirMind$Setting") := ⟨RX10, TX10, 17, tyX10, rfl, by decide, iw10, mem_g (List.mem_of_getElem? (i := 379) (by decide +kernel)) (by decide +kernel), tyX10_ok, nmX10, by decide +kernel, by decide +kernel, by decide +kernel⟩
theorem PF_X10_28 : PutFin RX10 28 10 3 (.object "ReservoirMind$Basin") := ⟨RX10, TX10, 17, tyX10, rfl, by decide, iw10, mem_g (List.mem_of_getElem? (i := 381) (by decide +kernel)) (by decide +kernel), tyX10_ok, nmX10, by decide +kernel, by decide +kernel, by decide +kernel⟩
theorem PF_X10_35 : PutFin RX10 35 10 4 (.object "ReservoirMind$BestRows") := ⟨RX10, TX10, 17, tyX10, rfl, by decide, iw10, mem_g (List.mem_of_getElem? (i := 382) (by decide +kernel)) (by decide +kernel), tyX10_ok, nmX10, by decide +kernel, by decide +kernel, by decide +kernel⟩
theorem PF_X10_39 : PutFin RX10 39 10 5 (.object "ReservoirMind$BestRows") := ⟨RX10, TX10, 17, tyX10, rfl, by decide, iw10, mem_g (List.mem_of_getElem? (i := 383) (by decide +kernel)) (by decide +kernel), tyX10_ok, nmX10, by decide +kernel, by decide +kernel, by decide +kernel⟩
theorem PF_X10_58 : PutFin RX10 58 10 10 (.object "ReservoirMind$Chain") := ⟨RX10, TX10, 17, tyX10, rfl, by decide, iw10, mem_g (List.mem_of_getElem? (i := 388) (by decide +kernel)) (by decide +kernel), tyX10_ok, nmX10, by decide +kernel, by decide +kernel, by decide +kernel⟩
theorem PF_X10_65 : PutFin RX10 65 10 11 (.object "ReservoirMind$Passage") := ⟨RX10, TX10, 17, tyX10, rfl, by decide, iw10, mem_g (List.mem_of_getElem? (i := 389) (by decide +kernel)) (by decide +kernel), tyX10_ok, nmX10, by decide +kernel, by decide +kernel, by decide +kernel⟩
theorem PF_X10_72 : PutFin RX10 72 10 12 (.object "ReservoirMind$Course") := ⟨RX10, TX10, 17, tyX10, rfl, by decide, iw10, mem_g (List.mem_of_getElem? (i := 390) (by decide +kernel)) (by decide +kernel), tyX10_ok, nmX10, by decide +kernel, by decide +kernel, by decide +kernel⟩
theorem PF_X10_78 : PutFin RX10 78 10 13 (.array (.object "ReservoirMind$Lines")) := ⟨RX10, TX10, 17, tyX10, rfl, by decide, iw10, mem_g (List.mem_of_getElem? (i := 391) (by decide +kernel)) (by decide +kernel), tyX10_ok, nmX10, by decide +kernel, by decide +kernel, by decide +kernel⟩
theorem PF_X10_85 : PutFin RX10 85 10 14 (.object "ReservoirMind$Lines") := ⟨RX10, TX10, 17, tyX10, rfl, by decide, iw10, mem_g (List.mem_of_getElem? (i := 392) (by decide +kernel)) (by decide +kernel), tyX10_ok, nmX10, by decide +kernel, by decide +kernel, by decide +kernel⟩
theorem PF_X10_92 : PutFin RX10 92 10 15 (.object "ReservoirMind$Clauses") := ⟨RX10, TX10, 17, tyX10, rfl, by decide, iw10, mem_g (List.mem_of_getElem? (i := 393) (by decide +kernel)) (by decide +kernel), tyX10_ok, nmX10, by decide +kernel, by decide +kernel, by decide +kernel⟩
theorem PF_X10_98 : PutFin RX10 98 10 16 (.array (.object "ReservoirMind$Tape")) := ⟨RX10, TX10, 17, tyX10, rfl, by decide, iw10, mem_g (List.mem_of_getElem? (i := 394) (by decide +kernel)) (by decide +kernel), tyX10_ok, nmX10, by decide +kernel, by decide +kernel, by decide +kernel⟩
theorem PF_X11_11 : PutFin RX11 11 11 0 (.array .int) := ⟨RX11, TX11, 36, tyX11, rfl, by decide, iw11, mem_g (List.mem_of_getElem? (i := 1072) (by decide +kernel)) (by decide +kernel), tyX11_ok, nmX11, by decide +kernel, by decide +kernel, by decide +kernel⟩
theorem PF_X11_15 : PutFin RX11 15 11 1 (.array .int) := ⟨RX11, TX11, 36, tyX11, rfl, by decide, iw11, mem_g (List.mem_of_getElem? (i := 1073) (by decide +kernel)) (by decide +kernel), tyX11_ok, nmX11, by decide +kernel, by decide +kernel, by decide +kernel⟩
theorem PF_X11_18 : PutFin RX11 18 11 4 (.array .int) := ⟨RX11, TX11, 36, tyX11, rfl, by decide, iw11, mem_g (List.mem_of_getElem? (i := 1076) (by decide +kernel)) (by decide +kernel), tyX11_ok, nmX11, by decide +kernel, by decide +kernel, by decide +kernel⟩
theorem PF_X11_21 : PutFin RX11 21 11 5 (.array .int) := ⟨RX11, TX11, 36, tyX11, rfl, by decide, iw11, mem_g (List.mem_of_getElem? (i := 1077) (by decide +kernel)) (by decide +kernel), tyX11_ok, nmX11, by decide +kernel, by decide +kernel, by decide +kernel⟩
theorem PF_X11_24 : PutFin RX11 24 11 6 (.array .float) := ⟨RX11, TX11, 36, tyX11, rfl, by decide, iw11, mem_g (List.mem_of_getElem? (i := 1078) (by decide +kernel)) (by decide +kernel), tyX11_ok, nmX11, by decide +kernel, by decide +kernel, by decide +kernel⟩
theorem PF_X11_28 : PutFin RX11 28 11 7 (.array .int) := ⟨RX11, TX11, 36, tyX11, rfl, by decide, iw11, mem_g (List.mem_of_getElem? (i := 1079) (by decide +kernel)) (by decide +kernel), tyX11_ok, nmX11, by decide +kernel, by decide +kernel, by decide +kernel⟩
theorem PF_X11_31 : PutFin RX11 31 11 8 (.array .int) := ⟨RX11, TX11, 36, tyX11, rfl, by decide, iw11, mem_g (List.mem_of_getElem? (i := 1080) (by decide +kernel)) (by decide +kernel), tyX11_ok, nmX11, by decide +kernel, by decide +kernel, by decide +kernel⟩
theorem PF_X11_34 : PutFin RX11 34 11 9 (.array .int) := ⟨RX11, TX11, 36, tyX11, rfl, by decide, iw11, mem_g (List.mem_of_getElem? (i := 1081) (by decide +kernel)) (by decide +kernel), tyX11_ok, nmX11, by decide +kernel, by decide +kernel, by decide +kernel⟩
theorem PF_X11_37 : PutFin RX11 37 11 16 (.array .float) := ⟨RX11, TX11, 36, tyX11, rfl, by decide, iw11, mem_g (List.mem_of_getElem? (i := 1088) (by decide +kernel)) (by decide +kernel), tyX11_ok, nmX11, by decide +kernel, by decide +kernel, by decide +kernel⟩
theorem PF_X11_40 : PutFin RX11 40 11 24 (.array .int) := ⟨RX11, TX11, 36, tyX11, rfl, by decide, iw11, mem_g (List.mem_of_getElem? (i := 1096) (by decide +kernel)) (by decide +kernel), tyX11_ok, nmX11, by decide +kernel, by decide +kernel, by decide +kernel⟩
theorem PF_X11_43 : PutFin RX11 43 11 27 (.array .int) := ⟨RX11, TX11, 36, tyX11, rfl, by decide, iw11, mem_g (List.mem_of_getElem? (i := 1099) (by decide +kernel)) (by decide +kernel), tyX11_ok, nmX11, by decide +kernel, by decide +kernel, by decide +kernel⟩
theorem PF_X11_46 : PutFin RX11 46 11 28 (.array .byte) := ⟨RX11, TX11, 36, tyX11, rfl, by decide, iw11, mem_g (List.mem_of_getElem? (i := 1100) (by decide +kernel)) (by decide +kernel), tyX11_ok, nmX11, by decide +kernel, by decide +kernel, by decide +kernel⟩
theorem PF_X11_50 : PutFin RX11 50 11 32 (.array .int) := ⟨RX11, TX11, 36, tyX11, rfl, by decide, iw11, mem_g (List.mem_of_getElem? (i := 1104) (by decide +kernel)) (by decide +kernel), tyX11_ok, nmX11, by decide +kernel, by decide +kernel, by decide +kernel⟩
theorem PF_X11_53 : PutFin RX11 53 11 33 (.array .int) := ⟨RX11, TX11, 36, tyX11, rfl, by decide, iw11, mem_g (List.mem_of_getElem? (i := 1105) (by decide +kernel)) (by decide +kernel), tyX11_ok, nmX11, by decide +kernel, by decide +kernel, by decide +kernel⟩
theorem PF_X11_56 : PutFin RX11 56 11 34 (.array .int) := ⟨RX11, TX11, 36, tyX11, rfl, by decide, iw11, mem_g (List.mem_of_getElem? (i := 1106) (by decide +kernel)) (by decide +kernel), tyX11_ok, nmX11, by decide +kernel, by decide +kernel, by decide +kernel⟩
theorem PF_X11_59 : PutFin RX11 59 11 35 (.array .long) := ⟨RX11, TX11, 36, tyX11, rfl, by decide, iw11, mem_g (List.mem_of_getElem? (i := 1107) (by decide +kernel)) (by decide +kernel), tyX11_ok, nmX11, by decide +kernel, by decide +kernel, by decide +kernel⟩
def fX5_init (v0 : Nat) (μ : Mem) : Option (Unit × Mem) :=
  (pV μ v0 5 0 (.int ((0 : Int32)))).bind fun μ6 => (pV μ6 v0 5 1 (.int ((0 : Int32)))).bind fun μ11 => (pV μ11 v0 5 2 (.int ((1 : Int32)))).bind fun μ16 => (pV μ16 v0 5 3 (.int ((0 : Int32)))).bind fun μ21 => (pV μ21 v0 5 4 (.int ((0 : Int32)))).bind fun μ26 => (pV μ26 v0 5 5 (.int ((0 : Int32)))).bind fun μ31 => some ((), μ31)
set_option maxHeartbeats 4000000 in
set_option maxRecDepth 100000 in
theorem mX5_init (v0 : Nat) (μ : Mem) (hlt : μ.length + 0 < 900) : MethA yX5_init cX5_init 1 1 0 0 [.ref v0] μ (fX5_init v0 μ) := by
  refine MethA.of (by decide) rfl [(0, .ref v0)] rfl (Nat.le_of_ble_eq_true rfl) ?_
  intro p l e R s m args below meth c D ca ad A X B n0 C CA hL
  have C : CX p R s m args meth c D ca ad A X cX5_init RX5 1 none 1 := C
  unfold fX5_init
  refine E_aload_n C dX5_init_0 0 rfl ?_
  refine E_oinit C lk_X5_3 oi_i oi_c dX5_init_1 (Nat.le_of_ble_eq_true rfl) (Nat.le_of_ble_eq_true rfl) ?_
  refine E_aload_n C dX5_init_4 0 rfl ?_
  refine E_iconst C 0 dX5_init_5 (by decide) ?_
  refine EL_putI C P_X5_9 dX5_init_6 (fun μ6 h6 => ?_)
  have hL6 : μ6.length = n0 + 0 := by omega
  refine E_aload_n C dX5_init_9 0 rfl ?_
  refine E_iconst C 0 dX5_init_10 (by decide) ?_
  refine EL_putI C P_X5_15 dX5_init_11 (fun μ11 h11 => ?_)
  have hL11 : μ11.length = n0 + 0 := by omega
  refine E_aload_n C dX5_init_14 0 rfl ?_
  refine E_iconst C 1 dX5_init_15 (by decide) ?_
  refine EL_putI C P_X5_18 dX5_init_16 (fun μ16 h16 => ?_)
  have hL16 : μ16.length = n0 + 0 := by omega
  refine E_aload_n C dX5_init_19 0 rfl ?_
  refine E_iconst C 0 dX5_init_20 (by decide) ?_
  refine EL_putI C P_X5_21 dX5_init_21 (fun μ21 h21 => ?_)
  have hL21 : μ21.length = n0 + 0 := by omega
  refine E_aload_n C dX5_init_24 0 rfl ?_
  refine E_iconst C 0 dX5_init_25 (by decide) ?_
  refine EL_putI C P_X5_24 dX5_init_26 (fun μ26 h26 => ?_)
  have hL26 : μ26.length = n0 + 0 := by omega
  refine E_aload_n C dX5_init_29 0 rfl ?_
  refine E_iconst C 0 dX5_init_30 (by decide) ?_
  refine EL_putI C P_X5_27 dX5_init_31 (fun μ31 h31 => ?_)
  have hL31 : μ31.length = n0 + 0 := by omega
  exact E_retA (n0 := n0) C dX5_init_34 hL31 rfl (Nat.le_of_ble_eq_true rfl)
def fX6_init_4_5 (v0 : Nat) (μ : Mem) : Option (Unit × Mem) :=
  (pV μ v0 6 3 (.int ((0 : Int32)))).bind fun μ6 => (pV μ6 v0 6 0 (.int ((4 : Int32)))).bind fun μ11 => (pV μ11 v0 6 1 (.int ((5 : Int32)))).bind fun μ16 => nw μ16 (.inl (0, 20, .inl (fun _ => 0))) fun q23 μ23 => (pV μ23 v0 6 2 (.ref q23)).bind fun μ25 => some ((), μ25)
set_option maxHeartbeats 4000000 in
set_option maxRecDepth 100000 in
theorem mX6_init_4_5 (v0 : Nat) (μ : Mem) (hlt : μ.length + 1 < 900) : MethA yX6_init cX6_init 3 1 1 20 [.ref v0, .int 4, .int 5] μ (fX6_init_4_5 v0 μ) := by
  refine MethA.of (by decide) rfl [(0, .ref v0), (1, .int 4), (2, .int 5)] rfl (Nat.le_of_ble_eq_true rfl) ?_
  intro p l e R s m args below meth c D ca ad A X B n0 C CA hL
  have C : CX p R s m args meth c D ca ad A X cX6_init RX6 3 none 1 := C
  unfold fX6_init_4_5
  refine E_aload_n C dX6_init_0 0 rfl ?_
  refine E_oinit C lk_X6_3 oi_i oi_c dX6_init_1 (Nat.le_of_ble_eq_true rfl) (Nat.le_of_ble_eq_true rfl) ?_
  refine E_aload_n C dX6_init_4 0 rfl ?_
  refine E_iconst C 0 dX6_init_5 (by decide) ?_
  refine EL_putI C P_X6_9 dX6_init_6 (fun μ6 h6 => ?_)
  have hL6 : μ6.length = n0 + 0 := by omega
  refine E_aload_n C dX6_init_9 0 rfl ?_
  refine E_iload_n C dX6_init_10 1 rfl ?_
  refine EF_putI C CA PF_X6_15 dX6_init_11 (fun μ11 h11 => ?_)
  have hL11 : μ11.length = n0 + 0 := by omega
  refine E_aload_n C dX6_init_14 0 rfl ?_
  refine E_iload_n C dX6_init_15 2 rfl ?_
  refine EF_putI C CA PF_X6_18 dX6_init_16 (fun μ16 h16 => ?_)
  have hL16 : μ16.length = n0 + 0 := by omega
  refine E_aload_n C dX6_init_19 0 rfl ?_
  refine E_iload_n C dX6_init_20 1 rfl ?_
  refine E_iload_n C dX6_init_21 2 rfl ?_
  refine E_imul C dX6_init_22 ?_
  refine E_newa (t := 0) (N := 20) (atype := .int) (mc := 1) (ms := 20) C ⟨CA.1, CA.2.1, CA.2.2.2.1, CA.2.2.2.2⟩ (20, .inl (fun _ => 0)) rfl (fun h => h) (fun _ => rfl) ac_int (by decide) (by decide) (by decide) hL16 (by omega) (Nat.le_of_ble_eq_true rfl) (Nat.le_of_ble_eq_true rfl) dX6_init_23 (fun q23 μ23 _ _ h23 => ?_)
  have hL23 : μ23.length = n0 + 1 := by omega
  refine EF_putA C CA PF_X6_21 dX6_init_25 (fun μ25 h25 => ?_)
  have hL25 : μ25.length = n0 + 1 := by omega
  exact E_retA (n0 := n0) C dX6_init_28 hL25 rfl (Nat.le_of_ble_eq_true rfl)
def fX6_init_2_8 (v0 : Nat) (μ : Mem) : Option (Unit × Mem) :=
  (pV μ v0 6 3 (.int ((0 : Int32)))).bind fun μ6 => (pV μ6 v0 6 0 (.int ((2 : Int32)))).bind fun μ11 => (pV μ11 v0 6 1 (.int ((8 : Int32)))).bind fun μ16 => nw μ16 (.inl (0, 16, .inl (fun _ => 0))) fun q23 μ23 => (pV μ23 v0 6 2 (.ref q23)).bind fun μ25 => some ((), μ25)
set_option maxHeartbeats 4000000 in
set_option maxRecDepth 100000 in
theorem mX6_init_2_8 (v0 : Nat) (μ : Mem) (hlt : μ.length + 1 < 900) : MethA yX6_init cX6_init 3 1 1 16 [.ref v0, .int 2, .int 8] μ (fX6_init_2_8 v0 μ) := by
  refine MethA.of (by decide) rfl [(0, .ref v0), (1, .int 2), (2, .int 8)] rfl (Nat.le_of_ble_eq_true rfl) ?_
  intro p l e R s m args below meth c D ca ad A X B n0 C CA hL
  have C : CX p R s m args meth c D ca ad A X cX6_init RX6 3 none 1 := C
  unfold fX6_init_2_8
  refine E_aload_n C dX6_init_0 0 rfl ?_
  refine E_oinit C lk_X6_3 oi_i oi_c dX6_init_1 (Nat.le_of_ble_eq_true rfl) (Nat.le_of_ble_eq_true rfl) ?_
  refine E_aload_n C dX6_init_4 0 rfl ?_
  refine E_iconst C 0 dX6_init_5 (by decide) ?_
  refine EL_putI C P_X6_9 dX6_init_6 (fun μ6 h6 => ?_)
  have hL6 : μ6.length = n0 + 0 := by omega
  refine E_aload_n C dX6_init_9 0 rfl ?_
  refine E_iload_n C dX6_init_10 1 rfl ?_
  refine EF_putI C CA PF_X6_15 dX6_init_11 (fun μ11 h11 => ?_)
  have hL11 : μ11.length = n0 + 0 := by omega
  refine E_aload_n C dX6_init_14 0 rfl ?_
  refine E_iload_n C dX6_init_15 2 rfl ?_
  refine EF_putI C CA PF_X6_18 dX6_init_16 (fun μ16 h16 => ?_)
  have hL16 : μ16.length = n0 + 0 := by omega
  refine E_aload_n C dX6_init_19 0 rfl ?_
  refine E_iload_n C dX6_init_20 1 rfl ?_
  refine E_iload_n C dX6_init_21 2 rfl ?_
  refine E_imul C dX6_init_22 ?_
  refine E_newa (t := 0) (N := 16) (atype := .int) (mc := 1) (ms := 16) C ⟨CA.1, CA.2.1, CA.2.2.2.1, CA.2.2.2.2⟩ (16, .inl (fun _ => 0)) rfl (fun h => h) (fun _ => rfl) ac_int (by decide) (by decide) (by decide) hL16 (by omega) (Nat.le_of_ble_eq_true rfl) (Nat.le_of_ble_eq_true rfl) dX6_init_23 (fun q23 μ23 _ _ h23 => ?_)
  have hL23 : μ23.length = n0 + 1 := by omega
  refine EF_putA C CA PF_X6_21 dX6_init_25 (fun μ25 h25 => ?_)
  have hL25 : μ25.length = n0 + 1 := by omega
  exact E_retA (n0 := n0) C dX6_init_28 hL25 rfl (Nat.le_of_ble_eq_true rfl)
def fX6_init_3_8 (v0 : Nat) (μ : Mem) : Option (Unit × Mem) :=
  (pV μ v0 6 3 (.int ((0 : Int32)))).bind fun μ6 => (pV μ6 v0 6 0 (.int ((3 : Int32)))).bind fun μ11 => (pV μ11 v0 6 1 (.int ((8 : Int32)))).bind fun μ16 => nw μ16 (.inl (0, 24, .inl (fun _ => 0))) fun q23 μ23 => (pV μ23 v0 6 2 (.ref q23)).bind fun μ25 => some ((), μ25)
set_option maxHeartbeats 4000000 in
set_option maxRecDepth 100000 in
theorem mX6_init_3_8 (v0 : Nat) (μ : Mem) (hlt : μ.length + 1 < 900) : MethA yX6_init cX6_init 3 1 1 24 [.ref v0, .int 3, .int 8] μ (fX6_init_3_8 v0 μ) := by
  refine MethA.of (by decide) rfl [(0, .ref v0), (1, .int 3), (2, .int 8)] rfl (Nat.le_of_ble_eq_true rfl) ?_
  intro p l e R s m args below meth c D ca ad A X B n0 C CA hL
  have C : CX p R s m args meth c D ca ad A X cX6_init RX6 3 none 1 := C
  unfold fX6_init_3_8
  refine E_aload_n C dX6_init_0 0 rfl ?_
  refine E_oinit C lk_X6_3 oi_i oi_c dX6_init_1 (Nat.le_of_ble_eq_true rfl) (Nat.le_of_ble_eq_true rfl) ?_
  refine E_aload_n C dX6_init_4 0 rfl ?_
  refine E_iconst C 0 dX6_init_5 (by decide) ?_
  refine EL_putI C P_X6_9 dX6_init_6 (fun μ6 h6 => ?_)
  have hL6 : μ6.length = n0 + 0 := by omega
  refine E_aload_n C dX6_init_9 0 rfl ?_
  refine E_iload_n C dX6_init_10 1 rfl ?_
  refine EF_putI C CA PF_X6_15 dX6_init_11 (fun μ11 h11 => ?_)
  have hL11 : μ11.length = n0 + 0 := by omega
  refine E_aload_n C dX6_init_14 0 rfl ?_
  refine E_iload_n C dX6_init_15 2 rfl ?_
  refine EF_putI C CA PF_X6_18 dX6_init_16 (fun μ16 h16 => ?_)
  have hL16 : μ16.length = n0 + 0 := by omega
  refine E_aload_n C dX6_init_19 0 rfl ?_
  refine E_iload_n C dX6_init_20 1 rfl ?_
  refine E_iload_n C dX6_init_21 2 rfl ?_
  refine E_imul C dX6_init_22 ?_
  refine E_newa (t := 0) (N := 24) (atype := .int) (mc := 1) (ms := 24) C ⟨CA.1, CA.2.1, CA.2.2.2.1, CA.2.2.2.2⟩ (24, .inl (fun _ => 0)) rfl (fun h => h) (fun _ => rfl) ac_int (by decide) (by decide) (by decide) hL16 (by omega) (Nat.le_of_ble_eq_true rfl) (Nat.le_of_ble_eq_true rfl) dX6_init_23 (fun q23 μ23 _ _ h23 => ?_)
  have hL23 : μ23.length = n0 + 1 := by omega
  refine EF_putA C CA PF_X6_21 dX6_init_25 (fun μ25 h25 => ?_)
  have hL25 : μ25.length = n0 + 1 := by omega
  exact E_retA (n0 := n0) C dX6_init_28 hL25 rfl (Nat.le_of_ble_eq_true rfl)
def fX6_init_1_24 (v0 : Nat) (μ : Mem) : Option (Unit × Mem) :=
  (pV μ v0 6 3 (.int ((0 : Int32)))).bind fun μ6 => (pV μ6 v0 6 0 (.int ((1 : Int32)))).bind fun μ11 => (pV μ11 v0 6 1 (.int ((24 : Int32)))).bind fun μ16 => nw μ16 (.inl (0, 24, .inl (fun _ => 0))) fun q23 μ23 => (pV μ23 v0 6 2 (.ref q23)).bind fun μ25 => some ((), μ25)
set_option maxHeartbeats 4000000 in
set_option maxRecDepth 100000 in
theorem mX6_init_1_24 (v0 : Nat) (μ : Mem) (hlt : μ.length + 1 < 900) : MethA yX6_init cX6_init 3 1 1 24 [.ref v0, .int 1, .int 24] μ (fX6_init_1_24 v0 μ) := by
  refine MethA.of (by decide) rfl [(0, .ref v0), (1, .int 1), (2, .int 24)] rfl (Nat.le_of_ble_eq_true rfl) ?_
  intro p l e R s m args below meth c D ca ad A X B n0 C CA hL
  have C : CX p R s m args meth c D ca ad A X cX6_init RX6 3 none 1 := C
  unfold fX6_init_1_24
  refine E_aload_n C dX6_init_0 0 rfl ?_
  refine E_oinit C lk_X6_3 oi_i oi_c dX6_init_1 (Nat.le_of_ble_eq_true rfl) (Nat.le_of_ble_eq_true rfl) ?_
  refine E_aload_n C dX6_init_4 0 rfl ?_
  refine E_iconst C 0 dX6_init_5 (by decide) ?_
  refine EL_putI C P_X6_9 dX6_init_6 (fun μ6 h6 => ?_)
  have hL6 : μ6.length = n0 + 0 := by omega
  refine E_aload_n C dX6_init_9 0 rfl ?_
  refine E_iload_n C dX6_init_10 1 rfl ?_
  refine EF_putI C CA PF_X6_15 dX6_init_11 (fun μ11 h11 => ?_)
  have hL11 : μ11.length = n0 + 0 := by omega
  refine E_aload_n C dX6_init_14 0 rfl ?_
  refine E_iload_n C dX6_init_15 2 rfl ?_
  refine EF_putI C CA PF_X6_18 dX6_init_16 (fun μ16 h16 => ?_)
  have hL16 : μ16.length = n0 + 0 := by omega
  refine E_aload_n C dX6_init_19 0 rfl ?_
  refine E_iload_n C dX6_init_20 1 rfl ?_
  refine E_iload_n C dX6_init_21 2 rfl ?_
  refine E_imul C dX6_init_22 ?_
  refine E_newa (t := 0) (N := 24) (atype := .int) (mc := 1) (ms := 24) C ⟨CA.1, CA.2.1, CA.2.2.2.1, CA.2.2.2.2⟩ (24, .inl (fun _ => 0)) rfl (fun h => h) (fun _ => rfl) ac_int (by decide) (by decide) (by decide) hL16 (by omega) (Nat.le_of_ble_eq_true rfl) (Nat.le_of_ble_eq_true rfl) dX6_init_23 (fun q23 μ23 _ _ h23 => ?_)
  have hL23 : μ23.length = n0 + 1 := by omega
  refine EF_putA C CA PF_X6_21 dX6_init_25 (fun μ25 h25 => ?_)
  have hL25 : μ25.length = n0 + 1 := by omega
  exact E_retA (n0 := n0) C dX6_init_28 hL25 rfl (Nat.le_of_ble_eq_true rfl)
def fX6_init_1_100 (v0 : Nat) (μ : Mem) : Option (Unit × Mem) :=
  (pV μ v0 6 3 (.int ((0 : Int32)))).bind fun μ6 => (pV μ6 v0 6 0 (.int ((1 : Int32)))).bind fun μ11 => (pV μ11 v0 6 1 (.int ((100 : Int32)))).bind fun μ16 => nw μ16 (.inl (0, 100, .inl (fun _ => 0))) fun q23 μ23 => (pV μ23 v0 6 2 (.ref q23)).bind fun μ25 => some ((), μ25)
set_option maxHeartbeats 4000000 in
set_option maxRecDepth 100000 in
theorem mX6_init_1_100 (v0 : Nat) (μ : Mem) (hlt : μ.length + 1 < 900) : MethA yX6_init cX6_init 3 1 1 100 [.ref v0, .int 1, .int 100] μ (fX6_init_1_100 v0 μ) := by
  refine MethA.of (by decide) rfl [(0, .ref v0), (1, .int 1), (2, .int 100)] rfl (Nat.le_of_ble_eq_true rfl) ?_
  intro p l e R s m args below meth c D ca ad A X B n0 C CA hL
  have C : CX p R s m args meth c D ca ad A X cX6_init RX6 3 none 1 := C
  unfold fX6_init_1_100
  refine E_aload_n C dX6_init_0 0 rfl ?_
  refine E_oinit C lk_X6_3 oi_i oi_c dX6_init_1 (Nat.le_of_ble_eq_true rfl) (Nat.le_of_ble_eq_true rfl) ?_
  refine E_aload_n C dX6_init_4 0 rfl ?_
  refine E_iconst C 0 dX6_init_5 (by decide) ?_
  refine EL_putI C P_X6_9 dX6_init_6 (fun μ6 h6 => ?_)
  have hL6 : μ6.length = n0 + 0 := by omega
  refine E_aload_n C dX6_init_9 0 rfl ?_
  refine E_iload_n C dX6_init_10 1 rfl ?_
  refine EF_putI C CA PF_X6_15 dX6_init_11 (fun μ11 h11 => ?_)
  have hL11 : μ11.length = n0 + 0 := by omega
  refine E_aload_n C dX6_init_14 0 rfl ?_
  refine E_iload_n C dX6_init_15 2 rfl ?_
  refine EF_putI C CA PF_X6_18 dX6_init_16 (fun μ16 h16 => ?_)
  have hL16 : μ16.length = n0 + 0 := by omega
  refine E_aload_n C dX6_init_19 0 rfl ?_
  refine E_iload_n C dX6_init_20 1 rfl ?_
  refine E_iload_n C dX6_init_21 2 rfl ?_
  refine E_imul C dX6_init_22 ?_
  refine E_newa (t := 0) (N := 100) (atype := .int) (mc := 1) (ms := 100) C ⟨CA.1, CA.2.1, CA.2.2.2.1, CA.2.2.2.2⟩ (100, .inl (fun _ => 0)) rfl (fun h => h) (fun _ => rfl) ac_int (by decide) (by decide) (by decide) hL16 (by omega) (Nat.le_of_ble_eq_true rfl) (Nat.le_of_ble_eq_true rfl) dX6_init_23 (fun q23 μ23 _ _ h23 => ?_)
  have hL23 : μ23.length = n0 + 1 := by omega
  refine EF_putA C CA PF_X6_21 dX6_init_25 (fun μ25 h25 => ?_)
  have hL25 : μ25.length = n0 + 1 := by omega
  exact E_retA (n0 := n0) C dX6_init_28 hL25 rfl (Nat.le_of_ble_eq_true rfl)
def fX7_init (v0 : Nat) (μ : Mem) : Option (Unit × Mem) :=
  (pV μ v0 7 0 (.int ((0 : Int32)))).bind fun μ6 => (pV μ6 v0 7 1 (.int ((0 : Int32)))).bind fun μ11 => (pV μ11 v0 7 2 (.int ((0 : Int32)))).bind fun μ16 => (pV μ16 v0 7 3 (.int ((0 : Int32)))).bind fun μ21 => (pV μ21 v0 7 4 (.int ((0 : Int32)))).bind fun μ26 => (pV μ26 v0 7 5 (.int ((0 : Int32)))).bind fun μ31 => some ((), μ31)
set_option maxHeartbeats 4000000 in
set_option maxRecDepth 100000 in
theorem mX7_init (v0 : Nat) (μ : Mem) (hlt : μ.length + 0 < 900) : MethA yX7_init cX7_init 1 1 0 0 [.ref v0] μ (fX7_init v0 μ) := by
  refine MethA.of (by decide) rfl [(0, .ref v0)] rfl (Nat.le_of_ble_eq_true rfl) ?_
  intro p l e R s m args below meth c D ca ad A X B n0 C CA hL
  have C : CX p R s m args meth c D ca ad A X cX7_init RX7 1 none 1 := C
  unfold fX7_init
  refine E_aload_n C dX7_init_0 0 rfl ?_
  refine E_oinit C lk_X7_3 oi_i oi_c dX7_init_1 (Nat.le_of_ble_eq_true rfl) (Nat.le_of_ble_eq_true rfl) ?_
  refine E_aload_n C dX7_init_4 0 rfl ?_
  refine E_iconst C 0 dX7_init_5 (by decide) ?_
  refine EL_putI C P_X7_9 dX7_init_6 (fun μ6 h6 => ?_)
  have hL6 : μ6.length = n0 + 0 := by omega
  refine E_aload_n C dX7_init_9 0 rfl ?_
  refine E_iconst C 0 dX7_init_10 (by decide) ?_
  refine EL_putI C P_X7_15 dX7_init_11 (fun μ11 h11 => ?_)
  have hL11 : μ11.length = n0 + 0 := by omega
  refine E_aload_n C dX7_init_14 0 rfl ?_
  refine E_iconst C 0 dX7_init_15 (by decide) ?_
  refine EL_putI C P_X7_18 dX7_init_16 (fun μ16 h16 => ?_)
  have hL16 : μ16.length = n0 + 0 := by omega
  refine E_aload_n C dX7_init_19 0 rfl ?_
  refine E_iconst C 0 dX7_init_20 (by decide) ?_
  refine EL_putI C P_X7_21 dX7_init_21 (fun μ21 h21 => ?_)
  have hL21 : μ21.length = n0 + 0 := by omega
  refine E_aload_n C dX7_init_24 0 rfl ?_
  refine E_iconst C 0 dX7_init_25 (by decide) ?_
  refine EL_putI C P_X7_24 dX7_init_26 (fun μ26 h26 => ?_)
  have hL26 : μ26.length = n0 + 0 := by omega
  refine E_aload_n C dX7_init_29 0 rfl ?_
  refine E_iconst C 0 dX7_init_30 (by decide) ?_
  refine EL_putI C P_X7_27 dX7_init_31 (fun μ31 h31 => ?_)
  have hL31 : μ31.length = n0 + 0 := by omega
  exact E_retA (n0 := n0) C dX7_init_34 hL31 rfl (Nat.le_of_ble_eq_true rfl)
def fX9_init (v0 : Nat) (μ : Mem) : Option (Unit × Mem) :=
  (pV μ v0 9 0 (.int ((-1 : Int32)))).bind fun μ6 => (pV μ6 v0 9 1 (.int ((0 : Int32)))).bind fun μ11 => nw μ11 (.inl (1, 60, .inr (.inl (fun _ => 0)))) fun q17 μ17 => (pV μ17 v0 9 2 (.ref q17)).bind fun μ19 => some ((), μ19)
set_option maxHeartbeats 4000000 in
set_option maxRecDepth 100000 in
theorem mX9_init (v0 : Nat) (μ : Mem) (hlt : μ.length + 1 < 900) : MethA yX9_init cX9_init 1 1 1 60 [.ref v0] μ (fX9_init v0 μ) := by
  refine MethA.of (by decide) rfl [(0, .ref v0)] rfl (Nat.le_of_ble_eq_true rfl) ?_
  intro p l e R s m args below meth c D ca ad A X B n0 C CA hL
  have C : CX p R s m args meth c D ca ad A X cX9_init RX9 1 none 1 := C
  unfold fX9_init
  refine E_aload_n C dX9_init_0 0 rfl ?_
  refine E_oinit C lk_X9_3 oi_i oi_c dX9_init_1 (Nat.le_of_ble_eq_true rfl) (Nat.le_of_ble_eq_true rfl) ?_
  refine E_aload_n C dX9_init_4 0 rfl ?_
  refine E_iconst C (-1) dX9_init_5 (by decide) ?_
  refine EL_putI C P_X9_9 dX9_init_6 (fun μ6 h6 => ?_)
  have hL6 : μ6.length = n0 + 0 := by omega
  refine E_aload_n C dX9_init_9 0 rfl ?_
  refine E_iconst C 0 dX9_init_10 (by decide) ?_
  refine EL_putI C P_X9_15 dX9_init_11 (fun μ11 h11 => ?_)
  have hL11 : μ11.length = n0 + 0 := by omega
  refine E_aload_n C dX9_init_14 0 rfl ?_
  refine E_bipush C 60 dX9_init_15 (by decide) ?_
  refine E_newa (t := 1) (N := 60) (atype := .long) (mc := 1) (ms := 60) C ⟨CA.1, CA.2.1, CA.2.2.2.1, CA.2.2.2.2⟩ (60, .inr (.inl (fun _ => 0))) rfl (fun h => h) (fun _ => rfl) ac_long (by decide) (by decide) (by decide) hL11 (by omega) (Nat.le_of_ble_eq_true rfl) (Nat.le_of_ble_eq_true rfl) dX9_init_17 (fun q17 μ17 _ _ h17 => ?_)
  have hL17 : μ17.length = n0 + 1 := by omega
  refine EF_putA C CA PF_X9_18 dX9_init_19 (fun μ19 h19 => ?_)
  have hL19 : μ19.length = n0 + 1 := by omega
  exact E_retA (n0 := n0) C dX9_init_22 hL19 rfl (Nat.le_of_ble_eq_true rfl)
def fX1_init (v0 : Nat) (μ : Mem) : Option (Unit × Mem) :=
  nw μ (.inl (2, 546, .inr (.inr (.inl (fun _ => 0))))) fun q8 μ8 => (pV μ8 v0 1 0 (.ref q8)).bind fun μ10 => nw μ10 (.inl (2, 546, .inr (.inr (.inl (fun _ => 0))))) fun q17 μ17 => (pV μ17 v0 1 1 (.ref q17)).bind fun μ19 => nw μ19 (.inl (0, 504, .inl (fun _ => 0))) fun q26 μ26 => (pV μ26 v0 1 2 (.ref q26)).bind fun μ28 => nw μ28 (.inl (0, 252, .inl (fun _ => 0))) fun q35 μ35 => (pV μ35 v0 1 3 (.ref q35)).bind fun μ37 => some ((), μ37)
set_option maxHeartbeats 4000000 in
set_option maxRecDepth 100000 in
theorem mX1_init (v0 : Nat) (μ : Mem) (hlt : μ.length + 4 < 900) : MethA yX1_init cX1_init 1 1 4 1848 [.ref v0] μ (fX1_init v0 μ) := by
  refine MethA.of (by decide) rfl [(0, .ref v0)] rfl (Nat.le_of_ble_eq_true rfl) ?_
  intro p l e R s m args below meth c D ca ad A X B n0 C CA hL
  have C : CX p R s m args meth c D ca ad A X cX1_init RX1 1 none 1 := C
  unfold fX1_init
  refine E_aload_n C dX1_init_0 0 rfl ?_
  refine E_oinit C lk_X1_3 oi_i oi_c dX1_init_1 (Nat.le_of_ble_eq_true rfl) (Nat.le_of_ble_eq_true rfl) ?_
  refine E_aload_n C dX1_init_4 0 rfl ?_
  refine E_sipush C 546 dX1_init_5 (by decide) ?_
  refine E_newa (t := 2) (N := 546) (atype := .float) (mc := 4) (ms := 1848) C ⟨CA.1, CA.2.1, CA.2.2.2.1, CA.2.2.2.2⟩ (546, .inr (.inr (.inl (fun _ => 0)))) rfl (fun h => h) (fun _ => rfl) ac_float (by decide) (by decide) (by decide) hL (by omega) (Nat.le_of_ble_eq_true rfl) (Nat.le_of_ble_eq_true rfl) dX1_init_8 (fun q8 μ8 _ _ h8 => ?_)
  have hL8 : μ8.length = n0 + 1 := by omega
  refine EF_putA C CA PF_X1_9 dX1_init_10 (fun μ10 h10 => ?_)
  have hL10 : μ10.length = n0 + 1 := by omega
  refine E_aload_n C dX1_init_13 0 rfl ?_
  refine E_sipush C 546 dX1_init_14 (by decide) ?_
  refine E_newa (t := 2) (N := 546) (atype := .float) (mc := 4) (ms := 1848) C ⟨CA.1, CA.2.1, CA.2.2.2.1, CA.2.2.2.2⟩ (546, .inr (.inr (.inl (fun _ => 0)))) rfl (fun h => h) (fun _ => rfl) ac_float (by decide) (by decide) (by decide) hL10 (by omega) (Nat.le_of_ble_eq_true rfl) (Nat.le_of_ble_eq_true rfl) dX1_init_17 (fun q17 μ17 _ _ h17 => ?_)
  have hL17 : μ17.length = n0 + 2 := by omega
  refine EF_putA C CA PF_X1_15 dX1_init_19 (fun μ19 h19 => ?_)
  have hL19 : μ19.length = n0 + 2 := by omega
  refine E_aload_n C dX1_init_22 0 rfl ?_
  refine E_sipush C 504 dX1_init_23 (by decide) ?_
  refine E_newa (t := 0) (N := 504) (atype := .int) (mc := 4) (ms := 1848) C ⟨CA.1, CA.2.1, CA.2.2.2.1, CA.2.2.2.2⟩ (504, .inl (fun _ => 0)) rfl (fun h => h) (fun _ => rfl) ac_int (by decide) (by decide) (by decide) hL19 (by omega) (Nat.le_of_ble_eq_true rfl) (Nat.le_of_ble_eq_true rfl) dX1_init_26 (fun q26 μ26 _ _ h26 => ?_)
  have hL26 : μ26.length = n0 + 3 := by omega
  refine EF_putA C CA PF_X1_18 dX1_init_28 (fun μ28 h28 => ?_)
  have hL28 : μ28.length = n0 + 3 := by omega
  refine E_aload_n C dX1_init_31 0 rfl ?_
  refine E_sipush C 252 dX1_init_32 (by decide) ?_
  refine E_newa (t := 0) (N := 252) (atype := .int) (mc := 4) (ms := 1848) C ⟨CA.1, CA.2.1, CA.2.2.2.1, CA.2.2.2.2⟩ (252, .inl (fun _ => 0)) rfl (fun h => h) (fun _ => rfl) ac_int (by decide) (by decide) (by decide) hL28 (by omega) (Nat.le_of_ble_eq_true rfl) (Nat.le_of_ble_eq_true rfl) dX1_init_35 (fun q35 μ35 _ _ h35 => ?_)
  have hL35 : μ35.length = n0 + 4 := by omega
  refine EF_putA C CA PF_X1_22 dX1_init_37 (fun μ37 h37 => ?_)
  have hL37 : μ37.length = n0 + 4 := by omega
  exact E_retA (n0 := n0) C dX1_init_40 hL37 rfl (Nat.le_of_ble_eq_true rfl)
def fX2_init (v0 : Nat) (μ : Mem) : Option (Unit × Mem) :=
  nw μ (.inl (2, 9, .inr (.inr (.inl (fun _ => 0))))) fun q7 μ7 => (pV μ7 v0 2 0 (.ref q7)).bind fun μ9 => nw μ9 (.inl (2, 3, .inr (.inr (.inl (fun _ => 0))))) fun q14 μ14 => (pV μ14 v0 2 1 (.ref q14)).bind fun μ16 => nw μ16 (.inl (2, 3, .inr (.inr (.inl (fun _ => 0))))) fun q21 μ21 => (pV μ21 v0 2 2 (.ref q21)).bind fun μ23 => nw μ23 (.inl (0, 9, .inl (fun _ => 0))) fun q29 μ29 => (pV μ29 v0 2 3 (.ref q29)).bind fun μ31 => nw μ31 (.inl (2, 9, .inr (.inr (.inl (fun _ => 0))))) fun q37 μ37 => (pV μ37 v0 2 4 (.ref q37)).bind fun μ39 => nw μ39 (.inl (0, 8, .inl (fun _ => 0))) fun q45 μ45 => (pV μ45 v0 2 5 (.ref q45)).bind fun μ47 => (pV μ47 v0 2 6 (.float FP.fconst0)).bind fun μ52 => some ((), μ52)
set_option maxHeartbeats 4000000 in
set_option maxRecDepth 100000 in
theorem mX2_init (v0 : Nat) (μ : Mem) (hlt : μ.length + 6 < 900) : MethA yX2_init cX2_init 1 1 6 41 [.ref v0] μ (fX2_init v0 μ) := by
  refine MethA.of (by decide) rfl [(0, .ref v0)] rfl (Nat.le_of_ble_eq_true rfl) ?_
  intro p l e R s m args below meth c D ca ad A X B n0 C CA hL
  have C : CX p R s m args meth c D ca ad A X cX2_init RX2 1 none 1 := C
  unfold fX2_init
  refine E_aload_n C dX2_init_0 0 rfl ?_
  refine E_oinit C lk_X2_3 oi_i oi_c dX2_init_1 (Nat.le_of_ble_eq_true rfl) (Nat.le_of_ble_eq_true rfl) ?_
  refine E_aload_n C dX2_init_4 0 rfl ?_
  refine E_bipush C 9 dX2_init_5 (by decide) ?_
  refine E_newa (t := 2) (N := 9) (atype := .float) (mc := 6) (ms := 41) C ⟨CA.1, CA.2.1, CA.2.2.2.1, CA.2.2.2.2⟩ (9, .inr (.inr (.inl (fun _ => 0)))) rfl (fun h => h) (fun _ => rfl) ac_float (by decide) (by decide) (by decide) hL (by omega) (Nat.le_of_ble_eq_true rfl) (Nat.le_of_ble_eq_true rfl) dX2_init_7 (fun q7 μ7 _ _ h7 => ?_)
  have hL7 : μ7.length = n0 + 1 := by omega
  refine EF_putA C CA PF_X2_9 dX2_init_9 (fun μ9 h9 => ?_)
  have hL9 : μ9.length = n0 + 1 := by omega
  refine E_aload_n C dX2_init_12 0 rfl ?_
  refine E_iconst C 3 dX2_init_13 (by decide) ?_
  refine E_newa (t := 2) (N := 3) (atype := .float) (mc := 6) (ms := 41) C ⟨CA.1, CA.2.1, CA.2.2.2.1, CA.2.2.2.2⟩ (3, .inr (.inr (.inl (fun _ => 0)))) rfl (fun h => h) (fun _ => rfl) ac_float (by decide) (by decide) (by decide) hL9 (by omega) (Nat.le_of_ble_eq_true rfl) (Nat.le_of_ble_eq_true rfl) dX2_init_14 (fun q14 μ14 _ _ h14 => ?_)
  have hL14 : μ14.length = n0 + 2 := by omega
  refine EL_putR C P_X2_15 dX2_init_16 (fun μ16 h16 => ?_)
  have hL16 : μ16.length = n0 + 2 := by omega
  refine E_aload_n C dX2_init_19 0 rfl ?_
  refine E_iconst C 3 dX2_init_20 (by decide) ?_
  refine E_newa (t := 2) (N := 3) (atype := .float) (mc := 6) (ms := 41) C ⟨CA.1, CA.2.1, CA.2.2.2.1, CA.2.2.2.2⟩ (3, .inr (.inr (.inl (fun _ => 0)))) rfl (fun h => h) (fun _ => rfl) ac_float (by decide) (by decide) (by decide) hL16 (by omega) (Nat.le_of_ble_eq_true rfl) (Nat.le_of_ble_eq_true rfl) dX2_init_21 (fun q21 μ21 _ _ h21 => ?_)
  have hL21 : μ21.length = n0 + 3 := by omega
  refine EL_putR C P_X2_18 dX2_init_23 (fun μ23 h23 => ?_)
  have hL23 : μ23.length = n0 + 3 := by omega
  refine E_aload_n C dX2_init_26 0 rfl ?_
  refine E_bipush C 9 dX2_init_27 (by decide) ?_
  refine E_newa (t := 0) (N := 9) (atype := .int) (mc := 6) (ms := 41) C ⟨CA.1, CA.2.1, CA.2.2.2.1, CA.2.2.2.2⟩ (9, .inl (fun _ => 0)) rfl (fun h => h) (fun _ => rfl) ac_int (by decide) (by decide) (by decide) hL23 (by omega) (Nat.le_of_ble_eq_true rfl) (Nat.le_of_ble_eq_true rfl) dX2_init_29 (fun q29 μ29 _ _ h29 => ?_)
  have hL29 : μ29.length = n0 + 4 := by omega
  refine EF_putA C CA PF_X2_21 dX2_init_31 (fun μ31 h31 => ?_)
  have hL31 : μ31.length = n0 + 4 := by omega
  refine E_aload_n C dX2_init_34 0 rfl ?_
  refine E_bipush C 9 dX2_init_35 (by decide) ?_
  refine E_newa (t := 2) (N := 9) (atype := .float) (mc := 6) (ms := 41) C ⟨CA.1, CA.2.1, CA.2.2.2.1, CA.2.2.2.2⟩ (9, .inr (.inr (.inl (fun _ => 0)))) rfl (fun h => h) (fun _ => rfl) ac_float (by decide) (by decide) (by decide) hL31 (by omega) (Nat.le_of_ble_eq_true rfl) (Nat.le_of_ble_eq_true rfl) dX2_init_37 (fun q37 μ37 _ _ h37 => ?_)
  have hL37 : μ37.length = n0 + 5 := by omega
  refine EF_putA C CA PF_X2_25 dX2_init_39 (fun μ39 h39 => ?_)
  have hL39 : μ39.length = n0 + 5 := by omega
  refine E_aload_n C dX2_init_42 0 rfl ?_
  refine E_bipush C 8 dX2_init_43 (by decide) ?_
  refine E_newa (t := 0) (N := 8) (atype := .int) (mc := 6) (ms := 41) C ⟨CA.1, CA.2.1, CA.2.2.2.1, CA.2.2.2.2⟩ (8, .inl (fun _ => 0)) rfl (fun h => h) (fun _ => rfl) ac_int (by decide) (by decide) (by decide) hL39 (by omega) (Nat.le_of_ble_eq_true rfl) (Nat.le_of_ble_eq_true rfl) dX2_init_45 (fun q45 μ45 _ _ h45 => ?_)
  have hL45 : μ45.length = n0 + 6 := by omega
  refine EF_putA C CA PF_X2_28 dX2_init_47 (fun μ47 h47 => ?_)
  have hL47 : μ47.length = n0 + 6 := by omega
  refine E_aload_n C dX2_init_50 0 rfl ?_
  refine E_fconst0 C dX2_init_51 ?_
  refine EL_putF C P_X2_31 dX2_init_52 (fun μ52 h52 => ?_)
  have hL52 : μ52.length = n0 + 6 := by omega
  exact E_retA (n0 := n0) C dX2_init_55 hL52 rfl (Nat.le_of_ble_eq_true rfl)
def fX3_init (v0 : Nat) (μ : Mem) : Option (Unit × Mem) :=
  nw μ (.inl (0, 84, .inl (fun _ => 0))) fun q7 μ7 => (pV μ7 v0 3 0 (.ref q7)).bind fun μ9 => (pV μ9 v0 3 1 (.int ((0 : Int32)))).bind fun μ14 => (pV μ14 v0 3 2 (.int ((0 : Int32)))).bind fun μ19 => some ((), μ19)
set_option maxHeartbeats 4000000 in
set_option maxRecDepth 100000 in
theorem mX3_init (v0 : Nat) (μ : Mem) (hlt : μ.length + 1 < 900) : MethA yX3_init cX3_init 1 1 1 84 [.ref v0] μ (fX3_init v0 μ) := by
  refine MethA.of (by decide) rfl [(0, .ref v0)] rfl (Nat.le_of_ble_eq_true rfl) ?_
  intro p l e R s m args below meth c D ca ad A X B n0 C CA hL
  have C : CX p R s m args meth c D ca ad A X cX3_init RX3 1 none 1 := C
  unfold fX3_init
  refine E_aload_n C dX3_init_0 0 rfl ?_
  refine E_oinit C lk_X3_3 oi_i oi_c dX3_init_1 (Nat.le_of_ble_eq_true rfl) (Nat.le_of_ble_eq_true rfl) ?_
  refine E_aload_n C dX3_init_4 0 rfl ?_
  refine E_bipush C 84 dX3_init_5 (by decide) ?_
  refine E_newa (t := 0) (N := 84) (atype := .int) (mc := 1) (ms := 84) C ⟨CA.1, CA.2.1, CA.2.2.2.1, CA.2.2.2.2⟩ (84, .inl (fun _ => 0)) rfl (fun h => h) (fun _ => rfl) ac_int (by decide) (by decide) (by decide) hL (by omega) (Nat.le_of_ble_eq_true rfl) (Nat.le_of_ble_eq_true rfl) dX3_init_7 (fun q7 μ7 _ _ h7 => ?_)
  have hL7 : μ7.length = n0 + 1 := by omega
  refine EF_putA C CA PF_X3_9 dX3_init_9 (fun μ9 h9 => ?_)
  have hL9 : μ9.length = n0 + 1 := by omega
  refine E_aload_n C dX3_init_12 0 rfl ?_
  refine E_iconst C 0 dX3_init_13 (by decide) ?_
  refine EL_putI C P_X3_15 dX3_init_14 (fun μ14 h14 => ?_)
  have hL14 : μ14.length = n0 + 1 := by omega
  refine E_aload_n C dX3_init_17 0 rfl ?_
  refine E_iconst C 0 dX3_init_18 (by decide) ?_
  refine EL_putI C P_X3_19 dX3_init_19 (fun μ19 h19 => ?_)
  have hL19 : μ19.length = n0 + 1 := by omega
  exact E_retA (n0 := n0) C dX3_init_22 hL19 rfl (Nat.le_of_ble_eq_true rfl)
def fX4_init (v0 : Nat) (μ : Mem) : Option (Unit × Mem) :=
  nw μ (.inr (7, dfl7)) fun q5 μ5 => bd (fX7_init q5 μ5) fun _ μ9 => (pV μ9 v0 4 0 (.ref q5)).bind fun μ12 => nw μ12 (.inl (0, 25, .inl (fun _ => 0))) fun q18 μ18 => (pV μ18 v0 4 1 (.ref q18)).bind fun μ20 => nw μ20 (.inl (0, 24, .inl (fun _ => 0))) fun q26 μ26 => (pV μ26 v0 4 2 (.ref q26)).bind fun μ28 => (pV μ28 v0 4 3 (.int ((0 : Int32)))).bind fun μ33 => (pV μ33 v0 4 4 (.int ((0 : Int32)))).bind fun μ38 => (pV μ38 v0 4 5 (.int ((0 : Int32)))).bind fun μ43 => (pV μ43 v0 4 6 (.int ((0 : Int32)))).bind fun μ48 => (pV μ48 v0 4 7 (.int ((0 : Int32)))).bind fun μ53 => some ((), μ53)
set_option maxHeartbeats 4000000 in
set_option maxRecDepth 100000 in
theorem mX4_init (v0 : Nat) (μ : Mem) (hlt : μ.length + 3 < 900) : MethA yX4_init cX4_init 1 2 3 55 [.ref v0] μ (fX4_init v0 μ) := by
  refine MethA.of (by decide) rfl [(0, .ref v0)] rfl (Nat.le_of_ble_eq_true rfl) ?_
  intro p l e R s m args below meth c D ca ad A X B n0 C CA hL
  have C : CX p R s m args meth c D ca ad A X cX4_init RX4 1 none 2 := C
  unfold fX4_init
  refine E_aload_n C dX4_init_0 0 rfl ?_
  refine E_oinit C lk_X4_3 oi_i oi_c dX4_init_1 (Nat.le_of_ble_eq_true rfl) (Nat.le_of_ble_eq_true rfl) ?_
  refine E_aload_n C dX4_init_4 0 rfl ?_
  refine E_new (mc := 3) (ms := 55) (ty := tyX7) C ⟨CA.1, CA.2.1, CA.2.2.2.1, CA.2.2.2.2⟩ dfl7 rfl iw7 tyX7_ok (dfl7_ok ad) cl_X4_9 ins_X7 ini_X7 hL (by omega) (Nat.le_of_ble_eq_true rfl) (Nat.le_of_ble_eq_true rfl) dX4_init_5 (fun q5 μ5 _ _ h5 => ?_)
  have hL5 : μ5.length = n0 + 1 := by omega
  refine E_dup_r C dX4_init_8 ?_
  refine E_initN (mc := 3) (ms := 55) (st := [.ref q5, .ref v0]) C ⟨CA.1, CA.2.1, CA.2.2.2.1, CA.2.2.2.2⟩ [] (mX7_init q5 μ5 (by omega)) cal_X7_init rfl im_X7_init lk_X4_11 dX4_init_9 rfl rfl (Nat.le_of_ble_eq_true rfl) (Nat.le_of_ble_eq_true rfl) hL5 (by omega) (Nat.le_of_ble_eq_true rfl) (Nat.le_of_ble_eq_true rfl) (fun μ9 h9 => ?_)
  have hL9 : μ9.length = n0 + 1 := by omega
  refine EF_putO C CA PF_X4_12 dX4_init_12 (fun μ12 h12 => ?_)
  have hL12 : μ12.length = n0 + 1 := by omega
  refine E_aload_n C dX4_init_15 0 rfl ?_
  refine E_bipush C 25 dX4_init_16 (by decide) ?_
  refine E_newa (t := 0) (N := 25) (atype := .int) (mc := 3) (ms := 55) C ⟨CA.1, CA.2.1, CA.2.2.2.1, CA.2.2.2.2⟩ (25, .inl (fun _ => 0)) rfl (fun h => h) (fun _ => rfl) ac_int (by decide) (by decide) (by decide) hL12 (by omega) (Nat.le_of_ble_eq_true rfl) (Nat.le_of_ble_eq_true rfl) dX4_init_18 (fun q18 μ18 _ _ h18 => ?_)
  have hL18 : μ18.length = n0 + 2 := by omega
  refine EF_putA C CA PF_X4_18 dX4_init_20 (fun μ20 h20 => ?_)
  have hL20 : μ20.length = n0 + 2 := by omega
  refine E_aload_n C dX4_init_23 0 rfl ?_
  refine E_bipush C 24 dX4_init_24 (by decide) ?_
  refine E_newa (t := 0) (N := 24) (atype := .int) (mc := 3) (ms := 55) C ⟨CA.1, CA.2.1, CA.2.2.2.1, CA.2.2.2.2⟩ (24, .inl (fun _ => 0)) rfl (fun h => h) (fun _ => rfl) ac_int (by decide) (by decide) (by decide) hL20 (by omega) (Nat.le_of_ble_eq_true rfl) (Nat.le_of_ble_eq_true rfl) dX4_init_26 (fun q26 μ26 _ _ h26 => ?_)
  have hL26 : μ26.length = n0 + 3 := by omega
  refine EF_putA C CA PF_X4_22 dX4_init_28 (fun μ28 h28 => ?_)
  have hL28 : μ28.length = n0 + 3 := by omega
  refine E_aload_n C dX4_init_31 0 rfl ?_
  refine E_iconst C 0 dX4_init_32 (by decide) ?_
  refine EL_putI C P_X4_25 dX4_init_33 (fun μ33 h33 => ?_)
  have hL33 : μ33.length = n0 + 3 := by omega
  refine E_aload_n C dX4_init_36 0 rfl ?_
  refine E_iconst C 0 dX4_init_37 (by decide) ?_
  refine EL_putI C P_X4_29 dX4_init_38 (fun μ38 h38 => ?_)
  have hL38 : μ38.length = n0 + 3 := by omega
  refine E_aload_n C dX4_init_41 0 rfl ?_
  refine E_iconst C 0 dX4_init_42 (by decide) ?_
  refine EL_putI C P_X4_32 dX4_init_43 (fun μ43 h43 => ?_)
  have hL43 : μ43.length = n0 + 3 := by omega
  refine E_aload_n C dX4_init_46 0 rfl ?_
  refine E_iconst C 0 dX4_init_47 (by decide) ?_
  refine EL_putI C P_X4_35 dX4_init_48 (fun μ48 h48 => ?_)
  have hL48 : μ48.length = n0 + 3 := by omega
  refine E_aload_n C dX4_init_51 0 rfl ?_
  refine E_iconst C 0 dX4_init_52 (by decide) ?_
  refine EL_putI C P_X4_38 dX4_init_53 (fun μ53 h53 => ?_)
  have hL53 : μ53.length = n0 + 3 := by omega
  exact E_retA (n0 := n0) C dX4_init_56 hL53 rfl (Nat.le_of_ble_eq_true rfl)
def X0_init_L82 (G : Mem → Option (Unit × Mem)) (v0 : Nat) : Nat → Int32 → Mem → Option (Unit × Mem)
  | 0, _, _ => none
  | n + 1, v1, μ => if (12 : Int32) ≤ v1 then (G μ) else ((gR μ v0 0 4).bind fun x89 => (sI μ x89 ((v1 * (3 : Int32))) ((1 : Int32))).bind fun μ96 => (gR μ96 v0 0 4).bind fun x98 => (sI μ96 x98 (((v1 * (3 : Int32)) + (1 : Int32))) ((2 : Int32))).bind fun μ107 => (gR μ107 v0 0 4).bind fun x109 => (sI μ107 x109 (((v1 * (3 : Int32)) + (2 : Int32))) ((4 : Int32))).bind fun μ118 => X0_init_L82 G v0 n ((v1 + 1)) μ118)
set_option maxHeartbeats 4000000 in
set_option maxRecDepth 100000 in
theorem X0_init_L82_ok {p : Program} {l : Launch} {e : Env} {R : Room} {s : State} {m : MethodId} {args : Array Value} {below : List Frame} {meth : Method} {c : Code} {D : va_G} {ca : Nat → ClassId} {ad : Nat → Nat} {A : Nat → Prop} {X : State → Prop} {n0 : Nat} (C : CX p R s m args meth c D ca ad A X cX0_init RX0 2 none 2) {G : Mem → Option (Unit × Mem)} (v0 : Nat) (N0 : Nat) (hG : ∀ (μx : Mem), μx.length = N0 → Sm p l e R s m args below meth c D ca ad A 2 6 81 wU (KQA below args s D ca ad A (n0 + 12) 12 117) 125 [(0, .ref v0)] [] μx (G  μx)) : ∀ (n : Nat) (v1 : Int32) (μ : Mem), μ.length = N0 → Sm p l e R s m args below meth c D ca ad A 2 6 81 wU (KQA below args s D ca ad A (n0 + 12) 12 117) 82 [(0, .ref v0), (1, .int v1)] [] μ (X0_init_L82 G v0 n v1 μ) := by
  intro n
  induction n with
  | zero =>
    intro v1 μ hN
    rw [X0_init_L82]
    exact E_none
  | succ n ih =>
    intro v1 μ hN
    rw [X0_init_L82]
    refine E_iload_n C dX0_init_82 1 rfl ?_
    refine E_bipush C 12 dX0_init_83 (by decide) ?_
    refine E_icmp_ge C 125 dX0_init_85 (by decide) ?_ ?_
    · exact E_pick [0] rfl (hG μ hN)
    · refine E_at (pc2 := 88) rfl ?_
      refine E_aload_n C dX0_init_88 0 rfl ?_
      refine E_getR C F_X0_24 dX0_init_89 (fun x89 => ?_)
      refine E_iload_n C dX0_init_92 1 rfl ?_
      refine E_iconst C 3 dX0_init_93 (by decide) ?_
      refine E_imul C dX0_init_94 ?_
      refine E_iconst C 1 dX0_init_95 (by decide) ?_
      refine EL_iastore C dX0_init_96 (fun μ96 h96 => ?_)
      have hL96 : μ96.length = N0 := by omega
      refine E_aload_n C dX0_init_97 0 rfl ?_
      refine E_getR C F_X0_24 dX0_init_98 (fun x98 => ?_)
      refine E_iload_n C dX0_init_101 1 rfl ?_
      refine E_iconst C 3 dX0_init_102 (by decide) ?_
      refine E_imul C dX0_init_103 ?_
      refine E_iconst C 1 dX0_init_104 (by decide) ?_
      refine E_iadd C dX0_init_105 ?_
      refine E_iconst C 2 dX0_init_106 (by decide) ?_
      refine EL_iastore C dX0_init_107 (fun μ107 h107 => ?_)
      have hL107 : μ107.length = N0 := by omega
      refine E_aload_n C dX0_init_108 0 rfl ?_
      refine E_getR C F_X0_24 dX0_init_109 (fun x109 => ?_)
      refine E_iload_n C dX0_init_112 1 rfl ?_
      refine E_iconst C 3 dX0_init_113 (by decide) ?_
      refine E_imul C dX0_init_114 ?_
      refine E_iconst C 2 dX0_init_115 (by decide) ?_
      refine E_iadd C dX0_init_116 ?_
      refine E_iconst C 4 dX0_init_117 (by decide) ?_
      refine EL_iastore C dX0_init_118 (fun μ118 h118 => ?_)
      have hL118 : μ118.length = N0 := by omega
      refine E_iinc (lv' := [(1, .int ((v1 + 1))), (0, .ref v0)]) C (v1 + 1) dX0_init_119 1 rfl rfl (by decide) rfl ?_
      refine E_goto C 82 dX0_init_122 (by decide) ?_
      exact E_pick [1, 0] rfl (ih ((v1 + 1)) μ118 hL118)
def X0_init_L127 (G : Mem → Option (Unit × Mem)) (v0 : Nat) : Nat → Int32 → Mem → Option (Unit × Mem)
  | 0, _, _ => none
  | n + 1, v1, μ => if (9 : Int32) ≤ v1 then (G μ) else ((gR μ v0 0 5).bind fun x134 => (sI μ x134 v1 ((1 : Int32))).bind fun μ139 => X0_init_L127 G v0 n ((v1 + 1)) μ139)
set_option maxHeartbeats 4000000 in
set_option maxRecDepth 100000 in
theorem X0_init_L127_ok {p : Program} {l : Launch} {e : Env} {R : Room} {s : State} {m : MethodId} {args : Array Value} {below : List Frame} {meth : Method} {c : Code} {D : va_G} {ca : Nat → ClassId} {ad : Nat → Nat} {A : Nat → Prop} {X : State → Prop} {n0 : Nat} (C : CX p R s m args meth c D ca ad A X cX0_init RX0 2 none 2) {G : Mem → Option (Unit × Mem)} (v0 : Nat) (N0 : Nat) (hG : ∀ (μx : Mem), μx.length = N0 → Sm p l e R s m args below meth c D ca ad A 2 6 81 wU (KQA below args s D ca ad A (n0 + 12) 12 117) 146 [(0, .ref v0)] [] μx (G  μx)) : ∀ (n : Nat) (v1 : Int32) (μ : Mem), μ.length = N0 → Sm p l e R s m args below meth c D ca ad A 2 6 81 wU (KQA below args s D ca ad A (n0 + 12) 12 117) 127 [(0, .ref v0), (1, .int v1)] [] μ (X0_init_L127 G v0 n v1 μ) := by
  intro n
  induction n with
  | zero =>
    intro v1 μ hN
    rw [X0_init_L127]
    exact E_none
  | succ n ih =>
    intro v1 μ hN
    rw [X0_init_L127]
    refine E_iload_n C dX0_init_127 1 rfl ?_
    refine E_bipush C 9 dX0_init_128 (by decide) ?_
    refine E_icmp_ge C 146 dX0_init_130 (by decide) ?_ ?_
    · exact E_pick [0] rfl (hG μ hN)
    · refine E_at (pc2 := 133) rfl ?_
      refine E_aload_n C dX0_init_133 0 rfl ?_
      refine E_getR C F_X0_28 dX0_init_134 (fun x134 => ?_)
      refine E_iload_n C dX0_init_137 1 rfl ?_
      refine E_iconst C 1 dX0_init_138 (by decide) ?_
      refine EL_iastore C dX0_init_139 (fun μ139 h139 => ?_)
      have hL139 : μ139.length = N0 := by omega
      refine E_iinc (lv' := [(1, .int ((v1 + 1))), (0, .ref v0)]) C (v1 + 1) dX0_init_140 1 rfl rfl (by decide) rfl ?_
      refine E_goto C 127 dX0_init_143 (by decide) ?_
      exact E_pick [1, 0] rfl (ih ((v1 + 1)) μ139 hL139)
def fX0_init (v0 : Nat) (μ : Mem) : Option (Unit × Mem) :=
  (pV μ v0 0 0 (.int ((8 : Int32)))).bind fun μ7 => (pV μ7 v0 0 1 (.int ((6 : Int32)))).bind fun μ13 => (pV μ13 v0 0 2 (.int ((2 : Int32)))).bind fun μ18 => (pV μ18 v0 0 3 (.int ((3 : Int32)))).bind fun μ23 => nw μ23 (.inl (0, 36, .inl (fun _ => 0))) fun q29 μ29 => (pV μ29 v0 0 4 (.ref q29)).bind fun μ31 => nw μ31 (.inl (0, 9, .inl (fun _ => 0))) fun q37 μ37 => (pV μ37 v0 0 5 (.ref q37)).bind fun μ39 => nw μ39 (.inl (0, 12, .inl (fun _ => 0))) fun q45 μ45 => (pV μ45 v0 0 6 (.ref q45)).bind fun μ47 => nw μ47 (.inl (0, 12, .inl (fun _ => 0))) fun q53 μ53 => (pV μ53 v0 0 7 (.ref q53)).bind fun μ55 => nw μ55 (.inl (4, 6, .inr (.inr (.inr (.inr (fun _ => none)))))) fun q61 μ61 => (pV μ61 v0 0 8 (.ref q61)).bind fun μ64 => nw μ64 (.inl (0, 6, .inl (fun _ => 0))) fun q70 μ70 => (pV μ70 v0 0 9 (.ref q70)).bind fun μ72 => (pV μ72 v0 0 10 (.int ((0 : Int32)))).bind fun μ77 => X0_init_L82 (fun μ_125 => X0_init_L127 (fun μ_146 => if (6 : Int32) ≤ (0 : Int32) then (none) else ((gR μ_146 v0 0 8).bind fun x155 => nw μ_146 (.inr (5, dfl5)) fun q159 μ159 => bd (fX5_init q159 μ159) fun _ μ163 => (sR μ163 4 x155 ((0 : Int32)) q159 5).bind fun μ166 => if (6 : Int32) ≤ ((0 : Int32) + 1) then (none) else ((gR μ166 v0 0 8).bind fun x155_1 => nw μ166 (.inr (5, dfl5)) fun q159_1 μ159_1 => bd (fX5_init q159_1 μ159_1) fun _ μ163_1 => (sR μ163_1 4 x155_1 (((0 : Int32) + 1)) q159_1 5).bind fun μ166_1 => if (6 : Int32) ≤ (((0 : Int32) + 1) + 1) then (none) else ((gR μ166_1 v0 0 8).bind fun x155_2 => nw μ166_1 (.inr (5, dfl5)) fun q159_2 μ159_2 => bd (fX5_init q159_2 μ159_2) fun _ μ163_2 => (sR μ163_2 4 x155_2 ((((0 : Int32) + 1) + 1)) q159_2 5).bind fun μ166_2 => if (6 : Int32) ≤ ((((0 : Int32) + 1) + 1) + 1) then (none) else ((gR μ166_2 v0 0 8).bind fun x155_3 => nw μ166_2 (.inr (5, dfl5)) fun q159_3 μ159_3 => bd (fX5_init q159_3 μ159_3) fun _ μ163_3 => (sR μ163_3 4 x155_3 (((((0 : Int32) + 1) + 1) + 1)) q159_3 5).bind fun μ166_3 => if (6 : Int32) ≤ (((((0 : Int32) + 1) + 1) + 1) + 1) then (none) else ((gR μ166_3 v0 0 8).bind fun x155_4 => nw μ166_3 (.inr (5, dfl5)) fun q159_4 μ159_4 => bd (fX5_init q159_4 μ159_4) fun _ μ163_4 => (sR μ163_4 4 x155_4 ((((((0 : Int32) + 1) + 1) + 1) + 1)) q159_4 5).bind fun μ166_4 => if (6 : Int32) ≤ ((((((0 : Int32) + 1) + 1) + 1) + 1) + 1) then (none) else ((gR μ166_4 v0 0 8).bind fun x155_5 => nw μ166_4 (.inr (5, dfl5)) fun q159_5 μ159_5 => bd (fX5_init q159_5 μ159_5) fun _ μ163_5 => (sR μ163_5 4 x155_5 (((((((0 : Int32) + 1) + 1) + 1) + 1) + 1)) q159_5 5).bind fun μ166_5 => if (6 : Int32) ≤ (((((((0 : Int32) + 1) + 1) + 1) + 1) + 1) + 1) then (some ((), μ166_5)) else (none)))))))) v0 FU ((0 : Int32)) μ_125) v0 FU ((0 : Int32)) μ77
set_option maxHeartbeats 4000000 in
set_option maxRecDepth 100000 in
theorem mX0_init (v0 : Nat) (μ : Mem) (hlt : μ.length + 12 < 900) : MethA yX0_init cX0_init 2 2 12 117 [.ref v0] μ (fX0_init v0 μ) := by
  refine MethA.of (by decide) rfl [(0, .ref v0)] rfl (Nat.le_of_ble_eq_true rfl) ?_
  intro p l e R s m args below meth c D ca ad A X B n0 C CA hL
  have C : CX p R s m args meth c D ca ad A X cX0_init RX0 2 none 2 := C
  unfold fX0_init
  refine E_aload_n C dX0_init_0 0 rfl ?_
  refine E_oinit C lk_X0_3 oi_i oi_c dX0_init_1 (Nat.le_of_ble_eq_true rfl) (Nat.le_of_ble_eq_true rfl) ?_
  refine E_aload_n C dX0_init_4 0 rfl ?_
  refine E_bipush C 8 dX0_init_5 (by decide) ?_
  refine EL_putI C P_X0_9 dX0_init_7 (fun μ7 h7 => ?_)
  have hL7 : μ7.length = n0 + 0 := by omega
  refine E_aload_n C dX0_init_10 0 rfl ?_
  refine E_bipush C 6 dX0_init_11 (by decide) ?_
  refine EL_putI C P_X0_15 dX0_init_13 (fun μ13 h13 => ?_)
  have hL13 : μ13.length = n0 + 0 := by omega
  refine E_aload_n C dX0_init_16 0 rfl ?_
  refine E_iconst C 2 dX0_init_17 (by decide) ?_
  refine EL_putI C P_X0_18 dX0_init_18 (fun μ18 h18 => ?_)
  have hL18 : μ18.length = n0 + 0 := by omega
  refine E_aload_n C dX0_init_21 0 rfl ?_
  refine E_iconst C 3 dX0_init_22 (by decide) ?_
  refine EL_putI C P_X0_21 dX0_init_23 (fun μ23 h23 => ?_)
  have hL23 : μ23.length = n0 + 0 := by omega
  refine E_aload_n C dX0_init_26 0 rfl ?_
  refine E_bipush C 36 dX0_init_27 (by decide) ?_
  refine E_newa (t := 0) (N := 36) (atype := .int) (mc := 12) (ms := 117) C ⟨CA.1, CA.2.1, CA.2.2.2.1, CA.2.2.2.2⟩ (36, .inl (fun _ => 0)) rfl (fun h => h) (fun _ => rfl) ac_int (by decide) (by decide) (by decide) hL23 (by omega) (Nat.le_of_ble_eq_true rfl) (Nat.le_of_ble_eq_true rfl) dX0_init_29 (fun q29 μ29 _ _ h29 => ?_)
  have hL29 : μ29.length = n0 + 1 := by omega
  refine EF_putA C CA PF_X0_24 dX0_init_31 (fun μ31 h31 => ?_)
  have hL31 : μ31.length = n0 + 1 := by omega
  refine E_aload_n C dX0_init_34 0 rfl ?_
  refine E_bipush C 9 dX0_init_35 (by decide) ?_
  refine E_newa (t := 0) (N := 9) (atype := .int) (mc := 12) (ms := 117) C ⟨CA.1, CA.2.1, CA.2.2.2.1, CA.2.2.2.2⟩ (9, .inl (fun _ => 0)) rfl (fun h => h) (fun _ => rfl) ac_int (by decide) (by decide) (by decide) hL31 (by omega) (Nat.le_of_ble_eq_true rfl) (Nat.le_of_ble_eq_true rfl) dX0_init_37 (fun q37 μ37 _ _ h37 => ?_)
  have hL37 : μ37.length = n0 + 2 := by omega
  refine EF_putA C CA PF_X0_28 dX0_init_39 (fun μ39 h39 => ?_)
  have hL39 : μ39.length = n0 + 2 := by omega
  refine E_aload_n C dX0_init_42 0 rfl ?_
  refine E_bipush C 12 dX0_init_43 (by decide) ?_
  refine E_newa (t := 0) (N := 12) (atype := .int) (mc := 12) (ms := 117) C ⟨CA.1, CA.2.1, CA.2.2.2.1, CA.2.2.2.2⟩ (12, .inl (fun _ => 0)) rfl (fun h => h) (fun _ => rfl) ac_int (by decide) (by decide) (by decide) hL39 (by omega) (Nat.le_of_ble_eq_true rfl) (Nat.le_of_ble_eq_true rfl) dX0_init_45 (fun q45 μ45 _ _ h45 => ?_)
  have hL45 : μ45.length = n0 + 3 := by omega
  refine EF_putA C CA PF_X0_31 dX0_init_47 (fun μ47 h47 => ?_)
  have hL47 : μ47.length = n0 + 3 := by omega
  refine E_aload_n C dX0_init_50 0 rfl ?_
  refine E_bipush C 12 dX0_init_51 (by decide) ?_
  refine E_newa (t := 0) (N := 12) (atype := .int) (mc := 12) (ms := 117) C ⟨CA.1, CA.2.1, CA.2.2.2.1, CA.2.2.2.2⟩ (12, .inl (fun _ => 0)) rfl (fun h => h) (fun _ => rfl) ac_int (by decide) (by decide) (by decide) hL47 (by omega) (Nat.le_of_ble_eq_true rfl) (Nat.le_of_ble_eq_true rfl) dX0_init_53 (fun q53 μ53 _ _ h53 => ?_)
  have hL53 : μ53.length = n0 + 4 := by omega
  refine EF_putA C CA PF_X0_34 dX0_init_55 (fun μ55 h55 => ?_)
  have hL55 : μ55.length = n0 + 4 := by omega
  refine E_aload_n C dX0_init_58 0 rfl ?_
  refine E_bipush C 6 dX0_init_59 (by decide) ?_
  refine E_newq (t := 4) (N := 6) (Cn := RX5) (mc := 12) (ms := 117) C ⟨CA.1, CA.2.1, CA.2.2.2.1, CA.2.2.2.2⟩ rfl cl_X0_37 ao_X5 (by decide) (by decide) (by decide) hL55 (by omega) (Nat.le_of_ble_eq_true rfl) (Nat.le_of_ble_eq_true rfl) dX0_init_61 (fun q61 μ61 _ _ h61 => ?_)
  have hL61 : μ61.length = n0 + 5 := by omega
  refine EF_putA C CA PF_X0_39 dX0_init_64 (fun μ64 h64 => ?_)
  have hL64 : μ64.length = n0 + 5 := by omega
  refine E_aload_n C dX0_init_67 0 rfl ?_
  refine E_bipush C 6 dX0_init_68 (by decide) ?_
  refine E_newa (t := 0) (N := 6) (atype := .int) (mc := 12) (ms := 117) C ⟨CA.1, CA.2.1, CA.2.2.2.1, CA.2.2.2.2⟩ (6, .inl (fun _ => 0)) rfl (fun h => h) (fun _ => rfl) ac_int (by decide) (by decide) (by decide) hL64 (by omega) (Nat.le_of_ble_eq_true rfl) (Nat.le_of_ble_eq_true rfl) dX0_init_70 (fun q70 μ70 _ _ h70 => ?_)
  have hL70 : μ70.length = n0 + 6 := by omega
  refine EF_putA C CA PF_X0_43 dX0_init_72 (fun μ72 h72 => ?_)
  have hL72 : μ72.length = n0 + 6 := by omega
  refine E_aload_n C dX0_init_75 0 rfl ?_
  refine E_iconst C 0 dX0_init_76 (by decide) ?_
  refine EL_putI C P_X0_46 dX0_init_77 (fun μ77 h77 => ?_)
  have hL77 : μ77.length = n0 + 6 := by omega
  refine E_iconst C 0 dX0_init_80 (by decide) ?_
  refine E_istore_n (lv' := [(1, .int ((0 : Int32))), (0, .ref v0)]) C dX0_init_81 (by decide) rfl ?_
  refine E_pick (lv' := [(0, .ref v0), (1, .int ((0 : Int32)))]) [1, 0] rfl ?_
  refine X0_init_L82_ok C v0 (n0 + 6) (fun μ_125 hL_125 => ?_) FU ((0 : Int32)) μ77 hL77
  refine E_iconst C 0 dX0_init_125 (by decide) ?_
  refine E_istore_n (lv' := [(1, .int ((0 : Int32))), (0, .ref v0)]) C dX0_init_126 (by decide) rfl ?_
  refine E_pick (lv' := [(0, .ref v0), (1, .int ((0 : Int32)))]) [1, 0] rfl ?_
  refine X0_init_L127_ok C v0 (n0 + 6) (fun μ_146 hL_146 => ?_) FU ((0 : Int32)) μ_125 hL_125
  refine E_iconst C 0 dX0_init_146 (by decide) ?_
  refine E_istore_n (lv' := [(1, .int ((0 : Int32))), (0, .ref v0)]) C dX0_init_147 (by decide) rfl ?_
  refine E_iload_n C dX0_init_148 0 rfl ?_
  refine E_bipush C 6 dX0_init_149 (by decide) ?_
  refine E_icmp_ge C 173 dX0_init_151 (by decide) E_none ?_
  refine E_at (pc2 := 154) rfl ?_
  refine E_aload_n C dX0_init_154 1 rfl ?_
  refine E_getR C F_X0_39 dX0_init_155 (fun x155 => ?_)
  refine E_iload_n C dX0_init_158 0 rfl ?_
  refine E_new (mc := 12) (ms := 117) (ty := tyX5) C ⟨CA.1, CA.2.1, CA.2.2.2.1, CA.2.2.2.2⟩ dfl5 rfl iw5 tyX5_ok (dfl5_ok ad) cl_X0_37 ins_X5 ini_X5 hL_146 (by omega) (Nat.le_of_ble_eq_true rfl) (Nat.le_of_ble_eq_true rfl) dX0_init_159 (fun q159 μ159 _ _ h159 => ?_)
  have hL159 : μ159.length = n0 + 7 := by omega
  refine E_dup_r C dX0_init_162 ?_
  refine E_initN (mc := 12) (ms := 117) (st := [.ref q159, .int ((0 : Int32)), .ref x155]) C ⟨CA.1, CA.2.1, CA.2.2.2.1, CA.2.2.2.2⟩ [] (mX5_init q159 μ159 (by omega)) cal_X5_init rfl im_X5_init lk_X0_49 dX0_init_163 rfl rfl (Nat.le_of_ble_eq_true rfl) (Nat.le_of_ble_eq_true rfl) hL159 (by omega) (Nat.le_of_ble_eq_true rfl) (Nat.le_of_ble_eq_true rfl) (fun μ163 h163 => ?_)
  have hL163 : μ163.length = n0 + 7 := by omega
  refine E_aastore (Cn := RX5) (T := TX5) (N := 6) C rfl rfl dX0_init_166 (fun μ166 h166 => ?_)
  have hL166 : μ166.length = n0 + 7 := by omega
  refine E_iinc (lv' := [(1, .int (((0 : Int32) + 1))), (0, .ref v0)]) C ((0 : Int32) + 1) dX0_init_167 0 rfl rfl (by decide) rfl ?_
  refine E_goto C 148 dX0_init_170 (by decide) ?_
  refine E_iload_n C dX0_init_148 0 rfl ?_
  refine E_bipush C 6 dX0_init_149 (by decide) ?_
  refine E_icmp_ge C 173 dX0_init_151 (by decide) E_none ?_
  refine E_at (pc2 := 154) rfl ?_
  refine E_aload_n C dX0_init_154 1 rfl ?_
  refine E_getR C F_X0_39 dX0_init_155 (fun x155_1 => ?_)
  refine E_iload_n C dX0_init_158 0 rfl ?_
  refine E_new (mc := 12) (ms := 117) (ty := tyX5) C ⟨CA.1, CA.2.1, CA.2.2.2.1, CA.2.2.2.2⟩ dfl5 rfl iw5 tyX5_ok (dfl5_ok ad) cl_X0_37 ins_X5 ini_X5 hL166 (by omega) (Nat.le_of_ble_eq_true rfl) (Nat.le_of_ble_eq_true rfl) dX0_init_159 (fun q159_1 μ159_1 _ _ h159_1 => ?_)
  have hL159_1 : μ159_1.length = n0 + 8 := by omega
  refine E_dup_r C dX0_init_162 ?_
  refine E_initN (mc := 12) (ms := 117) (st := [.ref q159_1, .int (((0 : Int32) + 1)), .ref x155_1]) C ⟨CA.1, CA.2.1, CA.2.2.2.1, CA.2.2.2.2⟩ [] (mX5_init q159_1 μ159_1 (by omega)) cal_X5_init rfl im_X5_init lk_X0_49 dX0_init_163 rfl rfl (Nat.le_of_ble_eq_true rfl) (Nat.le_of_ble_eq_true rfl) hL159_1 (by omega) (Nat.le_of_ble_eq_true rfl) (Nat.le_of_ble_eq_true rfl) (fun μ163_1 h163_1 => ?_)
  have hL163_1 : μ163_1.length = n0 + 8 := by omega
  refine E_aastore (Cn := RX5) (T := TX5) (N := 6) C rfl rfl dX0_init_166 (fun μ166_1 h166_1 => ?_)
  have hL166_1 : μ166_1.length = n0 + 8 := by omega
  refine E_iinc (lv' := [(1, .int ((((0 : Int32) + 1) + 1))), (0, .ref v0)]) C (((0 : Int32) + 1) + 1) dX0_init_167 0 rfl rfl (by decide) rfl ?_
  refine E_goto C 148 dX0_init_170 (by decide) ?_
  refine E_iload_n C dX0_init_148 0 rfl ?_
  refine E_bipush C 6 dX0_init_149 (by decide) ?_
  refine E_icmp_ge C 173 dX0_init_151 (by decide) E_none ?_
  refine E_at (pc2 := 154) rfl ?_
  refine E_aload_n C dX0_init_154 1 rfl ?_
  refine E_getR C F_X0_39 dX0_init_155 (fun x155_2 => ?_)
  refine E_iload_n C dX0_init_158 0 rfl ?_
  refine E_new (mc := 12) (ms := 117) (ty := tyX5) C ⟨CA.1, CA.2.1, CA.2.2.2.1, CA.2.2.2.2⟩ dfl5 rfl iw5 tyX5_ok (dfl5_ok ad) cl_X0_37 ins_X5 ini_X5 hL166_1 (by omega) (Nat.le_of_ble_eq_true rfl) (Nat.le_of_ble_eq_true rfl) dX0_init_159 (fun q159_2 μ159_2 _ _ h159_2 => ?_)
  have hL159_2 : μ159_2.length = n0 + 9 := by omega
  refine E_dup_r C dX0_init_162 ?_
  refine E_initN (mc := 12) (ms := 117) (st := [.ref q159_2, .int ((((0 : Int32) + 1) + 1)), .ref x155_2]) C ⟨CA.1, CA.2.1, CA.2.2.2.1, CA.2.2.2.2⟩ [] (mX5_init q159_2 μ159_2 (by omega)) cal_X5_init rfl im_X5_init lk_X0_49 dX0_init_163 rfl rfl (Nat.le_of_ble_eq_true rfl) (Nat.le_of_ble_eq_true rfl) hL159_2 (by omega) (Nat.le_of_ble_eq_true rfl) (Nat.le_of_ble_eq_true rfl) (fun μ163_2 h163_2 => ?_)
  have hL163_2 : μ163_2.length = n0 + 9 := by omega
  refine E_aastore (Cn := RX5) (T := TX5) (N := 6) C rfl rfl dX0_init_166 (fun μ166_2 h166_2 => ?_)
  have hL166_2 : μ166_2.length = n0 + 9 := by omega
  refine E_iinc (lv' := [(1, .int (((((0 : Int32) + 1) + 1) + 1))), (0, .ref v0)]) C ((((0 : Int32) + 1) + 1) + 1) dX0_init_167 0 rfl rfl (by decide) rfl ?_
  refine E_goto C 148 dX0_init_170 (by decide) ?_
  refine E_iload_n C dX0_init_148 0 rfl ?_
  refine E_bipush C 6 dX0_init_149 (by decide) ?_
  refine E_icmp_ge C 173 dX0_init_151 (by decide) E_none ?_
  refine E_at (pc2 := 154) rfl ?_
  refine E_aload_n C dX0_init_154 1 rfl ?_
  refine E_getR C F_X0_39 dX0_init_155 (fun x155_3 => ?_)
  refine E_iload_n C dX0_init_158 0 rfl ?_
  refine E_new (mc := 12) (ms := 117) (ty := tyX5) C ⟨CA.1, CA.2.1, CA.2.2.2.1, CA.2.2.2.2⟩ dfl5 rfl iw5 tyX5_ok (dfl5_ok ad) cl_X0_37 ins_X5 ini_X5 hL166_2 (by omega) (Nat.le_of_ble_eq_true rfl) (Nat.le_of_ble_eq_true rfl) dX0_init_159 (fun q159_3 μ159_3 _ _ h159_3 => ?_)
  have hL159_3 : μ159_3.length = n0 + 10 := by omega
  refine E_dup_r C dX0_init_162 ?_
  refine E_initN (mc := 12) (ms := 117) (st := [.ref q159_3, .int (((((0 : Int32) + 1) + 1) + 1)), .ref x155_3]) C ⟨CA.1, CA.2.1, CA.2.2.2.1, CA.2.2.2.2⟩ [] (mX5_init q159_3 μ159_3 (by omega)) cal_X5_init rfl im_X5_init lk_X0_49 dX0_init_163 rfl rfl (Nat.le_of_ble_eq_true rfl) (Nat.le_of_ble_eq_true rfl) hL159_3 (by omega) (Nat.le_of_ble_eq_true rfl) (Nat.le_of_ble_eq_true rfl) (fun μ163_3 h163_3 => ?_)
  have hL163_3 : μ163_3.length = n0 + 10 := by omega
  refine E_aastore (Cn := RX5) (T := TX5) (N := 6) C rfl rfl dX0_init_166 (fun μ166_3 h166_3 => ?_)
  have hL166_3 : μ166_3.length = n0 + 10 := by omega
  refine E_iinc (lv' := [(1, .int ((((((0 : Int32) + 1) + 1) + 1) + 1))), (0, .ref v0)]) C (((((0 : Int32) + 1) + 1) + 1) + 1) dX0_init_167 0 rfl rfl (by decide) rfl ?_
  refine E_goto C 148 dX0_init_170 (by decide) ?_
  refine E_iload_n C dX0_init_148 0 rfl ?_
  refine E_bipush C 6 dX0_init_149 (by decide) ?_
  refine E_icmp_ge C 173 dX0_init_151 (by decide) E_none ?_
  refine E_at (pc2 := 154) rfl ?_
  refine E_aload_n C dX0_init_154 1 rfl ?_
  refine E_getR C F_X0_39 dX0_init_155 (fun x155_4 => ?_)
  refine E_iload_n C dX0_init_158 0 rfl ?_
  refine E_new (mc := 12) (ms := 117) (ty := tyX5) C ⟨CA.1, CA.2.1, CA.2.2.2.1, CA.2.2.2.2⟩ dfl5 rfl iw5 tyX5_ok (dfl5_ok ad) cl_X0_37 ins_X5 ini_X5 hL166_3 (by omega) (Nat.le_of_ble_eq_true rfl) (Nat.le_of_ble_eq_true rfl) dX0_init_159 (fun q159_4 μ159_4 _ _ h159_4 => ?_)
  have hL159_4 : μ159_4.length = n0 + 11 := by omega
  refine E_dup_r C dX0_init_162 ?_
  refine E_initN (mc := 12) (ms := 117) (st := [.ref q159_4, .int ((((((0 : Int32) + 1) + 1) + 1) + 1)), .ref x155_4]) C ⟨CA.1, CA.2.1, CA.2.2.2.1, CA.2.2.2.2⟩ [] (mX5_init q159_4 μ159_4 (by omega)) cal_X5_init rfl im_X5_init lk_X0_49 dX0_init_163 rfl rfl (Nat.le_of_ble_eq_true rfl) (Nat.le_of_ble_eq_true rfl) hL159_4 (by omega) (Nat.le_of_ble_eq_true rfl) (Nat.le_of_ble_eq_true rfl) (fun μ163_4 h163_4 => ?_)
  have hL163_4 : μ163_4.length = n0 + 11 := by omega
  refine E_aastore (Cn := RX5) (T := TX5) (N := 6) C rfl rfl dX0_init_166 (fun μ166_4 h166_4 => ?_)
  have hL166_4 : μ166_4.length = n0 + 11 := by omega
  refine E_iinc (lv' := [(1, .int (((((((0 : Int32) + 1) + 1) + 1) + 1) + 1))), (0, .ref v0)]) C ((((((0 : Int32) + 1) + 1) + 1) + 1) + 1) dX0_init_167 0 rfl rfl (by decide) rfl ?_
  refine E_goto C 148 dX0_init_170 (by decide) ?_
  refine E_iload_n C dX0_init_148 0 rfl ?_
  refine E_bipush C 6 dX0_init_149 (by decide) ?_
  refine E_icmp_ge C 173 dX0_init_151 (by decide) E_none ?_
  refine E_at (pc2 := 154) rfl ?_
  refine E_aload_n C dX0_init_154 1 rfl ?_
  refine E_getR C F_X0_39 dX0_init_155 (fun x155_5 => ?_)
  refine E_iload_n C dX0_init_158 0 rfl ?_
  refine E_new (mc := 12) (ms := 117) (ty := tyX5) C ⟨CA.1, CA.2.1, CA.2.2.2.1, CA.2.2.2.2⟩ dfl5 rfl iw5 tyX5_ok (dfl5_ok ad) cl_X0_37 ins_X5 ini_X5 hL166_4 (by omega) (Nat.le_of_ble_eq_true rfl) (Nat.le_of_ble_eq_true rfl) dX0_init_159 (fun q159_5 μ159_5 _ _ h159_5 => ?_)
  have hL159_5 : μ159_5.length = n0 + 12 := by omega
  refine E_dup_r C dX0_init_162 ?_
  refine E_initN (mc := 12) (ms := 117) (st := [.ref q159_5, .int (((((((0 : Int32) + 1) + 1) + 1) + 1) + 1)), .ref x155_5]) C ⟨CA.1, CA.2.1, CA.2.2.2.1, CA.2.2.2.2⟩ [] (mX5_init q159_5 μ159_5 (by omega)) cal_X5_init rfl im_X5_init lk_X0_49 dX0_init_163 rfl rfl (Nat.le_of_ble_eq_true rfl) (Nat.le_of_ble_eq_true rfl) hL159_5 (by omega) (Nat.le_of_ble_eq_true rfl) (Nat.le_of_ble_eq_true rfl) (fun μ163_5 h163_5 => ?_)
  have hL163_5 : μ163_5.length = n0 + 12 := by omega
  refine E_aastore (Cn := RX5) (T := TX5) (N := 6) C rfl rfl dX0_init_166 (fun μ166_5 h166_5 => ?_)
  have hL166_5 : μ166_5.length = n0 + 12 := by omega
  refine E_iinc (lv' := [(1, .int ((((((((0 : Int32) + 1) + 1) + 1) + 1) + 1) + 1))), (0, .ref v0)]) C (((((((0 : Int32) + 1) + 1) + 1) + 1) + 1) + 1) dX0_init_167 0 rfl rfl (by decide) rfl ?_
  refine E_goto C 148 dX0_init_170 (by decide) ?_
  refine E_iload_n C dX0_init_148 0 rfl ?_
  refine E_bipush C 6 dX0_init_149 (by decide) ?_
  refine E_icmp_ge C 173 dX0_init_151 (by decide) ?_ E_none
  exact E_retA (n0 := n0) C dX0_init_173 hL166_5 rfl (Nat.le_of_ble_eq_true rfl)
def fX8_init (v0 : Nat) (μ : Mem) : Option (Unit × Mem) :=
  nw μ (.inr (0, dfl0)) fun q5 μ5 => bd (fX0_init q5 μ5) fun _ μ9 => (pV μ9 v0 8 0 (.ref q5)).bind fun μ12 => nw μ12 (.inr (6, dfl6)) fun q16 μ16 => bd (fX6_init_4_5 q16 μ16) fun _ μ22 => (pV μ22 v0 8 1 (.ref q16)).bind fun μ25 => nw μ25 (.inr (6, dfl6)) fun q29 μ29 => bd (fX6_init_2_8 q29 μ29) fun _ μ36 => (pV μ36 v0 8 2 (.ref q29)).bind fun μ39 => nw μ39 (.inr (6, dfl6)) fun q43 μ43 => bd (fX6_init_3_8 q43 μ43) fun _ μ50 => (pV μ50 v0 8 3 (.ref q43)).bind fun μ53 => some ((), μ53)
set_option maxHeartbeats 4000000 in
set_option maxRecDepth 100000 in
theorem mX8_init (v0 : Nat) (μ : Mem) (hlt : μ.length + 19 < 900) : MethA yX8_init cX8_init 1 3 19 200 [.ref v0] μ (fX8_init v0 μ) := by
  refine MethA.of (by decide) rfl [(0, .ref v0)] rfl (Nat.le_of_ble_eq_true rfl) ?_
  intro p l e R s m args below meth c D ca ad A X B n0 C CA hL
  have C : CX p R s m args meth c D ca ad A X cX8_init RX8 1 none 3 := C
  unfold fX8_init
  refine E_aload_n C dX8_init_0 0 rfl ?_
  refine E_oinit C lk_X8_3 oi_i oi_c dX8_init_1 (Nat.le_of_ble_eq_true rfl) (Nat.le_of_ble_eq_true rfl) ?_
  refine E_aload_n C dX8_init_4 0 rfl ?_
  refine E_new (mc := 19) (ms := 200) (ty := tyX0) C ⟨CA.1, CA.2.1, CA.2.2.2.1, CA.2.2.2.2⟩ dfl0 rfl iw0 tyX0_ok (dfl0_ok ad) cl_X8_9 ins_X0 ini_X0 hL (by omega) (Nat.le_of_ble_eq_true rfl) (Nat.le_of_ble_eq_true rfl) dX8_init_5 (fun q5 μ5 _ _ h5 => ?_)
  have hL5 : μ5.length = n0 + 1 := by omega
  refine E_dup_r C dX8_init_8 ?_
  refine E_initL (mc := 19) (ms := 200) (st := [.ref q5, .ref v0]) C ⟨CA.1, CA.2.1, CA.2.2.2.1, CA.2.2.2.2⟩ [] (mX0_init q5 μ5 (by omega)) cal_X0_init rfl im_X0_init lk_X8_11 dX8_init_9 rfl rfl (Nat.le_of_ble_eq_true rfl) (Nat.le_of_ble_eq_true rfl) hL5 (by omega) (Nat.le_of_ble_eq_true rfl) (Nat.le_of_ble_eq_true rfl) (fun μ9 h9 => ?_)
  have hL9 : μ9.length = n0 + 13 := by omega
  refine EF_putO C CA PF_X8_12 dX8_init_12 (fun μ12 h12 => ?_)
  have hL12 : μ12.length = n0 + 13 := by omega
  refine E_aload_n C dX8_init_15 0 rfl ?_
  refine E_new (mc := 19) (ms := 200) (ty := tyX6) C ⟨CA.1, CA.2.1, CA.2.2.2.1, CA.2.2.2.2⟩ dfl6 rfl iw6 tyX6_ok (dfl6_ok ad) cl_X8_18 ins_X6 ini_X6 hL12 (by omega) (Nat.le_of_ble_eq_true rfl) (Nat.le_of_ble_eq_true rfl) dX8_init_16 (fun q16 μ16 _ _ h16 => ?_)
  have hL16 : μ16.length = n0 + 14 := by omega
  refine E_dup_r C dX8_init_19 ?_
  refine E_iconst C 4 dX8_init_20 (by decide) ?_
  refine E_iconst C 5 dX8_init_21 (by decide) ?_
  refine E_initL (mc := 19) (ms := 200) (st := [.ref q16, .ref v0]) C ⟨CA.1, CA.2.1, CA.2.2.2.1, CA.2.2.2.2⟩ [.int 4, .int 5] (mX6_init_4_5 q16 μ16 (by omega)) cal_X6_init rfl im_X6_init lk_X8_20 dX8_init_22 rfl rfl (Nat.le_of_ble_eq_true rfl) (Nat.le_of_ble_eq_true rfl) hL16 (by omega) (Nat.le_of_ble_eq_true rfl) (Nat.le_of_ble_eq_true rfl) (fun μ22 h22 => ?_)
  have hL22 : μ22.length = n0 + 15 := by omega
  refine EF_putO C CA PF_X8_23 dX8_init_25 (fun μ25 h25 => ?_)
  have hL25 : μ25.length = n0 + 15 := by omega
  refine E_aload_n C dX8_init_28 0 rfl ?_
  refine E_new (mc := 19) (ms := 200) (ty := tyX6) C ⟨CA.1, CA.2.1, CA.2.2.2.1, CA.2.2.2.2⟩ dfl6 rfl iw6 tyX6_ok (dfl6_ok ad) cl_X8_18 ins_X6 ini_X6 hL25 (by omega) (Nat.le_of_ble_eq_true rfl) (Nat.le_of_ble_eq_true rfl) dX8_init_29 (fun q29 μ29 _ _ h29 => ?_)
  have hL29 : μ29.length = n0 + 16 := by omega
  refine E_dup_r C dX8_init_32 ?_
  refine E_iconst C 2 dX8_init_33 (by decide) ?_
  refine E_bipush C 8 dX8_init_34 (by decide) ?_
  refine E_initL (mc := 19) (ms := 200) (st := [.ref q29, .ref v0]) C ⟨CA.1, CA.2.1, CA.2.2.2.1, CA.2.2.2.2⟩ [.int 2, .int 8] (mX6_init_2_8 q29 μ29 (by omega)) cal_X6_init rfl im_X6_init lk_X8_20 dX8_init_36 rfl rfl (Nat.le_of_ble_eq_true rfl) (Nat.le_of_ble_eq_true rfl) hL29 (by omega) (Nat.le_of_ble_eq_true rfl) (Nat.le_of_ble_eq_true rfl) (fun μ36 h36 => ?_)
  have hL36 : μ36.length = n0 + 17 := by omega
  refine EF_putO C CA PF_X8_27 dX8_init_39 (fun μ39 h39 => ?_)
  have hL39 : μ39.length = n0 + 17 := by omega
  refine E_aload_n C dX8_init_42 0 rfl ?_
  refine E_new (mc := 19) (ms := 200) (ty := tyX6) C ⟨CA.1, CA.2.1, CA.2.2.2.1, CA.2.2.2.2⟩ dfl6 rfl iw6 tyX6_ok (dfl6_ok ad) cl_X8_18 ins_X6 ini_X6 hL39 (by omega) (Nat.le_of_ble_eq_true rfl) (Nat.le_of_ble_eq_true rfl) dX8_init_43 (fun q43 μ43 _ _ h43 => ?_)
  have hL43 : μ43.length = n0 + 18 := by omega
  refine E_dup_r C dX8_init_46 ?_
  refine E_iconst C 3 dX8_init_47 (by decide) ?_
  refine E_bipush C 8 dX8_init_48 (by decide) ?_
  refine E_initL (mc := 19) (ms := 200) (st := [.ref q43, .ref v0]) C ⟨CA.1, CA.2.1, CA.2.2.2.1, CA.2.2.2.2⟩ [.int 3, .int 8] (mX6_init_3_8 q43 μ43 (by omega)) cal_X6_init rfl im_X6_init lk_X8_20 dX8_init_50 rfl rfl (Nat.le_of_ble_eq_true rfl) (Nat.le_of_ble_eq_true rfl) hL43 (by omega) (Nat.le_of_ble_eq_true rfl) (Nat.le_of_ble_eq_true rfl) (fun μ50 h50 => ?_)
  have hL50 : μ50.length = n0 + 19 := by omega
  refine EF_putO C CA PF_X8_30 dX8_init_53 (fun μ53 h53 => ?_)
  have hL53 : μ53.length = n0 + 19 := by omega
  exact E_retA (n0 := n0) C dX8_init_56 hL53 rfl (Nat.le_of_ble_eq_true rfl)
def fX10_init (v0 : Nat) (μ : Mem) : Option (Unit × Mem) :=
  nw μ (.inr (8, dfl8)) fun q5 μ5 => bd (fX8_init q5 μ5) fun _ μ9 => (pV μ9 v0 10 0 (.ref q5)).bind fun μ12 => nw μ12 (.inr (8, dfl8)) fun q16 μ16 => bd (fX8_init q16 μ16) fun _ μ20 => (pV μ20 v0 10 1 (.ref q16)).bind fun μ23 => (pZ μ23 v0 10 2 ((0 : Int32))).bind fun μ28 => nw μ28 (.inr (0, dfl0)) fun q32 μ32 => bd (fX0_init q32 μ32) fun _ μ36 => (pV μ36 v0 10 3 (.ref q32)).bind fun μ39 => nw μ39 (.inr (1, dfl1)) fun q43 μ43 => bd (fX1_init q43 μ43) fun _ μ47 => (pV μ47 v0 10 4 (.ref q43)).bind fun μ50 => nw μ50 (.inr (1, dfl1)) fun q54 μ54 => bd (fX1_init q54 μ54) fun _ μ58 => (pV μ58 v0 10 5 (.ref q54)).bind fun μ61 => (pZ μ61 v0 10 6 ((0 : Int32))).bind fun μ66 => (pZ μ66 v0 10 7 ((0 : Int32))).bind fun μ71 => (pV μ71 v0 10 8 (.int ((0 : Int32)))).bind fun μ76 => (pV μ76 v0 10 9 (.int ((-5 : Int32)))).bind fun μ82 => nw μ82 (.inr (2, dfl2)) fun q86 μ86 => bd (fX2_init q86 μ86) fun _ μ90 => (pV μ90 v0 10 10 (.ref q86)).bind fun μ93 => nw μ93 (.inr (7, dfl7)) fun q97 μ97 => bd (fX7_init q97 μ97) fun _ μ101 => (pV μ101 v0 10 11 (.ref q97)).bind fun μ104 => nw μ104 (.inr (4, dfl4)) fun q108 μ108 => bd (fX4_init q108 μ108) fun _ μ112 => (pV μ112 v0 10 12 (.ref q108)).bind fun μ115 => nw μ115 (.inl (5, 4, .inr (.inr (.inr (.inr (fun _ => none)))))) fun q120 μ120 => (pV μ120 v0 10 13 (.ref q120)).bind fun μ123 => nw μ123 (.inr (6, dfl6)) fun q127 μ127 => bd (fX6_init_1_100 q127 μ127) fun _ μ134 => (pV μ134 v0 10 14 (.ref q127)).bind fun μ137 => nw μ137 (.inr (3, dfl3)) fun q141 μ141 => bd (fX3_init q141 μ141) fun _ μ145 => (pV μ145 v0 10 15 (.ref q141)).bind fun μ148 => nw μ148 (.inl (6, 6, .inr (.inr (.inr (.inr (fun _ => none)))))) fun q154 μ154 => (pV μ154 v0 10 16 (.ref q154)).bind fun μ157 => if (4 : Int32) ≤ (0 : Int32) then (none) else ((gR μ157 v0 10 13).bind fun x168 => nw μ157 (.inr (6, dfl6)) fun q172 μ172 => bd (fX6_init_1_24 q172 μ172) fun _ μ179 => (sR μ179 5 x168 ((0 : Int32)) q172 6).bind fun μ182 => if (4 : Int32) ≤ ((0 : Int32) + 1) then (none) else ((gR μ182 v0 10 13).bind fun x168_1 => nw μ182 (.inr (6, dfl6)) fun q172_1 μ172_1 => bd (fX6_init_1_24 q172_1 μ172_1) fun _ μ179_1 => (sR μ179_1 5 x168_1 (((0 : Int32) + 1)) q172_1 6).bind fun μ182_1 => if (4 : Int32) ≤ (((0 : Int32) + 1) + 1) then (none) else ((gR μ182_1 v0 10 13).bind fun x168_2 => nw μ182_1 (.inr (6, dfl6)) fun q172_2 μ172_2 => bd (fX6_init_1_24 q172_2 μ172_2) fun _ μ179_2 => (sR μ179_2 5 x168_2 ((((0 : Int32) + 1) + 1)) q172_2 6).bind fun μ182_2 => if (4 : Int32) ≤ ((((0 : Int32) + 1) + 1) + 1) then (none) else ((gR μ182_2 v0 10 13).bind fun x168_3 => nw μ182_2 (.inr (6, dfl6)) fun q172_3 μ172_3 => bd (fX6_init_1_24 q172_3 μ172_3) fun _ μ179_3 => (sR μ179_3 5 x168_3 (((((0 : Int32) + 1) + 1) + 1)) q172_3 6).bind fun μ182_3 => if (4 : Int32) ≤ (((((0 : Int32) + 1) + 1) + 1) + 1) then (if (6 : Int32) ≤ (0 : Int32) then (none) else ((gR μ182_3 v0 10 16).bind fun x198 => nw μ182_3 (.inr (9, dfl9)) fun q202 μ202 => bd (fX9_init q202 μ202) fun _ μ206 => (sR μ206 6 x198 ((0 : Int32)) q202 9).bind fun μ209 => if (6 : Int32) ≤ ((0 : Int32) + 1) then (none) else ((gR μ209 v0 10 16).bind fun x198_1 => nw μ209 (.inr (9, dfl9)) fun q202_1 μ202_1 => bd (fX9_init q202_1 μ202_1) fun _ μ206_1 => (sR μ206_1 6 x198_1 (((0 : Int32) + 1)) q202_1 9).bind fun μ209_1 => if (6 : Int32) ≤ (((0 : Int32) + 1) + 1) then (none) else ((gR μ209_1 v0 10 16).bind fun x198_2 => nw μ209_1 (.inr (9, dfl9)) fun q202_2 μ202_2 => bd (fX9_init q202_2 μ202_2) fun _ μ206_2 => (sR μ206_2 6 x198_2 ((((0 : Int32) + 1) + 1)) q202_2 9).bind fun μ209_2 => if (6 : Int32) ≤ ((((0 : Int32) + 1) + 1) + 1) then (none) else ((gR μ209_2 v0 10 16).bind fun x198_3 => nw μ209_2 (.inr (9, dfl9)) fun q202_3 μ202_3 => bd (fX9_init q202_3 μ202_3) fun _ μ206_3 => (sR μ206_3 6 x198_3 (((((0 : Int32) + 1) + 1) + 1)) q202_3 9).bind fun μ209_3 => if (6 : Int32) ≤ (((((0 : Int32) + 1) + 1) + 1) + 1) then (none) else ((gR μ209_3 v0 10 16).bind fun x198_4 => nw μ209_3 (.inr (9, dfl9)) fun q202_4 μ202_4 => bd (fX9_init q202_4 μ202_4) fun _ μ206_4 => (sR μ206_4 6 x198_4 ((((((0 : Int32) + 1) + 1) + 1) + 1)) q202_4 9).bind fun μ209_4 => if (6 : Int32) ≤ ((((((0 : Int32) + 1) + 1) + 1) + 1) + 1) then (none) else ((gR μ209_4 v0 10 16).bind fun x198_5 => nw μ209_4 (.inr (9, dfl9)) fun q202_5 μ202_5 => bd (fX9_init q202_5 μ202_5) fun _ μ206_5 => (sR μ206_5 6 x198_5 (((((((0 : Int32) + 1) + 1) + 1) + 1) + 1)) q202_5 9).bind fun μ209_5 => if (6 : Int32) ≤ (((((((0 : Int32) + 1) + 1) + 1) + 1) + 1) + 1) then (some ((), μ209_5)) else (none)))))))) else (none)))))
set_option maxHeartbeats 4000000 in
set_option maxRecDepth 100000 in
theorem mX10_init (v0 : Nat) (μ : Mem) (hlt : μ.length + 101 < 900) : MethA yX10_init cX10_init 2 4 101 5048 [.ref v0] μ (fX10_init v0 μ) := by
  refine MethA.of (by decide) rfl [(0, .ref v0)] rfl (Nat.le_of_ble_eq_true rfl) ?_
  intro p l e R s m args below meth c D ca ad A X B n0 C CA hL
  have C : CX p R s m args meth c D ca ad A X cX10_init RX10 2 none 4 := C
  unfold fX10_init
  refine E_aload_n C dX10_init_0 0 rfl ?_
  refine E_oinit C lk_X10_5 oi_i oi_c dX10_init_1 (Nat.le_of_ble_eq_true rfl) (Nat.le_of_ble_eq_true rfl) ?_
  refine E_aload_n C dX10_init_4 0 rfl ?_
  refine E_new (mc := 101) (ms := 5048) (ty := tyX8) C ⟨CA.1, CA.2.1, CA.2.2.2.1, CA.2.2.2.2⟩ dfl8 rfl iw8 tyX8_ok (dfl8_ok ad) cl_X10_11 ins_X8 ini_X8 hL (by omega) (Nat.le_of_ble_eq_true rfl) (Nat.le_of_ble_eq_true rfl) dX10_init_5 (fun q5 μ5 _ _ h5 => ?_)
  have hL5 : μ5.length = n0 + 1 := by omega
  refine E_dup_r C dX10_init_8 ?_
  refine E_initN (mc := 101) (ms := 5048) (st := [.ref q5, .ref v0]) C ⟨CA.1, CA.2.1, CA.2.2.2.1, CA.2.2.2.2⟩ [] (mX8_init q5 μ5 (by omega)) cal_X8_init rfl im_X8_init lk_X10_13 dX10_init_9 rfl rfl (Nat.le_of_ble_eq_true rfl) (Nat.le_of_ble_eq_true rfl) hL5 (by omega) (Nat.le_of_ble_eq_true rfl) (Nat.le_of_ble_eq_true rfl) (fun μ9 h9 => ?_)
  have hL9 : μ9.length = n0 + 20 := by omega
  refine EF_putO C CA PF_X10_14 dX10_init_12 (fun μ12 h12 => ?_)
  have hL12 : μ12.length = n0 + 20 := by omega
  refine E_aload_n C dX10_init_15 0 rfl ?_
  refine E_new (mc := 101) (ms := 5048) (ty := tyX8) C ⟨CA.1, CA.2.1, CA.2.2.2.1, CA.2.2.2.2⟩ dfl8 rfl iw8 tyX8_ok (dfl8_ok ad) cl_X10_11 ins_X8 ini_X8 hL12 (by omega) (Nat.le_of_ble_eq_true rfl) (Nat.le_of_ble_eq_true rfl) dX10_init_16 (fun q16 μ16 _ _ h16 => ?_)
  have hL16 : μ16.length = n0 + 21 := by omega
  refine E_dup_r C dX10_init_19 ?_
  refine E_initN (mc := 101) (ms := 5048) (st := [.ref q16, .ref v0]) C ⟨CA.1, CA.2.1, CA.2.2.2.1, CA.2.2.2.2⟩ [] (mX8_init q16 μ16 (by omega)) cal_X8_init rfl im_X8_init lk_X10_13 dX10_init_20 rfl rfl (Nat.le_of_ble_eq_true rfl) (Nat.le_of_ble_eq_true rfl) hL16 (by omega) (Nat.le_of_ble_eq_true rfl) (Nat.le_of_ble_eq_true rfl) (fun μ20 h20 => ?_)
  have hL20 : μ20.length = n0 + 40 := by omega
  refine EF_putO C CA PF_X10_18 dX10_init_23 (fun μ23 h23 => ?_)
  have hL23 : μ23.length = n0 + 40 := by omega
  refine E_aload_n C dX10_init_26 0 rfl ?_
  refine E_iconst C 0 dX10_init_27 (by decide) ?_
  refine EL_putZ C P_X10_21 dX10_init_28 (fun μ28 h28 => ?_)
  have hL28 : μ28.length = n0 + 40 := by omega
  refine E_aload_n C dX10_init_31 0 rfl ?_
  refine E_new (mc := 101) (ms := 5048) (ty := tyX0) C ⟨CA.1, CA.2.1, CA.2.2.2.1, CA.2.2.2.2⟩ dfl0 rfl iw0 tyX0_ok (dfl0_ok ad) cl_X10_25 ins_X0 ini_X0 hL28 (by omega) (Nat.le_of_ble_eq_true rfl) (Nat.le_of_ble_eq_true rfl) dX10_init_32 (fun q32 μ32 _ _ h32 => ?_)
  have hL32 : μ32.length = n0 + 41 := by omega
  refine E_dup_r C dX10_init_35 ?_
  refine E_initL (mc := 101) (ms := 5048) (st := [.ref q32, .ref v0]) C ⟨CA.1, CA.2.1, CA.2.2.2.1, CA.2.2.2.2⟩ [] (mX0_init q32 μ32 (by omega)) cal_X0_init rfl im_X0_init lk_X10_27 dX10_init_36 rfl rfl (Nat.le_of_ble_eq_true rfl) (Nat.le_of_ble_eq_true rfl) hL32 (by omega) (Nat.le_of_ble_eq_true rfl) (Nat.le_of_ble_eq_true rfl) (fun μ36 h36 => ?_)
  have hL36 : μ36.length = n0 + 53 := by omega
  refine EF_putO C CA PF_X10_28 dX10_init_39 (fun μ39 h39 => ?_)
  have hL39 : μ39.length = n0 + 53 := by omega
  refine E_aload_n C dX10_init_42 0 rfl ?_
  refine E_new (mc := 101) (ms := 5048) (ty := tyX1) C ⟨CA.1, CA.2.1, CA.2.2.2.1, CA.2.2.2.2⟩ dfl1 rfl iw1 tyX1_ok (dfl1_ok ad) cl_X10_32 ins_X1 ini_X1 hL39 (by omega) (Nat.le_of_ble_eq_true rfl) (Nat.le_of_ble_eq_true rfl) dX10_init_43 (fun q43 μ43 _ _ h43 => ?_)
  have hL43 : μ43.length = n0 + 54 := by omega
  refine E_dup_r C dX10_init_46 ?_
  refine E_initN (mc := 101) (ms := 5048) (st := [.ref q43, .ref v0]) C ⟨CA.1, CA.2.1, CA.2.2.2.1, CA.2.2.2.2⟩ [] (mX1_init q43 μ43 (by omega)) cal_X1_init rfl im_X1_init lk_X10_34 dX10_init_47 rfl rfl (Nat.le_of_ble_eq_true rfl) (Nat.le_of_ble_eq_true rfl) hL43 (by omega) (Nat.le_of_ble_eq_true rfl) (Nat.le_of_ble_eq_true rfl) (fun μ47 h47 => ?_)
  have hL47 : μ47.length = n0 + 58 := by omega
  refine EF_putO C CA PF_X10_35 dX10_init_50 (fun μ50 h50 => ?_)
  have hL50 : μ50.length = n0 + 58 := by omega
  refine E_aload_n C dX10_init_53 0 rfl ?_
  refine E_new (mc := 101) (ms := 5048) (ty := tyX1) C ⟨CA.1, CA.2.1, CA.2.2.2.1, CA.2.2.2.2⟩ dfl1 rfl iw1 tyX1_ok (dfl1_ok ad) cl_X10_32 ins_X1 ini_X1 hL50 (by omega) (Nat.le_of_ble_eq_true rfl) (Nat.le_of_ble_eq_true rfl) dX10_init_54 (fun q54 μ54 _ _ h54 => ?_)
  have hL54 : μ54.length = n0 + 59 := by omega
  refine E_dup_r C dX10_init_57 ?_
  refine E_initN (mc := 101) (ms := 5048) (st := [.ref q54, .ref v0]) C ⟨CA.1, CA.2.1, CA.2.2.2.1, CA.2.2.2.2⟩ [] (mX1_init q54 μ54 (by omega)) cal_X1_init rfl im_X1_init lk_X10_34 dX10_init_58 rfl rfl (Nat.le_of_ble_eq_true rfl) (Nat.le_of_ble_eq_true rfl) hL54 (by omega) (Nat.le_of_ble_eq_true rfl) (Nat.le_of_ble_eq_true rfl) (fun μ58 h58 => ?_)
  have hL58 : μ58.length = n0 + 63 := by omega
  refine EF_putO C CA PF_X10_39 dX10_init_61 (fun μ61 h61 => ?_)
  have hL61 : μ61.length = n0 + 63 := by omega
  refine E_aload_n C dX10_init_64 0 rfl ?_
  refine E_iconst C 0 dX10_init_65 (by decide) ?_
  refine EL_putZ C P_X10_42 dX10_init_66 (fun μ66 h66 => ?_)
  have hL66 : μ66.length = n0 + 63 := by omega
  refine E_aload_n C dX10_init_69 0 rfl ?_
  refine E_iconst C 0 dX10_init_70 (by decide) ?_
  refine EL_putZ C P_X10_45 dX10_init_71 (fun μ71 h71 => ?_)
  have hL71 : μ71.length = n0 + 63 := by omega
  refine E_aload_n C dX10_init_74 0 rfl ?_
  refine E_iconst C 0 dX10_init_75 (by decide) ?_
  refine EL_putI C P_X10_48 dX10_init_76 (fun μ76 h76 => ?_)
  have hL76 : μ76.length = n0 + 63 := by omega
  refine E_aload_n C dX10_init_79 0 rfl ?_
  refine E_bipush C (-5) dX10_init_80 (by decide) ?_
  refine EL_putI C P_X10_52 dX10_init_82 (fun μ82 h82 => ?_)
  have hL82 : μ82.length = n0 + 63 := by omega
  refine E_aload_n C dX10_init_85 0 rfl ?_
  refine E_new (mc := 101) (ms := 5048) (ty := tyX2) C ⟨CA.1, CA.2.1, CA.2.2.2.1, CA.2.2.2.2⟩ dfl2 rfl iw2 tyX2_ok (dfl2_ok ad) cl_X10_55 ins_X2 ini_X2 hL82 (by omega) (Nat.le_of_ble_eq_true rfl) (Nat.le_of_ble_eq_true rfl) dX10_init_86 (fun q86 μ86 _ _ h86 => ?_)
  have hL86 : μ86.length = n0 + 64 := by omega
  refine E_dup_r C dX10_init_89 ?_
  refine E_initN (mc := 101) (ms := 5048) (st := [.ref q86, .ref v0]) C ⟨CA.1, CA.2.1, CA.2.2.2.1, CA.2.2.2.2⟩ [] (mX2_init q86 μ86 (by omega)) cal_X2_init rfl im_X2_init lk_X10_57 dX10_init_90 rfl rfl (Nat.le_of_ble_eq_true rfl) (Nat.le_of_ble_eq_true rfl) hL86 (by omega) (Nat.le_of_ble_eq_true rfl) (Nat.le_of_ble_eq_true rfl) (fun μ90 h90 => ?_)
  have hL90 : μ90.length = n0 + 70 := by omega
  refine EF_putO C CA PF_X10_58 dX10_init_93 (fun μ93 h93 => ?_)
  have hL93 : μ93.length = n0 + 70 := by omega
  refine E_aload_n C dX10_init_96 0 rfl ?_
  refine E_new (mc := 101) (ms := 5048) (ty := tyX7) C ⟨CA.1, CA.2.1, CA.2.2.2.1, CA.2.2.2.2⟩ dfl7 rfl iw7 tyX7_ok (dfl7_ok ad) cl_X10_62 ins_X7 ini_X7 hL93 (by omega) (Nat.le_of_ble_eq_true rfl) (Nat.le_of_ble_eq_true rfl) dX10_init_97 (fun q97 μ97 _ _ h97 => ?_)
  have hL97 : μ97.length = n0 + 71 := by omega
  refine E_dup_r C dX10_init_100 ?_
  refine E_initN (mc := 101) (ms := 5048) (st := [.ref q97, .ref v0]) C ⟨CA.1, CA.2.1, CA.2.2.2.1, CA.2.2.2.2⟩ [] (mX7_init q97 μ97 (by omega)) cal_X7_init rfl im_X7_init lk_X10_64 dX10_init_101 rfl rfl (Nat.le_of_ble_eq_true rfl) (Nat.le_of_ble_eq_true rfl) hL97 (by omega) (Nat.le_of_ble_eq_true rfl) (Nat.le_of_ble_eq_true rfl) (fun μ101 h101 => ?_)
  have hL101 : μ101.length = n0 + 71 := by omega
  refine EF_putO C CA PF_X10_65 dX10_init_104 (fun μ104 h104 => ?_)
  have hL104 : μ104.length = n0 + 71 := by omega
  refine E_aload_n C dX10_init_107 0 rfl ?_
  refine E_new (mc := 101) (ms := 5048) (ty := tyX4) C ⟨CA.1, CA.2.1, CA.2.2.2.1, CA.2.2.2.2⟩ dfl4 rfl iw4 tyX4_ok (dfl4_ok ad) cl_X10_69 ins_X4 ini_X4 hL104 (by omega) (Nat.le_of_ble_eq_true rfl) (Nat.le_of_ble_eq_true rfl) dX10_init_108 (fun q108 μ108 _ _ h108 => ?_)
  have hL108 : μ108.length = n0 + 72 := by omega
  refine E_dup_r C dX10_init_111 ?_
  refine E_initN (mc := 101) (ms := 5048) (st := [.ref q108, .ref v0]) C ⟨CA.1, CA.2.1, CA.2.2.2.1, CA.2.2.2.2⟩ [] (mX4_init q108 μ108 (by omega)) cal_X4_init rfl im_X4_init lk_X10_71 dX10_init_112 rfl rfl (Nat.le_of_ble_eq_true rfl) (Nat.le_of_ble_eq_true rfl) hL108 (by omega) (Nat.le_of_ble_eq_true rfl) (Nat.le_of_ble_eq_true rfl) (fun μ112 h112 => ?_)
  have hL112 : μ112.length = n0 + 75 := by omega
  refine EF_putO C CA PF_X10_72 dX10_init_115 (fun μ115 h115 => ?_)
  have hL115 : μ115.length = n0 + 75 := by omega
  refine E_aload_n C dX10_init_118 0 rfl ?_
  refine E_iconst C 4 dX10_init_119 (by decide) ?_
  refine E_newq (t := 5) (N := 4) (Cn := RX6) (mc := 101) (ms := 5048) C ⟨CA.1, CA.2.1, CA.2.2.2.1, CA.2.2.2.2⟩ rfl cl_X10_76 ao_X6 (by decide) (by decide) (by decide) hL115 (by omega) (Nat.le_of_ble_eq_true rfl) (Nat.le_of_ble_eq_true rfl) dX10_init_120 (fun q120 μ120 _ _ h120 => ?_)
  have hL120 : μ120.length = n0 + 76 := by omega
  refine EF_putA C CA PF_X10_78 dX10_init_123 (fun μ123 h123 => ?_)
  have hL123 : μ123.length = n0 + 76 := by omega
  refine E_aload_n C dX10_init_126 0 rfl ?_
  refine E_new (mc := 101) (ms := 5048) (ty := tyX6) C ⟨CA.1, CA.2.1, CA.2.2.2.1, CA.2.2.2.2⟩ dfl6 rfl iw6 tyX6_ok (dfl6_ok ad) cl_X10_76 ins_X6 ini_X6 hL123 (by omega) (Nat.le_of_ble_eq_true rfl) (Nat.le_of_ble_eq_true rfl) dX10_init_127 (fun q127 μ127 _ _ h127 => ?_)
  have hL127 : μ127.length = n0 + 77 := by omega
  refine E_dup_r C dX10_init_130 ?_
  refine E_iconst C 1 dX10_init_131 (by decide) ?_
  refine E_bipush C 100 dX10_init_132 (by decide) ?_
  refine E_initL (mc := 101) (ms := 5048) (st := [.ref q127, .ref v0]) C ⟨CA.1, CA.2.1, CA.2.2.2.1, CA.2.2.2.2⟩ [.int 1, .int 100] (mX6_init_1_100 q127 μ127 (by omega)) cal_X6_init rfl im_X6_init lk_X10_82 dX10_init_134 rfl rfl (Nat.le_of_ble_eq_true rfl) (Nat.le_of_ble_eq_true rfl) hL127 (by omega) (Nat.le_of_ble_eq_true rfl) (Nat.le_of_ble_eq_true rfl) (fun μ134 h134 => ?_)
  have hL134 : μ134.length = n0 + 78 := by omega
  refine EF_putO C CA PF_X10_85 dX10_init_137 (fun μ137 h137 => ?_)
  have hL137 : μ137.length = n0 + 78 := by omega
  refine E_aload_n C dX10_init_140 0 rfl ?_
  refine E_new (mc := 101) (ms := 5048) (ty := tyX3) C ⟨CA.1, CA.2.1, CA.2.2.2.1, CA.2.2.2.2⟩ dfl3 rfl iw3 tyX3_ok (dfl3_ok ad) cl_X10_89 ins_X3 ini_X3 hL137 (by omega) (Nat.le_of_ble_eq_true rfl) (Nat.le_of_ble_eq_true rfl) dX10_init_141 (fun q141 μ141 _ _ h141 => ?_)
  have hL141 : μ141.length = n0 + 79 := by omega
  refine E_dup_r C dX10_init_144 ?_
  refine E_initN (mc := 101) (ms := 5048) (st := [.ref q141, .ref v0]) C ⟨CA.1, CA.2.1, CA.2.2.2.1, CA.2.2.2.2⟩ [] (mX3_init q141 μ141 (by omega)) cal_X3_init rfl im_X3_init lk_X10_91 dX10_init_145 rfl rfl (Nat.le_of_ble_eq_true rfl) (Nat.le_of_ble_eq_true rfl) hL141 (by omega) (Nat.le_of_ble_eq_true rfl) (Nat.le_of_ble_eq_true rfl) (fun μ145 h145 => ?_)
  have hL145 : μ145.length = n0 + 80 := by omega
  refine EF_putO C CA PF_X10_92 dX10_init_148 (fun μ148 h148 => ?_)
  have hL148 : μ148.length = n0 + 80 := by omega
  refine E_aload_n C dX10_init_151 0 rfl ?_
  refine E_bipush C 6 dX10_init_152 (by decide) ?_
  refine E_newq (t := 6) (N := 6) (Cn := RX9) (mc := 101) (ms := 5048) C ⟨CA.1, CA.2.1, CA.2.2.2.1, CA.2.2.2.2⟩ rfl cl_X10_96 ao_X9 (by decide) (by decide) (by decide) hL148 (by omega) (Nat.le_of_ble_eq_true rfl) (Nat.le_of_ble_eq_true rfl) dX10_init_154 (fun q154 μ154 _ _ h154 => ?_)
  have hL154 : μ154.length = n0 + 81 := by omega
  refine EF_putA C CA PF_X10_98 dX10_init_157 (fun μ157 h157 => ?_)
  have hL157 : μ157.length = n0 + 81 := by omega
  refine E_iconst C 0 dX10_init_160 (by decide) ?_
  refine E_istore_n (lv' := [(1, .int ((0 : Int32))), (0, .ref v0)]) C dX10_init_161 (by decide) rfl ?_
  refine E_iload_n C dX10_init_162 0 rfl ?_
  refine E_iconst C 4 dX10_init_163 (by decide) ?_
  refine E_icmp_ge C 189 dX10_init_164 (by decide) E_none ?_
  refine E_at (pc2 := 167) rfl ?_
  refine E_aload_n C dX10_init_167 1 rfl ?_
  refine E_getR C F_X10_78 dX10_init_168 (fun x168 => ?_)
  refine E_iload_n C dX10_init_171 0 rfl ?_
  refine E_new (mc := 101) (ms := 5048) (ty := tyX6) C ⟨CA.1, CA.2.1, CA.2.2.2.1, CA.2.2.2.2⟩ dfl6 rfl iw6 tyX6_ok (dfl6_ok ad) cl_X10_76 ins_X6 ini_X6 hL157 (by omega) (Nat.le_of_ble_eq_true rfl) (Nat.le_of_ble_eq_true rfl) dX10_init_172 (fun q172 μ172 _ _ h172 => ?_)
  have hL172 : μ172.length = n0 + 82 := by omega
  refine E_dup_r C dX10_init_175 ?_
  refine E_iconst C 1 dX10_init_176 (by decide) ?_
  refine E_bipush C 24 dX10_init_177 (by decide) ?_
  refine E_initL (mc := 101) (ms := 5048) (st := [.ref q172, .int ((0 : Int32)), .ref x168]) C ⟨CA.1, CA.2.1, CA.2.2.2.1, CA.2.2.2.2⟩ [.int 1, .int 24] (mX6_init_1_24 q172 μ172 (by omega)) cal_X6_init rfl im_X6_init lk_X10_82 dX10_init_179 rfl rfl (Nat.le_of_ble_eq_true rfl) (Nat.le_of_ble_eq_true rfl) hL172 (by omega) (Nat.le_of_ble_eq_true rfl) (Nat.le_of_ble_eq_true rfl) (fun μ179 h179 => ?_)
  have hL179 : μ179.length = n0 + 83 := by omega
  refine E_aastore (Cn := RX6) (T := TX6) (N := 4) C rfl rfl dX10_init_182 (fun μ182 h182 => ?_)
  have hL182 : μ182.length = n0 + 83 := by omega
  refine E_iinc (lv' := [(1, .int (((0 : Int32) + 1))), (0, .ref v0)]) C ((0 : Int32) + 1) dX10_init_183 0 rfl rfl (by decide) rfl ?_
  refine E_goto C 162 dX10_init_186 (by decide) ?_
  refine E_iload_n C dX10_init_162 0 rfl ?_
  refine E_iconst C 4 dX10_init_163 (by decide) ?_
  refine E_icmp_ge C 189 dX10_init_164 (by decide) E_none ?_
  refine E_at (pc2 := 167) rfl ?_
  refine E_aload_n C dX10_init_167 1 rfl ?_
  refine E_getR C F_X10_78 dX10_init_168 (fun x168_1 => ?_)
  refine E_iload_n C dX10_init_171 0 rfl ?_
  refine E_new (mc := 101) (ms := 5048) (ty := tyX6) C ⟨CA.1, CA.2.1, CA.2.2.2.1, CA.2.2.2.2⟩ dfl6 rfl iw6 tyX6_ok (dfl6_ok ad) cl_X10_76 ins_X6 ini_X6 hL182 (by omega) (Nat.le_of_ble_eq_true rfl) (Nat.le_of_ble_eq_true rfl) dX10_init_172 (fun q172_1 μ172_1 _ _ h172_1 => ?_)
  have hL172_1 : μ172_1.length = n0 + 84 := by omega
  refine E_dup_r C dX10_init_175 ?_
  refine E_iconst C 1 dX10_init_176 (by decide) ?_
  refine E_bipush C 24 dX10_init_177 (by decide) ?_
  refine E_initL (mc := 101) (ms := 5048) (st := [.ref q172_1, .int (((0 : Int32) + 1)), .ref x168_1]) C ⟨CA.1, CA.2.1, CA.2.2.2.1, CA.2.2.2.2⟩ [.int 1, .int 24] (mX6_init_1_24 q172_1 μ172_1 (by omega)) cal_X6_init rfl im_X6_init lk_X10_82 dX10_init_179 rfl rfl (Nat.le_of_ble_eq_true rfl) (Nat.le_of_ble_eq_true rfl) hL172_1 (by omega) (Nat.le_of_ble_eq_true rfl) (Nat.le_of_ble_eq_true rfl) (fun μ179_1 h179_1 => ?_)
  have hL179_1 : μ179_1.length = n0 + 85 := by omega
  refine E_aastore (Cn := RX6) (T := TX6) (N := 4) C rfl rfl dX10_init_182 (fun μ182_1 h182_1 => ?_)
  have hL182_1 : μ182_1.length = n0 + 85 := by omega
  refine E_iinc (lv' := [(1, .int ((((0 : Int32) + 1) + 1))), (0, .ref v0)]) C (((0 : Int32) + 1) + 1) dX10_init_183 0 rfl rfl (by decide) rfl ?_
  refine E_goto C 162 dX10_init_186 (by decide) ?_
  refine E_iload_n C dX10_init_162 0 rfl ?_
  refine E_iconst C 4 dX10_init_163 (by decide) ?_
  refine E_icmp_ge C 189 dX10_init_164 (by decide) E_none ?_
  refine E_at (pc2 := 167) rfl ?_
  refine E_aload_n C dX10_init_167 1 rfl ?_
  refine E_getR C F_X10_78 dX10_init_168 (fun x168_2 => ?_)
  refine E_iload_n C dX10_init_171 0 rfl ?_
  refine E_new (mc := 101) (ms := 5048) (ty := tyX6) C ⟨CA.1, CA.2.1, CA.2.2.2.1, CA.2.2.2.2⟩ dfl6 rfl iw6 tyX6_ok (dfl6_ok ad) cl_X10_76 ins_X6 ini_X6 hL182_1 (by omega) (Nat.le_of_ble_eq_true rfl) (Nat.le_of_ble_eq_true rfl) dX10_init_172 (fun q172_2 μ172_2 _ _ h172_2 => ?_)
  have hL172_2 : μ172_2.length = n0 + 86 := by omega
  refine E_dup_r C dX10_init_175 ?_
  refine E_iconst C 1 dX10_init_176 (by decide) ?_
  refine E_bipush C 24 dX10_init_177 (by decide) ?_
  refine E_initL (mc := 101) (ms := 5048) (st := [.ref q172_2, .int ((((0 : Int32) + 1) + 1)), .ref x168_2]) C ⟨CA.1, CA.2.1, CA.2.2.2.1, CA.2.2.2.2⟩ [.int 1, .int 24] (mX6_init_1_24 q172_2 μ172_2 (by omega)) cal_X6_init rfl im_X6_init lk_X10_82 dX10_init_179 rfl rfl (Nat.le_of_ble_eq_true rfl) (Nat.le_of_ble_eq_true rfl) hL172_2 (by omega) (Nat.le_of_ble_eq_true rfl) (Nat.le_of_ble_eq_true rfl) (fun μ179_2 h179_2 => ?_)
  have hL179_2 : μ179_2.length = n0 + 87 := by omega
  refine E_aastore (Cn := RX6) (T := TX6) (N := 4) C rfl rfl dX10_init_182 (fun μ182_2 h182_2 => ?_)
  have hL182_2 : μ182_2.length = n0 + 87 := by omega
  refine E_iinc (lv' := [(1, .int (((((0 : Int32) + 1) + 1) + 1))), (0, .ref v0)]) C ((((0 : Int32) + 1) + 1) + 1) dX10_init_183 0 rfl rfl (by decide) rfl ?_
  refine E_goto C 162 dX10_init_186 (by decide) ?_
  refine E_iload_n C dX10_init_162 0 rfl ?_
  refine E_iconst C 4 dX10_init_163 (by decide) ?_
  refine E_icmp_ge C 189 dX10_init_164 (by decide) E_none ?_
  refine E_at (pc2 := 167) rfl ?_
  refine E_aload_n C dX10_init_167 1 rfl ?_
  refine E_getR C F_X10_78 dX10_init_168 (fun x168_3 => ?_)
  refine E_iload_n C dX10_init_171 0 rfl ?_
  refine E_new (mc := 101) (ms := 5048) (ty := tyX6) C ⟨CA.1, CA.2.1, CA.2.2.2.1, CA.2.2.2.2⟩ dfl6 rfl iw6 tyX6_ok (dfl6_ok ad) cl_X10_76 ins_X6 ini_X6 hL182_2 (by omega) (Nat.le_of_ble_eq_true rfl) (Nat.le_of_ble_eq_true rfl) dX10_init_172 (fun q172_3 μ172_3 _ _ h172_3 => ?_)
  have hL172_3 : μ172_3.length = n0 + 88 := by omega
  refine E_dup_r C dX10_init_175 ?_
  refine E_iconst C 1 dX10_init_176 (by decide) ?_
  refine E_bipush C 24 dX10_init_177 (by decide) ?_
  refine E_initL (mc := 101) (ms := 5048) (st := [.ref q172_3, .int (((((0 : Int32) + 1) + 1) + 1)), .ref x168_3]) C ⟨CA.1, CA.2.1, CA.2.2.2.1, CA.2.2.2.2⟩ [.int 1, .int 24] (mX6_init_1_24 q172_3 μ172_3 (by omega)) cal_X6_init rfl im_X6_init lk_X10_82 dX10_init_179 rfl rfl (Nat.le_of_ble_eq_true rfl) (Nat.le_of_ble_eq_true rfl) hL172_3 (by omega) (Nat.le_of_ble_eq_true rfl) (Nat.le_of_ble_eq_true rfl) (fun μ179_3 h179_3 => ?_)
  have hL179_3 : μ179_3.length = n0 + 89 := by omega
  refine E_aastore (Cn := RX6) (T := TX6) (N := 4) C rfl rfl dX10_init_182 (fun μ182_3 h182_3 => ?_)
  have hL182_3 : μ182_3.length = n0 + 89 := by omega
  refine E_iinc (lv' := [(1, .int ((((((0 : Int32) + 1) + 1) + 1) + 1))), (0, .ref v0)]) C (((((0 : Int32) + 1) + 1) + 1) + 1) dX10_init_183 0 rfl rfl (by decide) rfl ?_
  refine E_goto C 162 dX10_init_186 (by decide) ?_
  refine E_iload_n C dX10_init_162 0 rfl ?_
  refine E_iconst C 4 dX10_init_163 (by decide) ?_
  refine E_icmp_ge C 189 dX10_init_164 (by decide) ?_ E_none
  refine E_iconst C 0 dX10_init_189 (by decide) ?_
  refine E_istore_n (lv' := [(1, .int ((0 : Int32))), (0, .ref v0)]) C dX10_init_190 (by decide) rfl ?_
  refine E_iload_n C dX10_init_191 0 rfl ?_
  refine E_bipush C 6 dX10_init_192 (by decide) ?_
  refine E_icmp_ge C 216 dX10_init_194 (by decide) E_none ?_
  refine E_at (pc2 := 197) rfl ?_
  refine E_aload_n C dX10_init_197 1 rfl ?_
  refine E_getR C F_X10_98 dX10_init_198 (fun x198 => ?_)
  refine E_iload_n C dX10_init_201 0 rfl ?_
  refine E_new (mc := 101) (ms := 5048) (ty := tyX9) C ⟨CA.1, CA.2.1, CA.2.2.2.1, CA.2.2.2.2⟩ dfl9 rfl iw9 tyX9_ok (dfl9_ok ad) cl_X10_96 ins_X9 ini_X9 hL182_3 (by omega) (Nat.le_of_ble_eq_true rfl) (Nat.le_of_ble_eq_true rfl) dX10_init_202 (fun q202 μ202 _ _ h202 => ?_)
  have hL202 : μ202.length = n0 + 90 := by omega
  refine E_dup_r C dX10_init_205 ?_
  refine E_initN (mc := 101) (ms := 5048) (st := [.ref q202, .int ((0 : Int32)), .ref x198]) C ⟨CA.1, CA.2.1, CA.2.2.2.1, CA.2.2.2.2⟩ [] (mX9_init q202 μ202 (by omega)) cal_X9_init rfl im_X9_init lk_X10_102 dX10_init_206 rfl rfl (Nat.le_of_ble_eq_true rfl) (Nat.le_of_ble_eq_true rfl) hL202 (by omega) (Nat.le_of_ble_eq_true rfl) (Nat.le_of_ble_eq_true rfl) (fun μ206 h206 => ?_)
  have hL206 : μ206.length = n0 + 91 := by omega
  refine E_aastore (Cn := RX9) (T := TX9) (N := 3) C rfl rfl dX10_init_209 (fun μ209 h209 => ?_)
  have hL209 : μ209.length = n0 + 91 := by omega
  refine E_iinc (lv' := [(1, .int (((0 : Int32) + 1))), (0, .ref v0)]) C ((0 : Int32) + 1) dX10_init_210 0 rfl rfl (by decide) rfl ?_
  refine E_goto C 191 dX10_init_213 (by decide) ?_
  refine E_iload_n C dX10_init_191 0 rfl ?_
  refine E_bipush C 6 dX10_init_192 (by decide) ?_
  refine E_icmp_ge C 216 dX10_init_194 (by decide) E_none ?_
  refine E_at (pc2 := 197) rfl ?_
  refine E_aload_n C dX10_init_197 1 rfl ?_
  refine E_getR C F_X10_98 dX10_init_198 (fun x198_1 => ?_)
  refine E_iload_n C dX10_init_201 0 rfl ?_
  refine E_new (mc := 101) (ms := 5048) (ty := tyX9) C ⟨CA.1, CA.2.1, CA.2.2.2.1, CA.2.2.2.2⟩ dfl9 rfl iw9 tyX9_ok (dfl9_ok ad) cl_X10_96 ins_X9 ini_X9 hL209 (by omega) (Nat.le_of_ble_eq_true rfl) (Nat.le_of_ble_eq_true rfl) dX10_init_202 (fun q202_1 μ202_1 _ _ h202_1 => ?_)
  have hL202_1 : μ202_1.length = n0 + 92 := by omega
  refine E_dup_r C dX10_init_205 ?_
  refine E_initN (mc := 101) (ms := 5048) (st := [.ref q202_1, .int (((0 : Int32) + 1)), .ref x198_1]) C ⟨CA.1, CA.2.1, CA.2.2.2.1, CA.2.2.2.2⟩ [] (mX9_init q202_1 μ202_1 (by omega)) cal_X9_init rfl im_X9_init lk_X10_102 dX10_init_206 rfl rfl (Nat.le_of_ble_eq_true rfl) (Nat.le_of_ble_eq_true rfl) hL202_1 (by omega) (Nat.le_of_ble_eq_true rfl) (Nat.le_of_ble_eq_true rfl) (fun μ206_1 h206_1 => ?_)
  have hL206_1 : μ206_1.length = n0 + 93 := by omega
  refine E_aastore (Cn := RX9) (T := TX9) (N := 3) C rfl rfl dX10_init_209 (fun μ209_1 h209_1 => ?_)
  have hL209_1 : μ209_1.length = n0 + 93 := by omega
  refine E_iinc (lv' := [(1, .int ((((0 : Int32) + 1) + 1))), (0, .ref v0)]) C (((0 : Int32) + 1) + 1) dX10_init_210 0 rfl rfl (by decide) rfl ?_
  refine E_goto C 191 dX10_init_213 (by decide) ?_
  refine E_iload_n C dX10_init_191 0 rfl ?_
  refine E_bipush C 6 dX10_init_192 (by decide) ?_
  refine E_icmp_ge C 216 dX10_init_194 (by decide) E_none ?_
  refine E_at (pc2 := 197) rfl ?_
  refine E_aload_n C dX10_init_197 1 rfl ?_
  refine E_getR C F_X10_98 dX10_init_198 (fun x198_2 => ?_)
  refine E_iload_n C dX10_init_201 0 rfl ?_
  refine E_new (mc := 101) (ms := 5048) (ty := tyX9) C ⟨CA.1, CA.2.1, CA.2.2.2.1, CA.2.2.2.2⟩ dfl9 rfl iw9 tyX9_ok (dfl9_ok ad) cl_X10_96 ins_X9 ini_X9 hL209_1 (by omega) (Nat.le_of_ble_eq_true rfl) (Nat.le_of_ble_eq_true rfl) dX10_init_202 (fun q202_2 μ202_2 _ _ h202_2 => ?_)
  have hL202_2 : μ202_2.length = n0 + 94 := by omega
  refine E_dup_r C dX10_init_205 ?_
  refine E_initN (mc := 101) (ms := 5048) (st := [.ref q202_2, .int ((((0 : Int32) + 1) + 1)), .ref x198_2]) C ⟨CA.1, CA.2.1, CA.2.2.2.1, CA.2.2.2.2⟩ [] (mX9_init q202_2 μ202_2 (by omega)) cal_X9_init rfl im_X9_init lk_X10_102 dX10_init_206 rfl rfl (Nat.le_of_ble_eq_true rfl) (Nat.le_of_ble_eq_true rfl) hL202_2 (by omega) (Nat.le_of_ble_eq_true rfl) (Nat.le_of_ble_eq_true rfl) (fun μ206_2 h206_2 => ?_)
  have hL206_2 : μ206_2.length = n0 + 95 := by omega
  refine E_aastore (Cn := RX9) (T := TX9) (N := 3) C rfl rfl dX10_init_209 (fun μ209_2 h209_2 => ?_)
  have hL209_2 : μ209_2.length = n0 + 95 := by omega
  refine E_iinc (lv' := [(1, .int (((((0 : Int32) + 1) + 1) + 1))), (0, .ref v0)]) C ((((0 : Int32) + 1) + 1) + 1) dX10_init_210 0 rfl rfl (by decide) rfl ?_
  refine E_goto C 191 dX10_init_213 (by decide) ?_
  refine E_iload_n C dX10_init_191 0 rfl ?_
  refine E_bipush C 6 dX10_init_192 (by decide) ?_
  refine E_icmp_ge C 216 dX10_init_194 (by decide) E_none ?_
  refine E_at (pc2 := 197) rfl ?_
  refine E_aload_n C dX10_init_197 1 rfl ?_
  refine E_getR C F_X10_98 dX10_init_198 (fun x198_3 => ?_)
  refine E_iload_n C dX10_init_201 0 rfl ?_
  refine E_new (mc := 101) (ms := 5048) (ty := tyX9) C ⟨CA.1, CA.2.1, CA.2.2.2.1, CA.2.2.2.2⟩ dfl9 rfl iw9 tyX9_ok (dfl9_ok ad) cl_X10_96 ins_X9 ini_X9 hL209_2 (by omega) (Nat.le_of_ble_eq_true rfl) (Nat.le_of_ble_eq_true rfl) dX10_init_202 (fun q202_3 μ202_3 _ _ h202_3 => ?_)
  have hL202_3 : μ202_3.length = n0 + 96 := by omega
  refine E_dup_r C dX10_init_205 ?_
  refine E_initN (mc := 101) (ms := 5048) (st := [.ref q202_3, .int (((((0 : Int32) + 1) + 1) + 1)), .ref x198_3]) C ⟨CA.1, CA.2.1, CA.2.2.2.1, CA.2.2.2.2⟩ [] (mX9_init q202_3 μ202_3 (by omega)) cal_X9_init rfl im_X9_init lk_X10_102 dX10_init_206 rfl rfl (Nat.le_of_ble_eq_true rfl) (Nat.le_of_ble_eq_true rfl) hL202_3 (by omega) (Nat.le_of_ble_eq_true rfl) (Nat.le_of_ble_eq_true rfl) (fun μ206_3 h206_3 => ?_)
  have hL206_3 : μ206_3.length = n0 + 97 := by omega
  refine E_aastore (Cn := RX9) (T := TX9) (N := 3) C rfl rfl dX10_init_209 (fun μ209_3 h209_3 => ?_)
  have hL209_3 : μ209_3.length = n0 + 97 := by omega
  refine E_iinc (lv' := [(1, .int ((((((0 : Int32) + 1) + 1) + 1) + 1))), (0, .ref v0)]) C (((((0 : Int32) + 1) + 1) + 1) + 1) dX10_init_210 0 rfl rfl (by decide) rfl ?_
  refine E_goto C 191 dX10_init_213 (by decide) ?_
  refine E_iload_n C dX10_init_191 0 rfl ?_
  refine E_bipush C 6 dX10_init_192 (by decide) ?_
  refine E_icmp_ge C 216 dX10_init_194 (by decide) E_none ?_
  refine E_at (pc2 := 197) rfl ?_
  refine E_aload_n C dX10_init_197 1 rfl ?_
  refine E_getR C F_X10_98 dX10_init_198 (fun x198_4 => ?_)
  refine E_iload_n C dX10_init_201 0 rfl ?_
  refine E_new (mc := 101) (ms := 5048) (ty := tyX9) C ⟨CA.1, CA.2.1, CA.2.2.2.1, CA.2.2.2.2⟩ dfl9 rfl iw9 tyX9_ok (dfl9_ok ad) cl_X10_96 ins_X9 ini_X9 hL209_3 (by omega) (Nat.le_of_ble_eq_true rfl) (Nat.le_of_ble_eq_true rfl) dX10_init_202 (fun q202_4 μ202_4 _ _ h202_4 => ?_)
  have hL202_4 : μ202_4.length = n0 + 98 := by omega
  refine E_dup_r C dX10_init_205 ?_
  refine E_initN (mc := 101) (ms := 5048) (st := [.ref q202_4, .int ((((((0 : Int32) + 1) + 1) + 1) + 1)), .ref x198_4]) C ⟨CA.1, CA.2.1, CA.2.2.2.1, CA.2.2.2.2⟩ [] (mX9_init q202_4 μ202_4 (by omega)) cal_X9_init rfl im_X9_init lk_X10_102 dX10_init_206 rfl rfl (Nat.le_of_ble_eq_true rfl) (Nat.le_of_ble_eq_true rfl) hL202_4 (by omega) (Nat.le_of_ble_eq_true rfl) (Nat.le_of_ble_eq_true rfl) (fun μ206_4 h206_4 => ?_)
  have hL206_4 : μ206_4.length = n0 + 99 := by omega
  refine E_aastore (Cn := RX9) (T := TX9) (N := 3) C rfl rfl dX10_init_209 (fun μ209_4 h209_4 => ?_)
  have hL209_4 : μ209_4.length = n0 + 99 := by omega
  refine E_iinc (lv' := [(1, .int (((((((0 : Int32) + 1) + 1) + 1) + 1) + 1))), (0, .ref v0)]) C ((((((0 : Int32) + 1) + 1) + 1) + 1) + 1) dX10_init_210 0 rfl rfl (by decide) rfl ?_
  refine E_goto C 191 dX10_init_213 (by decide) ?_
  refine E_iload_n C dX10_init_191 0 rfl ?_
  refine E_bipush C 6 dX10_init_192 (by decide) ?_
  refine E_icmp_ge C 216 dX10_init_194 (by decide) E_none ?_
  refine E_at (pc2 := 197) rfl ?_
  refine E_aload_n C dX10_init_197 1 rfl ?_
  refine E_getR C F_X10_98 dX10_init_198 (fun x198_5 => ?_)
  refine E_iload_n C dX10_init_201 0 rfl ?_
  refine E_new (mc := 101) (ms := 5048) (ty := tyX9) C ⟨CA.1, CA.2.1, CA.2.2.2.1, CA.2.2.2.2⟩ dfl9 rfl iw9 tyX9_ok (dfl9_ok ad) cl_X10_96 ins_X9 ini_X9 hL209_4 (by omega) (Nat.le_of_ble_eq_true rfl) (Nat.le_of_ble_eq_true rfl) dX10_init_202 (fun q202_5 μ202_5 _ _ h202_5 => ?_)
  have hL202_5 : μ202_5.length = n0 + 100 := by omega
  refine E_dup_r C dX10_init_205 ?_
  refine E_initN (mc := 101) (ms := 5048) (st := [.ref q202_5, .int (((((((0 : Int32) + 1) + 1) + 1) + 1) + 1)), .ref x198_5]) C ⟨CA.1, CA.2.1, CA.2.2.2.1, CA.2.2.2.2⟩ [] (mX9_init q202_5 μ202_5 (by omega)) cal_X9_init rfl im_X9_init lk_X10_102 dX10_init_206 rfl rfl (Nat.le_of_ble_eq_true rfl) (Nat.le_of_ble_eq_true rfl) hL202_5 (by omega) (Nat.le_of_ble_eq_true rfl) (Nat.le_of_ble_eq_true rfl) (fun μ206_5 h206_5 => ?_)
  have hL206_5 : μ206_5.length = n0 + 101 := by omega
  refine E_aastore (Cn := RX9) (T := TX9) (N := 3) C rfl rfl dX10_init_209 (fun μ209_5 h209_5 => ?_)
  have hL209_5 : μ209_5.length = n0 + 101 := by omega
  refine E_iinc (lv' := [(1, .int ((((((((0 : Int32) + 1) + 1) + 1) + 1) + 1) + 1))), (0, .ref v0)]) C (((((((0 : Int32) + 1) + 1) + 1) + 1) + 1) + 1) dX10_init_210 0 rfl rfl (by decide) rfl ?_
  refine E_goto C 191 dX10_init_213 (by decide) ?_
  refine E_iload_n C dX10_init_191 0 rfl ?_
  refine E_bipush C 6 dX10_init_192 (by decide) ?_
  refine E_icmp_ge C 216 dX10_init_194 (by decide) ?_ E_none
  exact E_retA (n0 := n0) C dX10_init_216 hL209_5 rfl (Nat.le_of_ble_eq_true rfl)
def X11_init_L201 (G : Mem → Option (Unit × Mem)) (v0 : Nat) (v1 : Int32) : Nat → Int32 → Mem → Option (Unit × Mem)
  | 0, _, _ => none
  | n + 1, v2, μ => if (3 : Int32) ≤ v2 then (G μ) else ((gR μ v0 11 0).bind fun x207 => (sI μ x207 ((((4 : Int32) + ((3 : Int32) * v1)) + v2)) (((1 : Int32) <<< (v2 &&& 31)))).bind fun μ220 => X11_init_L201 G v0 v1 n ((v2 + 1)) μ220)
set_option maxHeartbeats 4000000 in
set_option maxRecDepth 100000 in
theorem X11_init_L201_ok {p : Program} {l : Launch} {e : Env} {R : Room} {s : State} {m : MethodId} {args : Array Value} {below : List Frame} {meth : Method} {c : Code} {D : va_G} {ca : Nat → ClassId} {ad : Nat → Nat} {A : Nat → Prop} {X : State → Prop} {n0 : Nat} (C : CX p R s m args meth c D ca ad A X cX11_init RX11 3 none 1) {G : Mem → Option (Unit × Mem)} (v0 : Nat) (v1 : Int32) (N0 : Nat) (hG : ∀ (μx : Mem), μx.length = N0 → Sm p l e R s m args below meth c D ca ad A 3 16 2268 wU (KQA below args s D ca ad A (n0 + 16) 16 2268) 227 [(0, .ref v0), (1, .int v1)] [] μx (G  μx)) : ∀ (n : Nat) (v2 : Int32) (μ : Mem), μ.length = N0 → Sm p l e R s m args below meth c D ca ad A 3 16 2268 wU (KQA below args s D ca ad A (n0 + 16) 16 2268) 201 [(0, .ref v0), (1, .int v1), (2, .int v2)] [] μ (X11_init_L201 G v0 v1 n v2 μ) := by
  intro n
  induction n with
  | zero =>
    intro v2 μ hN
    rw [X11_init_L201]
    exact E_none
  | succ n ih =>
    intro v2 μ hN
    rw [X11_init_L201]
    refine E_iload_n C dX11_init_201 2 rfl ?_
    refine E_iconst C 3 dX11_init_202 (by decide) ?_
    refine E_icmp_ge C 227 dX11_init_203 (by decide) ?_ ?_
    · exact E_pick [0, 1] rfl (hG μ hN)
    · refine E_at (pc2 := 206) rfl ?_
      refine E_aload_n C dX11_init_206 0 rfl ?_
      refine E_getR C F_X11_11 dX11_init_207 (fun x207 => ?_)
      refine E_iconst C 4 dX11_init_210 (by decide) ?_
      refine E_iconst C 3 dX11_init_211 (by decide) ?_
      refine E_iload_n C dX11_init_212 1 rfl ?_
      refine E_imul C dX11_init_213 ?_
      refine E_iadd C dX11_init_214 ?_
      refine E_iload_n C dX11_init_215 2 rfl ?_
      refine E_iadd C dX11_init_216 ?_
      refine E_iconst C 1 dX11_init_217 (by decide) ?_
      refine E_iload_n C dX11_init_218 2 rfl ?_
      refine E_ishl C dX11_init_219 ?_
      refine EL_iastore C dX11_init_220 (fun μ220 h220 => ?_)
      have hL220 : μ220.length = N0 := by omega
      refine E_iinc (lv' := [(2, .int ((v2 + 1))), (0, .ref v0), (1, .int v1)]) C (v2 + 1) dX11_init_221 2 rfl rfl (by decide) rfl ?_
      refine E_goto C 201 dX11_init_224 (by decide) ?_
      exact E_pick [1, 2, 0] rfl (ih ((v2 + 1)) μ220 hL220)
def X11_init_L193 (G : Mem → Option (Unit × Mem)) (v0 : Nat) : Nat → Int32 → Mem → Option (Unit × Mem)
  | 0, _, _ => none
  | n + 1, v1, μ => if (12 : Int32) ≤ v1 then (G μ) else (X11_init_L201 (fun μ_227 => X11_init_L193 G v0 n ((v1 + 1)) μ_227) v0 v1 FU ((0 : Int32)) μ)
set_option maxHeartbeats 4000000 in
set_option maxRecDepth 100000 in
theorem X11_init_L193_ok {p : Program} {l : Launch} {e : Env} {R : Room} {s : State} {m : MethodId} {args : Array Value} {below : List Frame} {meth : Method} {c : Code} {D : va_G} {ca : Nat → ClassId} {ad : Nat → Nat} {A : Nat → Prop} {X : State → Prop} {n0 : Nat} (C : CX p R s m args meth c D ca ad A X cX11_init RX11 3 none 1) {G : Mem → Option (Unit × Mem)} (v0 : Nat) (N0 : Nat) (hG : ∀ (μx : Mem), μx.length = N0 → Sm p l e R s m args below meth c D ca ad A 3 16 2268 wU (KQA below args s D ca ad A (n0 + 16) 16 2268) 233 [(0, .ref v0)] [] μx (G  μx)) : ∀ (n : Nat) (v1 : Int32) (μ : Mem), μ.length = N0 → Sm p l e R s m args below meth c D ca ad A 3 16 2268 wU (KQA below args s D ca ad A (n0 + 16) 16 2268) 193 [(0, .ref v0), (1, .int v1)] [] μ (X11_init_L193 G v0 n v1 μ) := by
  intro n
  induction n with
  | zero =>
    intro v1 μ hN
    rw [X11_init_L193]
    exact E_none
  | succ n ih =>
    intro v1 μ hN
    rw [X11_init_L193]
    refine E_iload_n C dX11_init_193 1 rfl ?_
    refine E_bipush C 12 dX11_init_194 (by decide) ?_
    refine E_icmp_ge C 233 dX11_init_196 (by decide) ?_ ?_
    · exact E_pick [0] rfl (hG μ hN)
    · refine E_at (pc2 := 199) rfl ?_
      refine E_iconst C 0 dX11_init_199 (by decide) ?_
      refine E_istore_n (lv' := [(2, .int ((0 : Int32))), (0, .ref v0), (1, .int v1)]) C dX11_init_200 (by decide) rfl ?_
      refine E_pick (lv' := [(0, .ref v0), (1, .int v1), (2, .int ((0 : Int32)))]) [1, 2, 0] rfl ?_
      refine X11_init_L201_ok C v0 v1 N0 (fun μ_227 hL_227 => ?_) FU ((0 : Int32)) μ hN
      refine E_iinc (lv' := [(1, .int ((v1 + 1))), (0, .ref v0)]) C (v1 + 1) dX11_init_227 1 rfl rfl (by decide) rfl ?_
      refine E_goto C 193 dX11_init_230 (by decide) ?_
      exact E_pick [1, 0] rfl (ih ((v1 + 1)) μ_227 hL_227)
def X11_init_L235 (G : Mem → Option (Unit × Mem)) (v0 : Nat) : Nat → Int32 → Mem → Option (Unit × Mem)
  | 0, _, _ => none
  | n + 1, v1, μ => if (9 : Int32) ≤ v1 then (G μ) else ((gR μ v0 11 0).bind fun x242 => (sI μ x242 (((40 : Int32) + v1)) ((1 : Int32))).bind fun μ250 => X11_init_L235 G v0 n ((v1 + 1)) μ250)
set_option maxHeartbeats 4000000 in
set_option maxRecDepth 100000 in
theorem X11_init_L235_ok {p : Program} {l : Launch} {e : Env} {R : Room} {s : State} {m : MethodId} {args : Array Value} {below : List Frame} {meth : Method} {c : Code} {D : va_G} {ca : Nat → ClassId} {ad : Nat → Nat} {A : Nat → Prop} {X : State → Prop} {n0 : Nat} (C : CX p R s m args meth c D ca ad A X cX11_init RX11 3 none 1) {G : Mem → Option (Unit × Mem)} (v0 : Nat) (N0 : Nat) (hG : ∀ (μx : Mem), μx.length = N0 → Sm p l e R s m args below meth c D ca ad A 3 16 2268 wU (KQA below args s D ca ad A (n0 + 16) 16 2268) 257 [] [] μx (G  μx)) : ∀ (n : Nat) (v1 : Int32) (μ : Mem), μ.length = N0 → Sm p l e R s m args below meth c D ca ad A 3 16 2268 wU (KQA below args s D ca ad A (n0 + 16) 16 2268) 235 [(0, .ref v0), (1, .int v1)] [] μ (X11_init_L235 G v0 n v1 μ) := by
  intro n
  induction n with
  | zero =>
    intro v1 μ hN
    rw [X11_init_L235]
    exact E_none
  | succ n ih =>
    intro v1 μ hN
    rw [X11_init_L235]
    refine E_iload_n C dX11_init_235 1 rfl ?_
    refine E_bipush C 9 dX11_init_236 (by decide) ?_
    refine E_icmp_ge C 257 dX11_init_238 (by decide) ?_ ?_
    · exact E_pick [] rfl (hG μ hN)
    · refine E_at (pc2 := 241) rfl ?_
      refine E_aload_n C dX11_init_241 0 rfl ?_
      refine E_getR C F_X11_11 dX11_init_242 (fun x242 => ?_)
      refine E_bipush C 40 dX11_init_245 (by decide) ?_
      refine E_iload_n C dX11_init_247 1 rfl ?_
      refine E_iadd C dX11_init_248 ?_
      refine E_iconst C 1 dX11_init_249 (by decide) ?_
      refine EL_iastore C dX11_init_250 (fun μ250 h250 => ?_)
      have hL250 : μ250.length = N0 := by omega
      refine E_iinc (lv' := [(1, .int ((v1 + 1))), (0, .ref v0)]) C (v1 + 1) dX11_init_251 1 rfl rfl (by decide) rfl ?_
      refine E_goto C 235 dX11_init_254 (by decide) ?_
      exact E_pick [1, 0] rfl (ih ((v1 + 1)) μ250 hL250)
def fX11_init (v0 : Nat) (μ : Mem) : Option (Unit × Mem) :=
  nw μ (.inl (0, 173, .inl (fun _ => 0))) fun q8 μ8 => (pV μ8 v0 11 0 (.ref q8)).bind fun μ10 => nw μ10 (.inl (0, 173, .inl (fun _ => 0))) fun q17 μ17 => (pV μ17 v0 11 1 (.ref q17)).bind fun μ19 => nw μ19 (.inl (0, 4, .inl (fun _ => 0))) fun q24 μ24 => (pV μ24 v0 11 4 (.ref q24)).bind fun μ26 => nw μ26 (.inl (0, 96, .inl (fun _ => 0))) fun q32 μ32 => (pV μ32 v0 11 5 (.ref q32)).bind fun μ34 => nw μ34 (.inl (2, 546, .inr (.inr (.inl (fun _ => 0))))) fun q41 μ41 => (pV μ41 v0 11 6 (.ref q41)).bind fun μ43 => nw μ43 (.inl (0, 504, .inl (fun _ => 0))) fun q50 μ50 => (pV μ50 v0 11 7 (.ref q50)).bind fun μ52 => nw μ52 (.inl (0, 6, .inl (fun _ => 0))) fun q58 μ58 => (pV μ58 v0 11 8 (.ref q58)).bind fun μ60 => nw μ60 (.inl (0, 6, .inl (fun _ => 0))) fun q66 μ66 => (pV μ66 v0 11 9 (.ref q66)).bind fun μ68 => nw μ68 (.inl (2, 6, .inr (.inr (.inl (fun _ => 0))))) fun q74 μ74 => (pV μ74 v0 11 16 (.ref q74)).bind fun μ76 => nw μ76 (.inl (0, 25, .inl (fun _ => 0))) fun q82 μ82 => (pV μ82 v0 11 24 (.ref q82)).bind fun μ84 => nw μ84 (.inl (0, 173, .inl (fun _ => 0))) fun q91 μ91 => (pV μ91 v0 11 27 (.ref q91)).bind fun μ93 => nw μ93 (.inl (3, 100, .inl (fun _ => 0))) fun q99 μ99 => (pV μ99 v0 11 28 (.ref q99)).bind fun μ101 => nw μ101 (.inl (0, 84, .inl (fun _ => 0))) fun q107 μ107 => (pV μ107 v0 11 32 (.ref q107)).bind fun μ109 => nw μ109 (.inl (0, 6, .inl (fun _ => 0))) fun q115 μ115 => (sI μ115 q115 ((0 : Int32)) ((-1 : Int32))).bind fun μ120 => (sI μ120 q115 ((1 : Int32)) ((-1 : Int32))).bind fun μ124 => (sI μ124 q115 ((2 : Int32)) ((-1 : Int32))).bind fun μ128 => (sI μ128 q115 ((3 : Int32)) ((-1 : Int32))).bind fun μ132 => (sI μ132 q115 ((4 : Int32)) ((-1 : Int32))).bind fun μ136 => (sI μ136 q115 ((5 : Int32)) ((-1 : Int32))).bind fun μ140 => (pV μ140 v0 11 33 (.ref q115)).bind fun μ141 => nw μ141 (.inl (0, 6, .inl (fun _ => 0))) fun q147 μ147 => (pV μ147 v0 11 34 (.ref q147)).bind fun μ149 => nw μ149 (.inl (1, 360, .inr (.inl (fun _ => 0)))) fun q156 μ156 => (pV μ156 v0 11 35 (.ref q156)).bind fun μ158 => (gR μ158 v0 11 0).bind fun x162 => (sI μ158 x162 ((0 : Int32)) ((8 : Int32))).bind fun μ168 => (gR μ168 v0 11 0).bind fun x170 => (sI μ168 x170 ((1 : Int32)) ((6 : Int32))).bind fun μ176 => (gR μ176 v0 11 0).bind fun x178 => (sI μ176 x178 ((2 : Int32)) ((2 : Int32))).bind fun μ183 => (gR μ183 v0 11 0).bind fun x185 => (sI μ183 x185 ((3 : Int32)) ((3 : Int32))).bind fun μ190 => X11_init_L193 (fun μ_233 => X11_init_L235 (fun μ_257 => some ((), μ_257)) v0 FU ((0 : Int32)) μ_233) v0 FU ((0 : Int32)) μ190
set_option maxHeartbeats 4000000 in
set_option maxRecDepth 100000 in
theorem mX11_init (v0 : Nat) (μ : Mem) (hlt : μ.length + 16 < 900) : MethA yX11_init cX11_init 3 1 16 2268 [.ref v0] μ (fX11_init v0 μ) := by
  refine MethA.of (by decide) rfl [(0, .ref v0)] rfl (Nat.le_of_ble_eq_true rfl) ?_
  intro p l e R s m args below meth c D ca ad A X B n0 C CA hL
  have C : CX p R s m args meth c D ca ad A X cX11_init RX11 3 none 1 := C
  unfold fX11_init
  refine E_aload_n C dX11_init_0 0 rfl ?_
  refine E_oinit C lk_X11_5 oi_i oi_c dX11_init_1 (Nat.le_of_ble_eq_true rfl) (Nat.le_of_ble_eq_true rfl) ?_
  refine E_aload_n C dX11_init_4 0 rfl ?_
  refine E_sipush C 173 dX11_init_5 (by decide) ?_
  refine E_newa (t := 0) (N := 173) (atype := .int) (mc := 16) (ms := 2268) C ⟨CA.1, CA.2.1, CA.2.2.2.1, CA.2.2.2.2⟩ (173, .inl (fun _ => 0)) rfl (fun h => h) (fun _ => rfl) ac_int (by decide) (by decide) (by decide) hL (by omega) (Nat.le_of_ble_eq_true rfl) (Nat.le_of_ble_eq_true rfl) dX11_init_8 (fun q8 μ8 _ _ h8 => ?_)
  have hL8 : μ8.length = n0 + 1 := by omega
  refine EF_putA C CA PF_X11_11 dX11_init_10 (fun μ10 h10 => ?_)
  have hL10 : μ10.length = n0 + 1 := by omega
  refine E_aload_n C dX11_init_13 0 rfl ?_
  refine E_sipush C 173 dX11_init_14 (by decide) ?_
  refine E_newa (t := 0) (N := 173) (atype := .int) (mc := 16) (ms := 2268) C ⟨CA.1, CA.2.1, CA.2.2.2.1, CA.2.2.2.2⟩ (173, .inl (fun _ => 0)) rfl (fun h => h) (fun _ => rfl) ac_int (by decide) (by decide) (by decide) hL10 (by omega) (Nat.le_of_ble_eq_true rfl) (Nat.le_of_ble_eq_true rfl) dX11_init_17 (fun q17 μ17 _ _ h17 => ?_)
  have hL17 : μ17.length = n0 + 2 := by omega
  refine EF_putA C CA PF_X11_15 dX11_init_19 (fun μ19 h19 => ?_)
  have hL19 : μ19.length = n0 + 2 := by omega
  refine E_aload_n C dX11_init_22 0 rfl ?_
  refine E_iconst C 4 dX11_init_23 (by decide) ?_
  refine E_newa (t := 0) (N := 4) (atype := .int) (mc := 16) (ms := 2268) C ⟨CA.1, CA.2.1, CA.2.2.2.1, CA.2.2.2.2⟩ (4, .inl (fun _ => 0)) rfl (fun h => h) (fun _ => rfl) ac_int (by decide) (by decide) (by decide) hL19 (by omega) (Nat.le_of_ble_eq_true rfl) (Nat.le_of_ble_eq_true rfl) dX11_init_24 (fun q24 μ24 _ _ h24 => ?_)
  have hL24 : μ24.length = n0 + 3 := by omega
  refine EF_putA C CA PF_X11_18 dX11_init_26 (fun μ26 h26 => ?_)
  have hL26 : μ26.length = n0 + 3 := by omega
  refine E_aload_n C dX11_init_29 0 rfl ?_
  refine E_bipush C 96 dX11_init_30 (by decide) ?_
  refine E_newa (t := 0) (N := 96) (atype := .int) (mc := 16) (ms := 2268) C ⟨CA.1, CA.2.1, CA.2.2.2.1, CA.2.2.2.2⟩ (96, .inl (fun _ => 0)) rfl (fun h => h) (fun _ => rfl) ac_int (by decide) (by decide) (by decide) hL26 (by omega) (Nat.le_of_ble_eq_true rfl) (Nat.le_of_ble_eq_true rfl) dX11_init_32 (fun q32 μ32 _ _ h32 => ?_)
  have hL32 : μ32.length = n0 + 4 := by omega
  refine EF_putA C CA PF_X11_21 dX11_init_34 (fun μ34 h34 => ?_)
  have hL34 : μ34.length = n0 + 4 := by omega
  refine E_aload_n C dX11_init_37 0 rfl ?_
  refine E_sipush C 546 dX11_init_38 (by decide) ?_
  refine E_newa (t := 2) (N := 546) (atype := .float) (mc := 16) (ms := 2268) C ⟨CA.1, CA.2.1, CA.2.2.2.1, CA.2.2.2.2⟩ (546, .inr (.inr (.inl (fun _ => 0)))) rfl (fun h => h) (fun _ => rfl) ac_float (by decide) (by decide) (by decide) hL34 (by omega) (Nat.le_of_ble_eq_true rfl) (Nat.le_of_ble_eq_true rfl) dX11_init_41 (fun q41 μ41 _ _ h41 => ?_)
  have hL41 : μ41.length = n0 + 5 := by omega
  refine EF_putA C CA PF_X11_24 dX11_init_43 (fun μ43 h43 => ?_)
  have hL43 : μ43.length = n0 + 5 := by omega
  refine E_aload_n C dX11_init_46 0 rfl ?_
  refine E_sipush C 504 dX11_init_47 (by decide) ?_
  refine E_newa (t := 0) (N := 504) (atype := .int) (mc := 16) (ms := 2268) C ⟨CA.1, CA.2.1, CA.2.2.2.1, CA.2.2.2.2⟩ (504, .inl (fun _ => 0)) rfl (fun h => h) (fun _ => rfl) ac_int (by decide) (by decide) (by decide) hL43 (by omega) (Nat.le_of_ble_eq_true rfl) (Nat.le_of_ble_eq_true rfl) dX11_init_50 (fun q50 μ50 _ _ h50 => ?_)
  have hL50 : μ50.length = n0 + 6 := by omega
  refine EF_putA C CA PF_X11_28 dX11_init_52 (fun μ52 h52 => ?_)
  have hL52 : μ52.length = n0 + 6 := by omega
  refine E_aload_n C dX11_init_55 0 rfl ?_
  refine E_bipush C 6 dX11_init_56 (by decide) ?_
  refine E_newa (t := 0) (N := 6) (atype := .int) (mc := 16) (ms := 2268) C ⟨CA.1, CA.2.1, CA.2.2.2.1, CA.2.2.2.2⟩ (6, .inl (fun _ => 0)) rfl (fun h => h) (fun _ => rfl) ac_int (by decide) (by decide) (by decide) hL52 (by omega) (Nat.le_of_ble_eq_true rfl) (Nat.le_of_ble_eq_true rfl) dX11_init_58 (fun q58 μ58 _ _ h58 => ?_)
  have hL58 : μ58.length = n0 + 7 := by omega
  refine EF_putA C CA PF_X11_31 dX11_init_60 (fun μ60 h60 => ?_)
  have hL60 : μ60.length = n0 + 7 := by omega
  refine E_aload_n C dX11_init_63 0 rfl ?_
  refine E_bipush C 6 dX11_init_64 (by decide) ?_
  refine E_newa (t := 0) (N := 6) (atype := .int) (mc := 16) (ms := 2268) C ⟨CA.1, CA.2.1, CA.2.2.2.1, CA.2.2.2.2⟩ (6, .inl (fun _ => 0)) rfl (fun h => h) (fun _ => rfl) ac_int (by decide) (by decide) (by decide) hL60 (by omega) (Nat.le_of_ble_eq_true rfl) (Nat.le_of_ble_eq_true rfl) dX11_init_66 (fun q66 μ66 _ _ h66 => ?_)
  have hL66 : μ66.length = n0 + 8 := by omega
  refine EF_putA C CA PF_X11_34 dX11_init_68 (fun μ68 h68 => ?_)
  have hL68 : μ68.length = n0 + 8 := by omega
  refine E_aload_n C dX11_init_71 0 rfl ?_
  refine E_bipush C 6 dX11_init_72 (by decide) ?_
  refine E_newa (t := 2) (N := 6) (atype := .float) (mc := 16) (ms := 2268) C ⟨CA.1, CA.2.1, CA.2.2.2.1, CA.2.2.2.2⟩ (6, .inr (.inr (.inl (fun _ => 0)))) rfl (fun h => h) (fun _ => rfl) ac_float (by decide) (by decide) (by decide) hL68 (by omega) (Nat.le_of_ble_eq_true rfl) (Nat.le_of_ble_eq_true rfl) dX11_init_74 (fun q74 μ74 _ _ h74 => ?_)
  have hL74 : μ74.length = n0 + 9 := by omega
  refine EF_putA C CA PF_X11_37 dX11_init_76 (fun μ76 h76 => ?_)
  have hL76 : μ76.length = n0 + 9 := by omega
  refine E_aload_n C dX11_init_79 0 rfl ?_
  refine E_bipush C 25 dX11_init_80 (by decide) ?_
  refine E_newa (t := 0) (N := 25) (atype := .int) (mc := 16) (ms := 2268) C ⟨CA.1, CA.2.1, CA.2.2.2.1, CA.2.2.2.2⟩ (25, .inl (fun _ => 0)) rfl (fun h => h) (fun _ => rfl) ac_int (by decide) (by decide) (by decide) hL76 (by omega) (Nat.le_of_ble_eq_true rfl) (Nat.le_of_ble_eq_true rfl) dX11_init_82 (fun q82 μ82 _ _ h82 => ?_)
  have hL82 : μ82.length = n0 + 10 := by omega
  refine EF_putA C CA PF_X11_40 dX11_init_84 (fun μ84 h84 => ?_)
  have hL84 : μ84.length = n0 + 10 := by omega
  refine E_aload_n C dX11_init_87 0 rfl ?_
  refine E_sipush C 173 dX11_init_88 (by decide) ?_
  refine E_newa (t := 0) (N := 173) (atype := .int) (mc := 16) (ms := 2268) C ⟨CA.1, CA.2.1, CA.2.2.2.1, CA.2.2.2.2⟩ (173, .inl (fun _ => 0)) rfl (fun h => h) (fun _ => rfl) ac_int (by decide) (by decide) (by decide) hL84 (by omega) (Nat.le_of_ble_eq_true rfl) (Nat.le_of_ble_eq_true rfl) dX11_init_91 (fun q91 μ91 _ _ h91 => ?_)
  have hL91 : μ91.length = n0 + 11 := by omega
  refine EF_putA C CA PF_X11_43 dX11_init_93 (fun μ93 h93 => ?_)
  have hL93 : μ93.length = n0 + 11 := by omega
  refine E_aload_n C dX11_init_96 0 rfl ?_
  refine E_bipush C 100 dX11_init_97 (by decide) ?_
  refine E_newa (t := 3) (N := 100) (atype := .byte) (mc := 16) (ms := 2268) C ⟨CA.1, CA.2.1, CA.2.2.2.1, CA.2.2.2.2⟩ (100, .inl (fun _ => 0)) rfl (fun h => h) (fun _ => rfl) ac_byte (by decide) (by decide) (by decide) hL93 (by omega) (Nat.le_of_ble_eq_true rfl) (Nat.le_of_ble_eq_true rfl) dX11_init_99 (fun q99 μ99 _ _ h99 => ?_)
  have hL99 : μ99.length = n0 + 12 := by omega
  refine EF_putA C CA PF_X11_46 dX11_init_101 (fun μ101 h101 => ?_)
  have hL101 : μ101.length = n0 + 12 := by omega
  refine E_aload_n C dX11_init_104 0 rfl ?_
  refine E_bipush C 84 dX11_init_105 (by decide) ?_
  refine E_newa (t := 0) (N := 84) (atype := .int) (mc := 16) (ms := 2268) C ⟨CA.1, CA.2.1, CA.2.2.2.1, CA.2.2.2.2⟩ (84, .inl (fun _ => 0)) rfl (fun h => h) (fun _ => rfl) ac_int (by decide) (by decide) (by decide) hL101 (by omega) (Nat.le_of_ble_eq_true rfl) (Nat.le_of_ble_eq_true rfl) dX11_init_107 (fun q107 μ107 _ _ h107 => ?_)
  have hL107 : μ107.length = n0 + 13 := by omega
  refine EF_putA C CA PF_X11_50 dX11_init_109 (fun μ109 h109 => ?_)
  have hL109 : μ109.length = n0 + 13 := by omega
  refine E_aload_n C dX11_init_112 0 rfl ?_
  refine E_bipush C 6 dX11_init_113 (by decide) ?_
  refine E_newa (t := 0) (N := 6) (atype := .int) (mc := 16) (ms := 2268) C ⟨CA.1, CA.2.1, CA.2.2.2.1, CA.2.2.2.2⟩ (6, .inl (fun _ => 0)) rfl (fun h => h) (fun _ => rfl) ac_int (by decide) (by decide) (by decide) hL109 (by omega) (Nat.le_of_ble_eq_true rfl) (Nat.le_of_ble_eq_true rfl) dX11_init_115 (fun q115 μ115 _ _ h115 => ?_)
  have hL115 : μ115.length = n0 + 14 := by omega
  refine E_dup_r C dX11_init_117 ?_
  refine E_iconst C 0 dX11_init_118 (by decide) ?_
  refine E_iconst C (-1) dX11_init_119 (by decide) ?_
  refine EL_iastore C dX11_init_120 (fun μ120 h120 => ?_)
  have hL120 : μ120.length = n0 + 14 := by omega
  refine E_dup_r C dX11_init_121 ?_
  refine E_iconst C 1 dX11_init_122 (by decide) ?_
  refine E_iconst C (-1) dX11_init_123 (by decide) ?_
  refine EL_iastore C dX11_init_124 (fun μ124 h124 => ?_)
  have hL124 : μ124.length = n0 + 14 := by omega
  refine E_dup_r C dX11_init_125 ?_
  refine E_iconst C 2 dX11_init_126 (by decide) ?_
  refine E_iconst C (-1) dX11_init_127 (by decide) ?_
  refine EL_iastore C dX11_init_128 (fun μ128 h128 => ?_)
  have hL128 : μ128.length = n0 + 14 := by omega
  refine E_dup_r C dX11_init_129 ?_
  refine E_iconst C 3 dX11_init_130 (by decide) ?_
  refine E_iconst C (-1) dX11_init_131 (by decide) ?_
  refine EL_iastore C dX11_init_132 (fun μ132 h132 => ?_)
  have hL132 : μ132.length = n0 + 14 := by omega
  refine E_dup_r C dX11_init_133 ?_
  refine E_iconst C 4 dX11_init_134 (by decide) ?_
  refine E_iconst C (-1) dX11_init_135 (by decide) ?_
  refine EL_iastore C dX11_init_136 (fun μ136 h136 => ?_)
  have hL136 : μ136.length = n0 + 14 := by omega
  refine E_dup_r C dX11_init_137 ?_
  refine E_iconst C 5 dX11_init_138 (by decide) ?_
  refine E_iconst C (-1) dX11_init_139 (by decide) ?_
  refine EL_iastore C dX11_init_140 (fun μ140 h140 => ?_)
  have hL140 : μ140.length = n0 + 14 := by omega
  refine EF_putA C CA PF_X11_53 dX11_init_141 (fun μ141 h141 => ?_)
  have hL141 : μ141.length = n0 + 14 := by omega
  refine E_aload_n C dX11_init_144 0 rfl ?_
  refine E_bipush C 6 dX11_init_145 (by decide) ?_
  refine E_newa (t := 0) (N := 6) (atype := .int) (mc := 16) (ms := 2268) C ⟨CA.1, CA.2.1, CA.2.2.2.1, CA.2.2.2.2⟩ (6, .inl (fun _ => 0)) rfl (fun h => h) (fun _ => rfl) ac_int (by decide) (by decide) (by decide) hL141 (by omega) (Nat.le_of_ble_eq_true rfl) (Nat.le_of_ble_eq_true rfl) dX11_init_147 (fun q147 μ147 _ _ h147 => ?_)
  have hL147 : μ147.length = n0 + 15 := by omega
  refine EF_putA C CA PF_X11_56 dX11_init_149 (fun μ149 h149 => ?_)
  have hL149 : μ149.length = n0 + 15 := by omega
  refine E_aload_n C dX11_init_152 0 rfl ?_
  refine E_sipush C 360 dX11_init_153 (by decide) ?_
  refine E_newa (t := 1) (N := 360) (atype := .long) (mc := 16) (ms := 2268) C ⟨CA.1, CA.2.1, CA.2.2.2.1, CA.2.2.2.2⟩ (360, .inr (.inl (fun _ => 0))) rfl (fun h => h) (fun _ => rfl) ac_long (by decide) (by decide) (by decide) hL149 (by omega) (Nat.le_of_ble_eq_true rfl) (Nat.le_of_ble_eq_true rfl) dX11_init_156 (fun q156 μ156 _ _ h156 => ?_)
  have hL156 : μ156.length = n0 + 16 := by omega
  refine EF_putA C CA PF_X11_59 dX11_init_158 (fun μ158 h158 => ?_)
  have hL158 : μ158.length = n0 + 16 := by omega
  refine E_aload_n C dX11_init_161 0 rfl ?_
  refine E_getR C F_X11_11 dX11_init_162 (fun x162 => ?_)
  refine E_iconst C 0 dX11_init_165 (by decide) ?_
  refine E_bipush C 8 dX11_init_166 (by decide) ?_
  refine EL_iastore C dX11_init_168 (fun μ168 h168 => ?_)
  have hL168 : μ168.length = n0 + 16 := by omega
  refine E_aload_n C dX11_init_169 0 rfl ?_
  refine E_getR C F_X11_11 dX11_init_170 (fun x170 => ?_)
  refine E_iconst C 1 dX11_init_173 (by decide) ?_
  refine E_bipush C 6 dX11_init_174 (by decide) ?_
  refine EL_iastore C dX11_init_176 (fun μ176 h176 => ?_)
  have hL176 : μ176.length = n0 + 16 := by omega
  refine E_aload_n C dX11_init_177 0 rfl ?_
  refine E_getR C F_X11_11 dX11_init_178 (fun x178 => ?_)
  refine E_iconst C 2 dX11_init_181 (by decide) ?_
  refine E_iconst C 2 dX11_init_182 (by decide) ?_
  refine EL_iastore C dX11_init_183 (fun μ183 h183 => ?_)
  have hL183 : μ183.length = n0 + 16 := by omega
  refine E_aload_n C dX11_init_184 0 rfl ?_
  refine E_getR C F_X11_11 dX11_init_185 (fun x185 => ?_)
  refine E_iconst C 3 dX11_init_188 (by decide) ?_
  refine E_iconst C 3 dX11_init_189 (by decide) ?_
  refine EL_iastore C dX11_init_190 (fun μ190 h190 => ?_)
  have hL190 : μ190.length = n0 + 16 := by omega
  refine E_iconst C 0 dX11_init_191 (by decide) ?_
  refine E_istore_n (lv' := [(1, .int ((0 : Int32))), (0, .ref v0)]) C dX11_init_192 (by decide) rfl ?_
  refine E_pick (lv' := [(0, .ref v0), (1, .int ((0 : Int32)))]) [1, 0] rfl ?_
  refine X11_init_L193_ok C v0 (n0 + 16) (fun μ_233 hL_233 => ?_) FU ((0 : Int32)) μ190 hL190
  refine E_iconst C 0 dX11_init_233 (by decide) ?_
  refine E_istore_n (lv' := [(1, .int ((0 : Int32))), (0, .ref v0)]) C dX11_init_234 (by decide) rfl ?_
  refine E_pick (lv' := [(0, .ref v0), (1, .int ((0 : Int32)))]) [1, 0] rfl ?_
  refine X11_init_L235_ok C v0 (n0 + 16) (fun μ_257 hL_257 => ?_) FU ((0 : Int32)) μ_233 hL_233
  exact E_retA (n0 := n0) C dX11_init_257 hL_257 rfl (Nat.le_of_ble_eq_true rfl)
