def fX11_in (v0 : Int64) (v2 : Int64) (v4 : Int64) (μ : Mem) : Option (Int32 × Mem) :=
  if (lg_cmp v0 v2) < 0 then ((zz ((0 : Int32))).bind fun z => some (z, μ)) else (if 0 < (lg_cmp v0 v4) then ((zz ((0 : Int32))).bind fun z => some (z, μ)) else ((zz ((1 : Int32))).bind fun z => some (z, μ)))
set_option maxHeartbeats 4000000 in
set_option maxRecDepth 100000 in
theorem mX11_in (v0 : Int64) (v2 : Int64) (v4 : Int64) (μ : Mem) : Meth wI yX11_in cX11_in 6 (some .boolean) 0 [.long v0, .long v2, .long v4] μ (fX11_in v0 v2 v4 μ) := by
  refine Meth.of (by decide) [(0, .long v0), (2, .long v2), (4, .long v4)] rfl (Nat.le_of_ble_eq_true rfl) ?_
  intro p l e R s m args below meth c D ca ad A X C
  have C : CX p R s m args meth c D ca ad A X cX11_in RX11 6 (some .boolean) 0 := C
  unfold fX11_in
  refine E_lload_n C dX11_in_0 0 rfl ?_
  refine E_lload_n C dX11_in_1 1 rfl ?_
  refine E_lcmp C dX11_in_2 ?_
  refine E_if_lt C 17 dX11_in_3 (by decide) ?_ ?_
  · refine E_iconst C 0 dX11_in_17 (by decide) ?_
    exact E_zret C dX11_in_18
  · refine E_at (pc2 := 6) rfl ?_
    refine E_lload_n C dX11_in_6 0 rfl ?_
    refine E_lload C dX11_in_7 2 rfl ?_
    refine E_lcmp C dX11_in_9 ?_
    refine E_if_gt C 17 dX11_in_10 (by decide) ?_ ?_
    · refine E_iconst C 0 dX11_in_17 (by decide) ?_
      exact E_zret C dX11_in_18
    · refine E_at (pc2 := 13) rfl ?_
      refine E_iconst C 1 dX11_in_13 (by decide) ?_
      refine E_goto C 18 dX11_in_14 (by decide) ?_
      exact E_zret C dX11_in_18
def fX11_isMonth (v0 : Int32) (μ : Mem) : Option (Int32 × Mem) :=
  bd (fX11_in v0.toInt64 ((0 : Int64)) ((11 : Int64)) μ) fun x6 μ6 => (zz x6).bind fun z => some (z, μ6)
set_option maxHeartbeats 4000000 in
set_option maxRecDepth 100000 in
theorem mX11_isMonth (v0 : Int32) (μ : Mem) : Meth wI yX11_isMonth cX11_isMonth 1 (some .boolean) 1 [.int v0] μ (fX11_isMonth v0 μ) := by
  refine Meth.of (by decide) [(0, .int v0)] rfl (Nat.le_of_ble_eq_true rfl) ?_
  intro p l e R s m args below meth c D ca ad A X C
  have C : CX p R s m args meth c D ca ad A X cX11_isMonth RX11 1 (some .boolean) 1 := C
  unfold fX11_isMonth
  refine E_iload_n C dX11_isMonth_0 0 rfl ?_
  refine E_i2l C dX11_isMonth_1 ?_
  refine E_lconst C 0 dX11_isMonth_2 (by decide) ?_
  refine E_ldc2 C dX11_isMonth_3 k_X11_63 ?_
  refine E_callSI (st := []) C [.long v0.toInt64, .long ((0 : Int64)), .long ((11 : Int64))] (mX11_in v0.toInt64 ((0 : Int64)) ((11 : Int64)) μ) cal_X11_in st_X11_in lk_X11_65 dX11_isMonth_6 rfl rfl (Nat.le_of_ble_eq_true rfl) (Nat.le_of_ble_eq_true rfl) (fun x6 μ6 => ?_)
  exact E_zret C dX11_isMonth_9
def fX11_isState (v0 : Int32) (μ : Mem) : Option (Int32 × Mem) :=
  bd (fX11_in v0.toInt64 ((0 : Int64)) ((2 : Int64)) μ) fun x6 μ6 => (zz x6).bind fun z => some (z, μ6)
set_option maxHeartbeats 4000000 in
set_option maxRecDepth 100000 in
theorem mX11_isState (v0 : Int32) (μ : Mem) : Meth wI yX11_isState cX11_isState 1 (some .boolean) 1 [.int v0] μ (fX11_isState v0 μ) := by
  refine Meth.of (by decide) [(0, .int v0)] rfl (Nat.le_of_ble_eq_true rfl) ?_
  intro p l e R s m args below meth c D ca ad A X C
  have C : CX p R s m args meth c D ca ad A X cX11_isState RX11 1 (some .boolean) 1 := C
  unfold fX11_isState
  refine E_iload_n C dX11_isState_0 0 rfl ?_
  refine E_i2l C dX11_isState_1 ?_
  refine E_lconst C 0 dX11_isState_2 (by decide) ?_
  refine E_ldc2 C dX11_isState_3 k_X11_69 ?_
  refine E_callSI (st := []) C [.long v0.toInt64, .long ((0 : Int64)), .long ((2 : Int64))] (mX11_in v0.toInt64 ((0 : Int64)) ((2 : Int64)) μ) cal_X11_in st_X11_in lk_X11_65 dX11_isState_6 rfl rfl (Nat.le_of_ble_eq_true rfl) (Nat.le_of_ble_eq_true rfl) (fun x6 μ6 => ?_)
  exact E_zret C dX11_isState_9
def fX11_isStore (v0 : Nat) (v1 : Int32) (μ : Mem) : Option (Int32 × Mem) :=
  (gR μ v0 11 0).bind fun x4 => (aI μ 0 x4 ((0 : Int32))).bind fun x8 => bd (fX11_in v1.toInt64 ((0 : Int64)) x8.toInt64 μ) fun x10 μ10 => (zz x10).bind fun z => some (z, μ10)
set_option maxHeartbeats 4000000 in
set_option maxRecDepth 100000 in
theorem mX11_isStore (v0 : Nat) (v1 : Int32) (μ : Mem) : Meth wI yX11_isStore cX11_isStore 2 (some .boolean) 1 [.ref v0, .int v1] μ (fX11_isStore v0 v1 μ) := by
  refine Meth.of (by decide) [(0, .ref v0), (1, .int v1)] rfl (Nat.le_of_ble_eq_true rfl) ?_
  intro p l e R s m args below meth c D ca ad A X C
  have C : CX p R s m args meth c D ca ad A X cX11_isStore RX11 2 (some .boolean) 1 := C
  unfold fX11_isStore
  refine E_iload_n C dX11_isStore_0 1 rfl ?_
  refine E_i2l C dX11_isStore_1 ?_
  refine E_lconst C 0 dX11_isStore_2 (by decide) ?_
  refine E_aload_n C dX11_isStore_3 0 rfl ?_
  refine E_getR C F_X11_11 dX11_isStore_4 (fun x4 => ?_)
  refine E_iconst C 0 dX11_isStore_7 (by decide) ?_
  refine E_iaload C dX11_isStore_8 (fun x8 => ?_)
  refine E_i2l C dX11_isStore_9 ?_
  refine E_callSI (st := []) C [.long v1.toInt64, .long ((0 : Int64)), .long x8.toInt64] (mX11_in v1.toInt64 ((0 : Int64)) x8.toInt64 μ) cal_X11_in st_X11_in lk_X11_65 dX11_isStore_10 rfl rfl (Nat.le_of_ble_eq_true rfl) (Nat.le_of_ble_eq_true rfl) (fun x10 μ10 => ?_)
  exact E_zret C dX11_isStore_13
def fX11_isAhead (v0 : Nat) (v1 : Int32) (μ : Mem) : Option (Int32 × Mem) :=
  (gR μ v0 11 0).bind fun x4 => (aI μ 0 x4 ((1 : Int32))).bind fun x8 => bd (fX11_in v1.toInt64 ((0 : Int64)) (((x8 - (1 : Int32))).toInt64) μ) fun x12 μ12 => (zz x12).bind fun z => some (z, μ12)
set_option maxHeartbeats 4000000 in
set_option maxRecDepth 100000 in
theorem mX11_isAhead (v0 : Nat) (v1 : Int32) (μ : Mem) : Meth wI yX11_isAhead cX11_isAhead 2 (some .boolean) 1 [.ref v0, .int v1] μ (fX11_isAhead v0 v1 μ) := by
  refine Meth.of (by decide) [(0, .ref v0), (1, .int v1)] rfl (Nat.le_of_ble_eq_true rfl) ?_
  intro p l e R s m args below meth c D ca ad A X C
  have C : CX p R s m args meth c D ca ad A X cX11_isAhead RX11 2 (some .boolean) 1 := C
  unfold fX11_isAhead
  refine E_iload_n C dX11_isAhead_0 1 rfl ?_
  refine E_i2l C dX11_isAhead_1 ?_
  refine E_lconst C 0 dX11_isAhead_2 (by decide) ?_
  refine E_aload_n C dX11_isAhead_3 0 rfl ?_
  refine E_getR C F_X11_11 dX11_isAhead_4 (fun x4 => ?_)
  refine E_iconst C 1 dX11_isAhead_7 (by decide) ?_
  refine E_iaload C dX11_isAhead_8 (fun x8 => ?_)
  refine E_iconst C 1 dX11_isAhead_9 (by decide) ?_
  refine E_isub C dX11_isAhead_10 ?_
  refine E_i2l C dX11_isAhead_11 ?_
  refine E_callSI (st := []) C [.long v1.toInt64, .long ((0 : Int64)), .long (((x8 - (1 : Int32))).toInt64)] (mX11_in v1.toInt64 ((0 : Int64)) (((x8 - (1 : Int32))).toInt64) μ) cal_X11_in st_X11_in lk_X11_65 dX11_isAhead_12 rfl rfl (Nat.le_of_ble_eq_true rfl) (Nat.le_of_ble_eq_true rfl) (fun x12 μ12 => ?_)
  exact E_zret C dX11_isAhead_15
def fX11_isDemand (v0 : Nat) (v1 : Int32) (μ : Mem) : Option (Int32 × Mem) :=
  (gR μ v0 11 0).bind fun x4 => (aI μ 0 x4 ((73 : Int32))).bind fun x9 => bd (fX11_in v1.toInt64 ((0 : Int64)) (((x9 - (1 : Int32))).toInt64) μ) fun x13 μ13 => (zz x13).bind fun z => some (z, μ13)
set_option maxHeartbeats 4000000 in
set_option maxRecDepth 100000 in
theorem mX11_isDemand (v0 : Nat) (v1 : Int32) (μ : Mem) : Meth wI yX11_isDemand cX11_isDemand 2 (some .boolean) 1 [.ref v0, .int v1] μ (fX11_isDemand v0 v1 μ) := by
  refine Meth.of (by decide) [(0, .ref v0), (1, .int v1)] rfl (Nat.le_of_ble_eq_true rfl) ?_
  intro p l e R s m args below meth c D ca ad A X C
  have C : CX p R s m args meth c D ca ad A X cX11_isDemand RX11 2 (some .boolean) 1 := C
  unfold fX11_isDemand
  refine E_iload_n C dX11_isDemand_0 1 rfl ?_
  refine E_i2l C dX11_isDemand_1 ?_
  refine E_lconst C 0 dX11_isDemand_2 (by decide) ?_
  refine E_aload_n C dX11_isDemand_3 0 rfl ?_
  refine E_getR C F_X11_11 dX11_isDemand_4 (fun x4 => ?_)
  refine E_bipush C 73 dX11_isDemand_7 (by decide) ?_
  refine E_iaload C dX11_isDemand_9 (fun x9 => ?_)
  refine E_iconst C 1 dX11_isDemand_10 (by decide) ?_
  refine E_isub C dX11_isDemand_11 ?_
  refine E_i2l C dX11_isDemand_12 ?_
  refine E_callSI (st := []) C [.long v1.toInt64, .long ((0 : Int64)), .long (((x9 - (1 : Int32))).toInt64)] (mX11_in v1.toInt64 ((0 : Int64)) (((x9 - (1 : Int32))).toInt64) μ) cal_X11_in st_X11_in lk_X11_65 dX11_isDemand_13 rfl rfl (Nat.le_of_ble_eq_true rfl) (Nat.le_of_ble_eq_true rfl) (fun x13 μ13 => ?_)
  exact E_zret C dX11_isDemand_16
def fX11_becomes (v0 : Nat) (v1 : Int32) (v2 : Int32) (μ : Mem) : Option (Int32 × Mem) :=
  (gR μ v0 11 0).bind fun x1 => (aI μ 0 x1 v1).bind fun x5 => (gR μ v0 11 0).bind fun x8 => (sI μ x8 v1 v2).bind fun μ13 => some (x5, μ13)
set_option maxHeartbeats 4000000 in
set_option maxRecDepth 100000 in
theorem mX11_becomes (v0 : Nat) (v1 : Int32) (v2 : Int32) (μ : Mem) : Meth wI yX11_becomes cX11_becomes 4 (some .int) 0 [.ref v0, .int v1, .int v2] μ (fX11_becomes v0 v1 v2 μ) := by
  refine Meth.of (by decide) [(0, .ref v0), (1, .int v1), (2, .int v2)] rfl (Nat.le_of_ble_eq_true rfl) ?_
  intro p l e R s m args below meth c D ca ad A X C
  have C : CX p R s m args meth c D ca ad A X cX11_becomes RX11 4 (some .int) 0 := C
  unfold fX11_becomes
  refine E_aload_n C dX11_becomes_0 0 rfl ?_
  refine E_getR C F_X11_11 dX11_becomes_1 (fun x1 => ?_)
  refine E_iload_n C dX11_becomes_4 1 rfl ?_
  refine E_iaload C dX11_becomes_5 (fun x5 => ?_)
  refine E_istore_n (lv' := [(3, .int x5), (0, .ref v0), (1, .int v1), (2, .int v2)]) C dX11_becomes_6 (by decide) rfl ?_
  refine E_aload_n C dX11_becomes_7 1 rfl ?_
  refine E_getR C F_X11_11 dX11_becomes_8 (fun x8 => ?_)
  refine E_iload_n C dX11_becomes_11 2 rfl ?_
  refine E_iload_n C dX11_becomes_12 3 rfl ?_
  refine E_iastore C dX11_becomes_13 (fun μ13 => ?_)
  refine E_iload_n C dX11_becomes_14 0 rfl ?_
  exact E_iret C dX11_becomes_15
def fX11_put (v0 : Nat) (v1 : Int32) (v2 : Int32) (μ : Mem) : Option (Int32 × Mem) :=
  bd (fX11_in v1.toInt64 ((0 : Int64)) ((3 : Int64)) μ) fun x6 μ6 => if x6 = 0 then (some ((-1 : Int32), μ6)) else (jn (fun (s0_57 : Int32) (μ_57 : Mem) => if s0_57 = 0 then (some ((-2 : Int32), μ_57)) else ((isC μ_57 v0 11).bind fun _ => bd (fX11_becomes v0 v1 v2 μ_57) fun x65 μ65 => some (x65, μ65))) (fun j57 => if (2 : Int32) ≤ v1 then (if v1 = (2 : Int32) then (bd (fX11_in v2.toInt64 ((0 : Int64)) ((9 : Int64)) μ6) fun x42 μ42 => j57 x42 μ42) else (bd (fX11_in v2.toInt64 ((0 : Int64)) ((99 : Int64)) μ6) fun x54 μ54 => j57 x54 μ54)) else (bd (fX11_in v2.toInt64 ((1 : Int64)) ((12 : Int64)) μ6) fun x25 μ25 => j57 x25 μ25)))
set_option maxHeartbeats 4000000 in
set_option maxRecDepth 100000 in
theorem mX11_put (v0 : Nat) (v1 : Int32) (v2 : Int32) (μ : Mem) : Meth wI yX11_put cX11_put 4 (some .int) 1 [.ref v0, .int v1, .int v2] μ (fX11_put v0 v1 v2 μ) := by
  refine Meth.of (by decide) [(0, .ref v0), (1, .int v1), (2, .int v2)] rfl (Nat.le_of_ble_eq_true rfl) ?_
  intro p l e R s m args below meth c D ca ad A X C
  have C : CX p R s m args meth c D ca ad A X cX11_put RX11 4 (some .int) 1 := C
  unfold fX11_put
  refine E_iload_n C dX11_put_0 1 rfl ?_
  refine E_i2l C dX11_put_1 ?_
  refine E_lconst C 0 dX11_put_2 (by decide) ?_
  refine E_ldc2 C dX11_put_3 k_X11_71 ?_
  refine E_callSI (st := []) C [.long v1.toInt64, .long ((0 : Int64)), .long ((3 : Int64))] (mX11_in v1.toInt64 ((0 : Int64)) ((3 : Int64)) μ) cal_X11_in st_X11_in lk_X11_65 dX11_put_6 rfl rfl (Nat.le_of_ble_eq_true rfl) (Nat.le_of_ble_eq_true rfl) (fun x6 μ6 => ?_)
  refine E_if_ne C 14 dX11_put_9 (by decide) ?_ ?_
  · refine E_iload_n C dX11_put_14 1 rfl ?_
    refine E_iconst C 2 dX11_put_15 (by decide) ?_
    refine E_jn (fun j57 => ∀ (s0_57 : Int32) (μ_57 : Mem), Sm p l e R s m args below meth c D ca ad A 4 0 0 wI (KQ below args s D ca ad A) 57 [(0, .ref v0), (1, .int v1), (2, .int v2)] [.int s0_57] μ_57 (j57 s0_57 μ_57)) ?_ (fun j57 hj57 => ?_)
    · intro s0_57 μ_57
      refine E_istore_n (lv' := [(3, .int s0_57), (0, .ref v0), (1, .int v1), (2, .int v2)]) C dX11_put_57 (by decide) rfl ?_
      refine E_iload_n C dX11_put_58 0 rfl ?_
      refine E_if_eq C 71 dX11_put_59 (by decide) ?_ ?_
      · refine E_bipush C (-2) dX11_put_71 (by decide) ?_
        exact E_iret C dX11_put_73
      · refine E_at (pc2 := 62) rfl ?_
        refine E_aload_n C dX11_put_62 1 rfl ?_
        refine E_iload_n C dX11_put_63 2 rfl ?_
        refine E_iload_n C dX11_put_64 3 rfl ?_
        refine E_callVI (st := []) C [.int v1, .int v2] (mX11_becomes v0 v1 v2 μ_57) cal_X11_becomes vir_X11_becomes lk_X11_79 dX11_put_65 rfl rfl (Nat.le_of_ble_eq_true rfl) (Nat.le_of_ble_eq_true rfl) (fun x65 μ65 => ?_)
        refine E_goto C 73 dX11_put_68 (by decide) ?_
        exact E_iret C dX11_put_73
    · refine E_icmp_ge C 31 dX11_put_16 (by decide) ?_ ?_
      · refine E_iload_n C dX11_put_31 1 rfl ?_
        refine E_iconst C 2 dX11_put_32 (by decide) ?_
        refine E_icmp_ne C 48 dX11_put_33 (by decide) ?_ ?_
        · refine E_iload_n C dX11_put_48 2 rfl ?_
          refine E_i2l C dX11_put_49 ?_
          refine E_lconst C 0 dX11_put_50 (by decide) ?_
          refine E_ldc2 C dX11_put_51 k_X11_77 ?_
          refine E_callSI (st := []) C [.long v2.toInt64, .long ((0 : Int64)), .long ((99 : Int64))] (mX11_in v2.toInt64 ((0 : Int64)) ((99 : Int64)) μ6) cal_X11_in st_X11_in lk_X11_65 dX11_put_54 rfl rfl (Nat.le_of_ble_eq_true rfl) (Nat.le_of_ble_eq_true rfl) (fun x54 μ54 => ?_)
          exact E_pick [0, 1, 2] rfl (hj57 x54 μ54)
        · refine E_at (pc2 := 36) rfl ?_
          refine E_iload_n C dX11_put_36 2 rfl ?_
          refine E_i2l C dX11_put_37 ?_
          refine E_lconst C 0 dX11_put_38 (by decide) ?_
          refine E_ldc2 C dX11_put_39 k_X11_75 ?_
          refine E_callSI (st := []) C [.long v2.toInt64, .long ((0 : Int64)), .long ((9 : Int64))] (mX11_in v2.toInt64 ((0 : Int64)) ((9 : Int64)) μ6) cal_X11_in st_X11_in lk_X11_65 dX11_put_42 rfl rfl (Nat.le_of_ble_eq_true rfl) (Nat.le_of_ble_eq_true rfl) (fun x42 μ42 => ?_)
          refine E_goto C 57 dX11_put_45 (by decide) ?_
          exact E_pick [0, 1, 2] rfl (hj57 x42 μ42)
      · refine E_at (pc2 := 19) rfl ?_
        refine E_iload_n C dX11_put_19 2 rfl ?_
        refine E_i2l C dX11_put_20 ?_
        refine E_lconst C 1 dX11_put_21 (by decide) ?_
        refine E_ldc2 C dX11_put_22 k_X11_73 ?_
        refine E_callSI (st := []) C [.long v2.toInt64, .long ((1 : Int64)), .long ((12 : Int64))] (mX11_in v2.toInt64 ((1 : Int64)) ((12 : Int64)) μ6) cal_X11_in st_X11_in lk_X11_65 dX11_put_25 rfl rfl (Nat.le_of_ble_eq_true rfl) (Nat.le_of_ble_eq_true rfl) (fun x25 μ25 => ?_)
        refine E_goto C 57 dX11_put_28 (by decide) ?_
        exact E_pick [0, 1, 2] rfl (hj57 x25 μ25)
  · refine E_at (pc2 := 12) rfl ?_
    refine E_iconst C (-1) dX11_put_12 (by decide) ?_
    exact E_iret C dX11_put_13
def fX11_inflow (v0 : Nat) (v1 : Int32) (v2 : Int32) (v3 : Int32) (μ : Mem) : Option (Int32 × Mem) :=
  bd (fX11_isMonth v1 μ) fun x1 μ1 => if x1 = 0 then (some ((-1 : Int32), μ1)) else (bd (fX11_isState v2 μ1) fun x8 μ8 => if x8 = 0 then (some ((-1 : Int32), μ8)) else (bd (fX11_in v3.toInt64 ((0 : Int64)) ((9 : Int64)) μ8) fun x22 μ22 => if x22 = 0 then (some ((-2 : Int32), μ22)) else ((isC μ22 v0 11).bind fun _ => bd (fX11_becomes v0 ((((4 : Int32) + ((3 : Int32) * v1)) + v2)) v3 μ22) fun x37 μ37 => some (x37, μ37))))
set_option maxHeartbeats 4000000 in
set_option maxRecDepth 100000 in
theorem mX11_inflow (v0 : Nat) (v1 : Int32) (v2 : Int32) (v3 : Int32) (μ : Mem) : Meth wI yX11_inflow cX11_inflow 4 (some .int) 2 [.ref v0, .int v1, .int v2, .int v3] μ (fX11_inflow v0 v1 v2 v3 μ) := by
  refine Meth.of (by decide) [(0, .ref v0), (1, .int v1), (2, .int v2), (3, .int v3)] rfl (Nat.le_of_ble_eq_true rfl) ?_
  intro p l e R s m args below meth c D ca ad A X C
  have C : CX p R s m args meth c D ca ad A X cX11_inflow RX11 4 (some .int) 2 := C
  unfold fX11_inflow
  refine E_iload_n C dX11_inflow_0 1 rfl ?_
  refine E_callSI (st := []) C [.int v1] (mX11_isMonth v1 μ) cal_X11_isMonth st_X11_isMonth lk_X11_83 dX11_inflow_1 rfl rfl (Nat.le_of_ble_eq_true rfl) (Nat.le_of_ble_eq_true rfl) (fun x1 μ1 => ?_)
  refine E_if_eq C 14 dX11_inflow_4 (by decide) ?_ ?_
  · refine E_iconst C (-1) dX11_inflow_14 (by decide) ?_
    exact E_iret C dX11_inflow_15
  · refine E_at (pc2 := 7) rfl ?_
    refine E_iload_n C dX11_inflow_7 2 rfl ?_
    refine E_callSI (st := []) C [.int v2] (mX11_isState v2 μ1) cal_X11_isState st_X11_isState lk_X11_87 dX11_inflow_8 rfl rfl (Nat.le_of_ble_eq_true rfl) (Nat.le_of_ble_eq_true rfl) (fun x8 μ8 => ?_)
    refine E_if_ne C 16 dX11_inflow_11 (by decide) ?_ ?_
    · refine E_iload_n C dX11_inflow_16 3 rfl ?_
      refine E_i2l C dX11_inflow_17 ?_
      refine E_lconst C 0 dX11_inflow_18 (by decide) ?_
      refine E_ldc2 C dX11_inflow_19 k_X11_75 ?_
      refine E_callSI (st := []) C [.long v3.toInt64, .long ((0 : Int64)), .long ((9 : Int64))] (mX11_in v3.toInt64 ((0 : Int64)) ((9 : Int64)) μ8) cal_X11_in st_X11_in lk_X11_65 dX11_inflow_22 rfl rfl (Nat.le_of_ble_eq_true rfl) (Nat.le_of_ble_eq_true rfl) (fun x22 μ22 => ?_)
      refine E_if_eq C 43 dX11_inflow_25 (by decide) ?_ ?_
      · refine E_bipush C (-2) dX11_inflow_43 (by decide) ?_
        exact E_iret C dX11_inflow_45
      · refine E_at (pc2 := 28) rfl ?_
        refine E_aload_n C dX11_inflow_28 0 rfl ?_
        refine E_iconst C 4 dX11_inflow_29 (by decide) ?_
        refine E_iconst C 3 dX11_inflow_30 (by decide) ?_
        refine E_iload_n C dX11_inflow_31 1 rfl ?_
        refine E_imul C dX11_inflow_32 ?_
        refine E_iadd C dX11_inflow_33 ?_
        refine E_iload_n C dX11_inflow_34 2 rfl ?_
        refine E_iadd C dX11_inflow_35 ?_
        refine E_iload_n C dX11_inflow_36 3 rfl ?_
        refine E_callVI (st := []) C [.int ((((4 : Int32) + ((3 : Int32) * v1)) + v2)), .int v3] (mX11_becomes v0 ((((4 : Int32) + ((3 : Int32) * v1)) + v2)) v3 μ22) cal_X11_becomes vir_X11_becomes lk_X11_79 dX11_inflow_37 rfl rfl (Nat.le_of_ble_eq_true rfl) (Nat.le_of_ble_eq_true rfl) (fun x37 μ37 => ?_)
        refine E_goto C 45 dX11_inflow_40 (by decide) ?_
        exact E_iret C dX11_inflow_45
    · refine E_at (pc2 := 14) rfl ?_
      refine E_iconst C (-1) dX11_inflow_14 (by decide) ?_
      exact E_iret C dX11_inflow_15
def fX11_part (v0 : Nat) (v1 : Int32) (v2 : Int32) (μ : Mem) : Option (Int32 × Mem) :=
  (gR μ v0 11 0).bind fun x1 => (aI μ 0 x1 ((((40 : Int32) + ((3 : Int32) * v1)) + v2))).bind fun x12 => some (x12, μ)
set_option maxHeartbeats 4000000 in
set_option maxRecDepth 100000 in
theorem mX11_part (v0 : Nat) (v1 : Int32) (v2 : Int32) (μ : Mem) : Meth wI yX11_part cX11_part 3 (some .int) 0 [.ref v0, .int v1, .int v2] μ (fX11_part v0 v1 v2 μ) := by
  refine Meth.of (by decide) [(0, .ref v0), (1, .int v1), (2, .int v2)] rfl (Nat.le_of_ble_eq_true rfl) ?_
  intro p l e R s m args below meth c D ca ad A X C
  have C : CX p R s m args meth c D ca ad A X cX11_part RX11 3 (some .int) 0 := C
  unfold fX11_part
  refine E_aload_n C dX11_part_0 0 rfl ?_
  refine E_getR C F_X11_11 dX11_part_1 (fun x1 => ?_)
  refine E_bipush C 40 dX11_part_4 (by decide) ?_
  refine E_iconst C 3 dX11_part_6 (by decide) ?_
  refine E_iload_n C dX11_part_7 1 rfl ?_
  refine E_imul C dX11_part_8 ?_
  refine E_iadd C dX11_part_9 ?_
  refine E_iload_n C dX11_part_10 2 rfl ?_
  refine E_iadd C dX11_part_11 ?_
  refine E_iaload C dX11_part_12 (fun x12 => ?_)
  exact E_iret C dX11_part_13
def fX11_parts (v0 : Nat) (v1 : Int32) (μ : Mem) : Option (Int32 × Mem) :=
  (isC μ v0 11).bind fun _ => bd (fX11_part v0 v1 ((0 : Int32)) μ) fun x3 μ3 => (isC μ3 v0 11).bind fun _ => bd (fX11_part v0 v1 ((1 : Int32)) μ3) fun x9 μ9 => (isC μ9 v0 11).bind fun _ => bd (fX11_part v0 v1 ((2 : Int32)) μ9) fun x16 μ16 => some (((x3 + x9) + x16), μ16)
set_option maxHeartbeats 4000000 in
set_option maxRecDepth 100000 in
theorem mX11_parts (v0 : Nat) (v1 : Int32) (μ : Mem) : Meth wI yX11_parts cX11_parts 2 (some .int) 1 [.ref v0, .int v1] μ (fX11_parts v0 v1 μ) := by
  refine Meth.of (by decide) [(0, .ref v0), (1, .int v1)] rfl (Nat.le_of_ble_eq_true rfl) ?_
  intro p l e R s m args below meth c D ca ad A X C
  have C : CX p R s m args meth c D ca ad A X cX11_parts RX11 2 (some .int) 1 := C
  unfold fX11_parts
  refine E_aload_n C dX11_parts_0 0 rfl ?_
  refine E_iload_n C dX11_parts_1 1 rfl ?_
  refine E_iconst C 0 dX11_parts_2 (by decide) ?_
  refine E_callVI (st := []) C [.int v1, .int ((0 : Int32))] (mX11_part v0 v1 ((0 : Int32)) μ) cal_X11_part vir_X11_part lk_X11_90 dX11_parts_3 rfl rfl (Nat.le_of_ble_eq_true rfl) (Nat.le_of_ble_eq_true rfl) (fun x3 μ3 => ?_)
  refine E_aload_n C dX11_parts_6 0 rfl ?_
  refine E_iload_n C dX11_parts_7 1 rfl ?_
  refine E_iconst C 1 dX11_parts_8 (by decide) ?_
  refine E_callVI (st := [.int x3]) C [.int v1, .int ((1 : Int32))] (mX11_part v0 v1 ((1 : Int32)) μ3) cal_X11_part vir_X11_part lk_X11_90 dX11_parts_9 rfl rfl (Nat.le_of_ble_eq_true rfl) (Nat.le_of_ble_eq_true rfl) (fun x9 μ9 => ?_)
  refine E_iadd C dX11_parts_12 ?_
  refine E_aload_n C dX11_parts_13 0 rfl ?_
  refine E_iload_n C dX11_parts_14 1 rfl ?_
  refine E_iconst C 2 dX11_parts_15 (by decide) ?_
  refine E_callVI (st := [.int ((x3 + x9))]) C [.int v1, .int ((2 : Int32))] (mX11_part v0 v1 ((2 : Int32)) μ9) cal_X11_part vir_X11_part lk_X11_90 dX11_parts_16 rfl rfl (Nat.le_of_ble_eq_true rfl) (Nat.le_of_ble_eq_true rfl) (fun x16 μ16 => ?_)
  refine E_iadd C dX11_parts_19 ?_
  exact E_iret C dX11_parts_20
def fX11_part_ (v0 : Nat) (v1 : Int32) (v2 : Int32) (v3 : Int32) (μ : Mem) : Option (Int32 × Mem) :=
  bd (fX11_isState v1 μ) fun x1 μ1 => if x1 = 0 then (some ((-1 : Int32), μ1)) else (bd (fX11_isState v2 μ1) fun x8 μ8 => if x8 = 0 then (some ((-1 : Int32), μ8)) else (bd (fX11_in v3.toInt64 ((0 : Int64)) ((9 : Int64)) μ8) fun x22 μ22 => if x22 = 0 then (some ((-2 : Int32), μ22)) else ((isC μ22 v0 11).bind fun _ => bd (fX11_parts v0 v1 μ22) fun x30 μ30 => (isC μ30 v0 11).bind fun _ => bd (fX11_part v0 v1 v2 μ30) fun x36 μ36 => if ((x30 - x36) + v3) = 0 then (some ((-2 : Int32), μ36)) else ((isC μ36 v0 11).bind fun _ => bd (fX11_becomes v0 ((((40 : Int32) + ((3 : Int32) * v1)) + v2)) v3 μ36) fun x58 μ58 => some (x58, μ58)))))
set_option maxHeartbeats 4000000 in
set_option maxRecDepth 100000 in
theorem mX11_part_ (v0 : Nat) (v1 : Int32) (v2 : Int32) (v3 : Int32) (μ : Mem) : Meth wI yX11_part_ cX11_part_ 4 (some .int) 2 [.ref v0, .int v1, .int v2, .int v3] μ (fX11_part_ v0 v1 v2 v3 μ) := by
  refine Meth.of (by decide) [(0, .ref v0), (1, .int v1), (2, .int v2), (3, .int v3)] rfl (Nat.le_of_ble_eq_true rfl) ?_
  intro p l e R s m args below meth c D ca ad A X C
  have C : CX p R s m args meth c D ca ad A X cX11_part_ RX11 4 (some .int) 2 := C
  unfold fX11_part_
  refine E_iload_n C dX11_part__0 1 rfl ?_
  refine E_callSI (st := []) C [.int v1] (mX11_isState v1 μ) cal_X11_isState st_X11_isState lk_X11_87 dX11_part__1 rfl rfl (Nat.le_of_ble_eq_true rfl) (Nat.le_of_ble_eq_true rfl) (fun x1 μ1 => ?_)
  refine E_if_eq C 14 dX11_part__4 (by decide) ?_ ?_
  · refine E_iconst C (-1) dX11_part__14 (by decide) ?_
    exact E_iret C dX11_part__15
  · refine E_at (pc2 := 7) rfl ?_
    refine E_iload_n C dX11_part__7 2 rfl ?_
    refine E_callSI (st := []) C [.int v2] (mX11_isState v2 μ1) cal_X11_isState st_X11_isState lk_X11_87 dX11_part__8 rfl rfl (Nat.le_of_ble_eq_true rfl) (Nat.le_of_ble_eq_true rfl) (fun x8 μ8 => ?_)
    refine E_if_ne C 16 dX11_part__11 (by decide) ?_ ?_
    · refine E_iload_n C dX11_part__16 3 rfl ?_
      refine E_i2l C dX11_part__17 ?_
      refine E_lconst C 0 dX11_part__18 (by decide) ?_
      refine E_ldc2 C dX11_part__19 k_X11_75 ?_
      refine E_callSI (st := []) C [.long v3.toInt64, .long ((0 : Int64)), .long ((9 : Int64))] (mX11_in v3.toInt64 ((0 : Int64)) ((9 : Int64)) μ8) cal_X11_in st_X11_in lk_X11_65 dX11_part__22 rfl rfl (Nat.le_of_ble_eq_true rfl) (Nat.le_of_ble_eq_true rfl) (fun x22 μ22 => ?_)
      refine E_if_eq C 45 dX11_part__25 (by decide) ?_ ?_
      · refine E_bipush C (-2) dX11_part__45 (by decide) ?_
        exact E_iret C dX11_part__47
      · refine E_at (pc2 := 28) rfl ?_
        refine E_aload_n C dX11_part__28 0 rfl ?_
        refine E_iload_n C dX11_part__29 1 rfl ?_
        refine E_callVI (st := []) C [.int v1] (mX11_parts v0 v1 μ22) cal_X11_parts vir_X11_parts lk_X11_93 dX11_part__30 rfl rfl (Nat.le_of_ble_eq_true rfl) (Nat.le_of_ble_eq_true rfl) (fun x30 μ30 => ?_)
        refine E_aload_n C dX11_part__33 0 rfl ?_
        refine E_iload_n C dX11_part__34 1 rfl ?_
        refine E_iload_n C dX11_part__35 2 rfl ?_
        refine E_callVI (st := [.int x30]) C [.int v1, .int v2] (mX11_part v0 v1 v2 μ30) cal_X11_part vir_X11_part lk_X11_90 dX11_part__36 rfl rfl (Nat.le_of_ble_eq_true rfl) (Nat.le_of_ble_eq_true rfl) (fun x36 μ36 => ?_)
        refine E_isub C dX11_part__39 ?_
        refine E_iload_n C dX11_part__40 3 rfl ?_
        refine E_iadd C dX11_part__41 ?_
        refine E_if_ne C 48 dX11_part__42 (by decide) ?_ ?_
        · refine E_aload_n C dX11_part__48 0 rfl ?_
          refine E_bipush C 40 dX11_part__49 (by decide) ?_
          refine E_iconst C 3 dX11_part__51 (by decide) ?_
          refine E_iload_n C dX11_part__52 1 rfl ?_
          refine E_imul C dX11_part__53 ?_
          refine E_iadd C dX11_part__54 ?_
          refine E_iload_n C dX11_part__55 2 rfl ?_
          refine E_iadd C dX11_part__56 ?_
          refine E_iload_n C dX11_part__57 3 rfl ?_
          refine E_callVI (st := []) C [.int ((((40 : Int32) + ((3 : Int32) * v1)) + v2)), .int v3] (mX11_becomes v0 ((((40 : Int32) + ((3 : Int32) * v1)) + v2)) v3 μ36) cal_X11_becomes vir_X11_becomes lk_X11_79 dX11_part__58 rfl rfl (Nat.le_of_ble_eq_true rfl) (Nat.le_of_ble_eq_true rfl) (fun x58 μ58 => ?_)
          exact E_iret C dX11_part__61
        · refine E_at (pc2 := 45) rfl ?_
          refine E_bipush C (-2) dX11_part__45 (by decide) ?_
          exact E_iret C dX11_part__47
    · refine E_at (pc2 := 14) rfl ?_
      refine E_iconst C (-1) dX11_part__14 (by decide) ?_
      exact E_iret C dX11_part__15
def fX11_month (v0 : Nat) (v1 : Int32) (v2 : Int32) (v3 : Int32) (μ : Mem) : Option (Int32 × Mem) :=
  bd (fX11_isMonth v1 μ) fun x1 μ1 => if x1 = 0 then (some ((-1 : Int32), μ1)) else (bd (fX11_in v2.toInt64 ((0 : Int64)) ((1 : Int64)) μ1) fun x11 μ11 => if x11 = 0 then (some ((-1 : Int32), μ11)) else (bd (fX11_in v3.toInt64 ((0 : Int64)) ((9 : Int64)) μ11) fun x25 μ25 => if x25 = 0 then (some ((-2 : Int32), μ25)) else (jn (fun (s1_43 : Int32) (μ_43 : Mem) => (isC μ_43 v0 11).bind fun _ => bd (fX11_becomes v0 ((s1_43 + v1)) v3 μ_43) fun x46 μ46 => some (x46, μ46)) (fun j43 => if v2 = 0 then (j43 ((49 : Int32)) μ25) else (j43 ((61 : Int32)) μ25)))))
set_option maxHeartbeats 4000000 in
set_option maxRecDepth 100000 in
theorem mX11_month (v0 : Nat) (v1 : Int32) (v2 : Int32) (v3 : Int32) (μ : Mem) : Meth wI yX11_month cX11_month 4 (some .int) 2 [.ref v0, .int v1, .int v2, .int v3] μ (fX11_month v0 v1 v2 v3 μ) := by
  refine Meth.of (by decide) [(0, .ref v0), (1, .int v1), (2, .int v2), (3, .int v3)] rfl (Nat.le_of_ble_eq_true rfl) ?_
  intro p l e R s m args below meth c D ca ad A X C
  have C : CX p R s m args meth c D ca ad A X cX11_month RX11 4 (some .int) 2 := C
  unfold fX11_month
  refine E_iload_n C dX11_month_0 1 rfl ?_
  refine E_callSI (st := []) C [.int v1] (mX11_isMonth v1 μ) cal_X11_isMonth st_X11_isMonth lk_X11_83 dX11_month_1 rfl rfl (Nat.le_of_ble_eq_true rfl) (Nat.le_of_ble_eq_true rfl) (fun x1 μ1 => ?_)
  refine E_if_eq C 17 dX11_month_4 (by decide) ?_ ?_
  · refine E_iconst C (-1) dX11_month_17 (by decide) ?_
    exact E_iret C dX11_month_18
  · refine E_at (pc2 := 7) rfl ?_
    refine E_iload_n C dX11_month_7 2 rfl ?_
    refine E_i2l C dX11_month_8 ?_
    refine E_lconst C 0 dX11_month_9 (by decide) ?_
    refine E_lconst C 1 dX11_month_10 (by decide) ?_
    refine E_callSI (st := []) C [.long v2.toInt64, .long ((0 : Int64)), .long ((1 : Int64))] (mX11_in v2.toInt64 ((0 : Int64)) ((1 : Int64)) μ1) cal_X11_in st_X11_in lk_X11_65 dX11_month_11 rfl rfl (Nat.le_of_ble_eq_true rfl) (Nat.le_of_ble_eq_true rfl) (fun x11 μ11 => ?_)
    refine E_if_ne C 19 dX11_month_14 (by decide) ?_ ?_
    · refine E_iload_n C dX11_month_19 3 rfl ?_
      refine E_i2l C dX11_month_20 ?_
      refine E_lconst C 0 dX11_month_21 (by decide) ?_
      refine E_ldc2 C dX11_month_22 k_X11_75 ?_
      refine E_callSI (st := []) C [.long v3.toInt64, .long ((0 : Int64)), .long ((9 : Int64))] (mX11_in v3.toInt64 ((0 : Int64)) ((9 : Int64)) μ11) cal_X11_in st_X11_in lk_X11_65 dX11_month_25 rfl rfl (Nat.le_of_ble_eq_true rfl) (Nat.le_of_ble_eq_true rfl) (fun x25 μ25 => ?_)
      refine E_if_eq C 52 dX11_month_28 (by decide) ?_ ?_
      · refine E_bipush C (-2) dX11_month_52 (by decide) ?_
        exact E_iret C dX11_month_54
      · refine E_at (pc2 := 31) rfl ?_
        refine E_aload_n C dX11_month_31 0 rfl ?_
        refine E_iload_n C dX11_month_32 2 rfl ?_
        refine E_jn (fun j43 => ∀ (s1_43 : Int32) (μ_43 : Mem), Sm p l e R s m args below meth c D ca ad A 4 0 0 wI (KQ below args s D ca ad A) 43 [(1, .int v1), (3, .int v3)] [.int s1_43, .ref v0] μ_43 (j43 s1_43 μ_43)) ?_ (fun j43 hj43 => ?_)
        · intro s1_43 μ_43
          refine E_iload_n C dX11_month_43 0 rfl ?_
          refine E_iadd C dX11_month_44 ?_
          refine E_iload_n C dX11_month_45 1 rfl ?_
          refine E_callVI (st := []) C [.int ((s1_43 + v1)), .int v3] (mX11_becomes v0 ((s1_43 + v1)) v3 μ_43) cal_X11_becomes vir_X11_becomes lk_X11_79 dX11_month_46 rfl rfl (Nat.le_of_ble_eq_true rfl) (Nat.le_of_ble_eq_true rfl) (fun x46 μ46 => ?_)
          refine E_goto C 54 dX11_month_49 (by decide) ?_
          exact E_iret C dX11_month_54
        · refine E_if_ne C 41 dX11_month_33 (by decide) ?_ ?_
          · refine E_bipush C 61 dX11_month_41 (by decide) ?_
            exact E_pick [1, 3] rfl (hj43 ((61 : Int32)) μ25)
          · refine E_at (pc2 := 36) rfl ?_
            refine E_bipush C 49 dX11_month_36 (by decide) ?_
            refine E_goto C 43 dX11_month_38 (by decide) ?_
            exact E_pick [1, 3] rfl (hj43 ((49 : Int32)) μ25)
    · refine E_at (pc2 := 17) rfl ?_
      refine E_iconst C (-1) dX11_month_17 (by decide) ?_
      exact E_iret C dX11_month_18
def fX11_at (v0 : Nat) (v1 : Int32) (v2 : Int32) (μ : Mem) : Option (Int32 × Mem) :=
  (gR μ v0 11 0).bind fun x1 => (aI μ 0 x1 ((((74 : Int32) + ((6 : Int32) * v1)) + v2))).bind fun x13 => some (x13, μ)
set_option maxHeartbeats 4000000 in
set_option maxRecDepth 100000 in
theorem mX11_at (v0 : Nat) (v1 : Int32) (v2 : Int32) (μ : Mem) : Meth wI yX11_at cX11_at 3 (some .int) 0 [.ref v0, .int v1, .int v2] μ (fX11_at v0 v1 v2 μ) := by
  refine Meth.of (by decide) [(0, .ref v0), (1, .int v1), (2, .int v2)] rfl (Nat.le_of_ble_eq_true rfl) ?_
  intro p l e R s m args below meth c D ca ad A X C
  have C : CX p R s m args meth c D ca ad A X cX11_at RX11 3 (some .int) 0 := C
  unfold fX11_at
  refine E_aload_n C dX11_at_0 0 rfl ?_
  refine E_getR C F_X11_11 dX11_at_1 (fun x1 => ?_)
  refine E_bipush C 74 dX11_at_4 (by decide) ?_
  refine E_bipush C 6 dX11_at_6 (by decide) ?_
  refine E_iload_n C dX11_at_8 1 rfl ?_
  refine E_imul C dX11_at_9 ?_
  refine E_iadd C dX11_at_10 ?_
  refine E_iload_n C dX11_at_11 2 rfl ?_
  refine E_iadd C dX11_at_12 ?_
  refine E_iaload C dX11_at_13 (fun x13 => ?_)
  exact E_iret C dX11_at_14
def fX11_demand (v0 : Nat) (v1 : Int32) (v2 : Int32) (v3 : Int32) (v4 : Int32) (v5 : Int32) (v6 : Int32) (μ : Mem) : Option (Int32 × Mem) :=
  bd (fX11_in v1.toInt64 ((0 : Int64)) ((4 : Int64)) μ) fun x6 μ6 => if x6 = 0 then (some ((-2 : Int32), μ6)) else (bd (fX11_in v2.toInt64 ((0 : Int64)) ((9 : Int64)) μ6) fun x18 μ18 => if x18 = 0 then (some ((-2 : Int32), μ18)) else (bd (fX11_in v3.toInt64 ((1 : Int64)) ((9 : Int64)) μ18) fun x30 μ30 => if x30 = 0 then (some ((-2 : Int32), μ30)) else (bd (fX11_in v4.toInt64 ((0 : Int64)) ((99 : Int64)) μ30) fun x43 μ43 => if x43 = 0 then (some ((-2 : Int32), μ43)) else (bd (fX11_isMonth v5 μ43) fun x51 μ51 => if x51 = 0 then (some ((-2 : Int32), μ51)) else (bd (fX11_isMonth v6 μ51) fun x59 μ59 => if x59 = 0 then (some ((-2 : Int32), μ59)) else ((gR μ59 v0 11 0).bind fun x69 => (aI μ59 0 x69 ((73 : Int32))).bind fun x74 => if x74 = (6 : Int32) then (some ((-4 : Int32), μ59)) else ((gR μ59 v0 11 0).bind fun x88 => (aI μ59 0 x88 ((73 : Int32))).bind fun x93 => (gR μ59 v0 11 0).bind fun x99 => (sI μ59 x99 ((((74 : Int32) + ((6 : Int32) * x93)) + (0 : Int32))) v1).bind fun μ107 => (gR μ107 v0 11 0).bind fun x109 => (sI μ107 x109 ((((74 : Int32) + ((6 : Int32) * x93)) + (1 : Int32))) v2).bind fun μ117 => (gR μ117 v0 11 0).bind fun x119 => (sI μ117 x119 ((((74 : Int32) + ((6 : Int32) * x93)) + (2 : Int32))) v3).bind fun μ127 => (gR μ127 v0 11 0).bind fun x129 => (sI μ127 x129 ((((74 : Int32) + ((6 : Int32) * x93)) + (3 : Int32))) v4).bind fun μ138 => (gR μ138 v0 11 0).bind fun x140 => (sI μ138 x140 ((((74 : Int32) + ((6 : Int32) * x93)) + (4 : Int32))) v5).bind fun μ149 => (gR μ149 v0 11 0).bind fun x151 => (sI μ149 x151 ((((74 : Int32) + ((6 : Int32) * x93)) + (5 : Int32))) v6).bind fun μ160 => (gR μ160 v0 11 0).bind fun x162 => (aI μ160 0 x162 ((73 : Int32))).bind fun x168 => (sI μ160 x162 ((73 : Int32)) ((x168 + (1 : Int32)))).bind fun μ171 => (gR μ171 v0 11 0).bind fun x173 => (aI μ171 0 x173 ((73 : Int32))).bind fun x178 => some ((x178 - (1 : Int32)), μ171))))))))
set_option maxHeartbeats 4000000 in
set_option maxRecDepth 100000 in
theorem mX11_demand (v0 : Nat) (v1 : Int32) (v2 : Int32) (v3 : Int32) (v4 : Int32) (v5 : Int32) (v6 : Int32) (μ : Mem) : Meth wI yX11_demand cX11_demand 8 (some .int) 2 [.ref v0, .int v1, .int v2, .int v3, .int v4, .int v5, .int v6] μ (fX11_demand v0 v1 v2 v3 v4 v5 v6 μ) := by
  refine Meth.of (by decide) [(0, .ref v0), (1, .int v1), (2, .int v2), (3, .int v3), (4, .int v4), (5, .int v5), (6, .int v6)] rfl (Nat.le_of_ble_eq_true rfl) ?_
  intro p l e R s m args below meth c D ca ad A X C
  have C : CX p R s m args meth c D ca ad A X cX11_demand RX11 8 (some .int) 2 := C
  unfold fX11_demand
  refine E_iload_n C dX11_demand_0 1 rfl ?_
  refine E_i2l C dX11_demand_1 ?_
  refine E_lconst C 0 dX11_demand_2 (by decide) ?_
  refine E_ldc2 C dX11_demand_3 k_X11_97 ?_
  refine E_callSI (st := []) C [.long v1.toInt64, .long ((0 : Int64)), .long ((4 : Int64))] (mX11_in v1.toInt64 ((0 : Int64)) ((4 : Int64)) μ) cal_X11_in st_X11_in lk_X11_65 dX11_demand_6 rfl rfl (Nat.le_of_ble_eq_true rfl) (Nat.le_of_ble_eq_true rfl) (fun x6 μ6 => ?_)
  refine E_if_eq C 65 dX11_demand_9 (by decide) ?_ ?_
  · refine E_bipush C (-2) dX11_demand_65 (by decide) ?_
    exact E_iret C dX11_demand_67
  · refine E_at (pc2 := 12) rfl ?_
    refine E_iload_n C dX11_demand_12 2 rfl ?_
    refine E_i2l C dX11_demand_13 ?_
    refine E_lconst C 0 dX11_demand_14 (by decide) ?_
    refine E_ldc2 C dX11_demand_15 k_X11_75 ?_
    refine E_callSI (st := []) C [.long v2.toInt64, .long ((0 : Int64)), .long ((9 : Int64))] (mX11_in v2.toInt64 ((0 : Int64)) ((9 : Int64)) μ6) cal_X11_in st_X11_in lk_X11_65 dX11_demand_18 rfl rfl (Nat.le_of_ble_eq_true rfl) (Nat.le_of_ble_eq_true rfl) (fun x18 μ18 => ?_)
    refine E_if_eq C 65 dX11_demand_21 (by decide) ?_ ?_
    · refine E_bipush C (-2) dX11_demand_65 (by decide) ?_
      exact E_iret C dX11_demand_67
    · refine E_at (pc2 := 24) rfl ?_
      refine E_iload_n C dX11_demand_24 3 rfl ?_
      refine E_i2l C dX11_demand_25 ?_
      refine E_lconst C 1 dX11_demand_26 (by decide) ?_
      refine E_ldc2 C dX11_demand_27 k_X11_75 ?_
      refine E_callSI (st := []) C [.long v3.toInt64, .long ((1 : Int64)), .long ((9 : Int64))] (mX11_in v3.toInt64 ((1 : Int64)) ((9 : Int64)) μ18) cal_X11_in st_X11_in lk_X11_65 dX11_demand_30 rfl rfl (Nat.le_of_ble_eq_true rfl) (Nat.le_of_ble_eq_true rfl) (fun x30 μ30 => ?_)
      refine E_if_eq C 65 dX11_demand_33 (by decide) ?_ ?_
      · refine E_bipush C (-2) dX11_demand_65 (by decide) ?_
        exact E_iret C dX11_demand_67
      · refine E_at (pc2 := 36) rfl ?_
        refine E_iload C dX11_demand_36 4 rfl ?_
        refine E_i2l C dX11_demand_38 ?_
        refine E_lconst C 0 dX11_demand_39 (by decide) ?_
        refine E_ldc2 C dX11_demand_40 k_X11_77 ?_
        refine E_callSI (st := []) C [.long v4.toInt64, .long ((0 : Int64)), .long ((99 : Int64))] (mX11_in v4.toInt64 ((0 : Int64)) ((99 : Int64)) μ30) cal_X11_in st_X11_in lk_X11_65 dX11_demand_43 rfl rfl (Nat.le_of_ble_eq_true rfl) (Nat.le_of_ble_eq_true rfl) (fun x43 μ43 => ?_)
        refine E_if_eq C 65 dX11_demand_46 (by decide) ?_ ?_
        · refine E_bipush C (-2) dX11_demand_65 (by decide) ?_
          exact E_iret C dX11_demand_67
        · refine E_at (pc2 := 49) rfl ?_
          refine E_iload C dX11_demand_49 5 rfl ?_
          refine E_callSI (st := []) C [.int v5] (mX11_isMonth v5 μ43) cal_X11_isMonth st_X11_isMonth lk_X11_83 dX11_demand_51 rfl rfl (Nat.le_of_ble_eq_true rfl) (Nat.le_of_ble_eq_true rfl) (fun x51 μ51 => ?_)
          refine E_if_eq C 65 dX11_demand_54 (by decide) ?_ ?_
          · refine E_bipush C (-2) dX11_demand_65 (by decide) ?_
            exact E_iret C dX11_demand_67
          · refine E_at (pc2 := 57) rfl ?_
            refine E_iload C dX11_demand_57 6 rfl ?_
            refine E_callSI (st := []) C [.int v6] (mX11_isMonth v6 μ51) cal_X11_isMonth st_X11_isMonth lk_X11_83 dX11_demand_59 rfl rfl (Nat.le_of_ble_eq_true rfl) (Nat.le_of_ble_eq_true rfl) (fun x59 μ59 => ?_)
            refine E_if_ne C 68 dX11_demand_62 (by decide) ?_ ?_
            · refine E_aload_n C dX11_demand_68 0 rfl ?_
              refine E_getR C F_X11_11 dX11_demand_69 (fun x69 => ?_)
              refine E_bipush C 73 dX11_demand_72 (by decide) ?_
              refine E_iaload C dX11_demand_74 (fun x74 => ?_)
              refine E_bipush C 6 dX11_demand_75 (by decide) ?_
              refine E_icmp_ne C 83 dX11_demand_77 (by decide) ?_ ?_
              · refine E_bipush C 74 dX11_demand_83 (by decide) ?_
                refine E_bipush C 6 dX11_demand_85 (by decide) ?_
                refine E_aload_n C dX11_demand_87 0 rfl ?_
                refine E_getR C F_X11_11 dX11_demand_88 (fun x88 => ?_)
                refine E_bipush C 73 dX11_demand_91 (by decide) ?_
                refine E_iaload C dX11_demand_93 (fun x93 => ?_)
                refine E_imul C dX11_demand_94 ?_
                refine E_iadd C dX11_demand_95 ?_
                refine E_istore (lv' := [(7, .int (((74 : Int32) + ((6 : Int32) * x93)))), (0, .ref v0), (1, .int v1), (2, .int v2), (3, .int v3), (4, .int v4), (5, .int v5), (6, .int v6)]) C dX11_demand_96 (by decide) rfl ?_
                refine E_aload_n C dX11_demand_98 1 rfl ?_
                refine E_getR C F_X11_11 dX11_demand_99 (fun x99 => ?_)
                refine E_iload C dX11_demand_102 0 rfl ?_
                refine E_iconst C 0 dX11_demand_104 (by decide) ?_
                refine E_iadd C dX11_demand_105 ?_
                refine E_iload_n C dX11_demand_106 2 rfl ?_
                refine E_iastore C dX11_demand_107 (fun μ107 => ?_)
                refine E_aload_n C dX11_demand_108 1 rfl ?_
                refine E_getR C F_X11_11 dX11_demand_109 (fun x109 => ?_)
                refine E_iload C dX11_demand_112 0 rfl ?_
                refine E_iconst C 1 dX11_demand_114 (by decide) ?_
                refine E_iadd C dX11_demand_115 ?_
                refine E_iload_n C dX11_demand_116 3 rfl ?_
                refine E_iastore C dX11_demand_117 (fun μ117 => ?_)
                refine E_aload_n C dX11_demand_118 1 rfl ?_
                refine E_getR C F_X11_11 dX11_demand_119 (fun x119 => ?_)
                refine E_iload C dX11_demand_122 0 rfl ?_
                refine E_iconst C 2 dX11_demand_124 (by decide) ?_
                refine E_iadd C dX11_demand_125 ?_
                refine E_iload_n C dX11_demand_126 4 rfl ?_
                refine E_iastore C dX11_demand_127 (fun μ127 => ?_)
                refine E_aload_n C dX11_demand_128 1 rfl ?_
                refine E_getR C F_X11_11 dX11_demand_129 (fun x129 => ?_)
                refine E_iload C dX11_demand_132 0 rfl ?_
                refine E_iconst C 3 dX11_demand_134 (by decide) ?_
                refine E_iadd C dX11_demand_135 ?_
                refine E_iload C dX11_demand_136 5 rfl ?_
                refine E_iastore C dX11_demand_138 (fun μ138 => ?_)
                refine E_aload_n C dX11_demand_139 1 rfl ?_
                refine E_getR C F_X11_11 dX11_demand_140 (fun x140 => ?_)
                refine E_iload C dX11_demand_143 0 rfl ?_
                refine E_iconst C 4 dX11_demand_145 (by decide) ?_
                refine E_iadd C dX11_demand_146 ?_
                refine E_iload C dX11_demand_147 6 rfl ?_
                refine E_iastore C dX11_demand_149 (fun μ149 => ?_)
                refine E_aload_n C dX11_demand_150 1 rfl ?_
                refine E_getR C F_X11_11 dX11_demand_151 (fun x151 => ?_)
                refine E_iload C dX11_demand_154 0 rfl ?_
                refine E_iconst C 5 dX11_demand_156 (by decide) ?_
                refine E_iadd C dX11_demand_157 ?_
                refine E_iload C dX11_demand_158 7 rfl ?_
                refine E_iastore C dX11_demand_160 (fun μ160 => ?_)
                refine E_aload_n C dX11_demand_161 1 rfl ?_
                refine E_getR C F_X11_11 dX11_demand_162 (fun x162 => ?_)
                refine E_bipush C 73 dX11_demand_165 (by decide) ?_
                refine E_dup2_ir C dX11_demand_167 ?_
                refine E_iaload C dX11_demand_168 (fun x168 => ?_)
                refine E_iconst C 1 dX11_demand_169 (by decide) ?_
                refine E_iadd C dX11_demand_170 ?_
                refine E_iastore C dX11_demand_171 (fun μ171 => ?_)
                refine E_aload_n C dX11_demand_172 1 rfl ?_
                refine E_getR C F_X11_11 dX11_demand_173 (fun x173 => ?_)
                refine E_bipush C 73 dX11_demand_176 (by decide) ?_
                refine E_iaload C dX11_demand_178 (fun x178 => ?_)
                refine E_iconst C 1 dX11_demand_179 (by decide) ?_
                refine E_isub C dX11_demand_180 ?_
                exact E_iret C dX11_demand_181
              · refine E_at (pc2 := 80) rfl ?_
                refine E_bipush C (-4) dX11_demand_80 (by decide) ?_
                exact E_iret C dX11_demand_82
            · refine E_at (pc2 := 65) rfl ?_
              refine E_bipush C (-2) dX11_demand_65 (by decide) ?_
              exact E_iret C dX11_demand_67
def fX11_renew (v0 : Nat) (v1 : Int32) (v2 : Int32) (v3 : Int32) (μ : Mem) : Option (Int32 × Mem) :=
  (isC μ v0 11).bind fun _ => bd (fX11_isDemand v0 v1 μ) fun x2 μ2 => if x2 = 0 then (some ((-1 : Int32), μ2)) else (bd (fX11_in v2.toInt64 ((0 : Int64)) ((2 : Int64)) μ2) fun x14 μ14 => if x14 = 0 then (some ((-1 : Int32), μ14)) else (jn (fun (s0_64 : Int32) (μ_64 : Mem) => if s0_64 = 0 then (some ((-2 : Int32), μ_64)) else ((isC μ_64 v0 11).bind fun _ => bd (fX11_becomes v0 (((((74 : Int32) + ((6 : Int32) * v1)) + (1 : Int32)) + v2)) v3 μ_64) fun x84 μ84 => some (x84, μ84))) (fun j64 => if v2 = 0 then (bd (fX11_in v3.toInt64 ((0 : Int64)) ((9 : Int64)) μ14) fun x32 μ32 => j64 x32 μ32) else (if v2 = (1 : Int32) then (bd (fX11_in v3.toInt64 ((1 : Int64)) ((9 : Int64)) μ14) fun x49 μ49 => j64 x49 μ49) else (bd (fX11_in v3.toInt64 ((0 : Int64)) ((99 : Int64)) μ14) fun x61 μ61 => j64 x61 μ61)))))
set_option maxHeartbeats 4000000 in
set_option maxRecDepth 100000 in
theorem mX11_renew (v0 : Nat) (v1 : Int32) (v2 : Int32) (v3 : Int32) (μ : Mem) : Meth wI yX11_renew cX11_renew 5 (some .int) 2 [.ref v0, .int v1, .int v2, .int v3] μ (fX11_renew v0 v1 v2 v3 μ) := by
  refine Meth.of (by decide) [(0, .ref v0), (1, .int v1), (2, .int v2), (3, .int v3)] rfl (Nat.le_of_ble_eq_true rfl) ?_
  intro p l e R s m args below meth c D ca ad A X C
  have C : CX p R s m args meth c D ca ad A X cX11_renew RX11 5 (some .int) 2 := C
  unfold fX11_renew
  refine E_aload_n C dX11_renew_0 0 rfl ?_
  refine E_iload_n C dX11_renew_1 1 rfl ?_
  refine E_callVI (st := []) C [.int v1] (mX11_isDemand v0 v1 μ) cal_X11_isDemand vir_X11_isDemand lk_X11_99 dX11_renew_2 rfl rfl (Nat.le_of_ble_eq_true rfl) (Nat.le_of_ble_eq_true rfl) (fun x2 μ2 => ?_)
  refine E_if_eq C 20 dX11_renew_5 (by decide) ?_ ?_
  · refine E_iconst C (-1) dX11_renew_20 (by decide) ?_
    exact E_iret C dX11_renew_21
  · refine E_at (pc2 := 8) rfl ?_
    refine E_iload_n C dX11_renew_8 2 rfl ?_
    refine E_i2l C dX11_renew_9 ?_
    refine E_lconst C 0 dX11_renew_10 (by decide) ?_
    refine E_ldc2 C dX11_renew_11 k_X11_69 ?_
    refine E_callSI (st := []) C [.long v2.toInt64, .long ((0 : Int64)), .long ((2 : Int64))] (mX11_in v2.toInt64 ((0 : Int64)) ((2 : Int64)) μ2) cal_X11_in st_X11_in lk_X11_65 dX11_renew_14 rfl rfl (Nat.le_of_ble_eq_true rfl) (Nat.le_of_ble_eq_true rfl) (fun x14 μ14 => ?_)
    refine E_if_ne C 22 dX11_renew_17 (by decide) ?_ ?_
    · refine E_iload_n C dX11_renew_22 2 rfl ?_
      refine E_jn (fun j64 => ∀ (s0_64 : Int32) (μ_64 : Mem), Sm p l e R s m args below meth c D ca ad A 5 0 0 wI (KQ below args s D ca ad A) 64 [(0, .ref v0), (1, .int v1), (2, .int v2), (3, .int v3)] [.int s0_64] μ_64 (j64 s0_64 μ_64)) ?_ (fun j64 hj64 => ?_)
      · intro s0_64 μ_64
        refine E_istore (lv' := [(4, .int s0_64), (0, .ref v0), (1, .int v1), (2, .int v2), (3, .int v3)]) C dX11_renew_64 (by decide) rfl ?_
        refine E_iload C dX11_renew_66 0 rfl ?_
        refine E_if_eq C 90 dX11_renew_68 (by decide) ?_ ?_
        · refine E_bipush C (-2) dX11_renew_90 (by decide) ?_
          exact E_iret C dX11_renew_92
        · refine E_at (pc2 := 71) rfl ?_
          refine E_aload_n C dX11_renew_71 1 rfl ?_
          refine E_bipush C 74 dX11_renew_72 (by decide) ?_
          refine E_bipush C 6 dX11_renew_74 (by decide) ?_
          refine E_iload_n C dX11_renew_76 2 rfl ?_
          refine E_imul C dX11_renew_77 ?_
          refine E_iadd C dX11_renew_78 ?_
          refine E_iconst C 1 dX11_renew_79 (by decide) ?_
          refine E_iadd C dX11_renew_80 ?_
          refine E_iload_n C dX11_renew_81 3 rfl ?_
          refine E_iadd C dX11_renew_82 ?_
          refine E_iload_n C dX11_renew_83 4 rfl ?_
          refine E_callVI (st := []) C [.int (((((74 : Int32) + ((6 : Int32) * v1)) + (1 : Int32)) + v2)), .int v3] (mX11_becomes v0 (((((74 : Int32) + ((6 : Int32) * v1)) + (1 : Int32)) + v2)) v3 μ_64) cal_X11_becomes vir_X11_becomes lk_X11_79 dX11_renew_84 rfl rfl (Nat.le_of_ble_eq_true rfl) (Nat.le_of_ble_eq_true rfl) (fun x84 μ84 => ?_)
          refine E_goto C 92 dX11_renew_87 (by decide) ?_
          exact E_iret C dX11_renew_92
      · refine E_if_ne C 38 dX11_renew_23 (by decide) ?_ ?_
        · refine E_iload_n C dX11_renew_38 2 rfl ?_
          refine E_iconst C 1 dX11_renew_39 (by decide) ?_
          refine E_icmp_ne C 55 dX11_renew_40 (by decide) ?_ ?_
          · refine E_iload_n C dX11_renew_55 3 rfl ?_
            refine E_i2l C dX11_renew_56 ?_
            refine E_lconst C 0 dX11_renew_57 (by decide) ?_
            refine E_ldc2 C dX11_renew_58 k_X11_77 ?_
            refine E_callSI (st := []) C [.long v3.toInt64, .long ((0 : Int64)), .long ((99 : Int64))] (mX11_in v3.toInt64 ((0 : Int64)) ((99 : Int64)) μ14) cal_X11_in st_X11_in lk_X11_65 dX11_renew_61 rfl rfl (Nat.le_of_ble_eq_true rfl) (Nat.le_of_ble_eq_true rfl) (fun x61 μ61 => ?_)
            exact E_pick [0, 1, 2, 3] rfl (hj64 x61 μ61)
          · refine E_at (pc2 := 43) rfl ?_
            refine E_iload_n C dX11_renew_43 3 rfl ?_
            refine E_i2l C dX11_renew_44 ?_
            refine E_lconst C 1 dX11_renew_45 (by decide) ?_
            refine E_ldc2 C dX11_renew_46 k_X11_75 ?_
            refine E_callSI (st := []) C [.long v3.toInt64, .long ((1 : Int64)), .long ((9 : Int64))] (mX11_in v3.toInt64 ((1 : Int64)) ((9 : Int64)) μ14) cal_X11_in st_X11_in lk_X11_65 dX11_renew_49 rfl rfl (Nat.le_of_ble_eq_true rfl) (Nat.le_of_ble_eq_true rfl) (fun x49 μ49 => ?_)
            refine E_goto C 64 dX11_renew_52 (by decide) ?_
            exact E_pick [0, 1, 2, 3] rfl (hj64 x49 μ49)
        · refine E_at (pc2 := 26) rfl ?_
          refine E_iload_n C dX11_renew_26 3 rfl ?_
          refine E_i2l C dX11_renew_27 ?_
          refine E_lconst C 0 dX11_renew_28 (by decide) ?_
          refine E_ldc2 C dX11_renew_29 k_X11_75 ?_
          refine E_callSI (st := []) C [.long v3.toInt64, .long ((0 : Int64)), .long ((9 : Int64))] (mX11_in v3.toInt64 ((0 : Int64)) ((9 : Int64)) μ14) cal_X11_in st_X11_in lk_X11_65 dX11_renew_32 rfl rfl (Nat.le_of_ble_eq_true rfl) (Nat.le_of_ble_eq_true rfl) (fun x32 μ32 => ?_)
          refine E_goto C 64 dX11_renew_35 (by decide) ?_
          exact E_pick [0, 1, 2, 3] rfl (hj64 x32 μ32)
    · refine E_at (pc2 := 20) rfl ?_
      refine E_iconst C (-1) dX11_renew_20 (by decide) ?_
      exact E_iret C dX11_renew_21
def X11_drop_L29 (G : Mem → Option (Int32 × Mem)) (v0 : Nat) : Nat → Int32 → Mem → Option (Int32 × Mem)
  | 0, _, _ => none
  | n + 1, v2, μ => (gR μ v0 11 0).bind fun x35 => (aI μ 0 x35 ((73 : Int32))).bind fun x40 => if ((74 : Int32) + ((6 : Int32) * x40)) ≤ v2 then (G μ) else ((gR μ v0 11 0).bind fun x47 => (gR μ v0 11 0).bind fun x52 => (aI μ 0 x52 ((v2 + (6 : Int32)))).bind fun x59 => (sI μ x47 v2 x59).bind fun μ60 => X11_drop_L29 G v0 n ((v2 + 1)) μ60)
set_option maxHeartbeats 4000000 in
set_option maxRecDepth 100000 in
theorem X11_drop_L29_ok {p : Program} {l : Launch} {e : Env} {R : Room} {s : State} {m : MethodId} {args : Array Value} {below : List Frame} {meth : Method} {c : Code} {D : va_G} {ca : Nat → ClassId} {ad : Nat → Nat} {A : Nat → Prop} {X : State → Prop} (C : CX p R s m args meth c D ca ad A X cX11_drop RX11 3 (some .int) 2) {G : Mem → Option (Int32 × Mem)} (v0 : Nat) (hG : ∀  (μx : Mem), Sm p l e R s m args below meth c D ca ad A 3 0 0 wI (KQ below args s D ca ad A) 67 [(0, .ref v0)] [] μx (G  μx)) : ∀ (n : Nat) (v2 : Int32) (μ : Mem), Sm p l e R s m args below meth c D ca ad A 3 0 0 wI (KQ below args s D ca ad A) 29 [(0, .ref v0), (2, .int v2)] [] μ (X11_drop_L29 G v0 n v2 μ) := by
  intro n
  induction n with
  | zero =>
    intro v2 μ
    rw [X11_drop_L29]
    exact E_none
  | succ n ih =>
    intro v2 μ
    rw [X11_drop_L29]
    refine E_iload_n C dX11_drop_29 1 rfl ?_
    refine E_bipush C 74 dX11_drop_30 (by decide) ?_
    refine E_bipush C 6 dX11_drop_32 (by decide) ?_
    refine E_aload_n C dX11_drop_34 0 rfl ?_
    refine E_getR C F_X11_11 dX11_drop_35 (fun x35 => ?_)
    refine E_bipush C 73 dX11_drop_38 (by decide) ?_
    refine E_iaload C dX11_drop_40 (fun x40 => ?_)
    refine E_imul C dX11_drop_41 ?_
    refine E_iadd C dX11_drop_42 ?_
    refine E_icmp_ge C 67 dX11_drop_43 (by decide) ?_ ?_
    · exact E_pick [0] rfl (hG μ)
    · refine E_at (pc2 := 46) rfl ?_
      refine E_aload_n C dX11_drop_46 0 rfl ?_
      refine E_getR C F_X11_11 dX11_drop_47 (fun x47 => ?_)
      refine E_iload_n C dX11_drop_50 1 rfl ?_
      refine E_aload_n C dX11_drop_51 0 rfl ?_
      refine E_getR C F_X11_11 dX11_drop_52 (fun x52 => ?_)
      refine E_iload_n C dX11_drop_55 1 rfl ?_
      refine E_bipush C 6 dX11_drop_56 (by decide) ?_
      refine E_iadd C dX11_drop_58 ?_
      refine E_iaload C dX11_drop_59 (fun x59 => ?_)
      refine E_iastore C dX11_drop_60 (fun μ60 => ?_)
      refine E_iinc (lv' := [(2, .int ((v2 + 1))), (0, .ref v0)]) C (v2 + 1) dX11_drop_61 1 rfl rfl (by decide) rfl ?_
      refine E_goto C 29 dX11_drop_64 (by decide) ?_
      exact E_pick [1, 0] rfl (ih ((v2 + 1)) μ60)
def fX11_drop (v0 : Nat) (v1 : Int32) (μ : Mem) : Option (Int32 × Mem) :=
  (isC μ v0 11).bind fun _ => bd (fX11_isDemand v0 v1 μ) fun x2 μ2 => if x2 = 0 then (some ((-1 : Int32), μ2)) else ((gR μ2 v0 11 0).bind fun x11 => (aI μ2 0 x11 ((73 : Int32))).bind fun x17 => (sI μ2 x11 ((73 : Int32)) ((x17 - (1 : Int32)))).bind fun μ20 => X11_drop_L29 (fun μ_67 => (gR μ_67 v0 11 0).bind fun x68 => (aI μ_67 0 x68 ((73 : Int32))).bind fun x73 => some (x73, μ_67)) v0 FU (((74 : Int32) + ((6 : Int32) * v1))) μ20)
set_option maxHeartbeats 4000000 in
set_option maxRecDepth 100000 in
theorem mX11_drop (v0 : Nat) (v1 : Int32) (μ : Mem) : Meth wI yX11_drop cX11_drop 3 (some .int) 2 [.ref v0, .int v1] μ (fX11_drop v0 v1 μ) := by
  refine Meth.of (by decide) [(0, .ref v0), (1, .int v1)] rfl (Nat.le_of_ble_eq_true rfl) ?_
  intro p l e R s m args below meth c D ca ad A X C
  have C : CX p R s m args meth c D ca ad A X cX11_drop RX11 3 (some .int) 2 := C
  unfold fX11_drop
  refine E_aload_n C dX11_drop_0 0 rfl ?_
  refine E_iload_n C dX11_drop_1 1 rfl ?_
  refine E_callVI (st := []) C [.int v1] (mX11_isDemand v0 v1 μ) cal_X11_isDemand vir_X11_isDemand lk_X11_99 dX11_drop_2 rfl rfl (Nat.le_of_ble_eq_true rfl) (Nat.le_of_ble_eq_true rfl) (fun x2 μ2 => ?_)
  refine E_if_ne C 10 dX11_drop_5 (by decide) ?_ ?_
  · refine E_aload_n C dX11_drop_10 0 rfl ?_
    refine E_getR C F_X11_11 dX11_drop_11 (fun x11 => ?_)
    refine E_bipush C 73 dX11_drop_14 (by decide) ?_
    refine E_dup2_ir C dX11_drop_16 ?_
    refine E_iaload C dX11_drop_17 (fun x17 => ?_)
    refine E_iconst C 1 dX11_drop_18 (by decide) ?_
    refine E_isub C dX11_drop_19 ?_
    refine E_iastore C dX11_drop_20 (fun μ20 => ?_)
    refine E_bipush C 74 dX11_drop_21 (by decide) ?_
    refine E_bipush C 6 dX11_drop_23 (by decide) ?_
    refine E_iload_n C dX11_drop_25 1 rfl ?_
    refine E_imul C dX11_drop_26 ?_
    refine E_iadd C dX11_drop_27 ?_
    refine E_istore_n (lv' := [(2, .int (((74 : Int32) + ((6 : Int32) * v1)))), (0, .ref v0), (1, .int v1)]) C dX11_drop_28 (by decide) rfl ?_
    refine E_at (pc2 := 29) rfl ?_
    refine E_pick (lv' := [(0, .ref v0), (2, .int (((74 : Int32) + ((6 : Int32) * v1))))]) [1, 0] rfl ?_
    refine X11_drop_L29_ok C v0 (fun μ_67 => ?_) FU (((74 : Int32) + ((6 : Int32) * v1))) μ20
    refine E_aload_n C dX11_drop_67 0 rfl ?_
    refine E_getR C F_X11_11 dX11_drop_68 (fun x68 => ?_)
    refine E_bipush C 73 dX11_drop_71 (by decide) ?_
    refine E_iaload C dX11_drop_73 (fun x73 => ?_)
    exact E_iret C dX11_drop_74
  · refine E_at (pc2 := 8) rfl ?_
    refine E_iconst C (-1) dX11_drop_8 (by decide) ?_
    exact E_iret C dX11_drop_9
def fX11_told (v0 : Nat) (v1 : Int32) (μ : Mem) : Option (Int32 × Mem) :=
  if v1 = (4 : Int32) then ((gR μ v0 11 0).bind fun x6 => (aI μ 0 x6 ((73 : Int32))).bind fun x11 => some (x11, μ)) else (bd (fX11_in v1.toInt64 ((0 : Int64)) ((3 : Int64)) μ) fun x21 μ21 => if x21 = 0 then (some ((-1 : Int32), μ21)) else ((gR μ21 v0 11 0).bind fun x28 => (aI μ21 0 x28 v1).bind fun x32 => some (x32, μ21)))
set_option maxHeartbeats 4000000 in
set_option maxRecDepth 100000 in
theorem mX11_told (v0 : Nat) (v1 : Int32) (μ : Mem) : Meth wI yX11_told cX11_told 2 (some .int) 1 [.ref v0, .int v1] μ (fX11_told v0 v1 μ) := by
  refine Meth.of (by decide) [(0, .ref v0), (1, .int v1)] rfl (Nat.le_of_ble_eq_true rfl) ?_
  intro p l e R s m args below meth c D ca ad A X C
  have C : CX p R s m args meth c D ca ad A X cX11_told RX11 2 (some .int) 1 := C
  unfold fX11_told
  refine E_iload_n C dX11_told_0 1 rfl ?_
  refine E_iconst C 4 dX11_told_1 (by decide) ?_
  refine E_icmp_ne C 15 dX11_told_2 (by decide) ?_ ?_
  · refine E_iload_n C dX11_told_15 1 rfl ?_
    refine E_i2l C dX11_told_16 ?_
    refine E_lconst C 0 dX11_told_17 (by decide) ?_
    refine E_ldc2 C dX11_told_18 k_X11_71 ?_
    refine E_callSI (st := []) C [.long v1.toInt64, .long ((0 : Int64)), .long ((3 : Int64))] (mX11_in v1.toInt64 ((0 : Int64)) ((3 : Int64)) μ) cal_X11_in st_X11_in lk_X11_65 dX11_told_21 rfl rfl (Nat.le_of_ble_eq_true rfl) (Nat.le_of_ble_eq_true rfl) (fun x21 μ21 => ?_)
    refine E_if_eq C 36 dX11_told_24 (by decide) ?_ ?_
    · refine E_iconst C (-1) dX11_told_36 (by decide) ?_
      exact E_iret C dX11_told_37
    · refine E_at (pc2 := 27) rfl ?_
      refine E_aload_n C dX11_told_27 0 rfl ?_
      refine E_getR C F_X11_11 dX11_told_28 (fun x28 => ?_)
      refine E_iload_n C dX11_told_31 1 rfl ?_
      refine E_iaload C dX11_told_32 (fun x32 => ?_)
      refine E_goto C 37 dX11_told_33 (by decide) ?_
      exact E_iret C dX11_told_37
  · refine E_at (pc2 := 5) rfl ?_
    refine E_aload_n C dX11_told_5 0 rfl ?_
    refine E_getR C F_X11_11 dX11_told_6 (fun x6 => ?_)
    refine E_bipush C 73 dX11_told_9 (by decide) ?_
    refine E_iaload C dX11_told_11 (fun x11 => ?_)
    refine E_goto C 37 dX11_told_12 (by decide) ?_
    exact E_iret C dX11_told_37
def fX11_top (v0 : Nat) (v1 : Int32) (μ : Mem) : Option (Int32 × Mem) :=
  (gR μ v0 11 0).bind fun x2 => (aI μ 0 x2 ((0 : Int32))).bind fun x6 => (gR μ v0 11 0).bind fun x8 => (aI μ 0 x8 (((61 : Int32) + v1))).bind fun x15 => some ((mxI ((0 : Int32)) ((x6 - x15))), μ)
set_option maxHeartbeats 4000000 in
set_option maxRecDepth 100000 in
theorem mX11_top (v0 : Nat) (v1 : Int32) (μ : Mem) : Meth wI yX11_top cX11_top 2 (some .int) 1 [.ref v0, .int v1] μ (fX11_top v0 v1 μ) := by
  refine Meth.of (by decide) [(0, .ref v0), (1, .int v1)] rfl (Nat.le_of_ble_eq_true rfl) ?_
  intro p l e R s m args below meth c D ca ad A X C
  have C : CX p R s m args meth c D ca ad A X cX11_top RX11 2 (some .int) 1 := C
  unfold fX11_top
  refine E_iconst C 0 dX11_top_0 (by decide) ?_
  refine E_aload_n C dX11_top_1 0 rfl ?_
  refine E_getR C F_X11_11 dX11_top_2 (fun x2 => ?_)
  refine E_iconst C 0 dX11_top_5 (by decide) ?_
  refine E_iaload C dX11_top_6 (fun x6 => ?_)
  refine E_aload_n C dX11_top_7 0 rfl ?_
  refine E_getR C F_X11_11 dX11_top_8 (fun x8 => ?_)
  refine E_bipush C 61 dX11_top_11 (by decide) ?_
  refine E_iload_n C dX11_top_13 1 rfl ?_
  refine E_iadd C dX11_top_14 ?_
  refine E_iaload C dX11_top_15 (fun x15 => ?_)
  refine E_isub C dX11_top_16 ?_
  refine E_mmax C lk_X11_102 st_Math_max in_Math co_Math_max dX11_top_17 (Nat.le_of_ble_eq_true rfl) (Nat.le_of_ble_eq_true rfl) ?_
  exact E_iret C dX11_top_20
def fX11_monthOf (v0 : Nat) (v1 : Int32) (v2 : Int32) (μ : Mem) : Option (Int32 × Mem) :=
  bd (fX11_isMonth v1 μ) fun x1 μ1 => if x1 = 0 then (some ((-1 : Int32), μ1)) else (bd (fX11_in v2.toInt64 ((0 : Int64)) ((5 : Int64)) μ1) fun x13 μ13 => if x13 = 0 then (some ((-1 : Int32), μ13)) else (if (3 : Int32) ≤ v2 then (if v2 = (3 : Int32) then ((gR μ13 v0 11 0).bind fun x45 => (aI μ13 0 x45 (((49 : Int32) + v1))).bind fun x52 => some (x52, μ13)) else (if v2 = (4 : Int32) then ((gR μ13 v0 11 0).bind fun x62 => (aI μ13 0 x62 (((61 : Int32) + v1))).bind fun x69 => some (x69, μ13)) else ((isC μ13 v0 11).bind fun _ => bd (fX11_top v0 v1 μ13) fun x75 μ75 => some (x75, μ75)))) else ((gR μ13 v0 11 0).bind fun x27 => (aI μ13 0 x27 ((((4 : Int32) + ((3 : Int32) * v1)) + v2))).bind fun x37 => some (x37, μ13))))
set_option maxHeartbeats 4000000 in
set_option maxRecDepth 100000 in
theorem mX11_monthOf (v0 : Nat) (v1 : Int32) (v2 : Int32) (μ : Mem) : Meth wI yX11_monthOf cX11_monthOf 3 (some .int) 2 [.ref v0, .int v1, .int v2] μ (fX11_monthOf v0 v1 v2 μ) := by
  refine Meth.of (by decide) [(0, .ref v0), (1, .int v1), (2, .int v2)] rfl (Nat.le_of_ble_eq_true rfl) ?_
  intro p l e R s m args below meth c D ca ad A X C
  have C : CX p R s m args meth c D ca ad A X cX11_monthOf RX11 3 (some .int) 2 := C
  unfold fX11_monthOf
  refine E_iload_n C dX11_monthOf_0 1 rfl ?_
  refine E_callSI (st := []) C [.int v1] (mX11_isMonth v1 μ) cal_X11_isMonth st_X11_isMonth lk_X11_83 dX11_monthOf_1 rfl rfl (Nat.le_of_ble_eq_true rfl) (Nat.le_of_ble_eq_true rfl) (fun x1 μ1 => ?_)
  refine E_if_eq C 19 dX11_monthOf_4 (by decide) ?_ ?_
  · refine E_iconst C (-1) dX11_monthOf_19 (by decide) ?_
    exact E_iret C dX11_monthOf_20
  · refine E_at (pc2 := 7) rfl ?_
    refine E_iload_n C dX11_monthOf_7 2 rfl ?_
    refine E_i2l C dX11_monthOf_8 ?_
    refine E_lconst C 0 dX11_monthOf_9 (by decide) ?_
    refine E_ldc2 C dX11_monthOf_10 k_X11_107 ?_
    refine E_callSI (st := []) C [.long v2.toInt64, .long ((0 : Int64)), .long ((5 : Int64))] (mX11_in v2.toInt64 ((0 : Int64)) ((5 : Int64)) μ1) cal_X11_in st_X11_in lk_X11_65 dX11_monthOf_13 rfl rfl (Nat.le_of_ble_eq_true rfl) (Nat.le_of_ble_eq_true rfl) (fun x13 μ13 => ?_)
    refine E_if_ne C 21 dX11_monthOf_16 (by decide) ?_ ?_
    · refine E_iload_n C dX11_monthOf_21 2 rfl ?_
      refine E_iconst C 3 dX11_monthOf_22 (by decide) ?_
      refine E_icmp_ge C 39 dX11_monthOf_23 (by decide) ?_ ?_
      · refine E_iload_n C dX11_monthOf_39 2 rfl ?_
        refine E_iconst C 3 dX11_monthOf_40 (by decide) ?_
        refine E_icmp_ne C 56 dX11_monthOf_41 (by decide) ?_ ?_
        · refine E_iload_n C dX11_monthOf_56 2 rfl ?_
          refine E_iconst C 4 dX11_monthOf_57 (by decide) ?_
          refine E_icmp_ne C 73 dX11_monthOf_58 (by decide) ?_ ?_
          · refine E_aload_n C dX11_monthOf_73 0 rfl ?_
            refine E_iload_n C dX11_monthOf_74 1 rfl ?_
            refine E_callVI (st := []) C [.int v1] (mX11_top v0 v1 μ13) cal_X11_top vir_X11_top lk_X11_109 dX11_monthOf_75 rfl rfl (Nat.le_of_ble_eq_true rfl) (Nat.le_of_ble_eq_true rfl) (fun x75 μ75 => ?_)
            exact E_iret C dX11_monthOf_78
          · refine E_at (pc2 := 61) rfl ?_
            refine E_aload_n C dX11_monthOf_61 0 rfl ?_
            refine E_getR C F_X11_11 dX11_monthOf_62 (fun x62 => ?_)
            refine E_bipush C 61 dX11_monthOf_65 (by decide) ?_
            refine E_iload_n C dX11_monthOf_67 1 rfl ?_
            refine E_iadd C dX11_monthOf_68 ?_
            refine E_iaload C dX11_monthOf_69 (fun x69 => ?_)
            refine E_goto C 78 dX11_monthOf_70 (by decide) ?_
            exact E_iret C dX11_monthOf_78
        · refine E_at (pc2 := 44) rfl ?_
          refine E_aload_n C dX11_monthOf_44 0 rfl ?_
          refine E_getR C F_X11_11 dX11_monthOf_45 (fun x45 => ?_)
          refine E_bipush C 49 dX11_monthOf_48 (by decide) ?_
          refine E_iload_n C dX11_monthOf_50 1 rfl ?_
          refine E_iadd C dX11_monthOf_51 ?_
          refine E_iaload C dX11_monthOf_52 (fun x52 => ?_)
          refine E_goto C 78 dX11_monthOf_53 (by decide) ?_
          exact E_iret C dX11_monthOf_78
      · refine E_at (pc2 := 26) rfl ?_
        refine E_aload_n C dX11_monthOf_26 0 rfl ?_
        refine E_getR C F_X11_11 dX11_monthOf_27 (fun x27 => ?_)
        refine E_iconst C 4 dX11_monthOf_30 (by decide) ?_
        refine E_iconst C 3 dX11_monthOf_31 (by decide) ?_
        refine E_iload_n C dX11_monthOf_32 1 rfl ?_
        refine E_imul C dX11_monthOf_33 ?_
        refine E_iadd C dX11_monthOf_34 ?_
        refine E_iload_n C dX11_monthOf_35 2 rfl ?_
        refine E_iadd C dX11_monthOf_36 ?_
        refine E_iaload C dX11_monthOf_37 (fun x37 => ?_)
        exact E_iret C dX11_monthOf_38
    · refine E_at (pc2 := 19) rfl ?_
      refine E_iconst C (-1) dX11_monthOf_19 (by decide) ?_
      exact E_iret C dX11_monthOf_20
def fX11_partOf (v0 : Nat) (v1 : Int32) (v2 : Int32) (μ : Mem) : Option (Int32 × Mem) :=
  bd (fX11_isState v1 μ) fun x1 μ1 => if x1 = 0 then (some ((-1 : Int32), μ1)) else (bd (fX11_in v2.toInt64 ((0 : Int64)) ((3 : Int64)) μ1) fun x13 μ13 => if x13 = 0 then (some ((-1 : Int32), μ13)) else (if v2 = (3 : Int32) then ((isC μ13 v0 11).bind fun _ => bd (fX11_parts v0 v1 μ13) fun x28 μ28 => some (x28, μ28)) else ((isC μ13 v0 11).bind fun _ => bd (fX11_part v0 v1 v2 μ13) fun x37 μ37 => some (x37, μ37))))
set_option maxHeartbeats 4000000 in
set_option maxRecDepth 100000 in
theorem mX11_partOf (v0 : Nat) (v1 : Int32) (v2 : Int32) (μ : Mem) : Meth wI yX11_partOf cX11_partOf 3 (some .int) 2 [.ref v0, .int v1, .int v2] μ (fX11_partOf v0 v1 v2 μ) := by
  refine Meth.of (by decide) [(0, .ref v0), (1, .int v1), (2, .int v2)] rfl (Nat.le_of_ble_eq_true rfl) ?_
  intro p l e R s m args below meth c D ca ad A X C
  have C : CX p R s m args meth c D ca ad A X cX11_partOf RX11 3 (some .int) 2 := C
  unfold fX11_partOf
  refine E_iload_n C dX11_partOf_0 1 rfl ?_
  refine E_callSI (st := []) C [.int v1] (mX11_isState v1 μ) cal_X11_isState st_X11_isState lk_X11_87 dX11_partOf_1 rfl rfl (Nat.le_of_ble_eq_true rfl) (Nat.le_of_ble_eq_true rfl) (fun x1 μ1 => ?_)
  refine E_if_eq C 19 dX11_partOf_4 (by decide) ?_ ?_
  · refine E_iconst C (-1) dX11_partOf_19 (by decide) ?_
    exact E_iret C dX11_partOf_20
  · refine E_at (pc2 := 7) rfl ?_
    refine E_iload_n C dX11_partOf_7 2 rfl ?_
    refine E_i2l C dX11_partOf_8 ?_
    refine E_lconst C 0 dX11_partOf_9 (by decide) ?_
    refine E_ldc2 C dX11_partOf_10 k_X11_71 ?_
    refine E_callSI (st := []) C [.long v2.toInt64, .long ((0 : Int64)), .long ((3 : Int64))] (mX11_in v2.toInt64 ((0 : Int64)) ((3 : Int64)) μ1) cal_X11_in st_X11_in lk_X11_65 dX11_partOf_13 rfl rfl (Nat.le_of_ble_eq_true rfl) (Nat.le_of_ble_eq_true rfl) (fun x13 μ13 => ?_)
    refine E_if_ne C 21 dX11_partOf_16 (by decide) ?_ ?_
    · refine E_iload_n C dX11_partOf_21 2 rfl ?_
      refine E_iconst C 3 dX11_partOf_22 (by decide) ?_
      refine E_icmp_ne C 34 dX11_partOf_23 (by decide) ?_ ?_
      · refine E_aload_n C dX11_partOf_34 0 rfl ?_
        refine E_iload_n C dX11_partOf_35 1 rfl ?_
        refine E_iload_n C dX11_partOf_36 2 rfl ?_
        refine E_callVI (st := []) C [.int v1, .int v2] (mX11_part v0 v1 v2 μ13) cal_X11_part vir_X11_part lk_X11_90 dX11_partOf_37 rfl rfl (Nat.le_of_ble_eq_true rfl) (Nat.le_of_ble_eq_true rfl) (fun x37 μ37 => ?_)
        exact E_iret C dX11_partOf_40
      · refine E_at (pc2 := 26) rfl ?_
        refine E_aload_n C dX11_partOf_26 0 rfl ?_
        refine E_iload_n C dX11_partOf_27 1 rfl ?_
        refine E_callVI (st := []) C [.int v1] (mX11_parts v0 v1 μ13) cal_X11_parts vir_X11_parts lk_X11_93 dX11_partOf_28 rfl rfl (Nat.le_of_ble_eq_true rfl) (Nat.le_of_ble_eq_true rfl) (fun x28 μ28 => ?_)
        refine E_goto C 40 dX11_partOf_31 (by decide) ?_
        exact E_iret C dX11_partOf_40
    · refine E_at (pc2 := 19) rfl ?_
      refine E_iconst C (-1) dX11_partOf_19 (by decide) ?_
      exact E_iret C dX11_partOf_20
def fX11_isServedAhead (v0 : Nat) (v1 : Int32) (v2 : Int32) (μ : Mem) : Option (Int32 × Mem) :=
  (isC μ v0 11).bind fun _ => bd (fX11_at v0 v1 ((1 : Int32)) μ) fun x3 μ3 => (isC μ3 v0 11).bind fun _ => bd (fX11_at v0 v2 ((1 : Int32)) μ3) fun x9 μ9 => if x3 = x9 then (if v2 ≤ v1 then ((zz ((0 : Int32))).bind fun z => some (z, μ9)) else ((zz ((1 : Int32))).bind fun z => some (z, μ9))) else ((isC μ9 v0 11).bind fun _ => bd (fX11_at v0 v1 ((1 : Int32)) μ9) fun x18 μ18 => (isC μ18 v0 11).bind fun _ => bd (fX11_at v0 v2 ((1 : Int32)) μ18) fun x24 μ24 => if x24 ≤ x18 then ((zz ((0 : Int32))).bind fun z => some (z, μ24)) else ((zz ((1 : Int32))).bind fun z => some (z, μ24)))
set_option maxHeartbeats 4000000 in
set_option maxRecDepth 100000 in
theorem mX11_isServedAhead (v0 : Nat) (v1 : Int32) (v2 : Int32) (μ : Mem) : Meth wI yX11_isServedAhead cX11_isServedAhead 3 (some .boolean) 1 [.ref v0, .int v1, .int v2] μ (fX11_isServedAhead v0 v1 v2 μ) := by
  refine Meth.of (by decide) [(0, .ref v0), (1, .int v1), (2, .int v2)] rfl (Nat.le_of_ble_eq_true rfl) ?_
  intro p l e R s m args below meth c D ca ad A X C
  have C : CX p R s m args meth c D ca ad A X cX11_isServedAhead RX11 3 (some .boolean) 1 := C
  unfold fX11_isServedAhead
  refine E_aload_n C dX11_isServedAhead_0 0 rfl ?_
  refine E_iload_n C dX11_isServedAhead_1 1 rfl ?_
  refine E_iconst C 1 dX11_isServedAhead_2 (by decide) ?_
  refine E_callVI (st := []) C [.int v1, .int ((1 : Int32))] (mX11_at v0 v1 ((1 : Int32)) μ) cal_X11_at vir_X11_at lk_X11_112 dX11_isServedAhead_3 rfl rfl (Nat.le_of_ble_eq_true rfl) (Nat.le_of_ble_eq_true rfl) (fun x3 μ3 => ?_)
  refine E_aload_n C dX11_isServedAhead_6 0 rfl ?_
  refine E_iload_n C dX11_isServedAhead_7 2 rfl ?_
  refine E_iconst C 1 dX11_isServedAhead_8 (by decide) ?_
  refine E_callVI (st := [.int x3]) C [.int v2, .int ((1 : Int32))] (mX11_at v0 v2 ((1 : Int32)) μ3) cal_X11_at vir_X11_at lk_X11_112 dX11_isServedAhead_9 rfl rfl (Nat.le_of_ble_eq_true rfl) (Nat.le_of_ble_eq_true rfl) (fun x9 μ9 => ?_)
  refine E_icmp_eq C 38 dX11_isServedAhead_12 (by decide) ?_ ?_
  · refine E_iload_n C dX11_isServedAhead_38 1 rfl ?_
    refine E_iload_n C dX11_isServedAhead_39 2 rfl ?_
    refine E_icmp_ge C 47 dX11_isServedAhead_40 (by decide) ?_ ?_
    · refine E_iconst C 0 dX11_isServedAhead_47 (by decide) ?_
      exact E_zret C dX11_isServedAhead_48
    · refine E_at (pc2 := 43) rfl ?_
      refine E_iconst C 1 dX11_isServedAhead_43 (by decide) ?_
      refine E_goto C 48 dX11_isServedAhead_44 (by decide) ?_
      exact E_zret C dX11_isServedAhead_48
  · refine E_at (pc2 := 15) rfl ?_
    refine E_aload_n C dX11_isServedAhead_15 0 rfl ?_
    refine E_iload_n C dX11_isServedAhead_16 1 rfl ?_
    refine E_iconst C 1 dX11_isServedAhead_17 (by decide) ?_
    refine E_callVI (st := []) C [.int v1, .int ((1 : Int32))] (mX11_at v0 v1 ((1 : Int32)) μ9) cal_X11_at vir_X11_at lk_X11_112 dX11_isServedAhead_18 rfl rfl (Nat.le_of_ble_eq_true rfl) (Nat.le_of_ble_eq_true rfl) (fun x18 μ18 => ?_)
    refine E_aload_n C dX11_isServedAhead_21 0 rfl ?_
    refine E_iload_n C dX11_isServedAhead_22 2 rfl ?_
    refine E_iconst C 1 dX11_isServedAhead_23 (by decide) ?_
    refine E_callVI (st := [.int x18]) C [.int v2, .int ((1 : Int32))] (mX11_at v0 v2 ((1 : Int32)) μ18) cal_X11_at vir_X11_at lk_X11_112 dX11_isServedAhead_24 rfl rfl (Nat.le_of_ble_eq_true rfl) (Nat.le_of_ble_eq_true rfl) (fun x24 μ24 => ?_)
    refine E_icmp_ge C 34 dX11_isServedAhead_27 (by decide) ?_ ?_
    · refine E_iconst C 0 dX11_isServedAhead_34 (by decide) ?_
      refine E_goto C 48 dX11_isServedAhead_35 (by decide) ?_
      exact E_zret C dX11_isServedAhead_48
    · refine E_at (pc2 := 30) rfl ?_
      refine E_iconst C 1 dX11_isServedAhead_30 (by decide) ?_
      refine E_goto C 48 dX11_isServedAhead_31 (by decide) ?_
      exact E_zret C dX11_isServedAhead_48
def X11_rankOf_L4 (G : Int32 → Mem → Option (Int32 × Mem)) (v0 : Nat) (v1 : Int32) : Nat → Int32 → Int32 → Mem → Option (Int32 × Mem)
  | 0, _, _, _ => none
  | n + 1, v2, v3, μ => (gR μ v0 11 0).bind fun x6 => (aI μ 0 x6 ((73 : Int32))).bind fun x11 => if x11 ≤ v3 then (G v2 μ) else (if v3 = v1 then (X11_rankOf_L4 G v0 v1 n ((v2 + (0 : Int32))) ((v3 + 1)) μ) else ((isC μ v0 11).bind fun _ => bd (fX11_isServedAhead v0 v3 v1 μ) fun x24 μ24 => if x24 = 0 then (X11_rankOf_L4 G v0 v1 n ((v2 + (0 : Int32))) ((v3 + 1)) μ24) else (X11_rankOf_L4 G v0 v1 n ((v2 + (1 : Int32))) ((v3 + 1)) μ24)))
set_option maxHeartbeats 4000000 in
set_option maxRecDepth 100000 in
theorem X11_rankOf_L4_ok {p : Program} {l : Launch} {e : Env} {R : Room} {s : State} {m : MethodId} {args : Array Value} {below : List Frame} {meth : Method} {c : Code} {D : va_G} {ca : Nat → ClassId} {ad : Nat → Nat} {A : Nat → Prop} {X : State → Prop} (C : CX p R s m args meth c D ca ad A X cX11_rankOf RX11 4 (some .int) 2) {G : Int32 → Mem → Option (Int32 × Mem)} (v0 : Nat) (v1 : Int32) (hG : ∀ (v2x : Int32) (μx : Mem), Sm p l e R s m args below meth c D ca ad A 4 0 0 wI (KQ below args s D ca ad A) 43 [(2, .int v2x)] [] μx (G v2x μx)) : ∀ (n : Nat) (v2 : Int32) (v3 : Int32) (μ : Mem), Sm p l e R s m args below meth c D ca ad A 4 0 0 wI (KQ below args s D ca ad A) 4 [(0, .ref v0), (1, .int v1), (2, .int v2), (3, .int v3)] [] μ (X11_rankOf_L4 G v0 v1 n v2 v3 μ) := by
  intro n
  induction n with
  | zero =>
    intro v2 v3 μ
    rw [X11_rankOf_L4]
    exact E_none
  | succ n ih =>
    intro v2 v3 μ
    rw [X11_rankOf_L4]
    refine E_iload_n C dX11_rankOf_4 3 rfl ?_
    refine E_aload_n C dX11_rankOf_5 0 rfl ?_
    refine E_getR C F_X11_11 dX11_rankOf_6 (fun x6 => ?_)
    refine E_bipush C 73 dX11_rankOf_9 (by decide) ?_
    refine E_iaload C dX11_rankOf_11 (fun x11 => ?_)
    refine E_icmp_ge C 43 dX11_rankOf_12 (by decide) ?_ ?_
    · exact E_pick [2] rfl (hG v2 μ)
    · refine E_at (pc2 := 15) rfl ?_
      refine E_iload_n C dX11_rankOf_15 2 rfl ?_
      refine E_iload_n C dX11_rankOf_16 3 rfl ?_
      refine E_iload_n C dX11_rankOf_17 1 rfl ?_
      refine E_icmp_eq C 34 dX11_rankOf_18 (by decide) ?_ ?_
      · refine E_iconst C 0 dX11_rankOf_34 (by decide) ?_
        refine E_at (pc2 := 35) rfl ?_
        refine E_iadd C dX11_rankOf_35 ?_
        refine E_istore_n (lv' := [(2, .int ((v2 + (0 : Int32)))), (0, .ref v0), (1, .int v1), (3, .int v3)]) C dX11_rankOf_36 (by decide) rfl ?_
        refine E_iinc (lv' := [(3, .int ((v3 + 1))), (2, .int ((v2 + (0 : Int32)))), (0, .ref v0), (1, .int v1)]) C (v3 + 1) dX11_rankOf_37 3 rfl rfl (by decide) rfl ?_
        refine E_goto C 4 dX11_rankOf_40 (by decide) ?_
        exact E_pick [2, 3, 1, 0] rfl (ih ((v2 + (0 : Int32))) ((v3 + 1)) μ)
      · refine E_at (pc2 := 21) rfl ?_
        refine E_aload_n C dX11_rankOf_21 0 rfl ?_
        refine E_iload_n C dX11_rankOf_22 3 rfl ?_
        refine E_iload_n C dX11_rankOf_23 1 rfl ?_
        refine E_callVI (st := [.int v2]) C [.int v3, .int v1] (mX11_isServedAhead v0 v3 v1 μ) cal_X11_isServedAhead vir_X11_isServedAhead lk_X11_118 dX11_rankOf_24 rfl rfl (Nat.le_of_ble_eq_true rfl) (Nat.le_of_ble_eq_true rfl) (fun x24 μ24 => ?_)
        refine E_if_eq C 34 dX11_rankOf_27 (by decide) ?_ ?_
        · refine E_iconst C 0 dX11_rankOf_34 (by decide) ?_
          refine E_at (pc2 := 35) rfl ?_
          refine E_iadd C dX11_rankOf_35 ?_
          refine E_istore_n (lv' := [(2, .int ((v2 + (0 : Int32)))), (0, .ref v0), (1, .int v1), (3, .int v3)]) C dX11_rankOf_36 (by decide) rfl ?_
          refine E_iinc (lv' := [(3, .int ((v3 + 1))), (2, .int ((v2 + (0 : Int32)))), (0, .ref v0), (1, .int v1)]) C (v3 + 1) dX11_rankOf_37 3 rfl rfl (by decide) rfl ?_
          refine E_goto C 4 dX11_rankOf_40 (by decide) ?_
          exact E_pick [2, 3, 1, 0] rfl (ih ((v2 + (0 : Int32))) ((v3 + 1)) μ24)
        · refine E_at (pc2 := 30) rfl ?_
          refine E_iconst C 1 dX11_rankOf_30 (by decide) ?_
          refine E_goto C 35 dX11_rankOf_31 (by decide) ?_
          refine E_iadd C dX11_rankOf_35 ?_
          refine E_istore_n (lv' := [(2, .int ((v2 + (1 : Int32)))), (0, .ref v0), (1, .int v1), (3, .int v3)]) C dX11_rankOf_36 (by decide) rfl ?_
          refine E_iinc (lv' := [(3, .int ((v3 + 1))), (2, .int ((v2 + (1 : Int32)))), (0, .ref v0), (1, .int v1)]) C (v3 + 1) dX11_rankOf_37 3 rfl rfl (by decide) rfl ?_
          refine E_goto C 4 dX11_rankOf_40 (by decide) ?_
          exact E_pick [2, 3, 1, 0] rfl (ih ((v2 + (1 : Int32))) ((v3 + 1)) μ24)
def fX11_rankOf (v0 : Nat) (v1 : Int32) (μ : Mem) : Option (Int32 × Mem) :=
  X11_rankOf_L4 (fun v2_43 μ_43 => some (v2_43, μ_43)) v0 v1 FU ((0 : Int32)) ((0 : Int32)) μ
set_option maxHeartbeats 4000000 in
set_option maxRecDepth 100000 in
theorem mX11_rankOf (v0 : Nat) (v1 : Int32) (μ : Mem) : Meth wI yX11_rankOf cX11_rankOf 4 (some .int) 2 [.ref v0, .int v1] μ (fX11_rankOf v0 v1 μ) := by
  refine Meth.of (by decide) [(0, .ref v0), (1, .int v1)] rfl (Nat.le_of_ble_eq_true rfl) ?_
  intro p l e R s m args below meth c D ca ad A X C
  have C : CX p R s m args meth c D ca ad A X cX11_rankOf RX11 4 (some .int) 2 := C
  unfold fX11_rankOf
  refine E_iconst C 0 dX11_rankOf_0 (by decide) ?_
  refine E_istore_n (lv' := [(2, .int ((0 : Int32))), (0, .ref v0), (1, .int v1)]) C dX11_rankOf_1 (by decide) rfl ?_
  refine E_iconst C 0 dX11_rankOf_2 (by decide) ?_
  refine E_istore_n (lv' := [(3, .int ((0 : Int32))), (2, .int ((0 : Int32))), (0, .ref v0), (1, .int v1)]) C dX11_rankOf_3 (by decide) rfl ?_
  refine E_at (pc2 := 4) rfl ?_
  refine E_pick (lv' := [(0, .ref v0), (1, .int v1), (2, .int ((0 : Int32))), (3, .int ((0 : Int32)))]) [2, 3, 1, 0] rfl ?_
  refine X11_rankOf_L4_ok C v0 v1 (fun v2_43 μ_43 => ?_) FU ((0 : Int32)) ((0 : Int32)) μ
  refine E_iload_n C dX11_rankOf_43 0 rfl ?_
  exact E_iret C dX11_rankOf_44
def X11_byRank_L2 (G : Mem → Option (Int32 × Mem)) (v0 : Nat) (v1 : Int32) : Nat → Int32 → Mem → Option (Int32 × Mem)
  | 0, _, _ => none
  | n + 1, v2, μ => (gR μ v0 11 0).bind fun x4 => (aI μ 0 x4 ((73 : Int32))).bind fun x9 => if x9 ≤ v2 then (G μ) else ((isC μ v0 11).bind fun _ => bd (fX11_rankOf v0 v2 μ) fun x15 μ15 => if x15 = v1 then (some (v2, μ15)) else (X11_byRank_L2 G v0 v1 n ((v2 + 1)) μ15))
set_option maxHeartbeats 4000000 in
set_option maxRecDepth 100000 in
theorem X11_byRank_L2_ok {p : Program} {l : Launch} {e : Env} {R : Room} {s : State} {m : MethodId} {args : Array Value} {below : List Frame} {meth : Method} {c : Code} {D : va_G} {ca : Nat → ClassId} {ad : Nat → Nat} {A : Nat → Prop} {X : State → Prop} (C : CX p R s m args meth c D ca ad A X cX11_byRank RX11 3 (some .int) 3) {G : Mem → Option (Int32 × Mem)} (v0 : Nat) (v1 : Int32) (hG : ∀  (μx : Mem), Sm p l e R s m args below meth c D ca ad A 3 0 0 wI (KQ below args s D ca ad A) 30 [] [] μx (G  μx)) : ∀ (n : Nat) (v2 : Int32) (μ : Mem), Sm p l e R s m args below meth c D ca ad A 3 0 0 wI (KQ below args s D ca ad A) 2 [(0, .ref v0), (1, .int v1), (2, .int v2)] [] μ (X11_byRank_L2 G v0 v1 n v2 μ) := by
  intro n
  induction n with
  | zero =>
    intro v2 μ
    rw [X11_byRank_L2]
    exact E_none
  | succ n ih =>
    intro v2 μ
    rw [X11_byRank_L2]
    refine E_iload_n C dX11_byRank_2 2 rfl ?_
    refine E_aload_n C dX11_byRank_3 0 rfl ?_
    refine E_getR C F_X11_11 dX11_byRank_4 (fun x4 => ?_)
    refine E_bipush C 73 dX11_byRank_7 (by decide) ?_
    refine E_iaload C dX11_byRank_9 (fun x9 => ?_)
    refine E_icmp_ge C 30 dX11_byRank_10 (by decide) ?_ ?_
    · exact E_pick [] rfl (hG μ)
    · refine E_at (pc2 := 13) rfl ?_
      refine E_aload_n C dX11_byRank_13 0 rfl ?_
      refine E_iload_n C dX11_byRank_14 2 rfl ?_
      refine E_callVI (st := []) C [.int v2] (mX11_rankOf v0 v2 μ) cal_X11_rankOf vir_X11_rankOf lk_X11_115 dX11_byRank_15 rfl rfl (Nat.le_of_ble_eq_true rfl) (Nat.le_of_ble_eq_true rfl) (fun x15 μ15 => ?_)
      refine E_iload_n C dX11_byRank_18 1 rfl ?_
      refine E_icmp_ne C 24 dX11_byRank_19 (by decide) ?_ ?_
      · refine E_iinc (lv' := [(2, .int ((v2 + 1))), (0, .ref v0), (1, .int v1)]) C (v2 + 1) dX11_byRank_24 2 rfl rfl (by decide) rfl ?_
        refine E_goto C 2 dX11_byRank_27 (by decide) ?_
        exact E_pick [1, 2, 0] rfl (ih ((v2 + 1)) μ15)
      · refine E_at (pc2 := 22) rfl ?_
        refine E_iload_n C dX11_byRank_22 2 rfl ?_
        exact E_iret C dX11_byRank_23
def fX11_byRank (v0 : Nat) (v1 : Int32) (μ : Mem) : Option (Int32 × Mem) :=
  X11_byRank_L2 (fun μ_30 => some ((-1 : Int32), μ_30)) v0 v1 FU ((0 : Int32)) μ
set_option maxHeartbeats 4000000 in
set_option maxRecDepth 100000 in
theorem mX11_byRank (v0 : Nat) (v1 : Int32) (μ : Mem) : Meth wI yX11_byRank cX11_byRank 3 (some .int) 3 [.ref v0, .int v1] μ (fX11_byRank v0 v1 μ) := by
  refine Meth.of (by decide) [(0, .ref v0), (1, .int v1)] rfl (Nat.le_of_ble_eq_true rfl) ?_
  intro p l e R s m args below meth c D ca ad A X C
  have C : CX p R s m args meth c D ca ad A X cX11_byRank RX11 3 (some .int) 3 := C
  unfold fX11_byRank
  refine E_iconst C 0 dX11_byRank_0 (by decide) ?_
  refine E_istore_n (lv' := [(2, .int ((0 : Int32))), (0, .ref v0), (1, .int v1)]) C dX11_byRank_1 (by decide) rfl ?_
  refine E_at (pc2 := 2) rfl ?_
  refine E_pick (lv' := [(0, .ref v0), (1, .int v1), (2, .int ((0 : Int32)))]) [1, 2, 0] rfl ?_
  refine X11_byRank_L2_ok C v0 v1 (fun μ_30 => ?_) FU ((0 : Int32)) μ
  refine E_iconst C (-1) dX11_byRank_30 (by decide) ?_
  exact E_iret C dX11_byRank_31
def fX11_demandOf (v0 : Nat) (v1 : Int32) (v2 : Int32) (μ : Mem) : Option (Int32 × Mem) :=
  (isC μ v0 11).bind fun _ => bd (fX11_isDemand v0 v1 μ) fun x2 μ2 => if x2 = 0 then (some ((-1 : Int32), μ2)) else (bd (fX11_in v2.toInt64 ((0 : Int64)) ((6 : Int64)) μ2) fun x14 μ14 => if x14 = 0 then (some ((-1 : Int32), μ14)) else (if v2 = (6 : Int32) then ((isC μ14 v0 11).bind fun _ => bd (fX11_rankOf v0 v1 μ14) fun x30 μ30 => some (x30, μ30)) else ((isC μ14 v0 11).bind fun _ => bd (fX11_at v0 v1 v2 μ14) fun x39 μ39 => some (x39, μ39))))
set_option maxHeartbeats 4000000 in
set_option maxRecDepth 100000 in
theorem mX11_demandOf (v0 : Nat) (v1 : Int32) (v2 : Int32) (μ : Mem) : Meth wI yX11_demandOf cX11_demandOf 3 (some .int) 3 [.ref v0, .int v1, .int v2] μ (fX11_demandOf v0 v1 v2 μ) := by
  refine Meth.of (by decide) [(0, .ref v0), (1, .int v1), (2, .int v2)] rfl (Nat.le_of_ble_eq_true rfl) ?_
  intro p l e R s m args below meth c D ca ad A X C
  have C : CX p R s m args meth c D ca ad A X cX11_demandOf RX11 3 (some .int) 3 := C
  unfold fX11_demandOf
  refine E_aload_n C dX11_demandOf_0 0 rfl ?_
  refine E_iload_n C dX11_demandOf_1 1 rfl ?_
  refine E_callVI (st := []) C [.int v1] (mX11_isDemand v0 v1 μ) cal_X11_isDemand vir_X11_isDemand lk_X11_99 dX11_demandOf_2 rfl rfl (Nat.le_of_ble_eq_true rfl) (Nat.le_of_ble_eq_true rfl) (fun x2 μ2 => ?_)
  refine E_if_eq C 20 dX11_demandOf_5 (by decide) ?_ ?_
  · refine E_iconst C (-1) dX11_demandOf_20 (by decide) ?_
    exact E_iret C dX11_demandOf_21
  · refine E_at (pc2 := 8) rfl ?_
    refine E_iload_n C dX11_demandOf_8 2 rfl ?_
    refine E_i2l C dX11_demandOf_9 ?_
    refine E_lconst C 0 dX11_demandOf_10 (by decide) ?_
    refine E_ldc2 C dX11_demandOf_11 k_X11_122 ?_
    refine E_callSI (st := []) C [.long v2.toInt64, .long ((0 : Int64)), .long ((6 : Int64))] (mX11_in v2.toInt64 ((0 : Int64)) ((6 : Int64)) μ2) cal_X11_in st_X11_in lk_X11_65 dX11_demandOf_14 rfl rfl (Nat.le_of_ble_eq_true rfl) (Nat.le_of_ble_eq_true rfl) (fun x14 μ14 => ?_)
    refine E_if_ne C 22 dX11_demandOf_17 (by decide) ?_ ?_
    · refine E_iload_n C dX11_demandOf_22 2 rfl ?_
      refine E_bipush C 6 dX11_demandOf_23 (by decide) ?_
      refine E_icmp_ne C 36 dX11_demandOf_25 (by decide) ?_ ?_
      · refine E_aload_n C dX11_demandOf_36 0 rfl ?_
        refine E_iload_n C dX11_demandOf_37 1 rfl ?_
        refine E_iload_n C dX11_demandOf_38 2 rfl ?_
        refine E_callVI (st := []) C [.int v1, .int v2] (mX11_at v0 v1 v2 μ14) cal_X11_at vir_X11_at lk_X11_112 dX11_demandOf_39 rfl rfl (Nat.le_of_ble_eq_true rfl) (Nat.le_of_ble_eq_true rfl) (fun x39 μ39 => ?_)
        exact E_iret C dX11_demandOf_42
      · refine E_at (pc2 := 28) rfl ?_
        refine E_aload_n C dX11_demandOf_28 0 rfl ?_
        refine E_iload_n C dX11_demandOf_29 1 rfl ?_
        refine E_callVI (st := []) C [.int v1] (mX11_rankOf v0 v1 μ14) cal_X11_rankOf vir_X11_rankOf lk_X11_115 dX11_demandOf_30 rfl rfl (Nat.le_of_ble_eq_true rfl) (Nat.le_of_ble_eq_true rfl) (fun x30 μ30 => ?_)
        refine E_goto C 42 dX11_demandOf_33 (by decide) ?_
        exact E_iret C dX11_demandOf_42
    · refine E_at (pc2 := 20) rfl ?_
      refine E_iconst C (-1) dX11_demandOf_20 (by decide) ?_
      exact E_iret C dX11_demandOf_21
def fX11_taken (v0 : Nat) (v1 : Int32) (v2 : Int32) (μ : Mem) : Option (Int32 × Mem) :=
  (isC μ v0 11).bind fun _ => bd (fX11_isDemand v0 v1 μ) fun x2 μ2 => if x2 = 0 then (some ((-1 : Int32), μ2)) else (bd (fX11_in v2.toInt64 ((0 : Int64)) ((4 : Int64)) μ2) fun x16 μ16 => if x16 = 0 then (some ((-2 : Int32), μ16)) else ((isC μ16 v0 11).bind fun _ => bd (fX11_at v0 v1 ((0 : Int32)) μ16) fun x28 μ28 => if v2 = 0 then (some (x28, μ28)) else (if x28 = v2 then (some (x28, μ28)) else (if v2 = (1 : Int32) then (if x28 = (3 : Int32) then (some (x28, μ28)) else (some ((-12 : Int32), μ28))) else (some ((-12 : Int32), μ28))))))
set_option maxHeartbeats 4000000 in
set_option maxRecDepth 100000 in
theorem mX11_taken (v0 : Nat) (v1 : Int32) (v2 : Int32) (μ : Mem) : Meth wI yX11_taken cX11_taken 4 (some .int) 2 [.ref v0, .int v1, .int v2] μ (fX11_taken v0 v1 v2 μ) := by
  refine Meth.of (by decide) [(0, .ref v0), (1, .int v1), (2, .int v2)] rfl (Nat.le_of_ble_eq_true rfl) ?_
  intro p l e R s m args below meth c D ca ad A X C
  have C : CX p R s m args meth c D ca ad A X cX11_taken RX11 4 (some .int) 2 := C
  unfold fX11_taken
  refine E_aload_n C dX11_taken_0 0 rfl ?_
  refine E_iload_n C dX11_taken_1 1 rfl ?_
  refine E_callVI (st := []) C [.int v1] (mX11_isDemand v0 v1 μ) cal_X11_isDemand vir_X11_isDemand lk_X11_99 dX11_taken_2 rfl rfl (Nat.le_of_ble_eq_true rfl) (Nat.le_of_ble_eq_true rfl) (fun x2 μ2 => ?_)
  refine E_if_ne C 10 dX11_taken_5 (by decide) ?_ ?_
  · refine E_iload_n C dX11_taken_10 2 rfl ?_
    refine E_i2l C dX11_taken_11 ?_
    refine E_lconst C 0 dX11_taken_12 (by decide) ?_
    refine E_ldc2 C dX11_taken_13 k_X11_97 ?_
    refine E_callSI (st := []) C [.long v2.toInt64, .long ((0 : Int64)), .long ((4 : Int64))] (mX11_in v2.toInt64 ((0 : Int64)) ((4 : Int64)) μ2) cal_X11_in st_X11_in lk_X11_65 dX11_taken_16 rfl rfl (Nat.le_of_ble_eq_true rfl) (Nat.le_of_ble_eq_true rfl) (fun x16 μ16 => ?_)
    refine E_if_ne C 25 dX11_taken_19 (by decide) ?_ ?_
    · refine E_aload_n C dX11_taken_25 0 rfl ?_
      refine E_iload_n C dX11_taken_26 1 rfl ?_
      refine E_iconst C 0 dX11_taken_27 (by decide) ?_
      refine E_callVI (st := []) C [.int v1, .int ((0 : Int32))] (mX11_at v0 v1 ((0 : Int32)) μ16) cal_X11_at vir_X11_at lk_X11_112 dX11_taken_28 rfl rfl (Nat.le_of_ble_eq_true rfl) (Nat.le_of_ble_eq_true rfl) (fun x28 μ28 => ?_)
      refine E_istore_n (lv' := [(3, .int x28), (0, .ref v0), (1, .int v1), (2, .int v2)]) C dX11_taken_31 (by decide) rfl ?_
      refine E_iload_n C dX11_taken_32 3 rfl ?_
      refine E_if_eq C 51 dX11_taken_33 (by decide) ?_ ?_
      · refine E_iload_n C dX11_taken_51 0 rfl ?_
        refine E_goto C 57 dX11_taken_52 (by decide) ?_
        exact E_iret C dX11_taken_57
      · refine E_at (pc2 := 36) rfl ?_
        refine E_iload_n C dX11_taken_36 0 rfl ?_
        refine E_iload_n C dX11_taken_37 3 rfl ?_
        refine E_icmp_eq C 51 dX11_taken_38 (by decide) ?_ ?_
        · refine E_iload_n C dX11_taken_51 0 rfl ?_
          refine E_goto C 57 dX11_taken_52 (by decide) ?_
          exact E_iret C dX11_taken_57
        · refine E_at (pc2 := 41) rfl ?_
          refine E_iload_n C dX11_taken_41 3 rfl ?_
          refine E_iconst C 1 dX11_taken_42 (by decide) ?_
          refine E_icmp_ne C 55 dX11_taken_43 (by decide) ?_ ?_
          · refine E_bipush C (-12) dX11_taken_55 (by decide) ?_
            exact E_iret C dX11_taken_57
          · refine E_at (pc2 := 46) rfl ?_
            refine E_iload_n C dX11_taken_46 0 rfl ?_
            refine E_iconst C 3 dX11_taken_47 (by decide) ?_
            refine E_icmp_ne C 55 dX11_taken_48 (by decide) ?_ ?_
            · refine E_bipush C (-12) dX11_taken_55 (by decide) ?_
              exact E_iret C dX11_taken_57
            · refine E_at (pc2 := 51) rfl ?_
              refine E_iload_n C dX11_taken_51 0 rfl ?_
              refine E_goto C 57 dX11_taken_52 (by decide) ?_
              exact E_iret C dX11_taken_57
    · refine E_at (pc2 := 22) rfl ?_
      refine E_bipush C (-2) dX11_taken_22 (by decide) ?_
      exact E_iret C dX11_taken_24
  · refine E_at (pc2 := 8) rfl ?_
    refine E_iconst C (-1) dX11_taken_8 (by decide) ?_
    exact E_iret C dX11_taken_9
def fX11_wants (v0 : Nat) (v1 : Int32) (v2 : Int32) (μ : Mem) : Option (Int32 × Mem) :=
  (isC μ v0 11).bind fun _ => bd (fX11_at v0 v1 ((4 : Int32)) μ) fun x3 μ3 => (isC μ3 v0 11).bind fun _ => bd (fX11_at v0 v1 ((5 : Int32)) μ3) fun x10 μ10 => jn (fun (s0_50 : Int32) (μ_50 : Mem) => if s0_50 = 0 then (some ((0 : Int32), μ_50)) else ((gI μ_50 v0 11 3).bind fun x58 => if ((x58 >>> (v1 &&& 31)) &&& (1 : Int32)) = (1 : Int32) then (some ((0 : Int32), μ_50)) else ((isC μ_50 v0 11).bind fun _ => bd (fX11_at v0 v1 ((0 : Int32)) μ_50) fun x74 μ74 => jn (fun  (μ_106 : Mem) => (isC μ_106 v0 11).bind fun _ => bd (fX11_at v0 v1 ((2 : Int32)) μ_106) fun x109 μ109 => some (x109, μ109)) (fun j106 => if x74 = (2 : Int32) then (bd (fX11_in v2.toInt64 ((5 : Int64)) ((8 : Int64)) μ74) fun x89 μ89 => if x89 = 0 then (j106 μ89) else ((isC μ89 v0 11).bind fun _ => bd (fX11_at v0 v1 ((2 : Int32)) μ89) fun x99 μ99 => some (((2 : Int32) * x99), μ99))) else (j106 μ74))))) (fun j50 => if x10 < x3 then (jn (fun  (μ_45 : Mem) => j50 ((1 : Int32)) μ_45) (fun j45 => if x3 ≤ v2 then (j45 μ10) else (if x10 < v2 then (j50 ((0 : Int32)) μ10) else (j45 μ10)))) else (bd (fX11_in v2.toInt64 x3.toInt64 x10.toInt64 μ10) fun x28 μ28 => j50 x28 μ28))
set_option maxHeartbeats 4000000 in
set_option maxRecDepth 100000 in
theorem mX11_wants (v0 : Nat) (v1 : Int32) (v2 : Int32) (μ : Mem) : Meth wI yX11_wants cX11_wants 6 (some .int) 1 [.ref v0, .int v1, .int v2] μ (fX11_wants v0 v1 v2 μ) := by
  refine Meth.of (by decide) [(0, .ref v0), (1, .int v1), (2, .int v2)] rfl (Nat.le_of_ble_eq_true rfl) ?_
  intro p l e R s m args below meth c D ca ad A X C
  have C : CX p R s m args meth c D ca ad A X cX11_wants RX11 6 (some .int) 1 := C
  unfold fX11_wants
  refine E_aload_n C dX11_wants_0 0 rfl ?_
  refine E_iload_n C dX11_wants_1 1 rfl ?_
  refine E_iconst C 4 dX11_wants_2 (by decide) ?_
  refine E_callVI (st := []) C [.int v1, .int ((4 : Int32))] (mX11_at v0 v1 ((4 : Int32)) μ) cal_X11_at vir_X11_at lk_X11_112 dX11_wants_3 rfl rfl (Nat.le_of_ble_eq_true rfl) (Nat.le_of_ble_eq_true rfl) (fun x3 μ3 => ?_)
  refine E_istore_n (lv' := [(3, .int x3), (0, .ref v0), (1, .int v1), (2, .int v2)]) C dX11_wants_6 (by decide) rfl ?_
  refine E_aload_n C dX11_wants_7 1 rfl ?_
  refine E_iload_n C dX11_wants_8 2 rfl ?_
  refine E_iconst C 5 dX11_wants_9 (by decide) ?_
  refine E_callVI (st := []) C [.int v1, .int ((5 : Int32))] (mX11_at v0 v1 ((5 : Int32)) μ3) cal_X11_at vir_X11_at lk_X11_112 dX11_wants_10 rfl rfl (Nat.le_of_ble_eq_true rfl) (Nat.le_of_ble_eq_true rfl) (fun x10 μ10 => ?_)
  refine E_istore (lv' := [(4, .int x10), (3, .int x3), (0, .ref v0), (1, .int v1), (2, .int v2)]) C dX11_wants_13 (by decide) rfl ?_
  refine E_iload_n C dX11_wants_15 1 rfl ?_
  refine E_iload C dX11_wants_16 0 rfl ?_
  refine E_jn (fun j50 => ∀ (s0_50 : Int32) (μ_50 : Mem), Sm p l e R s m args below meth c D ca ad A 6 0 0 wI (KQ below args s D ca ad A) 50 [(0, .ref v0), (1, .int v1), (2, .int v2)] [.int s0_50] μ_50 (j50 s0_50 μ_50)) ?_ (fun j50 hj50 => ?_)
  · intro s0_50 μ_50
    refine E_istore (lv' := [(5, .int s0_50), (0, .ref v0), (1, .int v1), (2, .int v2)]) C dX11_wants_50 (by decide) rfl ?_
    refine E_iload C dX11_wants_52 0 rfl ?_
    refine E_if_eq C 69 dX11_wants_54 (by decide) ?_ ?_
    · refine E_iconst C 0 dX11_wants_69 (by decide) ?_
      exact E_iret C dX11_wants_70
    · refine E_at (pc2 := 57) rfl ?_
      refine E_aload_n C dX11_wants_57 1 rfl ?_
      refine E_getI C F_X11_124 dX11_wants_58 (fun x58 => ?_)
      refine E_iload_n C dX11_wants_61 2 rfl ?_
      refine E_ishr C dX11_wants_62 ?_
      refine E_iconst C 1 dX11_wants_63 (by decide) ?_
      refine E_iand C dX11_wants_64 ?_
      refine E_iconst C 1 dX11_wants_65 (by decide) ?_
      refine E_icmp_ne C 71 dX11_wants_66 (by decide) ?_ ?_
      · refine E_aload_n C dX11_wants_71 1 rfl ?_
        refine E_iload_n C dX11_wants_72 2 rfl ?_
        refine E_iconst C 0 dX11_wants_73 (by decide) ?_
        refine E_callVI (st := []) C [.int v1, .int ((0 : Int32))] (mX11_at v0 v1 ((0 : Int32)) μ_50) cal_X11_at vir_X11_at lk_X11_112 dX11_wants_74 rfl rfl (Nat.le_of_ble_eq_true rfl) (Nat.le_of_ble_eq_true rfl) (fun x74 μ74 => ?_)
        refine E_iconst C 2 dX11_wants_77 (by decide) ?_
        refine E_jn (fun j106 => ∀  (μ_106 : Mem), Sm p l e R s m args below meth c D ca ad A 6 0 0 wI (KQ below args s D ca ad A) 106 [(0, .ref v0), (1, .int v1)] [] μ_106 (j106  μ_106)) ?_ (fun j106 hj106 => ?_)
        · intro  μ_106
          refine E_aload_n C dX11_wants_106 0 rfl ?_
          refine E_iload_n C dX11_wants_107 1 rfl ?_
          refine E_iconst C 2 dX11_wants_108 (by decide) ?_
          refine E_callVI (st := []) C [.int v1, .int ((2 : Int32))] (mX11_at v0 v1 ((2 : Int32)) μ_106) cal_X11_at vir_X11_at lk_X11_112 dX11_wants_109 rfl rfl (Nat.le_of_ble_eq_true rfl) (Nat.le_of_ble_eq_true rfl) (fun x109 μ109 => ?_)
          exact E_iret C dX11_wants_112
        · refine E_icmp_ne C 106 dX11_wants_78 (by decide) ?_ ?_
          · exact E_pick [1, 2] rfl (hj106 μ74)
          · refine E_at (pc2 := 81) rfl ?_
            refine E_iload_n C dX11_wants_81 3 rfl ?_
            refine E_i2l C dX11_wants_82 ?_
            refine E_ldc2 C dX11_wants_83 k_X11_107 ?_
            refine E_ldc2 C dX11_wants_86 k_X11_128 ?_
            refine E_callSI (st := []) C [.long v2.toInt64, .long ((5 : Int64)), .long ((8 : Int64))] (mX11_in v2.toInt64 ((5 : Int64)) ((8 : Int64)) μ74) cal_X11_in st_X11_in lk_X11_65 dX11_wants_89 rfl rfl (Nat.le_of_ble_eq_true rfl) (Nat.le_of_ble_eq_true rfl) (fun x89 μ89 => ?_)
            refine E_if_eq C 106 dX11_wants_92 (by decide) ?_ ?_
            · exact E_pick [1, 2] rfl (hj106 μ89)
            · refine E_at (pc2 := 95) rfl ?_
              refine E_iconst C 2 dX11_wants_95 (by decide) ?_
              refine E_aload_n C dX11_wants_96 1 rfl ?_
              refine E_iload_n C dX11_wants_97 2 rfl ?_
              refine E_iconst C 2 dX11_wants_98 (by decide) ?_
              refine E_callVI (st := [.int ((2 : Int32))]) C [.int v1, .int ((2 : Int32))] (mX11_at v0 v1 ((2 : Int32)) μ89) cal_X11_at vir_X11_at lk_X11_112 dX11_wants_99 rfl rfl (Nat.le_of_ble_eq_true rfl) (Nat.le_of_ble_eq_true rfl) (fun x99 μ99 => ?_)
              refine E_imul C dX11_wants_102 ?_
              refine E_goto C 112 dX11_wants_103 (by decide) ?_
              exact E_iret C dX11_wants_112
      · refine E_at (pc2 := 69) rfl ?_
        refine E_iconst C 0 dX11_wants_69 (by decide) ?_
        exact E_iret C dX11_wants_70
  · refine E_icmp_gt C 34 dX11_wants_18 (by decide) ?_ ?_
    · refine E_iload_n C dX11_wants_34 4 rfl ?_
      refine E_iload_n C dX11_wants_35 1 rfl ?_
      refine E_jn (fun j45 => ∀  (μ_45 : Mem), Sm p l e R s m args below meth c D ca ad A 6 0 0 wI (KQ below args s D ca ad A) 45 [(0, .ref v0), (1, .int v1), (2, .int v2)] [] μ_45 (j45  μ_45)) ?_ (fun j45 hj45 => ?_)
      · intro  μ_45
        refine E_iconst C 1 dX11_wants_45 (by decide) ?_
        refine E_goto C 50 dX11_wants_46 (by decide) ?_
        exact E_pick [0, 1, 2] rfl (hj50 ((1 : Int32)) μ_45)
      · refine E_icmp_ge C 45 dX11_wants_36 (by decide) ?_ ?_
        · exact E_pick [2, 3, 4] rfl (hj45 μ10)
        · refine E_at (pc2 := 39) rfl ?_
          refine E_iload_n C dX11_wants_39 4 rfl ?_
          refine E_iload C dX11_wants_40 0 rfl ?_
          refine E_icmp_gt C 49 dX11_wants_42 (by decide) ?_ ?_
          · refine E_iconst C 0 dX11_wants_49 (by decide) ?_
            exact E_pick [2, 3, 4] rfl (hj50 ((0 : Int32)) μ10)
          · exact E_pick [2, 3, 4] rfl (hj45 μ10)
    · refine E_at (pc2 := 21) rfl ?_
      refine E_iload_n C dX11_wants_21 4 rfl ?_
      refine E_i2l C dX11_wants_22 ?_
      refine E_iload_n C dX11_wants_23 1 rfl ?_
      refine E_i2l C dX11_wants_24 ?_
      refine E_iload C dX11_wants_25 0 rfl ?_
      refine E_i2l C dX11_wants_27 ?_
      refine E_callSI (st := []) C [.long v2.toInt64, .long x3.toInt64, .long x10.toInt64] (mX11_in v2.toInt64 x3.toInt64 x10.toInt64 μ10) cal_X11_in st_X11_in lk_X11_65 dX11_wants_28 rfl rfl (Nat.le_of_ble_eq_true rfl) (Nat.le_of_ble_eq_true rfl) (fun x28 μ28 => ?_)
      refine E_goto C 50 dX11_wants_31 (by decide) ?_
      exact E_pick [2, 3, 4] rfl (hj50 x28 μ28)
def fX11_wanted (v0 : Nat) (v1 : Int32) (v2 : Int32) (μ : Mem) : Option (Int32 × Mem) :=
  (isC μ v0 11).bind fun _ => bd (fX11_isDemand v0 v1 μ) fun x2 μ2 => if x2 = 0 then (some ((-1 : Int32), μ2)) else (bd (fX11_isMonth v2 μ2) fun x9 μ9 => if x9 = 0 then (some ((-1 : Int32), μ9)) else ((isC μ9 v0 11).bind fun _ => bd (fX11_wants v0 v1 v2 μ9) fun x18 μ18 => some (x18, μ18)))
set_option maxHeartbeats 4000000 in
set_option maxRecDepth 100000 in
theorem mX11_wanted (v0 : Nat) (v1 : Int32) (v2 : Int32) (μ : Mem) : Meth wI yX11_wanted cX11_wanted 3 (some .int) 2 [.ref v0, .int v1, .int v2] μ (fX11_wanted v0 v1 v2 μ) := by
  refine Meth.of (by decide) [(0, .ref v0), (1, .int v1), (2, .int v2)] rfl (Nat.le_of_ble_eq_true rfl) ?_
  intro p l e R s m args below meth c D ca ad A X C
  have C : CX p R s m args meth c D ca ad A X cX11_wanted RX11 3 (some .int) 2 := C
  unfold fX11_wanted
  refine E_aload_n C dX11_wanted_0 0 rfl ?_
  refine E_iload_n C dX11_wanted_1 1 rfl ?_
  refine E_callVI (st := []) C [.int v1] (mX11_isDemand v0 v1 μ) cal_X11_isDemand vir_X11_isDemand lk_X11_99 dX11_wanted_2 rfl rfl (Nat.le_of_ble_eq_true rfl) (Nat.le_of_ble_eq_true rfl) (fun x2 μ2 => ?_)
  refine E_if_eq C 24 dX11_wanted_5 (by decide) ?_ ?_
  · refine E_iconst C (-1) dX11_wanted_24 (by decide) ?_
    exact E_iret C dX11_wanted_25
  · refine E_at (pc2 := 8) rfl ?_
    refine E_iload_n C dX11_wanted_8 2 rfl ?_
    refine E_callSI (st := []) C [.int v2] (mX11_isMonth v2 μ2) cal_X11_isMonth st_X11_isMonth lk_X11_83 dX11_wanted_9 rfl rfl (Nat.le_of_ble_eq_true rfl) (Nat.le_of_ble_eq_true rfl) (fun x9 μ9 => ?_)
    refine E_if_eq C 24 dX11_wanted_12 (by decide) ?_ ?_
    · refine E_iconst C (-1) dX11_wanted_24 (by decide) ?_
      exact E_iret C dX11_wanted_25
    · refine E_at (pc2 := 15) rfl ?_
      refine E_aload_n C dX11_wanted_15 0 rfl ?_
      refine E_iload_n C dX11_wanted_16 1 rfl ?_
      refine E_iload_n C dX11_wanted_17 2 rfl ?_
      refine E_callVI (st := []) C [.int v1, .int v2] (mX11_wants v0 v1 v2 μ9) cal_X11_wants vir_X11_wants lk_X11_130 dX11_wanted_18 rfl rfl (Nat.le_of_ble_eq_true rfl) (Nat.le_of_ble_eq_true rfl) (fun x18 μ18 => ?_)
      refine E_goto C 25 dX11_wanted_21 (by decide) ?_
      exact E_iret C dX11_wanted_25
def X11_gain_L28 (G : Int32 → Mem → Option (Int32 × Mem)) (v2 : Int32) : Nat → Int32 → Int32 → Int32 → Mem → Option (Int32 × Mem)
  | 0, _, _, _, _ => none
  | n + 1, v4, v6, v7, μ => if v2 ≤ v7 then (G v6 μ) else ((dvI v4 ((2 : Int32))).bind fun x44 => X11_gain_L28 G v2 n x44 ((v6 + v4)) ((v7 + 1)) μ)
set_option maxHeartbeats 4000000 in
set_option maxRecDepth 100000 in
theorem X11_gain_L28_ok {p : Program} {l : Launch} {e : Env} {R : Room} {s : State} {m : MethodId} {args : Array Value} {below : List Frame} {meth : Method} {c : Code} {D : va_G} {ca : Nat → ClassId} {ad : Nat → Nat} {A : Nat → Prop} {X : State → Prop} (C : CX p R s m args meth c D ca ad A X cX11_gain RX11 8 (some .int) 1) {G : Int32 → Mem → Option (Int32 × Mem)} (v2 : Int32) (hG : ∀ (v6x : Int32) (μx : Mem), Sm p l e R s m args below meth c D ca ad A 8 0 0 wI (KQ below args s D ca ad A) 53 [(6, .int v6x)] [] μx (G v6x μx)) : ∀ (n : Nat) (v4 : Int32) (v6 : Int32) (v7 : Int32) (μ : Mem), Sm p l e R s m args below meth c D ca ad A 8 0 0 wI (KQ below args s D ca ad A) 28 [(2, .int v2), (4, .int v4), (6, .int v6), (7, .int v7)] [] μ (X11_gain_L28 G v2 n v4 v6 v7 μ) := by
  intro n
  induction n with
  | zero =>
    intro v4 v6 v7 μ
    rw [X11_gain_L28]
    exact E_none
  | succ n ih =>
    intro v4 v6 v7 μ
    rw [X11_gain_L28]
    refine E_iload C dX11_gain_28 3 rfl ?_
    refine E_iload_n C dX11_gain_30 0 rfl ?_
    refine E_icmp_ge C 53 dX11_gain_31 (by decide) ?_ ?_
    · exact E_pick [2] rfl (hG v6 μ)
    · refine E_at (pc2 := 34) rfl ?_
      refine E_iload C dX11_gain_34 2 rfl ?_
      refine E_iload C dX11_gain_36 1 rfl ?_
      refine E_iadd C dX11_gain_38 ?_
      refine E_istore (lv' := [(6, .int ((v6 + v4))), (2, .int v2), (4, .int v4), (7, .int v7)]) C dX11_gain_39 (by decide) rfl ?_
      refine E_iload C dX11_gain_41 2 rfl ?_
      refine E_iconst C 2 dX11_gain_43 (by decide) ?_
      refine E_idiv C dX11_gain_44 (fun x44 => ?_)
      refine E_istore (lv' := [(4, .int x44), (6, .int ((v6 + v4))), (2, .int v2), (7, .int v7)]) C dX11_gain_45 (by decide) rfl ?_
      refine E_iinc (lv' := [(7, .int ((v7 + 1))), (4, .int x44), (6, .int ((v6 + v4))), (2, .int v2)]) C (v7 + 1) dX11_gain_47 3 rfl rfl (by decide) rfl ?_
      refine E_goto C 28 dX11_gain_50 (by decide) ?_
      exact E_pick [3, 1, 2, 0] rfl (ih x44 ((v6 + v4)) ((v7 + 1)) μ)
def fX11_gain (v0 : Nat) (v1 : Int32) (v2 : Int32) (v3 : Int32) (μ : Mem) : Option (Int32 × Mem) :=
  (isC μ v0 11).bind fun _ => bd (fX11_at v0 v1 ((3 : Int32)) μ) fun x3 μ3 => (isC μ3 v0 11).bind fun _ => bd (fX11_at v0 v1 ((0 : Int32)) μ3) fun x11 μ11 => if x11 = (4 : Int32) then (X11_gain_L28 (fun v6_53 μ_53 => some (v6_53, μ_53)) v2 FU x3 ((0 : Int32)) ((0 : Int32)) μ11) else (jn (fun (v6_85 : Int32) (μ_85 : Mem) => if x11 = (3 : Int32) then (if v3 ≤ 0 then (some (v6_85, μ_85)) else (if v2 = v3 then ((dvI x3 ((2 : Int32))).bind fun x105 => some ((v6_85 + x105), μ_85)) else (some (v6_85, μ_85)))) else (some (v6_85, μ_85))) (fun j85 => jn (fun  (μ_74 : Mem) => j85 (((v2 * x3) - ((v3 - v2) * x3))) μ_74) (fun j74 => if x11 = (1 : Int32) then (j74 μ11) else (if x11 = (3 : Int32) then (j74 μ11) else (j85 ((v2 * x3)) μ11)))))
set_option maxHeartbeats 4000000 in
set_option maxRecDepth 100000 in
theorem mX11_gain (v0 : Nat) (v1 : Int32) (v2 : Int32) (v3 : Int32) (μ : Mem) : Meth wI yX11_gain cX11_gain 8 (some .int) 1 [.ref v0, .int v1, .int v2, .int v3] μ (fX11_gain v0 v1 v2 v3 μ) := by
  refine Meth.of (by decide) [(0, .ref v0), (1, .int v1), (2, .int v2), (3, .int v3)] rfl (Nat.le_of_ble_eq_true rfl) ?_
  intro p l e R s m args below meth c D ca ad A X C
  have C : CX p R s m args meth c D ca ad A X cX11_gain RX11 8 (some .int) 1 := C
  unfold fX11_gain
  refine E_aload_n C dX11_gain_0 0 rfl ?_
  refine E_iload_n C dX11_gain_1 1 rfl ?_
  refine E_iconst C 3 dX11_gain_2 (by decide) ?_
  refine E_callVI (st := []) C [.int v1, .int ((3 : Int32))] (mX11_at v0 v1 ((3 : Int32)) μ) cal_X11_at vir_X11_at lk_X11_112 dX11_gain_3 rfl rfl (Nat.le_of_ble_eq_true rfl) (Nat.le_of_ble_eq_true rfl) (fun x3 μ3 => ?_)
  refine E_istore (lv' := [(4, .int x3), (0, .ref v0), (1, .int v1), (2, .int v2), (3, .int v3)]) C dX11_gain_6 (by decide) rfl ?_
  refine E_aload_n C dX11_gain_8 1 rfl ?_
  refine E_iload_n C dX11_gain_9 2 rfl ?_
  refine E_iconst C 0 dX11_gain_10 (by decide) ?_
  refine E_callVI (st := []) C [.int v1, .int ((0 : Int32))] (mX11_at v0 v1 ((0 : Int32)) μ3) cal_X11_at vir_X11_at lk_X11_112 dX11_gain_11 rfl rfl (Nat.le_of_ble_eq_true rfl) (Nat.le_of_ble_eq_true rfl) (fun x11 μ11 => ?_)
  refine E_istore (lv' := [(5, .int x11), (4, .int x3), (0, .ref v0), (1, .int v1), (2, .int v2), (3, .int v3)]) C dX11_gain_14 (by decide) rfl ?_
  refine E_iload C dX11_gain_16 0 rfl ?_
  refine E_iconst C 4 dX11_gain_18 (by decide) ?_
  refine E_icmp_ne C 56 dX11_gain_19 (by decide) ?_ ?_
  · refine E_iload_n C dX11_gain_56 4 rfl ?_
    refine E_iload C dX11_gain_57 1 rfl ?_
    refine E_imul C dX11_gain_59 ?_
    refine E_istore (lv' := [(6, .int ((v2 * x3))), (5, .int x11), (4, .int x3), (0, .ref v0), (1, .int v1), (2, .int v2), (3, .int v3)]) C dX11_gain_60 (by decide) rfl ?_
    refine E_iload C dX11_gain_62 1 rfl ?_
    refine E_iconst C 1 dX11_gain_64 (by decide) ?_
    refine E_jn (fun j85 => ∀ (v6_85 : Int32) (μ_85 : Mem), Sm p l e R s m args below meth c D ca ad A 8 0 0 wI (KQ below args s D ca ad A) 85 [(2, .int v2), (3, .int v3), (4, .int x3), (5, .int x11), (6, .int v6_85)] [] μ_85 (j85 v6_85 μ_85)) ?_ (fun j85 hj85 => ?_)
    · intro v6_85 μ_85
      refine E_iload C dX11_gain_85 3 rfl ?_
      refine E_iconst C 3 dX11_gain_87 (by decide) ?_
      refine E_icmp_ne C 110 dX11_gain_88 (by decide) ?_ ?_
      · refine E_iload C dX11_gain_110 4 rfl ?_
        exact E_iret C dX11_gain_112
      · refine E_at (pc2 := 91) rfl ?_
        refine E_iload_n C dX11_gain_91 1 rfl ?_
        refine E_if_le C 110 dX11_gain_92 (by decide) ?_ ?_
        · refine E_iload C dX11_gain_110 4 rfl ?_
          exact E_iret C dX11_gain_112
        · refine E_at (pc2 := 95) rfl ?_
          refine E_iload_n C dX11_gain_95 0 rfl ?_
          refine E_iload_n C dX11_gain_96 1 rfl ?_
          refine E_icmp_ne C 110 dX11_gain_97 (by decide) ?_ ?_
          · refine E_iload C dX11_gain_110 4 rfl ?_
            exact E_iret C dX11_gain_112
          · refine E_at (pc2 := 100) rfl ?_
            refine E_iload C dX11_gain_100 4 rfl ?_
            refine E_iload C dX11_gain_102 2 rfl ?_
            refine E_iconst C 2 dX11_gain_104 (by decide) ?_
            refine E_idiv C dX11_gain_105 (fun x105 => ?_)
            refine E_iadd C dX11_gain_106 ?_
            refine E_goto C 112 dX11_gain_107 (by decide) ?_
            exact E_iret C dX11_gain_112
    · refine E_jn (fun j74 => ∀  (μ_74 : Mem), Sm p l e R s m args below meth c D ca ad A 8 0 0 wI (KQ below args s D ca ad A) 74 [(2, .int v2), (3, .int v3), (4, .int x3), (5, .int x11), (6, .int ((v2 * x3)))] [] μ_74 (j74  μ_74)) ?_ (fun j74 hj74 => ?_)
      · intro  μ_74
        refine E_iload C dX11_gain_74 4 rfl ?_
        refine E_iload_n C dX11_gain_76 1 rfl ?_
        refine E_iload_n C dX11_gain_77 0 rfl ?_
        refine E_isub C dX11_gain_78 ?_
        refine E_iload C dX11_gain_79 2 rfl ?_
        refine E_imul C dX11_gain_81 ?_
        refine E_isub C dX11_gain_82 ?_
        refine E_istore (lv' := [(6, .int (((v2 * x3) - ((v3 - v2) * x3)))), (2, .int v2), (3, .int v3), (4, .int x3), (5, .int x11)]) C dX11_gain_83 (by decide) rfl ?_
        exact E_pick [1, 2, 3, 4, 0] rfl (hj85 (((v2 * x3) - ((v3 - v2) * x3))) μ_74)
      · refine E_icmp_eq C 74 dX11_gain_65 (by decide) ?_ ?_
        · exact E_pick [5, 6, 2, 1, 0] rfl (hj74 μ11)
        · refine E_at (pc2 := 68) rfl ?_
          refine E_iload C dX11_gain_68 1 rfl ?_
          refine E_iconst C 3 dX11_gain_70 (by decide) ?_
          refine E_icmp_ne C 85 dX11_gain_71 (by decide) ?_ ?_
          · exact E_pick [5, 6, 2, 1, 0] rfl (hj85 ((v2 * x3)) μ11)
          · exact E_pick [5, 6, 2, 1, 0] rfl (hj74 μ11)
  · refine E_at (pc2 := 22) rfl ?_
    refine E_iconst C 0 dX11_gain_22 (by decide) ?_
    refine E_istore (lv' := [(6, .int ((0 : Int32))), (5, .int x11), (4, .int x3), (0, .ref v0), (1, .int v1), (2, .int v2), (3, .int v3)]) C dX11_gain_23 (by decide) rfl ?_
    refine E_iconst C 0 dX11_gain_25 (by decide) ?_
    refine E_istore (lv' := [(7, .int ((0 : Int32))), (6, .int ((0 : Int32))), (5, .int x11), (4, .int x3), (0, .ref v0), (1, .int v1), (2, .int v2), (3, .int v3)]) C dX11_gain_26 (by decide) rfl ?_
    refine E_at (pc2 := 28) rfl ?_
    refine E_pick (lv' := [(2, .int v2), (4, .int x3), (6, .int ((0 : Int32))), (7, .int ((0 : Int32)))]) [6, 3, 1, 0] rfl ?_
    refine X11_gain_L28_ok C v2 (fun v6_53 μ_53 => ?_) FU x3 ((0 : Int32)) ((0 : Int32)) μ11
    refine E_iload C dX11_gain_53 0 rfl ?_
    exact E_iret C dX11_gain_55
def X11_ranks_L2 (G : Mem → Option (Unit × Mem)) (v0 : Nat) : Nat → Int32 → Mem → Option (Unit × Mem)
  | 0, _, _ => none
  | n + 1, v1, μ => (gR μ v0 11 0).bind fun x4 => (aI μ 0 x4 ((73 : Int32))).bind fun x9 => if x9 ≤ v1 then (G μ) else ((gR μ v0 11 9).bind fun x14 => (isC μ v0 11).bind fun _ => bd (fX11_byRank v0 v1 μ) fun x20 μ20 => (sI μ20 x14 v1 x20).bind fun μ23 => X11_ranks_L2 G v0 n ((v1 + 1)) μ23)
set_option maxHeartbeats 4000000 in
set_option maxRecDepth 100000 in
theorem X11_ranks_L2_ok {p : Program} {l : Launch} {e : Env} {R : Room} {s : State} {m : MethodId} {args : Array Value} {below : List Frame} {meth : Method} {c : Code} {D : va_G} {ca : Nat → ClassId} {ad : Nat → Nat} {A : Nat → Prop} {X : State → Prop} (C : CX p R s m args meth c D ca ad A X cX11_ranks RX11 2 none 4) {G : Mem → Option (Unit × Mem)} (v0 : Nat) (hG : ∀  (μx : Mem), Sm p l e R s m args below meth c D ca ad A 2 0 0 wU (KQ below args s D ca ad A) 30 [] [] μx (G  μx)) : ∀ (n : Nat) (v1 : Int32) (μ : Mem), Sm p l e R s m args below meth c D ca ad A 2 0 0 wU (KQ below args s D ca ad A) 2 [(0, .ref v0), (1, .int v1)] [] μ (X11_ranks_L2 G v0 n v1 μ) := by
  intro n
  induction n with
  | zero =>
    intro v1 μ
    rw [X11_ranks_L2]
    exact E_none
  | succ n ih =>
    intro v1 μ
    rw [X11_ranks_L2]
    refine E_iload_n C dX11_ranks_2 1 rfl ?_
    refine E_aload_n C dX11_ranks_3 0 rfl ?_
    refine E_getR C F_X11_11 dX11_ranks_4 (fun x4 => ?_)
    refine E_bipush C 73 dX11_ranks_7 (by decide) ?_
    refine E_iaload C dX11_ranks_9 (fun x9 => ?_)
    refine E_icmp_ge C 30 dX11_ranks_10 (by decide) ?_ ?_
    · exact E_pick [] rfl (hG μ)
    · refine E_at (pc2 := 13) rfl ?_
      refine E_aload_n C dX11_ranks_13 0 rfl ?_
      refine E_getR C F_X11_34 dX11_ranks_14 (fun x14 => ?_)
      refine E_iload_n C dX11_ranks_17 1 rfl ?_
      refine E_aload_n C dX11_ranks_18 0 rfl ?_
      refine E_iload_n C dX11_ranks_19 1 rfl ?_
      refine E_callVI (st := [.int v1, .ref x14]) C [.int v1] (mX11_byRank v0 v1 μ) cal_X11_byRank vir_X11_byRank lk_X11_133 dX11_ranks_20 rfl rfl (Nat.le_of_ble_eq_true rfl) (Nat.le_of_ble_eq_true rfl) (fun x20 μ20 => ?_)
      refine E_iastore C dX11_ranks_23 (fun μ23 => ?_)
      refine E_iinc (lv' := [(1, .int ((v1 + 1))), (0, .ref v0)]) C (v1 + 1) dX11_ranks_24 1 rfl rfl (by decide) rfl ?_
      refine E_goto C 2 dX11_ranks_27 (by decide) ?_
      exact E_pick [1, 0] rfl (ih ((v1 + 1)) μ23)
def fX11_ranks (v0 : Nat) (μ : Mem) : Option (Unit × Mem) :=
  X11_ranks_L2 (fun μ_30 => some ((), μ_30)) v0 FU ((0 : Int32)) μ
set_option maxHeartbeats 4000000 in
set_option maxRecDepth 100000 in
theorem mX11_ranks (v0 : Nat) (μ : Mem) : Meth wU yX11_ranks cX11_ranks 2 none 4 [.ref v0] μ (fX11_ranks v0 μ) := by
  refine Meth.of (by decide) [(0, .ref v0)] rfl (Nat.le_of_ble_eq_true rfl) ?_
  intro p l e R s m args below meth c D ca ad A X C
  have C : CX p R s m args meth c D ca ad A X cX11_ranks RX11 2 none 4 := C
  unfold fX11_ranks
  refine E_iconst C 0 dX11_ranks_0 (by decide) ?_
  refine E_istore_n (lv' := [(1, .int ((0 : Int32))), (0, .ref v0)]) C dX11_ranks_1 (by decide) rfl ?_
  refine E_at (pc2 := 2) rfl ?_
  refine E_pick (lv' := [(0, .ref v0), (1, .int ((0 : Int32)))]) [1, 0] rfl ?_
  refine X11_ranks_L2_ok C v0 (fun μ_30 => ?_) FU ((0 : Int32)) μ
  exact E_ret C dX11_ranks_30
def X11_serves_L8 (G : Int32 → Mem → Option (Int32 × Mem)) (v0 : Nat) (v1 : Int32) : Nat → Int32 → Int32 → Int32 → Mem → Option (Int32 × Mem)
  | 0, _, _, _, _ => none
  | n + 1, v3, v4, v5, μ => (gR μ v0 11 0).bind fun x11 => (aI μ 0 x11 ((73 : Int32))).bind fun x16 => if x16 ≤ v5 then (G v4 μ) else ((gR μ v0 11 9).bind fun x21 => (aI μ 0 x21 v5).bind fun x26 => (gI μ v0 11 3).bind fun x30 => if ((x30 >>> (x26 &&& 31)) &&& (1 : Int32)) = (1 : Int32) then ((gR μ v0 11 8).bind fun x43 => (sI μ x43 x26 ((0 : Int32))).bind fun μ49 => X11_serves_L8 G v0 v1 n v3 v4 ((v5 + 1)) μ49) else ((isC μ v0 11).bind fun _ => bd (fX11_wants v0 x26 v1 μ) fun x57 μ57 => (gR μ57 v0 11 8).bind fun x63 => (sI μ57 x63 x26 ((mnI x57 v3))).bind fun μ74 => (gR μ74 v0 11 8).bind fun x77 => (aI μ74 0 x77 x26).bind fun x82 => (gR μ74 v0 11 8).bind fun x91 => (aI μ74 0 x91 x26).bind fun x96 => (isC μ74 v0 11).bind fun _ => bd (fX11_gain v0 x26 x96 x57 μ74) fun x99 μ99 => X11_serves_L8 G v0 v1 n ((v3 - x82)) ((v4 + x99)) ((v5 + 1)) μ99))
set_option maxHeartbeats 4000000 in
set_option maxRecDepth 100000 in
theorem X11_serves_L8_ok {p : Program} {l : Launch} {e : Env} {R : Room} {s : State} {m : MethodId} {args : Array Value} {below : List Frame} {meth : Method} {c : Code} {D : va_G} {ca : Nat → ClassId} {ad : Nat → Nat} {A : Nat → Prop} {X : State → Prop} (C : CX p R s m args meth c D ca ad A X cX11_serves RX11 8 (some .int) 2) {G : Int32 → Mem → Option (Int32 × Mem)} (v0 : Nat) (v1 : Int32) (hG : ∀ (v4x : Int32) (μx : Mem), Sm p l e R s m args below meth c D ca ad A 8 0 0 wI (KQ below args s D ca ad A) 111 [(4, .int v4x)] [] μx (G v4x μx)) : ∀ (n : Nat) (v3 : Int32) (v4 : Int32) (v5 : Int32) (μ : Mem), Sm p l e R s m args below meth c D ca ad A 8 0 0 wI (KQ below args s D ca ad A) 8 [(0, .ref v0), (1, .int v1), (3, .int v3), (4, .int v4), (5, .int v5)] [] μ (X11_serves_L8 G v0 v1 n v3 v4 v5 μ) := by
  intro n
  induction n with
  | zero =>
    intro v3 v4 v5 μ
    rw [X11_serves_L8]
    exact E_none
  | succ n ih =>
    intro v3 v4 v5 μ
    rw [X11_serves_L8]
    refine E_iload C dX11_serves_8 4 rfl ?_
    refine E_aload_n C dX11_serves_10 0 rfl ?_
    refine E_getR C F_X11_11 dX11_serves_11 (fun x11 => ?_)
    refine E_bipush C 73 dX11_serves_14 (by decide) ?_
    refine E_iaload C dX11_serves_16 (fun x16 => ?_)
    refine E_icmp_ge C 111 dX11_serves_17 (by decide) ?_ ?_
    · exact E_pick [3] rfl (hG v4 μ)
    · refine E_at (pc2 := 20) rfl ?_
      refine E_aload_n C dX11_serves_20 0 rfl ?_
      refine E_getR C F_X11_34 dX11_serves_21 (fun x21 => ?_)
      refine E_iload C dX11_serves_24 4 rfl ?_
      refine E_iaload C dX11_serves_26 (fun x26 => ?_)
      refine E_istore (lv' := [(6, .int x26), (0, .ref v0), (1, .int v1), (3, .int v3), (4, .int v4), (5, .int v5)]) C dX11_serves_27 (by decide) rfl ?_
      refine E_aload_n C dX11_serves_29 1 rfl ?_
      refine E_getI C F_X11_124 dX11_serves_30 (fun x30 => ?_)
      refine E_iload C dX11_serves_33 0 rfl ?_
      refine E_ishr C dX11_serves_35 ?_
      refine E_iconst C 1 dX11_serves_36 (by decide) ?_
      refine E_iand C dX11_serves_37 ?_
      refine E_iconst C 1 dX11_serves_38 (by decide) ?_
      refine E_icmp_ne C 53 dX11_serves_39 (by decide) ?_ ?_
      · refine E_aload_n C dX11_serves_53 1 rfl ?_
        refine E_iload C dX11_serves_54 0 rfl ?_
        refine E_iload_n C dX11_serves_56 2 rfl ?_
        refine E_callVI (st := []) C [.int x26, .int v1] (mX11_wants v0 x26 v1 μ) cal_X11_wants vir_X11_wants lk_X11_130 dX11_serves_57 rfl rfl (Nat.le_of_ble_eq_true rfl) (Nat.le_of_ble_eq_true rfl) (fun x57 μ57 => ?_)
        refine E_istore (lv' := [(7, .int x57), (6, .int x26), (0, .ref v0), (1, .int v1), (3, .int v3), (4, .int v4), (5, .int v5)]) C dX11_serves_60 (by decide) rfl ?_
        refine E_aload_n C dX11_serves_62 2 rfl ?_
        refine E_getR C F_X11_31 dX11_serves_63 (fun x63 => ?_)
        refine E_iload C dX11_serves_66 1 rfl ?_
        refine E_iload C dX11_serves_68 0 rfl ?_
        refine E_iload_n C dX11_serves_70 4 rfl ?_
        refine E_mmin C lk_X11_136 st_Math_min in_Math co_Math_min dX11_serves_71 (Nat.le_of_ble_eq_true rfl) (Nat.le_of_ble_eq_true rfl) ?_
        refine E_iastore C dX11_serves_74 (fun μ74 => ?_)
        refine E_iload_n C dX11_serves_75 4 rfl ?_
        refine E_aload_n C dX11_serves_76 2 rfl ?_
        refine E_getR C F_X11_31 dX11_serves_77 (fun x77 => ?_)
        refine E_iload C dX11_serves_80 1 rfl ?_
        refine E_iaload C dX11_serves_82 (fun x82 => ?_)
        refine E_isub C dX11_serves_83 ?_
        refine E_istore_n (lv' := [(3, .int ((v3 - x82))), (7, .int x57), (6, .int x26), (0, .ref v0), (1, .int v1), (4, .int v4), (5, .int v5)]) C dX11_serves_84 (by decide) rfl ?_
        refine E_iload C dX11_serves_85 5 rfl ?_
        refine E_aload_n C dX11_serves_87 3 rfl ?_
        refine E_iload C dX11_serves_88 2 rfl ?_
        refine E_aload_n C dX11_serves_90 3 rfl ?_
        refine E_getR C F_X11_31 dX11_serves_91 (fun x91 => ?_)
        refine E_iload C dX11_serves_94 2 rfl ?_
        refine E_iaload C dX11_serves_96 (fun x96 => ?_)
        refine E_iload C dX11_serves_97 1 rfl ?_
        refine E_callVI (st := [.int v4]) C [.int x26, .int x96, .int x57] (mX11_gain v0 x26 x96 x57 μ74) cal_X11_gain vir_X11_gain lk_X11_139 dX11_serves_99 rfl rfl (Nat.le_of_ble_eq_true rfl) (Nat.le_of_ble_eq_true rfl) (fun x99 μ99 => ?_)
        refine E_iadd C dX11_serves_102 ?_
        refine E_istore (lv' := [(4, .int ((v4 + x99))), (3, .int ((v3 - x82))), (7, .int x57), (6, .int x26), (0, .ref v0), (1, .int v1), (5, .int v5)]) C dX11_serves_103 (by decide) rfl ?_
        refine E_at (pc2 := 105) rfl ?_
        refine E_iinc (lv' := [(5, .int ((v5 + 1))), (4, .int ((v4 + x99))), (3, .int ((v3 - x82))), (7, .int x57), (6, .int x26), (0, .ref v0), (1, .int v1)]) C (v5 + 1) dX11_serves_105 6 rfl rfl (by decide) rfl ?_
        refine E_goto C 8 dX11_serves_108 (by decide) ?_
        exact E_pick [5, 6, 2, 1, 0] rfl (ih ((v3 - x82)) ((v4 + x99)) ((v5 + 1)) μ99)
      · refine E_at (pc2 := 42) rfl ?_
        refine E_aload_n C dX11_serves_42 1 rfl ?_
        refine E_getR C F_X11_31 dX11_serves_43 (fun x43 => ?_)
        refine E_iload C dX11_serves_46 0 rfl ?_
        refine E_iconst C 0 dX11_serves_48 (by decide) ?_
        refine E_iastore C dX11_serves_49 (fun μ49 => ?_)
        refine E_goto C 105 dX11_serves_50 (by decide) ?_
        refine E_iinc (lv' := [(5, .int ((v5 + 1))), (6, .int x26), (0, .ref v0), (1, .int v1), (3, .int v3), (4, .int v4)]) C (v5 + 1) dX11_serves_105 5 rfl rfl (by decide) rfl ?_
        refine E_goto C 8 dX11_serves_108 (by decide) ?_
        exact E_pick [2, 3, 4, 5, 0] rfl (ih v3 v4 ((v5 + 1)) μ49)
def fX11_serves (v0 : Nat) (v1 : Int32) (v2 : Int32) (μ : Mem) : Option (Int32 × Mem) :=
  X11_serves_L8 (fun v4_111 μ_111 => some (v4_111, μ_111)) v0 v1 FU v2 ((0 : Int32)) ((0 : Int32)) μ
set_option maxHeartbeats 4000000 in
set_option maxRecDepth 100000 in
theorem mX11_serves (v0 : Nat) (v1 : Int32) (v2 : Int32) (μ : Mem) : Meth wI yX11_serves cX11_serves 8 (some .int) 2 [.ref v0, .int v1, .int v2] μ (fX11_serves v0 v1 v2 μ) := by
  refine Meth.of (by decide) [(0, .ref v0), (1, .int v1), (2, .int v2)] rfl (Nat.le_of_ble_eq_true rfl) ?_
  intro p l e R s m args below meth c D ca ad A X C
  have C : CX p R s m args meth c D ca ad A X cX11_serves RX11 8 (some .int) 2 := C
  unfold fX11_serves
  refine E_iload_n C dX11_serves_0 2 rfl ?_
  refine E_istore_n (lv' := [(3, .int v2), (0, .ref v0), (1, .int v1), (2, .int v2)]) C dX11_serves_1 (by decide) rfl ?_
  refine E_iconst C 0 dX11_serves_2 (by decide) ?_
  refine E_istore (lv' := [(4, .int ((0 : Int32))), (3, .int v2), (0, .ref v0), (1, .int v1), (2, .int v2)]) C dX11_serves_3 (by decide) rfl ?_
  refine E_iconst C 0 dX11_serves_5 (by decide) ?_
  refine E_istore (lv' := [(5, .int ((0 : Int32))), (4, .int ((0 : Int32))), (3, .int v2), (0, .ref v0), (1, .int v1), (2, .int v2)]) C dX11_serves_6 (by decide) rfl ?_
  refine E_at (pc2 := 8) rfl ?_
  refine E_pick (lv' := [(0, .ref v0), (1, .int v1), (3, .int v2), (4, .int ((0 : Int32))), (5, .int ((0 : Int32)))]) [3, 4, 2, 1, 0] rfl ?_
  refine X11_serves_L8_ok C v0 v1 (fun v4_111 μ_111 => ?_) FU v2 ((0 : Int32)) ((0 : Int32)) μ
  refine E_iload C dX11_serves_111 0 rfl ?_
  exact E_iret C dX11_serves_113
def fX11_served (v0 : Nat) (v1 : Int32) (v2 : Int32) (v3 : Int32) (v4 : Int32) (μ : Mem) : Option (Int64 × Mem) :=
  (isC μ v0 11).bind fun _ => bd (fX11_isDemand v0 v1 μ) fun x2 μ2 => if x2 = 0 then (some ((-9223372036854775808 : Int64), μ2)) else (bd (fX11_isMonth v2 μ2) fun x9 μ9 => if x9 = 0 then (some ((-9223372036854775808 : Int64), μ9)) else (bd (fX11_in v4.toInt64 ((0 : Int64)) ((1 : Int64)) μ9) fun x20 μ20 => if x20 = 0 then (some ((-9223372036854775808 : Int64), μ20)) else (if 0 ≤ v3 then ((isC μ20 v0 11).bind fun _ => bd (fX11_ranks v0 μ20) fun _ μ35 => (isC μ35 v0 11).bind fun _ => bd (fX11_serves v0 v2 v3 μ35) fun x41 μ41 => if v4 = 0 then ((gR μ41 v0 11 8).bind fun x51 => (aI μ41 0 x51 v1).bind fun x55 => some (x55.toInt64, μ41)) else ((gR μ41 v0 11 8).bind fun x63 => (aI μ41 0 x63 v1).bind fun x67 => (isC μ41 v0 11).bind fun _ => bd (fX11_wants v0 v1 v2 μ41) fun x71 μ71 => (isC μ71 v0 11).bind fun _ => bd (fX11_gain v0 v1 x67 x71 μ71) fun x74 μ74 => some (x74.toInt64, μ74))) else (some ((-9223372036854775808 : Int64), μ20)))))
set_option maxHeartbeats 4000000 in
set_option maxRecDepth 100000 in
theorem mX11_served (v0 : Nat) (v1 : Int32) (v2 : Int32) (v3 : Int32) (v4 : Int32) (μ : Mem) : Meth wJ yX11_served cX11_served 5 (some .long) 5 [.ref v0, .int v1, .int v2, .int v3, .int v4] μ (fX11_served v0 v1 v2 v3 v4 μ) := by
  refine Meth.of (by decide) [(0, .ref v0), (1, .int v1), (2, .int v2), (3, .int v3), (4, .int v4)] rfl (Nat.le_of_ble_eq_true rfl) ?_
  intro p l e R s m args below meth c D ca ad A X C
  have C : CX p R s m args meth c D ca ad A X cX11_served RX11 5 (some .long) 5 := C
  unfold fX11_served
  refine E_aload_n C dX11_served_0 0 rfl ?_
  refine E_iload_n C dX11_served_1 1 rfl ?_
  refine E_callVI (st := []) C [.int v1] (mX11_isDemand v0 v1 μ) cal_X11_isDemand vir_X11_isDemand lk_X11_99 dX11_served_2 rfl rfl (Nat.le_of_ble_eq_true rfl) (Nat.le_of_ble_eq_true rfl) (fun x2 μ2 => ?_)
  refine E_if_eq C 30 dX11_served_5 (by decide) ?_ ?_
  · refine E_ldc2 C dX11_served_30 k_X11_143 ?_
    exact E_lret C dX11_served_33
  · refine E_at (pc2 := 8) rfl ?_
    refine E_iload_n C dX11_served_8 2 rfl ?_
    refine E_callSI (st := []) C [.int v2] (mX11_isMonth v2 μ2) cal_X11_isMonth st_X11_isMonth lk_X11_83 dX11_served_9 rfl rfl (Nat.le_of_ble_eq_true rfl) (Nat.le_of_ble_eq_true rfl) (fun x9 μ9 => ?_)
    refine E_if_eq C 30 dX11_served_12 (by decide) ?_ ?_
    · refine E_ldc2 C dX11_served_30 k_X11_143 ?_
      exact E_lret C dX11_served_33
    · refine E_at (pc2 := 15) rfl ?_
      refine E_iload C dX11_served_15 4 rfl ?_
      refine E_i2l C dX11_served_17 ?_
      refine E_lconst C 0 dX11_served_18 (by decide) ?_
      refine E_lconst C 1 dX11_served_19 (by decide) ?_
      refine E_callSI (st := []) C [.long v4.toInt64, .long ((0 : Int64)), .long ((1 : Int64))] (mX11_in v4.toInt64 ((0 : Int64)) ((1 : Int64)) μ9) cal_X11_in st_X11_in lk_X11_65 dX11_served_20 rfl rfl (Nat.le_of_ble_eq_true rfl) (Nat.le_of_ble_eq_true rfl) (fun x20 μ20 => ?_)
      refine E_if_eq C 30 dX11_served_23 (by decide) ?_ ?_
      · refine E_ldc2 C dX11_served_30 k_X11_143 ?_
        exact E_lret C dX11_served_33
      · refine E_at (pc2 := 26) rfl ?_
        refine E_iload_n C dX11_served_26 3 rfl ?_
        refine E_if_ge C 34 dX11_served_27 (by decide) ?_ ?_
        · refine E_aload_n C dX11_served_34 0 rfl ?_
          refine E_callVU (st := []) C [] (mX11_ranks v0 μ20) cal_X11_ranks vir_X11_ranks lk_X11_145 dX11_served_35 rfl rfl (Nat.le_of_ble_eq_true rfl) (Nat.le_of_ble_eq_true rfl) (fun _ μ35 => ?_)
          refine E_aload_n C dX11_served_38 0 rfl ?_
          refine E_iload_n C dX11_served_39 2 rfl ?_
          refine E_iload_n C dX11_served_40 3 rfl ?_
          refine E_callVI (st := []) C [.int v2, .int v3] (mX11_serves v0 v2 v3 μ35) cal_X11_serves vir_X11_serves lk_X11_148 dX11_served_41 rfl rfl (Nat.le_of_ble_eq_true rfl) (Nat.le_of_ble_eq_true rfl) (fun x41 μ41 => ?_)
          refine E_pop_i C dX11_served_44 ?_
          refine E_iload C dX11_served_45 4 rfl ?_
          refine E_if_ne C 60 dX11_served_47 (by decide) ?_ ?_
          · refine E_aload_n C dX11_served_60 0 rfl ?_
            refine E_iload_n C dX11_served_61 1 rfl ?_
            refine E_aload_n C dX11_served_62 0 rfl ?_
            refine E_getR C F_X11_31 dX11_served_63 (fun x63 => ?_)
            refine E_iload_n C dX11_served_66 1 rfl ?_
            refine E_iaload C dX11_served_67 (fun x67 => ?_)
            refine E_aload_n C dX11_served_68 0 rfl ?_
            refine E_iload_n C dX11_served_69 1 rfl ?_
            refine E_iload_n C dX11_served_70 2 rfl ?_
            refine E_callVI (st := [.int x67, .int v1, .ref v0]) C [.int v1, .int v2] (mX11_wants v0 v1 v2 μ41) cal_X11_wants vir_X11_wants lk_X11_130 dX11_served_71 rfl rfl (Nat.le_of_ble_eq_true rfl) (Nat.le_of_ble_eq_true rfl) (fun x71 μ71 => ?_)
            refine E_callVI (st := []) C [.int v1, .int x67, .int x71] (mX11_gain v0 v1 x67 x71 μ71) cal_X11_gain vir_X11_gain lk_X11_139 dX11_served_74 rfl rfl (Nat.le_of_ble_eq_true rfl) (Nat.le_of_ble_eq_true rfl) (fun x74 μ74 => ?_)
            refine E_i2l C dX11_served_77 ?_
            exact E_lret C dX11_served_78
          · refine E_at (pc2 := 50) rfl ?_
            refine E_aload_n C dX11_served_50 0 rfl ?_
            refine E_getR C F_X11_31 dX11_served_51 (fun x51 => ?_)
            refine E_iload_n C dX11_served_54 1 rfl ?_
            refine E_iaload C dX11_served_55 (fun x55 => ?_)
            refine E_i2l C dX11_served_56 ?_
            refine E_goto C 78 dX11_served_57 (by decide) ?_
            exact E_lret C dX11_served_78
        · refine E_at (pc2 := 30) rfl ?_
          refine E_ldc2 C dX11_served_30 k_X11_143 ?_
          exact E_lret C dX11_served_33
def fX11_goes (v0 : Nat) (v1 : Int32) (v2 : Int32) (v3 : Int32) (v4 : Int32) (μ : Mem) : Option (Unit × Mem) :=
  (gR μ v0 11 0).bind fun x3 => (aI μ 0 x3 (((49 : Int32) + v1))).bind fun x10 => (dvI ((v2 * x10)) ((10 : Int32))).bind fun x14 => (pV μ v0 11 10 (.int x14)).bind fun μ15 => (gI μ15 v0 11 10).bind fun x21 => (pV μ15 v0 11 11 (.int (((v2 - x21) + v3)))).bind fun μ27 => (gI μ27 v0 11 11).bind fun x34 => (pV μ27 v0 11 12 (.int ((mnI v4 x34)))).bind fun μ40 => (gI μ40 v0 11 11).bind fun x44 => (gI μ40 v0 11 12).bind fun x48 => (isC μ40 v0 11).bind fun _ => bd (fX11_top v0 v1 μ40) fun x60 μ60 => (pV μ60 v0 11 13 (.int ((mxI ((0 : Int32)) (((x44 - x48) - x60)))))).bind fun μ67 => (gI μ67 v0 11 13).bind fun x74 => (pV μ67 v0 11 14 (.int (((x44 - x48) - x74)))).bind fun μ78 => (gI μ78 v0 11 12).bind fun x85 => (isC μ78 v0 11).bind fun _ => bd (fX11_serves v0 v1 x85 μ78) fun x88 μ88 => (gR μ88 v0 11 0).bind fun x92 => (aI μ88 0 x92 ((2 : Int32))).bind fun x96 => (gI μ88 v0 11 13).bind fun x98 => (pV μ88 v0 11 15 (.int ((x88 - (x96 * x98))))).bind fun μ103 => some ((), μ103)
set_option maxHeartbeats 4000000 in
set_option maxRecDepth 100000 in
theorem mX11_goes (v0 : Nat) (v1 : Int32) (v2 : Int32) (v3 : Int32) (v4 : Int32) (μ : Mem) : Meth wU yX11_goes cX11_goes 6 none 3 [.ref v0, .int v1, .int v2, .int v3, .int v4] μ (fX11_goes v0 v1 v2 v3 v4 μ) := by
  refine Meth.of (by decide) [(0, .ref v0), (1, .int v1), (2, .int v2), (3, .int v3), (4, .int v4)] rfl (Nat.le_of_ble_eq_true rfl) ?_
  intro p l e R s m args below meth c D ca ad A X C
  have C : CX p R s m args meth c D ca ad A X cX11_goes RX11 6 none 3 := C
  unfold fX11_goes
  refine E_aload_n C dX11_goes_0 0 rfl ?_
  refine E_iload_n C dX11_goes_1 2 rfl ?_
  refine E_aload_n C dX11_goes_2 0 rfl ?_
  refine E_getR C F_X11_11 dX11_goes_3 (fun x3 => ?_)
  refine E_bipush C 49 dX11_goes_6 (by decide) ?_
  refine E_iload_n C dX11_goes_8 1 rfl ?_
  refine E_iadd C dX11_goes_9 ?_
  refine E_iaload C dX11_goes_10 (fun x10 => ?_)
  refine E_imul C dX11_goes_11 ?_
  refine E_bipush C 10 dX11_goes_12 (by decide) ?_
  refine E_idiv C dX11_goes_14 (fun x14 => ?_)
  refine E_putI C P_X11_151 dX11_goes_15 (fun μ15 => ?_)
  refine E_aload_n C dX11_goes_18 0 rfl ?_
  refine E_iload_n C dX11_goes_19 2 rfl ?_
  refine E_aload_n C dX11_goes_20 0 rfl ?_
  refine E_getI C F_X11_151 dX11_goes_21 (fun x21 => ?_)
  refine E_isub C dX11_goes_24 ?_
  refine E_iload_n C dX11_goes_25 3 rfl ?_
  refine E_iadd C dX11_goes_26 ?_
  refine E_putI C P_X11_154 dX11_goes_27 (fun μ27 => ?_)
  refine E_aload_n C dX11_goes_30 0 rfl ?_
  refine E_iload C dX11_goes_31 4 rfl ?_
  refine E_aload_n C dX11_goes_33 0 rfl ?_
  refine E_getI C F_X11_154 dX11_goes_34 (fun x34 => ?_)
  refine E_mmin C lk_X11_136 st_Math_min in_Math co_Math_min dX11_goes_37 (Nat.le_of_ble_eq_true rfl) (Nat.le_of_ble_eq_true rfl) ?_
  refine E_putI C P_X11_157 dX11_goes_40 (fun μ40 => ?_)
  refine E_aload_n C dX11_goes_43 0 rfl ?_
  refine E_getI C F_X11_154 dX11_goes_44 (fun x44 => ?_)
  refine E_aload_n C dX11_goes_47 0 rfl ?_
  refine E_getI C F_X11_157 dX11_goes_48 (fun x48 => ?_)
  refine E_isub C dX11_goes_51 ?_
  refine E_istore (lv' := [(5, .int ((x44 - x48))), (0, .ref v0), (1, .int v1), (2, .int v2), (3, .int v3), (4, .int v4)]) C dX11_goes_52 (by decide) rfl ?_
  refine E_aload_n C dX11_goes_54 1 rfl ?_
  refine E_iconst C 0 dX11_goes_55 (by decide) ?_
  refine E_iload C dX11_goes_56 0 rfl ?_
  refine E_aload_n C dX11_goes_58 1 rfl ?_
  refine E_iload_n C dX11_goes_59 2 rfl ?_
  refine E_callVI (st := [.int ((x44 - x48)), .int ((0 : Int32)), .ref v0]) C [.int v1] (mX11_top v0 v1 μ40) cal_X11_top vir_X11_top lk_X11_109 dX11_goes_60 rfl rfl (Nat.le_of_ble_eq_true rfl) (Nat.le_of_ble_eq_true rfl) (fun x60 μ60 => ?_)
  refine E_isub C dX11_goes_63 ?_
  refine E_mmax C lk_X11_102 st_Math_max in_Math co_Math_max dX11_goes_64 (Nat.le_of_ble_eq_true rfl) (Nat.le_of_ble_eq_true rfl) ?_
  refine E_putI C P_X11_160 dX11_goes_67 (fun μ67 => ?_)
  refine E_aload_n C dX11_goes_70 1 rfl ?_
  refine E_iload C dX11_goes_71 0 rfl ?_
  refine E_aload_n C dX11_goes_73 1 rfl ?_
  refine E_getI C F_X11_160 dX11_goes_74 (fun x74 => ?_)
  refine E_isub C dX11_goes_77 ?_
  refine E_putI C P_X11_163 dX11_goes_78 (fun μ78 => ?_)
  refine E_aload_n C dX11_goes_81 1 rfl ?_
  refine E_aload_n C dX11_goes_82 1 rfl ?_
  refine E_iload_n C dX11_goes_83 2 rfl ?_
  refine E_aload_n C dX11_goes_84 1 rfl ?_
  refine E_getI C F_X11_157 dX11_goes_85 (fun x85 => ?_)
  refine E_callVI (st := [.ref v0]) C [.int v1, .int x85] (mX11_serves v0 v1 x85 μ78) cal_X11_serves vir_X11_serves lk_X11_148 dX11_goes_88 rfl rfl (Nat.le_of_ble_eq_true rfl) (Nat.le_of_ble_eq_true rfl) (fun x88 μ88 => ?_)
  refine E_aload_n C dX11_goes_91 1 rfl ?_
  refine E_getR C F_X11_11 dX11_goes_92 (fun x92 => ?_)
  refine E_iconst C 2 dX11_goes_95 (by decide) ?_
  refine E_iaload C dX11_goes_96 (fun x96 => ?_)
  refine E_aload_n C dX11_goes_97 1 rfl ?_
  refine E_getI C F_X11_160 dX11_goes_98 (fun x98 => ?_)
  refine E_imul C dX11_goes_101 ?_
  refine E_isub C dX11_goes_102 ?_
  refine E_putI C P_X11_166 dX11_goes_103 (fun μ103 => ?_)
  exact E_ret C dX11_goes_106
def fX11_step (v0 : Nat) (v1 : Int32) (v2 : Int32) (v3 : Int32) (v4 : Int32) (v5 : Int32) (μ : Mem) : Option (Int64 × Mem) :=
  bd (fX11_isMonth v1 μ) fun x1 μ1 => if x1 = 0 then (some ((-9223372036854775808 : Int64), μ1)) else (bd (fX11_in v5.toInt64 ((0 : Int64)) ((5 : Int64)) μ1) fun x14 μ14 => if x14 = 0 then (some ((-9223372036854775808 : Int64), μ14)) else ((isC μ14 v0 11).bind fun _ => bd (fX11_isStore v0 v2 μ14) fun x22 μ22 => if x22 = 0 then (some ((-9223372036854775808 : Int64), μ22)) else (bd (fX11_in v3.toInt64 ((0 : Int64)) ((99 : Int64)) μ22) fun x34 μ34 => if x34 = 0 then (some ((-9223372036854775808 : Int64), μ34)) else (if 0 ≤ v4 then ((isC μ34 v0 11).bind fun _ => bd (fX11_ranks v0 μ34) fun _ μ50 => (isC μ50 v0 11).bind fun _ => bd (fX11_goes v0 v1 v2 v3 v4 μ50) fun _ μ59 => if v5 = 0 then ((gI μ59 v0 11 10).bind fun x101 => some (x101.toInt64, μ59)) else if v5 = 1 then ((gI μ59 v0 11 11).bind fun x107 => some (x107.toInt64, μ59)) else if v5 = 2 then ((gI μ59 v0 11 12).bind fun x113 => some (x113.toInt64, μ59)) else if v5 = 3 then ((gI μ59 v0 11 13).bind fun x119 => some (x119.toInt64, μ59)) else if v5 = 4 then ((gI μ59 v0 11 14).bind fun x125 => some (x125.toInt64, μ59)) else ((gI μ59 v0 11 15).bind fun x131 => some (x131.toInt64, μ59))) else (some ((-9223372036854775808 : Int64), μ34))))))
set_option maxHeartbeats 4000000 in
set_option maxRecDepth 100000 in
theorem mX11_step (v0 : Nat) (v1 : Int32) (v2 : Int32) (v3 : Int32) (v4 : Int32) (v5 : Int32) (μ : Mem) : Meth wJ yX11_step cX11_step 6 (some .long) 5 [.ref v0, .int v1, .int v2, .int v3, .int v4, .int v5] μ (fX11_step v0 v1 v2 v3 v4 v5 μ) := by
  refine Meth.of (by decide) [(0, .ref v0), (1, .int v1), (2, .int v2), (3, .int v3), (4, .int v4), (5, .int v5)] rfl (Nat.le_of_ble_eq_true rfl) ?_
  intro p l e R s m args below meth c D ca ad A X C
  have C : CX p R s m args meth c D ca ad A X cX11_step RX11 6 (some .long) 5 := C
  unfold fX11_step
  refine E_iload_n C dX11_step_0 1 rfl ?_
  refine E_callSI (st := []) C [.int v1] (mX11_isMonth v1 μ) cal_X11_isMonth st_X11_isMonth lk_X11_83 dX11_step_1 rfl rfl (Nat.le_of_ble_eq_true rfl) (Nat.le_of_ble_eq_true rfl) (fun x1 μ1 => ?_)
  refine E_if_eq C 45 dX11_step_4 (by decide) ?_ ?_
  · refine E_ldc2 C dX11_step_45 k_X11_143 ?_
    exact E_lret C dX11_step_48
  · refine E_at (pc2 := 7) rfl ?_
    refine E_iload C dX11_step_7 5 rfl ?_
    refine E_i2l C dX11_step_9 ?_
    refine E_lconst C 0 dX11_step_10 (by decide) ?_
    refine E_ldc2 C dX11_step_11 k_X11_107 ?_
    refine E_callSI (st := []) C [.long v5.toInt64, .long ((0 : Int64)), .long ((5 : Int64))] (mX11_in v5.toInt64 ((0 : Int64)) ((5 : Int64)) μ1) cal_X11_in st_X11_in lk_X11_65 dX11_step_14 rfl rfl (Nat.le_of_ble_eq_true rfl) (Nat.le_of_ble_eq_true rfl) (fun x14 μ14 => ?_)
    refine E_if_eq C 45 dX11_step_17 (by decide) ?_ ?_
    · refine E_ldc2 C dX11_step_45 k_X11_143 ?_
      exact E_lret C dX11_step_48
    · refine E_at (pc2 := 20) rfl ?_
      refine E_aload_n C dX11_step_20 0 rfl ?_
      refine E_iload_n C dX11_step_21 2 rfl ?_
      refine E_callVI (st := []) C [.int v2] (mX11_isStore v0 v2 μ14) cal_X11_isStore vir_X11_isStore lk_X11_169 dX11_step_22 rfl rfl (Nat.le_of_ble_eq_true rfl) (Nat.le_of_ble_eq_true rfl) (fun x22 μ22 => ?_)
      refine E_if_eq C 45 dX11_step_25 (by decide) ?_ ?_
      · refine E_ldc2 C dX11_step_45 k_X11_143 ?_
        exact E_lret C dX11_step_48
      · refine E_at (pc2 := 28) rfl ?_
        refine E_iload_n C dX11_step_28 3 rfl ?_
        refine E_i2l C dX11_step_29 ?_
        refine E_lconst C 0 dX11_step_30 (by decide) ?_
        refine E_ldc2 C dX11_step_31 k_X11_77 ?_
        refine E_callSI (st := []) C [.long v3.toInt64, .long ((0 : Int64)), .long ((99 : Int64))] (mX11_in v3.toInt64 ((0 : Int64)) ((99 : Int64)) μ22) cal_X11_in st_X11_in lk_X11_65 dX11_step_34 rfl rfl (Nat.le_of_ble_eq_true rfl) (Nat.le_of_ble_eq_true rfl) (fun x34 μ34 => ?_)
        refine E_if_eq C 45 dX11_step_37 (by decide) ?_ ?_
        · refine E_ldc2 C dX11_step_45 k_X11_143 ?_
          exact E_lret C dX11_step_48
        · refine E_at (pc2 := 40) rfl ?_
          refine E_iload C dX11_step_40 4 rfl ?_
          refine E_if_ge C 49 dX11_step_42 (by decide) ?_ ?_
          · refine E_aload_n C dX11_step_49 0 rfl ?_
            refine E_callVU (st := []) C [] (mX11_ranks v0 μ34) cal_X11_ranks vir_X11_ranks lk_X11_145 dX11_step_50 rfl rfl (Nat.le_of_ble_eq_true rfl) (Nat.le_of_ble_eq_true rfl) (fun _ μ50 => ?_)
            refine E_aload_n C dX11_step_53 0 rfl ?_
            refine E_iload_n C dX11_step_54 1 rfl ?_
            refine E_iload_n C dX11_step_55 2 rfl ?_
            refine E_iload_n C dX11_step_56 3 rfl ?_
            refine E_iload C dX11_step_57 4 rfl ?_
            refine E_callVU (st := []) C [.int v1, .int v2, .int v3, .int v4] (mX11_goes v0 v1 v2 v3 v4 μ50) cal_X11_goes vir_X11_goes lk_X11_172 dX11_step_59 rfl rfl (Nat.le_of_ble_eq_true rfl) (Nat.le_of_ble_eq_true rfl) (fun _ μ59 => ?_)
            refine E_iload C dX11_step_62 5 rfl ?_
            refine E_ite (fun h64_0 => ?_) (fun h64_0 => ?_)
            · refine E_tabIn (kx := 0) (off := 36) C 100 h64_0 dX11_step_64 (by decide +kernel) (by decide) ?_
              refine E_aload_n C dX11_step_100 0 rfl ?_
              refine E_getI C F_X11_151 dX11_step_101 (fun x101 => ?_)
              refine E_i2l C dX11_step_104 ?_
              exact E_lret C dX11_step_105
            · refine E_ite (fun h64_1 => ?_) (fun h64_1 => ?_)
              · refine E_tabIn (kx := 1) (off := 42) C 106 h64_1 dX11_step_64 (by decide +kernel) (by decide) ?_
                refine E_aload_n C dX11_step_106 0 rfl ?_
                refine E_getI C F_X11_154 dX11_step_107 (fun x107 => ?_)
                refine E_i2l C dX11_step_110 ?_
                exact E_lret C dX11_step_111
              · refine E_ite (fun h64_2 => ?_) (fun h64_2 => ?_)
                · refine E_tabIn (kx := 2) (off := 48) C 112 h64_2 dX11_step_64 (by decide +kernel) (by decide) ?_
                  refine E_aload_n C dX11_step_112 0 rfl ?_
                  refine E_getI C F_X11_157 dX11_step_113 (fun x113 => ?_)
                  refine E_i2l C dX11_step_116 ?_
                  exact E_lret C dX11_step_117
                · refine E_ite (fun h64_3 => ?_) (fun h64_3 => ?_)
                  · refine E_tabIn (kx := 3) (off := 54) C 118 h64_3 dX11_step_64 (by decide +kernel) (by decide) ?_
                    refine E_aload_n C dX11_step_118 0 rfl ?_
                    refine E_getI C F_X11_160 dX11_step_119 (fun x119 => ?_)
                    refine E_i2l C dX11_step_122 ?_
                    exact E_lret C dX11_step_123
                  · refine E_ite (fun h64_4 => ?_) (fun h64_4 => ?_)
                    · refine E_tabIn (kx := 4) (off := 60) C 124 h64_4 dX11_step_64 (by decide +kernel) (by decide) ?_
                      refine E_aload_n C dX11_step_124 0 rfl ?_
                      refine E_getI C F_X11_163 dX11_step_125 (fun x125 => ?_)
                      refine E_i2l C dX11_step_128 ?_
                      exact E_lret C dX11_step_129
                    · refine E_tabOut C 130 dX11_step_64 (by have q0 := i32_ne h64_0 (n := 0) rfl; have q1 := i32_ne h64_1 (n := 1) rfl; have q2 := i32_ne h64_2 (n := 2) rfl; have q3 := i32_ne h64_3 (n := 3) rfl; have q4 := i32_ne h64_4 (n := 4) rfl; omega) (by decide) ?_
                      refine E_aload_n C dX11_step_130 0 rfl ?_
                      refine E_getI C F_X11_166 dX11_step_131 (fun x131 => ?_)
                      refine E_i2l C dX11_step_134 ?_
                      exact E_lret C dX11_step_135
          · refine E_at (pc2 := 45) rfl ?_
            refine E_ldc2 C dX11_step_45 k_X11_143 ?_
            exact E_lret C dX11_step_48
def fX11_place (v0 : Int32) (v1 : Int32) (v2 : Int32) (μ : Mem) : Option (Int32 × Mem) :=
  some (((((v0 * (14 : Int32)) + v1) * (3 : Int32)) + v2), μ)
set_option maxHeartbeats 4000000 in
set_option maxRecDepth 100000 in
theorem mX11_place (v0 : Int32) (v1 : Int32) (v2 : Int32) (μ : Mem) : Meth wI yX11_place cX11_place 3 (some .int) 0 [.int v0, .int v1, .int v2] μ (fX11_place v0 v1 v2 μ) := by
  refine Meth.of (by decide) [(0, .int v0), (1, .int v1), (2, .int v2)] rfl (Nat.le_of_ble_eq_true rfl) ?_
  intro p l e R s m args below meth c D ca ad A X C
  have C : CX p R s m args meth c D ca ad A X cX11_place RX11 3 (some .int) 0 := C
  unfold fX11_place
  refine E_iload_n C dX11_place_0 0 rfl ?_
  refine E_bipush C 14 dX11_place_1 (by decide) ?_
  refine E_imul C dX11_place_3 ?_
  refine E_iload_n C dX11_place_4 1 rfl ?_
  refine E_iadd C dX11_place_5 ?_
  refine E_iconst C 3 dX11_place_6 (by decide) ?_
  refine E_imul C dX11_place_7 ?_
  refine E_iload_n C dX11_place_8 2 rfl ?_
  refine E_iadd C dX11_place_9 ?_
  exact E_iret C dX11_place_10
def X11_mean_L6 (G : UInt32 → Mem → Option (UInt32 × Mem)) (v0 : Nat) (v1 : Int32) (v2 : Int32) (v3 : Int32) : Nat → UInt32 → Int32 → Mem → Option (UInt32 × Mem)
  | 0, _, _, _ => none
  | n + 1, v4, v5, μ => if (3 : Int32) ≤ v5 then (G v4 μ) else ((isC μ v0 11).bind fun _ => bd (fX11_part v0 v3 v5 μ) fun x18 μ18 => (gR μ18 v0 11 6).bind fun x23 => bd (fX11_place v1 v2 v5 μ18) fun x30 μ30 => (aF μ30 x23 x30).bind fun x33 => (nn (FP.fmul ((FP.i2f x18)) x33)).bind fun x34 => (nn (FP.fadd v4 x34)).bind fun x35 => X11_mean_L6 G v0 v1 v2 v3 n x35 ((v5 + 1)) μ30)
set_option maxHeartbeats 4000000 in
set_option maxRecDepth 100000 in
theorem X11_mean_L6_ok {p : Program} {l : Launch} {e : Env} {R : Room} {s : State} {m : MethodId} {args : Array Value} {below : List Frame} {meth : Method} {c : Code} {D : va_G} {ca : Nat → ClassId} {ad : Nat → Nat} {A : Nat → Prop} {X : State → Prop} (C : CX p R s m args meth c D ca ad A X cX11_mean RX11 6 (some .float) 2) {G : UInt32 → Mem → Option (UInt32 × Mem)} (v0 : Nat) (v1 : Int32) (v2 : Int32) (v3 : Int32) (hG : ∀ (v4x : UInt32) (μx : Mem), Sm p l e R s m args below meth c D ca ad A 6 0 0 wF (KQ below args s D ca ad A) 44 [(0, .ref v0), (3, .int v3), (4, .float v4x)] [] μx (G v4x μx)) : ∀ (n : Nat) (v4 : UInt32) (v5 : Int32) (μ : Mem), Sm p l e R s m args below meth c D ca ad A 6 0 0 wF (KQ below args s D ca ad A) 6 [(0, .ref v0), (1, .int v1), (2, .int v2), (3, .int v3), (4, .float v4), (5, .int v5)] [] μ (X11_mean_L6 G v0 v1 v2 v3 n v4 v5 μ) := by
  intro n
  induction n with
  | zero =>
    intro v4 v5 μ
    rw [X11_mean_L6]
    exact E_none
  | succ n ih =>
    intro v4 v5 μ
    rw [X11_mean_L6]
    refine E_iload C dX11_mean_6 5 rfl ?_
    refine E_iconst C 3 dX11_mean_8 (by decide) ?_
    refine E_icmp_ge C 44 dX11_mean_9 (by decide) ?_ ?_
    · exact E_pick [0, 3, 4] rfl (hG v4 μ)
    · refine E_at (pc2 := 12) rfl ?_
      refine E_fload C dX11_mean_12 4 rfl ?_
      refine E_aload_n C dX11_mean_14 0 rfl ?_
      refine E_iload_n C dX11_mean_15 3 rfl ?_
      refine E_iload C dX11_mean_16 5 rfl ?_
      refine E_callVI (st := [.float v4]) C [.int v3, .int v5] (mX11_part v0 v3 v5 μ) cal_X11_part vir_X11_part lk_X11_90 dX11_mean_18 rfl rfl (Nat.le_of_ble_eq_true rfl) (Nat.le_of_ble_eq_true rfl) (fun x18 μ18 => ?_)
      refine E_i2f C dX11_mean_21 ?_
      refine E_aload_n C dX11_mean_22 0 rfl ?_
      refine E_getR C F_X11_24 dX11_mean_23 (fun x23 => ?_)
      refine E_iload_n C dX11_mean_26 1 rfl ?_
      refine E_iload_n C dX11_mean_27 2 rfl ?_
      refine E_iload C dX11_mean_28 5 rfl ?_
      refine E_callSI (st := [.ref x23, .float ((FP.i2f x18)), .float v4]) C [.int v1, .int v2, .int v5] (mX11_place v1 v2 v5 μ18) cal_X11_place st_X11_place lk_X11_176 dX11_mean_30 rfl rfl (Nat.le_of_ble_eq_true rfl) (Nat.le_of_ble_eq_true rfl) (fun x30 μ30 => ?_)
      refine E_faload C dX11_mean_33 (fun x33 => ?_)
      refine E_fmul C dX11_mean_34 (fun x34 => ?_)
      refine E_fadd C dX11_mean_35 (fun x35 => ?_)
      refine E_fstore (lv' := [(4, .float x35), (0, .ref v0), (1, .int v1), (2, .int v2), (3, .int v3), (5, .int v5)]) C dX11_mean_36 (by decide) rfl ?_
      refine E_iinc (lv' := [(5, .int ((v5 + 1))), (4, .float x35), (0, .ref v0), (1, .int v1), (2, .int v2), (3, .int v3)]) C (v5 + 1) dX11_mean_38 5 rfl rfl (by decide) rfl ?_
      refine E_goto C 6 dX11_mean_41 (by decide) ?_
      exact E_pick [2, 3, 4, 5, 1, 0] rfl (ih x35 ((v5 + 1)) μ30)
def fX11_mean (v0 : Nat) (v1 : Int32) (v2 : Int32) (v3 : Int32) (μ : Mem) : Option (UInt32 × Mem) :=
  X11_mean_L6 (fun v4_44 μ_44 => (isC μ_44 v0 11).bind fun _ => bd (fX11_parts v0 v3 μ_44) fun x48 μ48 => (nn (FP.fdiv v4_44 ((FP.i2f x48)))).bind fun x52 => some (x52, μ48)) v0 v1 v2 v3 FU FP.fconst0 ((0 : Int32)) μ
set_option maxHeartbeats 4000000 in
set_option maxRecDepth 100000 in
theorem mX11_mean (v0 : Nat) (v1 : Int32) (v2 : Int32) (v3 : Int32) (μ : Mem) : Meth wF yX11_mean cX11_mean 6 (some .float) 2 [.ref v0, .int v1, .int v2, .int v3] μ (fX11_mean v0 v1 v2 v3 μ) := by
  refine Meth.of (by decide) [(0, .ref v0), (1, .int v1), (2, .int v2), (3, .int v3)] rfl (Nat.le_of_ble_eq_true rfl) ?_
  intro p l e R s m args below meth c D ca ad A X C
  have C : CX p R s m args meth c D ca ad A X cX11_mean RX11 6 (some .float) 2 := C
  unfold fX11_mean
  refine E_fconst0 C dX11_mean_0 ?_
  refine E_fstore (lv' := [(4, .float FP.fconst0), (0, .ref v0), (1, .int v1), (2, .int v2), (3, .int v3)]) C dX11_mean_1 (by decide) rfl ?_
  refine E_iconst C 0 dX11_mean_3 (by decide) ?_
  refine E_istore (lv' := [(5, .int ((0 : Int32))), (4, .float FP.fconst0), (0, .ref v0), (1, .int v1), (2, .int v2), (3, .int v3)]) C dX11_mean_4 (by decide) rfl ?_
  refine E_at (pc2 := 6) rfl ?_
  refine E_pick (lv' := [(0, .ref v0), (1, .int v1), (2, .int v2), (3, .int v3), (4, .float FP.fconst0), (5, .int ((0 : Int32)))]) [2, 3, 4, 5, 1, 0] rfl ?_
  refine X11_mean_L6_ok C v0 v1 v2 v3 (fun v4_44 μ_44 => ?_) FU FP.fconst0 ((0 : Int32)) μ
  refine E_fload C dX11_mean_44 2 rfl ?_
  refine E_aload_n C dX11_mean_46 0 rfl ?_
  refine E_iload_n C dX11_mean_47 1 rfl ?_
  refine E_callVI (st := [.float v4_44]) C [.int v3] (mX11_parts v0 v3 μ_44) cal_X11_parts vir_X11_parts lk_X11_93 dX11_mean_48 rfl rfl (Nat.le_of_ble_eq_true rfl) (Nat.le_of_ble_eq_true rfl) (fun x48 μ48 => ?_)
  refine E_i2f C dX11_mean_51 ?_
  refine E_fdiv C dX11_mean_52 (fun x52 => ?_)
  exact E_fret C dX11_mean_53
def fX11_comesTo (v0 : Nat) (v1 : Int32) (v2 : Int32) (v3 : Int32) (v4 : Int32) (μ : Mem) : Option (UInt32 × Mem) :=
  (gR μ v0 11 0).bind fun x4 => (aI μ 0 x4 ((((4 : Int32) + ((3 : Int32) * v1)) + v3))).bind fun x14 => (isC μ v0 11).bind fun _ => bd (fX11_goes v0 v1 v2 x14 v4 μ) fun _ μ17 => (gI μ17 v0 11 15).bind fun x21 => (gI μ17 v0 11 14).bind fun x30 => (isC μ17 v0 11).bind fun _ => bd (fX11_mean v0 ((v1 + (1 : Int32))) x30 v3 μ17) fun x34 μ34 => (nn (FP.fadd ((FP.i2f x21)) x34)).bind fun x37 => some (x37, μ34)
set_option maxHeartbeats 4000000 in
set_option maxRecDepth 100000 in
theorem mX11_comesTo (v0 : Nat) (v1 : Int32) (v2 : Int32) (v3 : Int32) (v4 : Int32) (μ : Mem) : Meth wF yX11_comesTo cX11_comesTo 5 (some .float) 4 [.ref v0, .int v1, .int v2, .int v3, .int v4] μ (fX11_comesTo v0 v1 v2 v3 v4 μ) := by
  refine Meth.of (by decide) [(0, .ref v0), (1, .int v1), (2, .int v2), (3, .int v3), (4, .int v4)] rfl (Nat.le_of_ble_eq_true rfl) ?_
  intro p l e R s m args below meth c D ca ad A X C
  have C : CX p R s m args meth c D ca ad A X cX11_comesTo RX11 5 (some .float) 4 := C
  unfold fX11_comesTo
  refine E_aload_n C dX11_comesTo_0 0 rfl ?_
  refine E_iload_n C dX11_comesTo_1 1 rfl ?_
  refine E_iload_n C dX11_comesTo_2 2 rfl ?_
  refine E_aload_n C dX11_comesTo_3 0 rfl ?_
  refine E_getR C F_X11_11 dX11_comesTo_4 (fun x4 => ?_)
  refine E_iconst C 4 dX11_comesTo_7 (by decide) ?_
  refine E_iconst C 3 dX11_comesTo_8 (by decide) ?_
  refine E_iload_n C dX11_comesTo_9 1 rfl ?_
  refine E_imul C dX11_comesTo_10 ?_
  refine E_iadd C dX11_comesTo_11 ?_
  refine E_iload_n C dX11_comesTo_12 3 rfl ?_
  refine E_iadd C dX11_comesTo_13 ?_
  refine E_iaload C dX11_comesTo_14 (fun x14 => ?_)
  refine E_iload C dX11_comesTo_15 4 rfl ?_
  refine E_callVU (st := []) C [.int v1, .int v2, .int x14, .int v4] (mX11_goes v0 v1 v2 x14 v4 μ) cal_X11_goes vir_X11_goes lk_X11_172 dX11_comesTo_17 rfl rfl (Nat.le_of_ble_eq_true rfl) (Nat.le_of_ble_eq_true rfl) (fun _ μ17 => ?_)
  refine E_aload_n C dX11_comesTo_20 0 rfl ?_
  refine E_getI C F_X11_166 dX11_comesTo_21 (fun x21 => ?_)
  refine E_i2f C dX11_comesTo_24 ?_
  refine E_aload_n C dX11_comesTo_25 0 rfl ?_
  refine E_iload_n C dX11_comesTo_26 1 rfl ?_
  refine E_iconst C 1 dX11_comesTo_27 (by decide) ?_
  refine E_iadd C dX11_comesTo_28 ?_
  refine E_aload_n C dX11_comesTo_29 0 rfl ?_
  refine E_getI C F_X11_163 dX11_comesTo_30 (fun x30 => ?_)
  refine E_iload_n C dX11_comesTo_33 3 rfl ?_
  refine E_callVF (st := [.float ((FP.i2f x21))]) C [.int ((v1 + (1 : Int32))), .int x30, .int v3] (mX11_mean v0 ((v1 + (1 : Int32))) x30 v3 μ17) cal_X11_mean vir_X11_mean lk_X11_179 dX11_comesTo_34 rfl rfl (Nat.le_of_ble_eq_true rfl) (Nat.le_of_ble_eq_true rfl) (fun x34 μ34 => ?_)
  refine E_fadd C dX11_comesTo_37 (fun x37 => ?_)
  exact E_fret C dX11_comesTo_38
def X11_findsOne_L11 (G : Mem → Option (Unit × Mem)) (v0 : Nat) (v1 : Int32) (v2 : Int32) (v3 : Int32) (v4 : Int32) : Nat → Int32 → Mem → Option (Unit × Mem)
  | 0, _, _ => none
  | n + 1, v5, μ => if (21 : Int32) ≤ v5 then (G μ) else ((isC μ v0 11).bind fun _ => bd (fX11_comesTo v0 v1 v2 v3 v5 μ) fun x24 μ24 => jn (fun  (μ_47 : Mem) => (gR μ_47 v0 11 6).bind fun x48 => (sF μ_47 x48 v4 x24).bind fun μ55 => (gR μ55 v0 11 7).bind fun x57 => (sI μ55 x57 v4 v5).bind fun μ64 => X11_findsOne_L11 G v0 v1 v2 v3 v4 n ((v5 + 1)) μ64) (fun j47 => if v5 = 0 then (j47 μ24) else ((gR μ24 v0 11 6).bind fun x37 => (aF μ24 x37 v4).bind fun x42 => if (Op.cmpValue (FP.fcmp x24 x42) .l) ≤ 0 then (X11_findsOne_L11 G v0 v1 v2 v3 v4 n ((v5 + 1)) μ24) else (j47 μ24))))
set_option maxHeartbeats 4000000 in
set_option maxRecDepth 100000 in
theorem X11_findsOne_L11_ok {p : Program} {l : Launch} {e : Env} {R : Room} {s : State} {m : MethodId} {args : Array Value} {below : List Frame} {meth : Method} {c : Code} {D : va_G} {ca : Nat → ClassId} {ad : Nat → Nat} {A : Nat → Prop} {X : State → Prop} (C : CX p R s m args meth c D ca ad A X cX11_findsOne RX11 7 none 5) {G : Mem → Option (Unit × Mem)} (v0 : Nat) (v1 : Int32) (v2 : Int32) (v3 : Int32) (v4 : Int32) (hG : ∀  (μx : Mem), Sm p l e R s m args below meth c D ca ad A 7 0 0 wU (KQ below args s D ca ad A) 71 [] [] μx (G  μx)) : ∀ (n : Nat) (v5 : Int32) (μ : Mem), Sm p l e R s m args below meth c D ca ad A 7 0 0 wU (KQ below args s D ca ad A) 11 [(0, .ref v0), (1, .int v1), (2, .int v2), (3, .int v3), (4, .int v4), (5, .int v5)] [] μ (X11_findsOne_L11 G v0 v1 v2 v3 v4 n v5 μ) := by
  intro n
  induction n with
  | zero =>
    intro v5 μ
    rw [X11_findsOne_L11]
    exact E_none
  | succ n ih =>
    intro v5 μ
    rw [X11_findsOne_L11]
    refine E_iload C dX11_findsOne_11 5 rfl ?_
    refine E_bipush C 21 dX11_findsOne_13 (by decide) ?_
    refine E_icmp_ge C 71 dX11_findsOne_15 (by decide) ?_ ?_
    · exact E_pick [] rfl (hG μ)
    · refine E_at (pc2 := 18) rfl ?_
      refine E_aload_n C dX11_findsOne_18 0 rfl ?_
      refine E_iload_n C dX11_findsOne_19 1 rfl ?_
      refine E_iload_n C dX11_findsOne_20 2 rfl ?_
      refine E_iload_n C dX11_findsOne_21 3 rfl ?_
      refine E_iload C dX11_findsOne_22 5 rfl ?_
      refine E_callVF (st := []) C [.int v1, .int v2, .int v3, .int v5] (mX11_comesTo v0 v1 v2 v3 v5 μ) cal_X11_comesTo vir_X11_comesTo lk_X11_187 dX11_findsOne_24 rfl rfl (Nat.le_of_ble_eq_true rfl) (Nat.le_of_ble_eq_true rfl) (fun x24 μ24 => ?_)
      refine E_fstore (lv' := [(6, .float x24), (0, .ref v0), (1, .int v1), (2, .int v2), (3, .int v3), (4, .int v4), (5, .int v5)]) C dX11_findsOne_27 (by decide) rfl ?_
      refine E_iload C dX11_findsOne_29 6 rfl ?_
      refine E_jn (fun j47 => ∀  (μ_47 : Mem), Sm p l e R s m args below meth c D ca ad A 7 0 0 wU (KQ below args s D ca ad A) 47 [(0, .ref v0), (1, .int v1), (2, .int v2), (3, .int v3), (4, .int v4), (5, .int v5), (6, .float x24)] [] μ_47 (j47  μ_47)) ?_ (fun j47 hj47 => ?_)
      · intro  μ_47
        refine E_aload_n C dX11_findsOne_47 0 rfl ?_
        refine E_getR C F_X11_24 dX11_findsOne_48 (fun x48 => ?_)
        refine E_iload C dX11_findsOne_51 4 rfl ?_
        refine E_fload C dX11_findsOne_53 6 rfl ?_
        refine E_fastore C dX11_findsOne_55 (fun μ55 => ?_)
        refine E_aload_n C dX11_findsOne_56 0 rfl ?_
        refine E_getR C F_X11_28 dX11_findsOne_57 (fun x57 => ?_)
        refine E_iload C dX11_findsOne_60 4 rfl ?_
        refine E_iload C dX11_findsOne_62 5 rfl ?_
        refine E_iastore C dX11_findsOne_64 (fun μ64 => ?_)
        refine E_at (pc2 := 65) rfl ?_
        refine E_iinc (lv' := [(5, .int ((v5 + 1))), (0, .ref v0), (1, .int v1), (2, .int v2), (3, .int v3), (4, .int v4), (6, .float x24)]) C (v5 + 1) dX11_findsOne_65 5 rfl rfl (by decide) rfl ?_
        refine E_goto C 11 dX11_findsOne_68 (by decide) ?_
        exact E_pick [1, 2, 3, 4, 5, 0] rfl (ih ((v5 + 1)) μ64)
      · refine E_if_eq C 47 dX11_findsOne_31 (by decide) ?_ ?_
        · exact E_pick [1, 2, 3, 4, 5, 6, 0] rfl (hj47 μ24)
        · refine E_at (pc2 := 34) rfl ?_
          refine E_fload C dX11_findsOne_34 0 rfl ?_
          refine E_aload_n C dX11_findsOne_36 1 rfl ?_
          refine E_getR C F_X11_24 dX11_findsOne_37 (fun x37 => ?_)
          refine E_iload C dX11_findsOne_40 5 rfl ?_
          refine E_faload C dX11_findsOne_42 (fun x42 => ?_)
          refine E_fcmp C dX11_findsOne_43 ?_
          refine E_if_le C 65 dX11_findsOne_44 (by decide) ?_ ?_
          · refine E_iinc (lv' := [(5, .int ((v5 + 1))), (6, .float x24), (0, .ref v0), (1, .int v1), (2, .int v2), (3, .int v3), (4, .int v4)]) C (v5 + 1) dX11_findsOne_65 6 rfl rfl (by decide) rfl ?_
            refine E_goto C 11 dX11_findsOne_68 (by decide) ?_
            exact E_pick [2, 3, 4, 5, 6, 0] rfl (ih ((v5 + 1)) μ24)
          · exact E_pick [1, 2, 3, 4, 5, 6, 0] rfl (hj47 μ24)
def fX11_findsOne (v0 : Nat) (v1 : Int32) (v2 : Int32) (v3 : Int32) (μ : Mem) : Option (Unit × Mem) :=
  bd (fX11_place v1 v2 v3 μ) fun x3 μ3 => X11_findsOne_L11 (fun μ_71 => some ((), μ_71)) v0 v1 v2 v3 x3 FU ((0 : Int32)) μ3
set_option maxHeartbeats 4000000 in
set_option maxRecDepth 100000 in
theorem mX11_findsOne (v0 : Nat) (v1 : Int32) (v2 : Int32) (v3 : Int32) (μ : Mem) : Meth wU yX11_findsOne cX11_findsOne 7 none 5 [.ref v0, .int v1, .int v2, .int v3] μ (fX11_findsOne v0 v1 v2 v3 μ) := by
  refine Meth.of (by decide) [(0, .ref v0), (1, .int v1), (2, .int v2), (3, .int v3)] rfl (Nat.le_of_ble_eq_true rfl) ?_
  intro p l e R s m args below meth c D ca ad A X C
  have C : CX p R s m args meth c D ca ad A X cX11_findsOne RX11 7 none 5 := C
  unfold fX11_findsOne
  refine E_iload_n C dX11_findsOne_0 1 rfl ?_
  refine E_iload_n C dX11_findsOne_1 2 rfl ?_
  refine E_iload_n C dX11_findsOne_2 3 rfl ?_
  refine E_callSI (st := []) C [.int v1, .int v2, .int v3] (mX11_place v1 v2 v3 μ) cal_X11_place st_X11_place lk_X11_176 dX11_findsOne_3 rfl rfl (Nat.le_of_ble_eq_true rfl) (Nat.le_of_ble_eq_true rfl) (fun x3 μ3 => ?_)
  refine E_istore (lv' := [(4, .int x3), (0, .ref v0), (1, .int v1), (2, .int v2), (3, .int v3)]) C dX11_findsOne_6 (by decide) rfl ?_
  refine E_iconst C 0 dX11_findsOne_8 (by decide) ?_
  refine E_istore (lv' := [(5, .int ((0 : Int32))), (4, .int x3), (0, .ref v0), (1, .int v1), (2, .int v2), (3, .int v3)]) C dX11_findsOne_9 (by decide) rfl ?_
  refine E_at (pc2 := 11) rfl ?_
  refine E_pick (lv' := [(0, .ref v0), (1, .int v1), (2, .int v2), (3, .int v3), (4, .int x3), (5, .int ((0 : Int32)))]) [2, 3, 4, 5, 1, 0] rfl ?_
  refine X11_findsOne_L11_ok C v0 v1 v2 v3 x3 (fun μ_71 => ?_) FU ((0 : Int32)) μ3
  exact E_ret C dX11_findsOne_71
def X11_finds_L18 (G : Mem → Option (Unit × Mem)) (v0 : Nat) (v1 : Int32) (v2 : Int32) : Nat → Int32 → Mem → Option (Unit × Mem)
  | 0, _, _ => none
  | n + 1, v3, μ => if (3 : Int32) ≤ v3 then (G μ) else ((gR μ v0 11 6).bind fun x24 => (gR μ v0 11 0).bind fun x28 => (aI μ 0 x28 ((1 : Int32))).bind fun x32 => bd (fX11_place x32 v2 v3 μ) fun x35 μ35 => (gR μ35 v0 11 0).bind fun x39 => (aI μ35 0 x39 ((3 : Int32))).bind fun x43 => (sF μ35 x24 x35 ((FP.i2f ((x43 * v2))))).bind fun μ47 => X11_finds_L18 G v0 v1 v2 n ((v3 + 1)) μ47)
set_option maxHeartbeats 4000000 in
set_option maxRecDepth 100000 in
theorem X11_finds_L18_ok {p : Program} {l : Launch} {e : Env} {R : Room} {s : State} {m : MethodId} {args : Array Value} {below : List Frame} {meth : Method} {c : Code} {D : va_G} {ca : Nat → ClassId} {ad : Nat → Nat} {A : Nat → Prop} {X : State → Prop} (C : CX p R s m args meth c D ca ad A X cX11_finds RX11 5 none 6) {G : Mem → Option (Unit × Mem)} (v0 : Nat) (v1 : Int32) (v2 : Int32) (hG : ∀  (μx : Mem), Sm p l e R s m args below meth c D ca ad A 5 0 0 wU (KQ below args s D ca ad A) 54 [(0, .ref v0), (1, .int v1), (2, .int v2)] [] μx (G  μx)) : ∀ (n : Nat) (v3 : Int32) (μ : Mem), Sm p l e R s m args below meth c D ca ad A 5 0 0 wU (KQ below args s D ca ad A) 18 [(0, .ref v0), (1, .int v1), (2, .int v2), (3, .int v3)] [] μ (X11_finds_L18 G v0 v1 v2 n v3 μ) := by
  intro n
  induction n with
  | zero =>
    intro v3 μ
    rw [X11_finds_L18]
    exact E_none
  | succ n ih =>
    intro v3 μ
    rw [X11_finds_L18]
    refine E_iload_n C dX11_finds_18 3 rfl ?_
    refine E_iconst C 3 dX11_finds_19 (by decide) ?_
    refine E_icmp_ge C 54 dX11_finds_20 (by decide) ?_ ?_
    · exact E_pick [0, 1, 2] rfl (hG μ)
    · refine E_at (pc2 := 23) rfl ?_
      refine E_aload_n C dX11_finds_23 0 rfl ?_
      refine E_getR C F_X11_24 dX11_finds_24 (fun x24 => ?_)
      refine E_aload_n C dX11_finds_27 0 rfl ?_
      refine E_getR C F_X11_11 dX11_finds_28 (fun x28 => ?_)
      refine E_iconst C 1 dX11_finds_31 (by decide) ?_
      refine E_iaload C dX11_finds_32 (fun x32 => ?_)
      refine E_iload_n C dX11_finds_33 2 rfl ?_
      refine E_iload_n C dX11_finds_34 3 rfl ?_
      refine E_callSI (st := [.ref x24]) C [.int x32, .int v2, .int v3] (mX11_place x32 v2 v3 μ) cal_X11_place st_X11_place lk_X11_176 dX11_finds_35 rfl rfl (Nat.le_of_ble_eq_true rfl) (Nat.le_of_ble_eq_true rfl) (fun x35 μ35 => ?_)
      refine E_aload_n C dX11_finds_38 0 rfl ?_
      refine E_getR C F_X11_11 dX11_finds_39 (fun x39 => ?_)
      refine E_iconst C 3 dX11_finds_42 (by decide) ?_
      refine E_iaload C dX11_finds_43 (fun x43 => ?_)
      refine E_iload_n C dX11_finds_44 2 rfl ?_
      refine E_imul C dX11_finds_45 ?_
      refine E_i2f C dX11_finds_46 ?_
      refine E_fastore C dX11_finds_47 (fun μ47 => ?_)
      refine E_iinc (lv' := [(3, .int ((v3 + 1))), (0, .ref v0), (1, .int v1), (2, .int v2)]) C (v3 + 1) dX11_finds_48 3 rfl rfl (by decide) rfl ?_
      refine E_goto C 18 dX11_finds_51 (by decide) ?_
      exact E_pick [1, 2, 3, 0] rfl (ih ((v3 + 1)) μ47)
def X11_finds_L6 (G : Mem → Option (Unit × Mem)) (v0 : Nat) (v1 : Int32) : Nat → Int32 → Mem → Option (Unit × Mem)
  | 0, _, _ => none
  | n + 1, v2, μ => (gR μ v0 11 0).bind fun x8 => (aI μ 0 x8 ((0 : Int32))).bind fun x12 => if x12 < v2 then (G μ) else (X11_finds_L18 (fun μ_54 => X11_finds_L6 G v0 v1 n ((v2 + 1)) μ_54) v0 v1 v2 FU ((0 : Int32)) μ)
set_option maxHeartbeats 4000000 in
set_option maxRecDepth 100000 in
theorem X11_finds_L6_ok {p : Program} {l : Launch} {e : Env} {R : Room} {s : State} {m : MethodId} {args : Array Value} {below : List Frame} {meth : Method} {c : Code} {D : va_G} {ca : Nat → ClassId} {ad : Nat → Nat} {A : Nat → Prop} {X : State → Prop} (C : CX p R s m args meth c D ca ad A X cX11_finds RX11 5 none 6) {G : Mem → Option (Unit × Mem)} (v0 : Nat) (v1 : Int32) (hG : ∀  (μx : Mem), Sm p l e R s m args below meth c D ca ad A 5 0 0 wU (KQ below args s D ca ad A) 60 [(0, .ref v0), (1, .int v1)] [] μx (G  μx)) : ∀ (n : Nat) (v2 : Int32) (μ : Mem), Sm p l e R s m args below meth c D ca ad A 5 0 0 wU (KQ below args s D ca ad A) 6 [(0, .ref v0), (1, .int v1), (2, .int v2)] [] μ (X11_finds_L6 G v0 v1 n v2 μ) := by
  intro n
  induction n with
  | zero =>
    intro v2 μ
    rw [X11_finds_L6]
    exact E_none
  | succ n ih =>
    intro v2 μ
    rw [X11_finds_L6]
    refine E_iload_n C dX11_finds_6 2 rfl ?_
    refine E_aload_n C dX11_finds_7 0 rfl ?_
    refine E_getR C F_X11_11 dX11_finds_8 (fun x8 => ?_)
    refine E_iconst C 0 dX11_finds_11 (by decide) ?_
    refine E_iaload C dX11_finds_12 (fun x12 => ?_)
    refine E_icmp_gt C 60 dX11_finds_13 (by decide) ?_ ?_
    · exact E_pick [0, 1] rfl (hG μ)
    · refine E_at (pc2 := 16) rfl ?_
      refine E_iconst C 0 dX11_finds_16 (by decide) ?_
      refine E_istore_n (lv' := [(3, .int ((0 : Int32))), (0, .ref v0), (1, .int v1), (2, .int v2)]) C dX11_finds_17 (by decide) rfl ?_
      refine E_at (pc2 := 18) rfl ?_
      refine E_pick (lv' := [(0, .ref v0), (1, .int v1), (2, .int v2), (3, .int ((0 : Int32)))]) [1, 2, 3, 0] rfl ?_
      refine X11_finds_L18_ok C v0 v1 v2 (fun μ_54 => ?_) FU ((0 : Int32)) μ
      refine E_iinc (lv' := [(2, .int ((v2 + 1))), (0, .ref v0), (1, .int v1)]) C (v2 + 1) dX11_finds_54 2 rfl rfl (by decide) rfl ?_
      refine E_goto C 6 dX11_finds_57 (by decide) ?_
      exact E_pick [1, 2, 0] rfl (ih ((v2 + 1)) μ_54)
def X11_finds_L89 (G : Mem → Option (Unit × Mem)) (v0 : Nat) (v1 : Int32) (v2 : Int32) (v3 : Int32) : Nat → Int32 → Mem → Option (Unit × Mem)
  | 0, _, _ => none
  | n + 1, v4, μ => if (3 : Int32) ≤ v4 then (G μ) else ((isC μ v0 11).bind fun _ => bd (fX11_findsOne v0 v2 v3 v4 μ) fun _ μ100 => X11_finds_L89 G v0 v1 v2 v3 n ((v4 + 1)) μ100)
set_option maxHeartbeats 4000000 in
set_option maxRecDepth 100000 in
theorem X11_finds_L89_ok {p : Program} {l : Launch} {e : Env} {R : Room} {s : State} {m : MethodId} {args : Array Value} {below : List Frame} {meth : Method} {c : Code} {D : va_G} {ca : Nat → ClassId} {ad : Nat → Nat} {A : Nat → Prop} {X : State → Prop} (C : CX p R s m args meth c D ca ad A X cX11_finds RX11 5 none 6) {G : Mem → Option (Unit × Mem)} (v0 : Nat) (v1 : Int32) (v2 : Int32) (v3 : Int32) (hG : ∀  (μx : Mem), Sm p l e R s m args below meth c D ca ad A 5 0 0 wU (KQ below args s D ca ad A) 109 [(0, .ref v0), (1, .int v1), (2, .int v2), (3, .int v3)] [] μx (G  μx)) : ∀ (n : Nat) (v4 : Int32) (μ : Mem), Sm p l e R s m args below meth c D ca ad A 5 0 0 wU (KQ below args s D ca ad A) 89 [(0, .ref v0), (1, .int v1), (2, .int v2), (3, .int v3), (4, .int v4)] [] μ (X11_finds_L89 G v0 v1 v2 v3 n v4 μ) := by
  intro n
  induction n with
  | zero =>
    intro v4 μ
    rw [X11_finds_L89]
    exact E_none
  | succ n ih =>
    intro v4 μ
    rw [X11_finds_L89]
    refine E_iload C dX11_finds_89 4 rfl ?_
    refine E_iconst C 3 dX11_finds_91 (by decide) ?_
    refine E_icmp_ge C 109 dX11_finds_92 (by decide) ?_ ?_
    · exact E_pick [0, 1, 2, 3] rfl (hG μ)
    · refine E_at (pc2 := 95) rfl ?_
      refine E_aload_n C dX11_finds_95 0 rfl ?_
      refine E_iload_n C dX11_finds_96 2 rfl ?_
      refine E_iload_n C dX11_finds_97 3 rfl ?_
      refine E_iload C dX11_finds_98 4 rfl ?_
      refine E_callVU (st := []) C [.int v2, .int v3, .int v4] (mX11_findsOne v0 v2 v3 v4 μ) cal_X11_findsOne vir_X11_findsOne lk_X11_183 dX11_finds_100 rfl rfl (Nat.le_of_ble_eq_true rfl) (Nat.le_of_ble_eq_true rfl) (fun _ μ100 => ?_)
      refine E_iinc (lv' := [(4, .int ((v4 + 1))), (0, .ref v0), (1, .int v1), (2, .int v2), (3, .int v3)]) C (v4 + 1) dX11_finds_103 4 rfl rfl (by decide) rfl ?_
      refine E_goto C 89 dX11_finds_106 (by decide) ?_
      exact E_pick [1, 2, 3, 4, 0] rfl (ih ((v4 + 1)) μ100)
def X11_finds_L76 (G : Mem → Option (Unit × Mem)) (v0 : Nat) (v1 : Int32) (v2 : Int32) : Nat → Int32 → Mem → Option (Unit × Mem)
  | 0, _, _ => none
  | n + 1, v3, μ => (gR μ v0 11 0).bind fun x78 => (aI μ 0 x78 ((0 : Int32))).bind fun x82 => if x82 < v3 then (G μ) else (X11_finds_L89 (fun μ_109 => X11_finds_L76 G v0 v1 v2 n ((v3 + 1)) μ_109) v0 v1 v2 v3 FU ((0 : Int32)) μ)
set_option maxHeartbeats 4000000 in
set_option maxRecDepth 100000 in
theorem X11_finds_L76_ok {p : Program} {l : Launch} {e : Env} {R : Room} {s : State} {m : MethodId} {args : Array Value} {below : List Frame} {meth : Method} {c : Code} {D : va_G} {ca : Nat → ClassId} {ad : Nat → Nat} {A : Nat → Prop} {X : State → Prop} (C : CX p R s m args meth c D ca ad A X cX11_finds RX11 5 none 6) {G : Mem → Option (Unit × Mem)} (v0 : Nat) (v1 : Int32) (v2 : Int32) (hG : ∀  (μx : Mem), Sm p l e R s m args below meth c D ca ad A 5 0 0 wU (KQ below args s D ca ad A) 115 [(0, .ref v0), (1, .int v1), (2, .int v2)] [] μx (G  μx)) : ∀ (n : Nat) (v3 : Int32) (μ : Mem), Sm p l e R s m args below meth c D ca ad A 5 0 0 wU (KQ below args s D ca ad A) 76 [(0, .ref v0), (1, .int v1), (2, .int v2), (3, .int v3)] [] μ (X11_finds_L76 G v0 v1 v2 n v3 μ) := by
  intro n
  induction n with
  | zero =>
    intro v3 μ
    rw [X11_finds_L76]
    exact E_none
  | succ n ih =>
    intro v3 μ
    rw [X11_finds_L76]
    refine E_iload_n C dX11_finds_76 3 rfl ?_
    refine E_aload_n C dX11_finds_77 0 rfl ?_
    refine E_getR C F_X11_11 dX11_finds_78 (fun x78 => ?_)
    refine E_iconst C 0 dX11_finds_81 (by decide) ?_
    refine E_iaload C dX11_finds_82 (fun x82 => ?_)
    refine E_icmp_gt C 115 dX11_finds_83 (by decide) ?_ ?_
    · exact E_pick [0, 1, 2] rfl (hG μ)
    · refine E_at (pc2 := 86) rfl ?_
      refine E_iconst C 0 dX11_finds_86 (by decide) ?_
      refine E_istore (lv' := [(4, .int ((0 : Int32))), (0, .ref v0), (1, .int v1), (2, .int v2), (3, .int v3)]) C dX11_finds_87 (by decide) rfl ?_
      refine E_at (pc2 := 89) rfl ?_
      refine E_pick (lv' := [(0, .ref v0), (1, .int v1), (2, .int v2), (3, .int v3), (4, .int ((0 : Int32)))]) [1, 2, 3, 4, 0] rfl ?_
      refine X11_finds_L89_ok C v0 v1 v2 v3 (fun μ_109 => ?_) FU ((0 : Int32)) μ
      refine E_iinc (lv' := [(3, .int ((v3 + 1))), (0, .ref v0), (1, .int v1), (2, .int v2)]) C (v3 + 1) dX11_finds_109 3 rfl rfl (by decide) rfl ?_
      refine E_goto C 76 dX11_finds_112 (by decide) ?_
      exact E_pick [1, 2, 3, 0] rfl (ih ((v3 + 1)) μ_109)
def X11_finds_L69 (G : Mem → Option (Unit × Mem)) (v0 : Nat) (v1 : Int32) : Nat → Int32 → Mem → Option (Unit × Mem)
  | 0, _, _ => none
  | n + 1, v2, μ => if v2 < v1 then (G μ) else (X11_finds_L76 (fun μ_115 => X11_finds_L69 G v0 v1 n ((v2 + -1)) μ_115) v0 v1 v2 FU ((0 : Int32)) μ)
set_option maxHeartbeats 4000000 in
set_option maxRecDepth 100000 in
theorem X11_finds_L69_ok {p : Program} {l : Launch} {e : Env} {R : Room} {s : State} {m : MethodId} {args : Array Value} {below : List Frame} {meth : Method} {c : Code} {D : va_G} {ca : Nat → ClassId} {ad : Nat → Nat} {A : Nat → Prop} {X : State → Prop} (C : CX p R s m args meth c D ca ad A X cX11_finds RX11 5 none 6) {G : Mem → Option (Unit × Mem)} (v0 : Nat) (v1 : Int32) (hG : ∀  (μx : Mem), Sm p l e R s m args below meth c D ca ad A 5 0 0 wU (KQ below args s D ca ad A) 121 [] [] μx (G  μx)) : ∀ (n : Nat) (v2 : Int32) (μ : Mem), Sm p l e R s m args below meth c D ca ad A 5 0 0 wU (KQ below args s D ca ad A) 69 [(0, .ref v0), (1, .int v1), (2, .int v2)] [] μ (X11_finds_L69 G v0 v1 n v2 μ) := by
  intro n
  induction n with
  | zero =>
    intro v2 μ
    rw [X11_finds_L69]
    exact E_none
  | succ n ih =>
    intro v2 μ
    rw [X11_finds_L69]
    refine E_iload_n C dX11_finds_69 2 rfl ?_
    refine E_iload_n C dX11_finds_70 1 rfl ?_
    refine E_icmp_lt C 121 dX11_finds_71 (by decide) ?_ ?_
    · exact E_pick [] rfl (hG μ)
    · refine E_at (pc2 := 74) rfl ?_
      refine E_iconst C 0 dX11_finds_74 (by decide) ?_
      refine E_istore_n (lv' := [(3, .int ((0 : Int32))), (0, .ref v0), (1, .int v1), (2, .int v2)]) C dX11_finds_75 (by decide) rfl ?_
      refine E_at (pc2 := 76) rfl ?_
      refine E_pick (lv' := [(0, .ref v0), (1, .int v1), (2, .int v2), (3, .int ((0 : Int32)))]) [1, 2, 3, 0] rfl ?_
      refine X11_finds_L76_ok C v0 v1 v2 (fun μ_115 => ?_) FU ((0 : Int32)) μ
      refine E_iinc (lv' := [(2, .int ((v2 + -1))), (0, .ref v0), (1, .int v1)]) C (v2 + -1) dX11_finds_115 2 rfl rfl (by decide) rfl ?_
      refine E_goto C 69 dX11_finds_118 (by decide) ?_
      exact E_pick [1, 2, 0] rfl (ih ((v2 + -1)) μ_115)
def fX11_finds (v0 : Nat) (v1 : Int32) (μ : Mem) : Option (Unit × Mem) :=
  (isC μ v0 11).bind fun _ => bd (fX11_ranks v0 μ) fun _ μ1 => X11_finds_L6 (fun μ_60 => (gR μ_60 v0 11 0).bind fun x61 => (aI μ_60 0 x61 ((1 : Int32))).bind fun x65 => X11_finds_L69 (fun μ_121 => some ((), μ_121)) v0 v1 FU ((x65 - (1 : Int32))) μ_60) v0 v1 FU ((0 : Int32)) μ1
set_option maxHeartbeats 4000000 in
set_option maxRecDepth 100000 in
theorem mX11_finds (v0 : Nat) (v1 : Int32) (μ : Mem) : Meth wU yX11_finds cX11_finds 5 none 6 [.ref v0, .int v1] μ (fX11_finds v0 v1 μ) := by
  refine Meth.of (by decide) [(0, .ref v0), (1, .int v1)] rfl (Nat.le_of_ble_eq_true rfl) ?_
  intro p l e R s m args below meth c D ca ad A X C
  have C : CX p R s m args meth c D ca ad A X cX11_finds RX11 5 none 6 := C
  unfold fX11_finds
  refine E_aload_n C dX11_finds_0 0 rfl ?_
  refine E_callVU (st := []) C [] (mX11_ranks v0 μ) cal_X11_ranks vir_X11_ranks lk_X11_145 dX11_finds_1 rfl rfl (Nat.le_of_ble_eq_true rfl) (Nat.le_of_ble_eq_true rfl) (fun _ μ1 => ?_)
  refine E_iconst C 0 dX11_finds_4 (by decide) ?_
  refine E_istore_n (lv' := [(2, .int ((0 : Int32))), (0, .ref v0), (1, .int v1)]) C dX11_finds_5 (by decide) rfl ?_
  refine E_at (pc2 := 6) rfl ?_
  refine E_pick (lv' := [(0, .ref v0), (1, .int v1), (2, .int ((0 : Int32)))]) [1, 2, 0] rfl ?_
  refine X11_finds_L6_ok C v0 v1 (fun μ_60 => ?_) FU ((0 : Int32)) μ1
  refine E_aload_n C dX11_finds_60 0 rfl ?_
  refine E_getR C F_X11_11 dX11_finds_61 (fun x61 => ?_)
  refine E_iconst C 1 dX11_finds_64 (by decide) ?_
  refine E_iaload C dX11_finds_65 (fun x65 => ?_)
  refine E_iconst C 1 dX11_finds_66 (by decide) ?_
  refine E_isub C dX11_finds_67 ?_
  refine E_istore_n (lv' := [(2, .int ((x65 - (1 : Int32)))), (0, .ref v0), (1, .int v1)]) C dX11_finds_68 (by decide) rfl ?_
  refine E_at (pc2 := 69) rfl ?_
  refine E_pick (lv' := [(0, .ref v0), (1, .int v1), (2, .int ((x65 - (1 : Int32))))]) [1, 2, 0] rfl ?_
  refine X11_finds_L69_ok C v0 v1 (fun μ_121 => ?_) FU ((x65 - (1 : Int32))) μ_60
  exact E_ret C dX11_finds_121
def fJxf58ca_isNaN_12338 (v0 : UInt32) (μ : Mem) : Option (Int32 × Mem) :=
  if (Op.cmpValue (FP.fcmp v0 v0) .l) = 0 then ((zz ((0 : Int32))).bind fun z => some (z, μ)) else ((zz ((1 : Int32))).bind fun z => some (z, μ))
set_option maxHeartbeats 4000000 in
set_option maxRecDepth 100000 in
theorem mJxf58ca_isNaN_12338 (v0 : UInt32) (μ : Mem) : Meth wI yJxf58ca_isNaN_12338 cJxf58ca_isNaN_12338 1 (some .boolean) 0 [.float v0] μ (fJxf58ca_isNaN_12338 v0 μ) := by
  refine Meth.ofF (by decide +kernel) [(0, .float v0)] rfl (Nat.le_of_ble_eq_true rfl) ?_
  intro p l e R s m args below meth c D ca ad A X C
  have C : CX p R s m args meth c D ca ad A X cJxf58ca_isNaN_12338 RJxf58ca 1 (some .boolean) 0 := C
  unfold fJxf58ca_isNaN_12338
  refine E_fload_n C dJxf58ca_isNaN_12338_0 0 rfl ?_
  refine E_fload_n C dJxf58ca_isNaN_12338_1 0 rfl ?_
  refine E_fcmp C dJxf58ca_isNaN_12338_2 ?_
  refine E_if_eq C 10 dJxf58ca_isNaN_12338_3 (by decide) ?_ ?_
  · refine E_iconst C 0 dJxf58ca_isNaN_12338_10 (by decide) ?_
    exact E_zret C dJxf58ca_isNaN_12338_11
  · refine E_at (pc2 := 6) rfl ?_
    refine E_iconst C 1 dJxf58ca_isNaN_12338_6 (by decide) ?_
    refine E_goto C 11 dJxf58ca_isNaN_12338_7 (by decide) ?_
    exact E_zret C dJxf58ca_isNaN_12338_11
def fJxf58ca_floatToIntBits_5c35a (v0 : UInt32) (μ : Mem) : Option (Int32 × Mem) :=
  bd (fJxf58ca_isNaN_12338 v0 μ) fun x1 μ1 => if x1 = 0 then (some (v0.toInt32, μ1)) else (some ((2143289344 : Int32), μ1))
set_option maxHeartbeats 4000000 in
set_option maxRecDepth 100000 in
theorem mJxf58ca_floatToIntBits_5c35a (v0 : UInt32) (μ : Mem) : Meth wI yJxf58ca_floatToIntBits_5c35a cJxf58ca_floatToIntBits_5c35a 1 (some .int) 1 [.float v0] μ (fJxf58ca_floatToIntBits_5c35a v0 μ) := by
  refine Meth.ofF (by decide +kernel) [(0, .float v0)] rfl (Nat.le_of_ble_eq_true rfl) ?_
  intro p l e R s m args below meth c D ca ad A X C
  have C : CX p R s m args meth c D ca ad A X cJxf58ca_floatToIntBits_5c35a RJxf58ca 1 (some .int) 1 := C
  unfold fJxf58ca_floatToIntBits_5c35a
  refine E_fload_n C dJxf58ca_floatToIntBits_5c35a_0 0 rfl ?_
  refine E_callSI (st := []) C [.float v0] (mJxf58ca_isNaN_12338 v0 μ) cal_Jxf58ca_isNaN_12338 st_Jxf58ca_isNaN_12338 lk_Jxf58ca_59 dJxf58ca_floatToIntBits_5c35a_1 rfl rfl (Nat.le_of_ble_eq_true rfl) (Nat.le_of_ble_eq_true rfl) (fun x1 μ1 => ?_)
  refine E_if_ne C 12 dJxf58ca_floatToIntBits_5c35a_4 (by decide) ?_ ?_
  · refine E_ldcI C dJxf58ca_floatToIntBits_5c35a_12 k_Jxf58ca_77 ?_
    exact E_iret C dJxf58ca_floatToIntBits_5c35a_14
  · refine E_at (pc2 := 7) rfl ?_
    refine E_fload_n C dJxf58ca_floatToIntBits_5c35a_7 0 rfl ?_
    refine E_rawI C lk_Jxf58ca_74 na_raw st_raw in_Float dJxf58ca_floatToIntBits_5c35a_8 (Nat.le_of_ble_eq_true rfl) (Nat.le_of_ble_eq_true rfl) ?_
    exact E_iret C dJxf58ca_floatToIntBits_5c35a_11
def fX11_bits (v0 : UInt32) (μ : Mem) : Option (Int64 × Mem) :=
  bd (fJxf58ca_floatToIntBits_5c35a v0 μ) fun x1 μ1 => some (x1.toInt64, μ1)
set_option maxHeartbeats 4000000 in
set_option maxRecDepth 100000 in
theorem mX11_bits (v0 : UInt32) (μ : Mem) : Meth wJ yX11_bits cX11_bits 1 (some .long) 2 [.float v0] μ (fX11_bits v0 μ) := by
  refine Meth.of (by decide) [(0, .float v0)] rfl (Nat.le_of_ble_eq_true rfl) ?_
  intro p l e R s m args below meth c D ca ad A X C
  have C : CX p R s m args meth c D ca ad A X cX11_bits RX11 1 (some .long) 2 := C
  unfold fX11_bits
  refine E_fload_n C dX11_bits_0 0 rfl ?_
  refine E_callSI (st := []) C [.float v0] (mJxf58ca_floatToIntBits_5c35a v0 μ) cal_Jxf58ca_floatToIntBits_5c35a st_Jxf58ca_floatToIntBits_5c35a lk_X11_191 dX11_bits_1 rfl rfl (Nat.le_of_ble_eq_true rfl) (Nat.le_of_ble_eq_true rfl) (fun x1 μ1 => ?_)
  refine E_i2l C dX11_bits_4 ?_
  exact E_lret C dX11_bits_5
def fX11_best (v0 : Nat) (v1 : Int32) (v2 : Int32) (v3 : Int32) (μ : Mem) : Option (Int64 × Mem) :=
  (gR μ v0 11 0).bind fun x4 => (aI μ 0 x4 ((1 : Int32))).bind fun x8 => bd (fX11_in v1.toInt64 ((0 : Int64)) x8.toInt64 μ) fun x10 μ10 => if x10 = 0 then (some ((-9223372036854775808 : Int64), μ10)) else ((isC μ10 v0 11).bind fun _ => bd (fX11_isStore v0 v2 μ10) fun x18 μ18 => if x18 = 0 then (some ((-9223372036854775808 : Int64), μ18)) else (bd (fX11_isState v3 μ18) fun x25 μ25 => if x25 = 0 then (some ((-9223372036854775808 : Int64), μ25)) else ((isC μ25 v0 11).bind fun _ => bd (fX11_finds v0 v1 μ25) fun _ μ37 => (gR μ37 v0 11 6).bind fun x41 => bd (fX11_place v1 v2 v3 μ37) fun x47 μ47 => (aF μ47 x41 x47).bind fun x50 => bd (fX11_bits x50 μ47) fun x51 μ51 => some (x51, μ51))))
set_option maxHeartbeats 4000000 in
set_option maxRecDepth 100000 in
theorem mX11_best (v0 : Nat) (v1 : Int32) (v2 : Int32) (v3 : Int32) (μ : Mem) : Meth wJ yX11_best cX11_best 4 (some .long) 7 [.ref v0, .int v1, .int v2, .int v3] μ (fX11_best v0 v1 v2 v3 μ) := by
  refine Meth.of (by decide) [(0, .ref v0), (1, .int v1), (2, .int v2), (3, .int v3)] rfl (Nat.le_of_ble_eq_true rfl) ?_
  intro p l e R s m args below meth c D ca ad A X C
  have C : CX p R s m args meth c D ca ad A X cX11_best RX11 4 (some .long) 7 := C
  unfold fX11_best
  refine E_iload_n C dX11_best_0 1 rfl ?_
  refine E_i2l C dX11_best_1 ?_
  refine E_lconst C 0 dX11_best_2 (by decide) ?_
  refine E_aload_n C dX11_best_3 0 rfl ?_
  refine E_getR C F_X11_11 dX11_best_4 (fun x4 => ?_)
  refine E_iconst C 1 dX11_best_7 (by decide) ?_
  refine E_iaload C dX11_best_8 (fun x8 => ?_)
  refine E_i2l C dX11_best_9 ?_
  refine E_callSI (st := []) C [.long v1.toInt64, .long ((0 : Int64)), .long x8.toInt64] (mX11_in v1.toInt64 ((0 : Int64)) x8.toInt64 μ) cal_X11_in st_X11_in lk_X11_65 dX11_best_10 rfl rfl (Nat.le_of_ble_eq_true rfl) (Nat.le_of_ble_eq_true rfl) (fun x10 μ10 => ?_)
  refine E_if_eq C 31 dX11_best_13 (by decide) ?_ ?_
  · refine E_ldc2 C dX11_best_31 k_X11_143 ?_
    exact E_lret C dX11_best_34
  · refine E_at (pc2 := 16) rfl ?_
    refine E_aload_n C dX11_best_16 0 rfl ?_
    refine E_iload_n C dX11_best_17 2 rfl ?_
    refine E_callVI (st := []) C [.int v2] (mX11_isStore v0 v2 μ10) cal_X11_isStore vir_X11_isStore lk_X11_169 dX11_best_18 rfl rfl (Nat.le_of_ble_eq_true rfl) (Nat.le_of_ble_eq_true rfl) (fun x18 μ18 => ?_)
    refine E_if_eq C 31 dX11_best_21 (by decide) ?_ ?_
    · refine E_ldc2 C dX11_best_31 k_X11_143 ?_
      exact E_lret C dX11_best_34
    · refine E_at (pc2 := 24) rfl ?_
      refine E_iload_n C dX11_best_24 3 rfl ?_
      refine E_callSI (st := []) C [.int v3] (mX11_isState v3 μ18) cal_X11_isState st_X11_isState lk_X11_87 dX11_best_25 rfl rfl (Nat.le_of_ble_eq_true rfl) (Nat.le_of_ble_eq_true rfl) (fun x25 μ25 => ?_)
      refine E_if_ne C 35 dX11_best_28 (by decide) ?_ ?_
      · refine E_aload_n C dX11_best_35 0 rfl ?_
        refine E_iload_n C dX11_best_36 1 rfl ?_
        refine E_callVU (st := []) C [.int v1] (mX11_finds v0 v1 μ25) cal_X11_finds vir_X11_finds lk_X11_197 dX11_best_37 rfl rfl (Nat.le_of_ble_eq_true rfl) (Nat.le_of_ble_eq_true rfl) (fun _ μ37 => ?_)
        refine E_aload_n C dX11_best_40 0 rfl ?_
        refine E_getR C F_X11_24 dX11_best_41 (fun x41 => ?_)
        refine E_iload_n C dX11_best_44 1 rfl ?_
        refine E_iload_n C dX11_best_45 2 rfl ?_
        refine E_iload_n C dX11_best_46 3 rfl ?_
        refine E_callSI (st := [.ref x41]) C [.int v1, .int v2, .int v3] (mX11_place v1 v2 v3 μ37) cal_X11_place st_X11_place lk_X11_176 dX11_best_47 rfl rfl (Nat.le_of_ble_eq_true rfl) (Nat.le_of_ble_eq_true rfl) (fun x47 μ47 => ?_)
        refine E_faload C dX11_best_50 (fun x50 => ?_)
        refine E_callSJ (st := []) C [.float x50] (mX11_bits x50 μ47) cal_X11_bits st_X11_bits lk_X11_201 dX11_best_51 rfl rfl (Nat.le_of_ble_eq_true rfl) (Nat.le_of_ble_eq_true rfl) (fun x51 μ51 => ?_)
        exact E_lret C dX11_best_54
      · refine E_at (pc2 := 31) rfl ?_
        refine E_ldc2 C dX11_best_31 k_X11_143 ?_
        exact E_lret C dX11_best_34
def fX11_release (v0 : Nat) (v1 : Int32) (v2 : Int32) (v3 : Int32) (μ : Mem) : Option (Int32 × Mem) :=
  (isC μ v0 11).bind fun _ => bd (fX11_isAhead v0 v1 μ) fun x2 μ2 => if x2 = 0 then (some ((-1 : Int32), μ2)) else ((isC μ2 v0 11).bind fun _ => bd (fX11_isStore v0 v2 μ2) fun x10 μ10 => if x10 = 0 then (some ((-1 : Int32), μ10)) else (bd (fX11_isState v3 μ10) fun x17 μ17 => if x17 = 0 then (some ((-1 : Int32), μ17)) else ((isC μ17 v0 11).bind fun _ => bd (fX11_finds v0 v1 μ17) fun _ μ27 => (gR μ27 v0 11 7).bind fun x31 => bd (fX11_place v1 v2 v3 μ27) fun x37 μ37 => (aI μ37 0 x31 x37).bind fun x40 => some (x40, μ37))))
set_option maxHeartbeats 4000000 in
set_option maxRecDepth 100000 in
theorem mX11_release (v0 : Nat) (v1 : Int32) (v2 : Int32) (v3 : Int32) (μ : Mem) : Meth wI yX11_release cX11_release 4 (some .int) 7 [.ref v0, .int v1, .int v2, .int v3] μ (fX11_release v0 v1 v2 v3 μ) := by
  refine Meth.of (by decide) [(0, .ref v0), (1, .int v1), (2, .int v2), (3, .int v3)] rfl (Nat.le_of_ble_eq_true rfl) ?_
  intro p l e R s m args below meth c D ca ad A X C
  have C : CX p R s m args meth c D ca ad A X cX11_release RX11 4 (some .int) 7 := C
  unfold fX11_release
  refine E_aload_n C dX11_release_0 0 rfl ?_
  refine E_iload_n C dX11_release_1 1 rfl ?_
  refine E_callVI (st := []) C [.int v1] (mX11_isAhead v0 v1 μ) cal_X11_isAhead vir_X11_isAhead lk_X11_205 dX11_release_2 rfl rfl (Nat.le_of_ble_eq_true rfl) (Nat.le_of_ble_eq_true rfl) (fun x2 μ2 => ?_)
  refine E_if_eq C 23 dX11_release_5 (by decide) ?_ ?_
  · refine E_iconst C (-1) dX11_release_23 (by decide) ?_
    exact E_iret C dX11_release_24
  · refine E_at (pc2 := 8) rfl ?_
    refine E_aload_n C dX11_release_8 0 rfl ?_
    refine E_iload_n C dX11_release_9 2 rfl ?_
    refine E_callVI (st := []) C [.int v2] (mX11_isStore v0 v2 μ2) cal_X11_isStore vir_X11_isStore lk_X11_169 dX11_release_10 rfl rfl (Nat.le_of_ble_eq_true rfl) (Nat.le_of_ble_eq_true rfl) (fun x10 μ10 => ?_)
    refine E_if_eq C 23 dX11_release_13 (by decide) ?_ ?_
    · refine E_iconst C (-1) dX11_release_23 (by decide) ?_
      exact E_iret C dX11_release_24
    · refine E_at (pc2 := 16) rfl ?_
      refine E_iload_n C dX11_release_16 3 rfl ?_
      refine E_callSI (st := []) C [.int v3] (mX11_isState v3 μ10) cal_X11_isState st_X11_isState lk_X11_87 dX11_release_17 rfl rfl (Nat.le_of_ble_eq_true rfl) (Nat.le_of_ble_eq_true rfl) (fun x17 μ17 => ?_)
      refine E_if_ne C 25 dX11_release_20 (by decide) ?_ ?_
      · refine E_aload_n C dX11_release_25 0 rfl ?_
        refine E_iload_n C dX11_release_26 1 rfl ?_
        refine E_callVU (st := []) C [.int v1] (mX11_finds v0 v1 μ17) cal_X11_finds vir_X11_finds lk_X11_197 dX11_release_27 rfl rfl (Nat.le_of_ble_eq_true rfl) (Nat.le_of_ble_eq_true rfl) (fun _ μ27 => ?_)
        refine E_aload_n C dX11_release_30 0 rfl ?_
        refine E_getR C F_X11_28 dX11_release_31 (fun x31 => ?_)
        refine E_iload_n C dX11_release_34 1 rfl ?_
        refine E_iload_n C dX11_release_35 2 rfl ?_
        refine E_iload_n C dX11_release_36 3 rfl ?_
        refine E_callSI (st := [.ref x31]) C [.int v1, .int v2, .int v3] (mX11_place v1 v2 v3 μ27) cal_X11_place st_X11_place lk_X11_176 dX11_release_37 rfl rfl (Nat.le_of_ble_eq_true rfl) (Nat.le_of_ble_eq_true rfl) (fun x37 μ37 => ?_)
        refine E_iaload C dX11_release_40 (fun x40 => ?_)
        exact E_iret C dX11_release_41
      · refine E_at (pc2 := 23) rfl ?_
        refine E_iconst C (-1) dX11_release_23 (by decide) ?_
        exact E_iret C dX11_release_24
def fX11_would (v0 : Nat) (v1 : Int32) (v2 : Int32) (v3 : Int32) (v4 : Int32) (μ : Mem) : Option (Int64 × Mem) :=
  (isC μ v0 11).bind fun _ => bd (fX11_isAhead v0 v1 μ) fun x2 μ2 => if x2 = 0 then (some ((-9223372036854775808 : Int64), μ2)) else ((isC μ2 v0 11).bind fun _ => bd (fX11_isStore v0 v2 μ2) fun x10 μ10 => if x10 = 0 then (some ((-9223372036854775808 : Int64), μ10)) else (bd (fX11_isState v3 μ10) fun x17 μ17 => if x17 = 0 then (some ((-9223372036854775808 : Int64), μ17)) else (bd (fX11_in v4.toInt64 ((0 : Int64)) ((20 : Int64)) μ17) fun x30 μ30 => if x30 = 0 then (some ((-9223372036854775808 : Int64), μ30)) else ((isC μ30 v0 11).bind fun _ => bd (fX11_finds v0 ((v1 + (1 : Int32))) μ30) fun _ μ44 => (isC μ44 v0 11).bind fun _ => bd (fX11_comesTo v0 v1 v2 v3 v4 μ44) fun x53 μ53 => bd (fX11_bits x53 μ53) fun x56 μ56 => some (x56, μ56)))))
set_option maxHeartbeats 4000000 in
set_option maxRecDepth 100000 in
theorem mX11_would (v0 : Nat) (v1 : Int32) (v2 : Int32) (v3 : Int32) (v4 : Int32) (μ : Mem) : Meth wJ yX11_would cX11_would 5 (some .long) 7 [.ref v0, .int v1, .int v2, .int v3, .int v4] μ (fX11_would v0 v1 v2 v3 v4 μ) := by
  refine Meth.of (by decide) [(0, .ref v0), (1, .int v1), (2, .int v2), (3, .int v3), (4, .int v4)] rfl (Nat.le_of_ble_eq_true rfl) ?_
  intro p l e R s m args below meth c D ca ad A X C
  have C : CX p R s m args meth c D ca ad A X cX11_would RX11 5 (some .long) 7 := C
  unfold fX11_would
  refine E_aload_n C dX11_would_0 0 rfl ?_
  refine E_iload_n C dX11_would_1 1 rfl ?_
  refine E_callVI (st := []) C [.int v1] (mX11_isAhead v0 v1 μ) cal_X11_isAhead vir_X11_isAhead lk_X11_205 dX11_would_2 rfl rfl (Nat.le_of_ble_eq_true rfl) (Nat.le_of_ble_eq_true rfl) (fun x2 μ2 => ?_)
  refine E_if_eq C 36 dX11_would_5 (by decide) ?_ ?_
  · refine E_ldc2 C dX11_would_36 k_X11_143 ?_
    exact E_lret C dX11_would_39
  · refine E_at (pc2 := 8) rfl ?_
    refine E_aload_n C dX11_would_8 0 rfl ?_
    refine E_iload_n C dX11_would_9 2 rfl ?_
    refine E_callVI (st := []) C [.int v2] (mX11_isStore v0 v2 μ2) cal_X11_isStore vir_X11_isStore lk_X11_169 dX11_would_10 rfl rfl (Nat.le_of_ble_eq_true rfl) (Nat.le_of_ble_eq_true rfl) (fun x10 μ10 => ?_)
    refine E_if_eq C 36 dX11_would_13 (by decide) ?_ ?_
    · refine E_ldc2 C dX11_would_36 k_X11_143 ?_
      exact E_lret C dX11_would_39
    · refine E_at (pc2 := 16) rfl ?_
      refine E_iload_n C dX11_would_16 3 rfl ?_
      refine E_callSI (st := []) C [.int v3] (mX11_isState v3 μ10) cal_X11_isState st_X11_isState lk_X11_87 dX11_would_17 rfl rfl (Nat.le_of_ble_eq_true rfl) (Nat.le_of_ble_eq_true rfl) (fun x17 μ17 => ?_)
      refine E_if_eq C 36 dX11_would_20 (by decide) ?_ ?_
      · refine E_ldc2 C dX11_would_36 k_X11_143 ?_
        exact E_lret C dX11_would_39
      · refine E_at (pc2 := 23) rfl ?_
        refine E_iload C dX11_would_23 4 rfl ?_
        refine E_i2l C dX11_would_25 ?_
        refine E_lconst C 0 dX11_would_26 (by decide) ?_
        refine E_ldc2 C dX11_would_27 k_X11_208 ?_
        refine E_callSI (st := []) C [.long v4.toInt64, .long ((0 : Int64)), .long ((20 : Int64))] (mX11_in v4.toInt64 ((0 : Int64)) ((20 : Int64)) μ17) cal_X11_in st_X11_in lk_X11_65 dX11_would_30 rfl rfl (Nat.le_of_ble_eq_true rfl) (Nat.le_of_ble_eq_true rfl) (fun x30 μ30 => ?_)
        refine E_if_ne C 40 dX11_would_33 (by decide) ?_ ?_
        · refine E_aload_n C dX11_would_40 0 rfl ?_
          refine E_iload_n C dX11_would_41 1 rfl ?_
          refine E_iconst C 1 dX11_would_42 (by decide) ?_
          refine E_iadd C dX11_would_43 ?_
          refine E_callVU (st := []) C [.int ((v1 + (1 : Int32)))] (mX11_finds v0 ((v1 + (1 : Int32))) μ30) cal_X11_finds vir_X11_finds lk_X11_197 dX11_would_44 rfl rfl (Nat.le_of_ble_eq_true rfl) (Nat.le_of_ble_eq_true rfl) (fun _ μ44 => ?_)
          refine E_aload_n C dX11_would_47 0 rfl ?_
          refine E_iload_n C dX11_would_48 1 rfl ?_
          refine E_iload_n C dX11_would_49 2 rfl ?_
          refine E_iload_n C dX11_would_50 3 rfl ?_
          refine E_iload C dX11_would_51 4 rfl ?_
          refine E_callVF (st := []) C [.int v1, .int v2, .int v3, .int v4] (mX11_comesTo v0 v1 v2 v3 v4 μ44) cal_X11_comesTo vir_X11_comesTo lk_X11_187 dX11_would_53 rfl rfl (Nat.le_of_ble_eq_true rfl) (Nat.le_of_ble_eq_true rfl) (fun x53 μ53 => ?_)
          refine E_callSJ (st := []) C [.float x53] (mX11_bits x53 μ53) cal_X11_bits st_X11_bits lk_X11_201 dX11_would_56 rfl rfl (Nat.le_of_ble_eq_true rfl) (Nat.le_of_ble_eq_true rfl) (fun x56 μ56 => ?_)
          exact E_lret C dX11_would_59
        · refine E_at (pc2 := 36) rfl ?_
          refine E_ldc2 C dX11_would_36 k_X11_143 ?_
          exact E_lret C dX11_would_39
def X11_after_L33 (G : Mem → Option (Int64 × Mem)) (v0 : Nat) (v1 : Int32) (v2 : Int32) (v3 : Int32) : Nat → Int32 → Mem → Option (Int64 × Mem)
  | 0, _, _ => none
  | n + 1, v4, μ => if (3 : Int32) ≤ v4 then (G μ) else ((gR μ v0 11 16).bind fun x40 => if v4 = v2 then ((sF μ x40 v4 FP.fconst1).bind fun μ56 => X11_after_L33 G v0 v1 v2 v3 n ((v4 + 1)) μ56) else ((sF μ x40 v4 FP.fconst0).bind fun μ56 => X11_after_L33 G v0 v1 v2 v3 n ((v4 + 1)) μ56))
set_option maxHeartbeats 4000000 in
set_option maxRecDepth 100000 in
theorem X11_after_L33_ok {p : Program} {l : Launch} {e : Env} {R : Room} {s : State} {m : MethodId} {args : Array Value} {below : List Frame} {meth : Method} {c : Code} {D : va_G} {ca : Nat → ClassId} {ad : Nat → Nat} {A : Nat → Prop} {X : State → Prop} (C : CX p R s m args meth c D ca ad A X cX11_after RX11 8 (some .long) 3) {G : Mem → Option (Int64 × Mem)} (v0 : Nat) (v1 : Int32) (v2 : Int32) (v3 : Int32) (hG : ∀  (μx : Mem), Sm p l e R s m args below meth c D ca ad A 8 0 0 wJ (KQ below args s D ca ad A) 63 [(0, .ref v0), (1, .int v1), (3, .int v3)] [] μx (G  μx)) : ∀ (n : Nat) (v4 : Int32) (μ : Mem), Sm p l e R s m args below meth c D ca ad A 8 0 0 wJ (KQ below args s D ca ad A) 33 [(0, .ref v0), (1, .int v1), (2, .int v2), (3, .int v3), (4, .int v4)] [] μ (X11_after_L33 G v0 v1 v2 v3 n v4 μ) := by
  intro n
  induction n with
  | zero =>
    intro v4 μ
    rw [X11_after_L33]
    exact E_none
  | succ n ih =>
    intro v4 μ
    rw [X11_after_L33]
    refine E_iload C dX11_after_33 4 rfl ?_
    refine E_iconst C 3 dX11_after_35 (by decide) ?_
    refine E_icmp_ge C 63 dX11_after_36 (by decide) ?_ ?_
    · exact E_pick [0, 1, 3] rfl (hG μ)
    · refine E_at (pc2 := 39) rfl ?_
      refine E_aload_n C dX11_after_39 0 rfl ?_
      refine E_getR C F_X11_37 dX11_after_40 (fun x40 => ?_)
      refine E_iload C dX11_after_43 4 rfl ?_
      refine E_iload C dX11_after_45 4 rfl ?_
      refine E_iload_n C dX11_after_47 2 rfl ?_
      refine E_icmp_ne C 55 dX11_after_48 (by decide) ?_ ?_
      · refine E_fconst0 C dX11_after_55 ?_
        refine E_at (pc2 := 56) rfl ?_
        refine E_fastore C dX11_after_56 (fun μ56 => ?_)
        refine E_iinc (lv' := [(4, .int ((v4 + 1))), (0, .ref v0), (1, .int v1), (2, .int v2), (3, .int v3)]) C (v4 + 1) dX11_after_57 4 rfl rfl (by decide) rfl ?_
        refine E_goto C 33 dX11_after_60 (by decide) ?_
        exact E_pick [1, 2, 3, 4, 0] rfl (ih ((v4 + 1)) μ56)
      · refine E_at (pc2 := 51) rfl ?_
        refine E_fconst1 C dX11_after_51 ?_
        refine E_goto C 56 dX11_after_52 (by decide) ?_
        refine E_fastore C dX11_after_56 (fun μ56 => ?_)
        refine E_iinc (lv' := [(4, .int ((v4 + 1))), (0, .ref v0), (1, .int v1), (2, .int v2), (3, .int v3)]) C (v4 + 1) dX11_after_57 4 rfl rfl (by decide) rfl ?_
        refine E_goto C 33 dX11_after_60 (by decide) ?_
        exact E_pick [1, 2, 3, 4, 0] rfl (ih ((v4 + 1)) μ56)
def X11_after_L87 (G : UInt32 → Mem → Option (Int64 × Mem)) (v0 : Nat) (v1 : Int32) (v3 : Int32) (v4 : Int32) (v5 : Int32) : Nat → UInt32 → Int32 → Mem → Option (Int64 × Mem)
  | 0, _, _, _ => none
  | n + 1, v6, v7, μ => if (3 : Int32) ≤ v7 then (G v6 μ) else ((gR μ v0 11 16).bind fun x96 => (aF μ x96 v7).bind fun x101 => (isC μ v0 11).bind fun _ => bd (fX11_part v0 v7 v5 μ) fun x107 μ107 => (isC μ107 v0 11).bind fun _ => bd (fX11_parts v0 v7 μ107) fun x114 μ114 => (nn (FP.fdiv ((FP.i2f x107)) ((FP.i2f x114)))).bind fun x118 => (nn (FP.fmul x101 x118)).bind fun x119 => (nn (FP.fadd v6 x119)).bind fun x120 => X11_after_L87 G v0 v1 v3 v4 v5 n x120 ((v7 + 1)) μ114)
set_option maxHeartbeats 4000000 in
set_option maxRecDepth 100000 in
theorem X11_after_L87_ok {p : Program} {l : Launch} {e : Env} {R : Room} {s : State} {m : MethodId} {args : Array Value} {below : List Frame} {meth : Method} {c : Code} {D : va_G} {ca : Nat → ClassId} {ad : Nat → Nat} {A : Nat → Prop} {X : State → Prop} (C : CX p R s m args meth c D ca ad A X cX11_after RX11 8 (some .long) 3) {G : UInt32 → Mem → Option (Int64 × Mem)} (v0 : Nat) (v1 : Int32) (v3 : Int32) (v4 : Int32) (v5 : Int32) (hG : ∀ (v6x : UInt32) (μx : Mem), Sm p l e R s m args below meth c D ca ad A 8 0 0 wJ (KQ below args s D ca ad A) 129 [(0, .ref v0), (1, .int v1), (3, .int v3), (4, .int v4), (5, .int v5), (6, .float v6x)] [] μx (G v6x μx)) : ∀ (n : Nat) (v6 : UInt32) (v7 : Int32) (μ : Mem), Sm p l e R s m args below meth c D ca ad A 8 0 0 wJ (KQ below args s D ca ad A) 87 [(0, .ref v0), (1, .int v1), (3, .int v3), (4, .int v4), (5, .int v5), (6, .float v6), (7, .int v7)] [] μ (X11_after_L87 G v0 v1 v3 v4 v5 n v6 v7 μ) := by
  intro n
  induction n with
  | zero =>
    intro v6 v7 μ
    rw [X11_after_L87]
    exact E_none
  | succ n ih =>
    intro v6 v7 μ
    rw [X11_after_L87]
    refine E_iload C dX11_after_87 6 rfl ?_
    refine E_iconst C 3 dX11_after_89 (by decide) ?_
    refine E_icmp_ge C 129 dX11_after_90 (by decide) ?_ ?_
    · exact E_pick [0, 1, 2, 3, 4, 5] rfl (hG v6 μ)
    · refine E_at (pc2 := 93) rfl ?_
      refine E_fload C dX11_after_93 5 rfl ?_
      refine E_aload_n C dX11_after_95 0 rfl ?_
      refine E_getR C F_X11_37 dX11_after_96 (fun x96 => ?_)
      refine E_iload C dX11_after_99 6 rfl ?_
      refine E_faload C dX11_after_101 (fun x101 => ?_)
      refine E_aload_n C dX11_after_102 0 rfl ?_
      refine E_iload C dX11_after_103 6 rfl ?_
      refine E_iload C dX11_after_105 4 rfl ?_
      refine E_callVI (st := [.float x101, .float v6]) C [.int v7, .int v5] (mX11_part v0 v7 v5 μ) cal_X11_part vir_X11_part lk_X11_90 dX11_after_107 rfl rfl (Nat.le_of_ble_eq_true rfl) (Nat.le_of_ble_eq_true rfl) (fun x107 μ107 => ?_)
      refine E_i2f C dX11_after_110 ?_
      refine E_aload_n C dX11_after_111 0 rfl ?_
      refine E_iload C dX11_after_112 6 rfl ?_
      refine E_callVI (st := [.float ((FP.i2f x107)), .float x101, .float v6]) C [.int v7] (mX11_parts v0 v7 μ107) cal_X11_parts vir_X11_parts lk_X11_93 dX11_after_114 rfl rfl (Nat.le_of_ble_eq_true rfl) (Nat.le_of_ble_eq_true rfl) (fun x114 μ114 => ?_)
      refine E_i2f C dX11_after_117 ?_
      refine E_fdiv C dX11_after_118 (fun x118 => ?_)
      refine E_fmul C dX11_after_119 (fun x119 => ?_)
      refine E_fadd C dX11_after_120 (fun x120 => ?_)
      refine E_fstore (lv' := [(6, .float x120), (0, .ref v0), (1, .int v1), (3, .int v3), (4, .int v4), (5, .int v5), (7, .int v7)]) C dX11_after_121 (by decide) rfl ?_
      refine E_iinc (lv' := [(7, .int ((v7 + 1))), (6, .float x120), (0, .ref v0), (1, .int v1), (3, .int v3), (4, .int v4), (5, .int v5)]) C (v7 + 1) dX11_after_123 6 rfl rfl (by decide) rfl ?_
      refine E_goto C 87 dX11_after_126 (by decide) ?_
      exact E_pick [2, 3, 4, 5, 6, 1, 0] rfl (ih x120 ((v7 + 1)) μ114)
def X11_after_L75 (G : Mem → Option (Int64 × Mem)) (v0 : Nat) (v1 : Int32) (v3 : Int32) (v4 : Int32) : Nat → Int32 → Mem → Option (Int64 × Mem)
  | 0, _, _ => none
  | n + 1, v5, μ => if (3 : Int32) ≤ v5 then (G μ) else (X11_after_L87 (fun v6_129 μ_129 => (gR μ_129 v0 11 16).bind fun x130 => (sF μ_129 x130 (((3 : Int32) + v5)) v6_129).bind fun μ139 => X11_after_L75 G v0 v1 v3 v4 n ((v5 + 1)) μ139) v0 v1 v3 v4 v5 FU FP.fconst0 ((0 : Int32)) μ)
set_option maxHeartbeats 4000000 in
set_option maxRecDepth 100000 in
theorem X11_after_L75_ok {p : Program} {l : Launch} {e : Env} {R : Room} {s : State} {m : MethodId} {args : Array Value} {below : List Frame} {meth : Method} {c : Code} {D : va_G} {ca : Nat → ClassId} {ad : Nat → Nat} {A : Nat → Prop} {X : State → Prop} (C : CX p R s m args meth c D ca ad A X cX11_after RX11 8 (some .long) 3) {G : Mem → Option (Int64 × Mem)} (v0 : Nat) (v1 : Int32) (v3 : Int32) (v4 : Int32) (hG : ∀  (μx : Mem), Sm p l e R s m args below meth c D ca ad A 8 0 0 wJ (KQ below args s D ca ad A) 146 [(0, .ref v0), (1, .int v1), (3, .int v3), (4, .int v4)] [] μx (G  μx)) : ∀ (n : Nat) (v5 : Int32) (μ : Mem), Sm p l e R s m args below meth c D ca ad A 8 0 0 wJ (KQ below args s D ca ad A) 75 [(0, .ref v0), (1, .int v1), (3, .int v3), (4, .int v4), (5, .int v5)] [] μ (X11_after_L75 G v0 v1 v3 v4 n v5 μ) := by
  intro n
  induction n with
  | zero =>
    intro v5 μ
    rw [X11_after_L75]
    exact E_none
  | succ n ih =>
    intro v5 μ
    rw [X11_after_L75]
    refine E_iload C dX11_after_75 4 rfl ?_
    refine E_iconst C 3 dX11_after_77 (by decide) ?_
    refine E_icmp_ge C 146 dX11_after_78 (by decide) ?_ ?_
    · exact E_pick [0, 1, 2, 3] rfl (hG μ)
    · refine E_at (pc2 := 81) rfl ?_
      refine E_fconst0 C dX11_after_81 ?_
      refine E_fstore (lv' := [(6, .float FP.fconst0), (0, .ref v0), (1, .int v1), (3, .int v3), (4, .int v4), (5, .int v5)]) C dX11_after_82 (by decide) rfl ?_
      refine E_iconst C 0 dX11_after_84 (by decide) ?_
      refine E_istore (lv' := [(7, .int ((0 : Int32))), (6, .float FP.fconst0), (0, .ref v0), (1, .int v1), (3, .int v3), (4, .int v4), (5, .int v5)]) C dX11_after_85 (by decide) rfl ?_
      refine E_at (pc2 := 87) rfl ?_
      refine E_pick (lv' := [(0, .ref v0), (1, .int v1), (3, .int v3), (4, .int v4), (5, .int v5), (6, .float FP.fconst0), (7, .int ((0 : Int32)))]) [2, 3, 4, 5, 6, 1, 0] rfl ?_
      refine X11_after_L87_ok C v0 v1 v3 v4 v5 (fun v6_129 μ_129 => ?_) FU FP.fconst0 ((0 : Int32)) μ
      refine E_aload_n C dX11_after_129 0 rfl ?_
      refine E_getR C F_X11_37 dX11_after_130 (fun x130 => ?_)
      refine E_iconst C 3 dX11_after_133 (by decide) ?_
      refine E_iload C dX11_after_134 4 rfl ?_
      refine E_iadd C dX11_after_136 ?_
      refine E_fload C dX11_after_137 5 rfl ?_
      refine E_fastore C dX11_after_139 (fun μ139 => ?_)
      refine E_iinc (lv' := [(5, .int ((v5 + 1))), (0, .ref v0), (1, .int v1), (3, .int v3), (4, .int v4), (6, .float v6_129)]) C (v5 + 1) dX11_after_140 4 rfl rfl (by decide) rfl ?_
      refine E_goto C 75 dX11_after_143 (by decide) ?_
      exact E_pick [1, 2, 3, 4, 0] rfl (ih ((v5 + 1)) μ139)
def X11_after_L149 (G : Mem → Option (Int64 × Mem)) (v0 : Nat) (v1 : Int32) (v3 : Int32) (v4 : Int32) : Nat → Int32 → Mem → Option (Int64 × Mem)
  | 0, _, _ => none
  | n + 1, v5, μ => if (3 : Int32) ≤ v5 then (G μ) else ((gR μ v0 11 16).bind fun x156 => (gR μ v0 11 16).bind fun x162 => (aF μ x162 (((3 : Int32) + v5))).bind fun x169 => (sF μ x156 v5 x169).bind fun μ170 => X11_after_L149 G v0 v1 v3 v4 n ((v5 + 1)) μ170)
set_option maxHeartbeats 4000000 in
set_option maxRecDepth 100000 in
theorem X11_after_L149_ok {p : Program} {l : Launch} {e : Env} {R : Room} {s : State} {m : MethodId} {args : Array Value} {below : List Frame} {meth : Method} {c : Code} {D : va_G} {ca : Nat → ClassId} {ad : Nat → Nat} {A : Nat → Prop} {X : State → Prop} (C : CX p R s m args meth c D ca ad A X cX11_after RX11 8 (some .long) 3) {G : Mem → Option (Int64 × Mem)} (v0 : Nat) (v1 : Int32) (v3 : Int32) (v4 : Int32) (hG : ∀  (μx : Mem), Sm p l e R s m args below meth c D ca ad A 8 0 0 wJ (KQ below args s D ca ad A) 177 [(0, .ref v0), (1, .int v1), (3, .int v3), (4, .int v4)] [] μx (G  μx)) : ∀ (n : Nat) (v5 : Int32) (μ : Mem), Sm p l e R s m args below meth c D ca ad A 8 0 0 wJ (KQ below args s D ca ad A) 149 [(0, .ref v0), (1, .int v1), (3, .int v3), (4, .int v4), (5, .int v5)] [] μ (X11_after_L149 G v0 v1 v3 v4 n v5 μ) := by
  intro n
  induction n with
  | zero =>
    intro v5 μ
    rw [X11_after_L149]
    exact E_none
  | succ n ih =>
    intro v5 μ
    rw [X11_after_L149]
    refine E_iload C dX11_after_149 4 rfl ?_
    refine E_iconst C 3 dX11_after_151 (by decide) ?_
    refine E_icmp_ge C 177 dX11_after_152 (by decide) ?_ ?_
    · exact E_pick [0, 1, 2, 3] rfl (hG μ)
    · refine E_at (pc2 := 155) rfl ?_
      refine E_aload_n C dX11_after_155 0 rfl ?_
      refine E_getR C F_X11_37 dX11_after_156 (fun x156 => ?_)
      refine E_iload C dX11_after_159 4 rfl ?_
      refine E_aload_n C dX11_after_161 0 rfl ?_
      refine E_getR C F_X11_37 dX11_after_162 (fun x162 => ?_)
      refine E_iconst C 3 dX11_after_165 (by decide) ?_
      refine E_iload C dX11_after_166 4 rfl ?_
      refine E_iadd C dX11_after_168 ?_
      refine E_faload C dX11_after_169 (fun x169 => ?_)
      refine E_fastore C dX11_after_170 (fun μ170 => ?_)
      refine E_iinc (lv' := [(5, .int ((v5 + 1))), (0, .ref v0), (1, .int v1), (3, .int v3), (4, .int v4)]) C (v5 + 1) dX11_after_171 4 rfl rfl (by decide) rfl ?_
      refine E_goto C 149 dX11_after_174 (by decide) ?_
      exact E_pick [1, 2, 3, 4, 0] rfl (ih ((v5 + 1)) μ170)
def X11_after_L66 (G : Mem → Option (Int64 × Mem)) (v0 : Nat) (v1 : Int32) (v3 : Int32) : Nat → Int32 → Mem → Option (Int64 × Mem)
  | 0, _, _ => none
  | n + 1, v4, μ => if v1 ≤ v4 then (G μ) else (X11_after_L75 (fun μ_146 => X11_after_L149 (fun μ_177 => X11_after_L66 G v0 v1 v3 n ((v4 + 1)) μ_177) v0 v1 v3 v4 FU ((0 : Int32)) μ_146) v0 v1 v3 v4 FU ((0 : Int32)) μ)
set_option maxHeartbeats 4000000 in
set_option maxRecDepth 100000 in
theorem X11_after_L66_ok {p : Program} {l : Launch} {e : Env} {R : Room} {s : State} {m : MethodId} {args : Array Value} {below : List Frame} {meth : Method} {c : Code} {D : va_G} {ca : Nat → ClassId} {ad : Nat → Nat} {A : Nat → Prop} {X : State → Prop} (C : CX p R s m args meth c D ca ad A X cX11_after RX11 8 (some .long) 3) {G : Mem → Option (Int64 × Mem)} (v0 : Nat) (v1 : Int32) (v3 : Int32) (hG : ∀  (μx : Mem), Sm p l e R s m args below meth c D ca ad A 8 0 0 wJ (KQ below args s D ca ad A) 183 [(0, .ref v0), (3, .int v3)] [] μx (G  μx)) : ∀ (n : Nat) (v4 : Int32) (μ : Mem), Sm p l e R s m args below meth c D ca ad A 8 0 0 wJ (KQ below args s D ca ad A) 66 [(0, .ref v0), (1, .int v1), (3, .int v3), (4, .int v4)] [] μ (X11_after_L66 G v0 v1 v3 n v4 μ) := by
  intro n
  induction n with
  | zero =>
    intro v4 μ
    rw [X11_after_L66]
    exact E_none
  | succ n ih =>
    intro v4 μ
    rw [X11_after_L66]
    refine E_iload C dX11_after_66 3 rfl ?_
    refine E_iload_n C dX11_after_68 1 rfl ?_
    refine E_icmp_ge C 183 dX11_after_69 (by decide) ?_ ?_
    · exact E_pick [0, 2] rfl (hG μ)
    · refine E_at (pc2 := 72) rfl ?_
      refine E_iconst C 0 dX11_after_72 (by decide) ?_
      refine E_istore (lv' := [(5, .int ((0 : Int32))), (0, .ref v0), (1, .int v1), (3, .int v3), (4, .int v4)]) C dX11_after_73 (by decide) rfl ?_
      refine E_at (pc2 := 75) rfl ?_
      refine E_pick (lv' := [(0, .ref v0), (1, .int v1), (3, .int v3), (4, .int v4), (5, .int ((0 : Int32)))]) [1, 2, 3, 4, 0] rfl ?_
      refine X11_after_L75_ok C v0 v1 v3 v4 (fun μ_146 => ?_) FU ((0 : Int32)) μ
      refine E_iconst C 0 dX11_after_146 (by decide) ?_
      refine E_istore (lv' := [(5, .int ((0 : Int32))), (0, .ref v0), (1, .int v1), (3, .int v3), (4, .int v4)]) C dX11_after_147 (by decide) rfl ?_
      refine E_at (pc2 := 149) rfl ?_
      refine E_pick (lv' := [(0, .ref v0), (1, .int v1), (3, .int v3), (4, .int v4), (5, .int ((0 : Int32)))]) [1, 2, 3, 4, 0] rfl ?_
      refine X11_after_L149_ok C v0 v1 v3 v4 (fun μ_177 => ?_) FU ((0 : Int32)) μ_146
      refine E_iinc (lv' := [(4, .int ((v4 + 1))), (0, .ref v0), (1, .int v1), (3, .int v3)]) C (v4 + 1) dX11_after_177 3 rfl rfl (by decide) rfl ?_
      refine E_goto C 66 dX11_after_180 (by decide) ?_
      exact E_pick [1, 2, 3, 0] rfl (ih ((v4 + 1)) μ_177)
def fX11_after (v0 : Nat) (v1 : Int32) (v2 : Int32) (v3 : Int32) (μ : Mem) : Option (Int64 × Mem) :=
  bd (fX11_in v1.toInt64 ((0 : Int64)) ((12 : Int64)) μ) fun x6 μ6 => if x6 = 0 then (some ((-9223372036854775808 : Int64), μ6)) else (bd (fX11_isState v2 μ6) fun x13 μ13 => if x13 = 0 then (some ((-9223372036854775808 : Int64), μ13)) else (bd (fX11_isState v3 μ13) fun x20 μ20 => if x20 = 0 then (some ((-9223372036854775808 : Int64), μ20)) else (X11_after_L33 (fun μ_63 => X11_after_L66 (fun μ_183 => (gR μ_183 v0 11 16).bind fun x184 => (aF μ_183 x184 v3).bind fun x188 => bd (fX11_bits x188 μ_183) fun x189 μ189 => some (x189, μ189)) v0 v1 v3 FU ((0 : Int32)) μ_63) v0 v1 v2 v3 FU ((0 : Int32)) μ20)))
set_option maxHeartbeats 4000000 in
set_option maxRecDepth 100000 in
theorem mX11_after (v0 : Nat) (v1 : Int32) (v2 : Int32) (v3 : Int32) (μ : Mem) : Meth wJ yX11_after cX11_after 8 (some .long) 3 [.ref v0, .int v1, .int v2, .int v3] μ (fX11_after v0 v1 v2 v3 μ) := by
  refine Meth.of (by decide) [(0, .ref v0), (1, .int v1), (2, .int v2), (3, .int v3)] rfl (Nat.le_of_ble_eq_true rfl) ?_
  intro p l e R s m args below meth c D ca ad A X C
  have C : CX p R s m args meth c D ca ad A X cX11_after RX11 8 (some .long) 3 := C
  unfold fX11_after
  refine E_iload_n C dX11_after_0 1 rfl ?_
  refine E_i2l C dX11_after_1 ?_
  refine E_lconst C 0 dX11_after_2 (by decide) ?_
  refine E_ldc2 C dX11_after_3 k_X11_73 ?_
  refine E_callSI (st := []) C [.long v1.toInt64, .long ((0 : Int64)), .long ((12 : Int64))] (mX11_in v1.toInt64 ((0 : Int64)) ((12 : Int64)) μ) cal_X11_in st_X11_in lk_X11_65 dX11_after_6 rfl rfl (Nat.le_of_ble_eq_true rfl) (Nat.le_of_ble_eq_true rfl) (fun x6 μ6 => ?_)
  refine E_if_eq C 26 dX11_after_9 (by decide) ?_ ?_
  · refine E_ldc2 C dX11_after_26 k_X11_143 ?_
    exact E_lret C dX11_after_29
  · refine E_at (pc2 := 12) rfl ?_
    refine E_iload_n C dX11_after_12 2 rfl ?_
    refine E_callSI (st := []) C [.int v2] (mX11_isState v2 μ6) cal_X11_isState st_X11_isState lk_X11_87 dX11_after_13 rfl rfl (Nat.le_of_ble_eq_true rfl) (Nat.le_of_ble_eq_true rfl) (fun x13 μ13 => ?_)
    refine E_if_eq C 26 dX11_after_16 (by decide) ?_ ?_
    · refine E_ldc2 C dX11_after_26 k_X11_143 ?_
      exact E_lret C dX11_after_29
    · refine E_at (pc2 := 19) rfl ?_
      refine E_iload_n C dX11_after_19 3 rfl ?_
      refine E_callSI (st := []) C [.int v3] (mX11_isState v3 μ13) cal_X11_isState st_X11_isState lk_X11_87 dX11_after_20 rfl rfl (Nat.le_of_ble_eq_true rfl) (Nat.le_of_ble_eq_true rfl) (fun x20 μ20 => ?_)
      refine E_if_ne C 30 dX11_after_23 (by decide) ?_ ?_
      · refine E_iconst C 0 dX11_after_30 (by decide) ?_
        refine E_istore (lv' := [(4, .int ((0 : Int32))), (0, .ref v0), (1, .int v1), (2, .int v2), (3, .int v3)]) C dX11_after_31 (by decide) rfl ?_
        refine E_at (pc2 := 33) rfl ?_
        refine E_pick (lv' := [(0, .ref v0), (1, .int v1), (2, .int v2), (3, .int v3), (4, .int ((0 : Int32)))]) [1, 2, 3, 4, 0] rfl ?_
        refine X11_after_L33_ok C v0 v1 v2 v3 (fun μ_63 => ?_) FU ((0 : Int32)) μ20
        refine E_iconst C 0 dX11_after_63 (by decide) ?_
        refine E_istore (lv' := [(4, .int ((0 : Int32))), (0, .ref v0), (1, .int v1), (3, .int v3)]) C dX11_after_64 (by decide) rfl ?_
        refine E_at (pc2 := 66) rfl ?_
        refine E_pick (lv' := [(0, .ref v0), (1, .int v1), (3, .int v3), (4, .int ((0 : Int32)))]) [1, 2, 3, 0] rfl ?_
        refine X11_after_L66_ok C v0 v1 v3 (fun μ_183 => ?_) FU ((0 : Int32)) μ_63
        refine E_aload_n C dX11_after_183 0 rfl ?_
        refine E_getR C F_X11_37 dX11_after_184 (fun x184 => ?_)
        refine E_iload_n C dX11_after_187 1 rfl ?_
        refine E_faload C dX11_after_188 (fun x188 => ?_)
        refine E_callSJ (st := []) C [.float x188] (mX11_bits x188 μ_183) cal_X11_bits st_X11_bits lk_X11_201 dX11_after_189 rfl rfl (Nat.le_of_ble_eq_true rfl) (Nat.le_of_ble_eq_true rfl) (fun x189 μ189 => ?_)
        exact E_lret C dX11_after_192
      · refine E_at (pc2 := 26) rfl ?_
        refine E_ldc2 C dX11_after_26 k_X11_143 ?_
        exact E_lret C dX11_after_29
def X11_stateOf_L7 (G : Int32 → Mem → Option (Int32 × Mem)) (v2 : Int32) : Nat → Int32 → Int32 → Mem → Option (Int32 × Mem)
  | 0, _, _, _ => none
  | n + 1, v3, v4, μ => if v4 ≤ v2 then (G v3 μ) else ((dvI v3 ((3 : Int32))).bind fun x15 => X11_stateOf_L7 G v2 n x15 ((v4 + -1)) μ)
set_option maxHeartbeats 4000000 in
set_option maxRecDepth 100000 in
theorem X11_stateOf_L7_ok {p : Program} {l : Launch} {e : Env} {R : Room} {s : State} {m : MethodId} {args : Array Value} {below : List Frame} {meth : Method} {c : Code} {D : va_G} {ca : Nat → ClassId} {ad : Nat → Nat} {A : Nat → Prop} {X : State → Prop} (C : CX p R s m args meth c D ca ad A X cX11_stateOf RX11 5 (some .int) 0) {G : Int32 → Mem → Option (Int32 × Mem)} (v2 : Int32) (hG : ∀ (v3x : Int32) (μx : Mem), Sm p l e R s m args below meth c D ca ad A 5 0 0 wI (KQ below args s D ca ad A) 23 [(3, .int v3x)] [] μx (G v3x μx)) : ∀ (n : Nat) (v3 : Int32) (v4 : Int32) (μ : Mem), Sm p l e R s m args below meth c D ca ad A 5 0 0 wI (KQ below args s D ca ad A) 7 [(2, .int v2), (3, .int v3), (4, .int v4)] [] μ (X11_stateOf_L7 G v2 n v3 v4 μ) := by
  intro n
  induction n with
  | zero =>
    intro v3 v4 μ
    rw [X11_stateOf_L7]
    exact E_none
  | succ n ih =>
    intro v3 v4 μ
    rw [X11_stateOf_L7]
    refine E_iload C dX11_stateOf_7 2 rfl ?_
    refine E_iload_n C dX11_stateOf_9 0 rfl ?_
    refine E_icmp_le C 23 dX11_stateOf_10 (by decide) ?_ ?_
    · exact E_pick [1] rfl (hG v3 μ)
    · refine E_at (pc2 := 13) rfl ?_
      refine E_iload_n C dX11_stateOf_13 1 rfl ?_
      refine E_iconst C 3 dX11_stateOf_14 (by decide) ?_
      refine E_idiv C dX11_stateOf_15 (fun x15 => ?_)
      refine E_istore_n (lv' := [(3, .int x15), (2, .int v2), (4, .int v4)]) C dX11_stateOf_16 (by decide) rfl ?_
      refine E_iinc (lv' := [(4, .int ((v4 + -1))), (3, .int x15), (2, .int v2)]) C (v4 + -1) dX11_stateOf_17 2 rfl rfl (by decide) rfl ?_
      refine E_goto C 7 dX11_stateOf_20 (by decide) ?_
      exact E_pick [2, 1, 0] rfl (ih x15 ((v4 + -1)) μ)
def fX11_stateOf (v0 : Int32) (v1 : Int32) (v2 : Int32) (μ : Mem) : Option (Int32 × Mem) :=
  X11_stateOf_L7 (fun v3_23 μ_23 => (rmI v3_23 ((3 : Int32))).bind fun x25 => some (x25, μ_23)) v2 FU v0 ((v1 - (1 : Int32))) μ
set_option maxHeartbeats 4000000 in
set_option maxRecDepth 100000 in
theorem mX11_stateOf (v0 : Int32) (v1 : Int32) (v2 : Int32) (μ : Mem) : Meth wI yX11_stateOf cX11_stateOf 5 (some .int) 0 [.int v0, .int v1, .int v2] μ (fX11_stateOf v0 v1 v2 μ) := by
  refine Meth.of (by decide) [(0, .int v0), (1, .int v1), (2, .int v2)] rfl (Nat.le_of_ble_eq_true rfl) ?_
  intro p l e R s m args below meth c D ca ad A X C
  have C : CX p R s m args meth c D ca ad A X cX11_stateOf RX11 5 (some .int) 0 := C
  unfold fX11_stateOf
  refine E_iload_n C dX11_stateOf_0 0 rfl ?_
  refine E_istore_n (lv' := [(3, .int v0), (0, .int v0), (1, .int v1), (2, .int v2)]) C dX11_stateOf_1 (by decide) rfl ?_
  refine E_iload_n C dX11_stateOf_2 2 rfl ?_
  refine E_iconst C 1 dX11_stateOf_3 (by decide) ?_
  refine E_isub C dX11_stateOf_4 ?_
  refine E_istore (lv' := [(4, .int ((v1 - (1 : Int32)))), (3, .int v0), (0, .int v0), (1, .int v1), (2, .int v2)]) C dX11_stateOf_5 (by decide) rfl ?_
  refine E_at (pc2 := 7) rfl ?_
  refine E_pick (lv' := [(2, .int v2), (3, .int v0), (4, .int ((v1 - (1 : Int32))))]) [4, 1, 0] rfl ?_
  refine X11_stateOf_L7_ok C v2 (fun v3_23 μ_23 => ?_) FU v0 ((v1 - (1 : Int32))) μ
  refine E_iload_n C dX11_stateOf_23 0 rfl ?_
  refine E_iconst C 3 dX11_stateOf_24 (by decide) ?_
  refine E_irem C dX11_stateOf_25 (fun x25 => ?_)
  exact E_iret C dX11_stateOf_26
def X11_findWay_L5 (G : Int32 → Mem → Option (Unit × Mem)) (v0 : Nat) (v1 : Int32) (v2 : Int32) : Nat → Int32 → Int32 → Mem → Option (Unit × Mem)
  | 0, _, _, _ => none
  | n + 1, v3, v4, μ => if v2 ≤ v4 then (G v3 μ) else (X11_findWay_L5 G v0 v1 v2 n ((v3 * (3 : Int32))) ((v4 + 1)) μ)
set_option maxHeartbeats 4000000 in
set_option maxRecDepth 100000 in
theorem X11_findWay_L5_ok {p : Program} {l : Launch} {e : Env} {R : Room} {s : State} {m : MethodId} {args : Array Value} {below : List Frame} {meth : Method} {c : Code} {D : va_G} {ca : Nat → ClassId} {ad : Nat → Nat} {A : Nat → Prop} {X : State → Prop} (C : CX p R s m args meth c D ca ad A X cX11_findWay RX11 9 none 2) {G : Int32 → Mem → Option (Unit × Mem)} (v0 : Nat) (v1 : Int32) (v2 : Int32) (hG : ∀ (v3x : Int32) (μx : Mem), Sm p l e R s m args below meth c D ca ad A 9 0 0 wU (KQ below args s D ca ad A) 21 [(0, .ref v0), (1, .int v1), (2, .int v2), (3, .int v3x)] [] μx (G v3x μx)) : ∀ (n : Nat) (v3 : Int32) (v4 : Int32) (μ : Mem), Sm p l e R s m args below meth c D ca ad A 9 0 0 wU (KQ below args s D ca ad A) 5 [(0, .ref v0), (1, .int v1), (2, .int v2), (3, .int v3), (4, .int v4)] [] μ (X11_findWay_L5 G v0 v1 v2 n v3 v4 μ) := by
  intro n
  induction n with
  | zero =>
    intro v3 v4 μ
    rw [X11_findWay_L5]
    exact E_none
  | succ n ih =>
    intro v3 v4 μ
    rw [X11_findWay_L5]
    refine E_iload C dX11_findWay_5 4 rfl ?_
    refine E_iload_n C dX11_findWay_7 2 rfl ?_
    refine E_icmp_ge C 21 dX11_findWay_8 (by decide) ?_ ?_
    · exact E_pick [0, 1, 2, 3] rfl (hG v3 μ)
    · refine E_at (pc2 := 11) rfl ?_
      refine E_iload_n C dX11_findWay_11 3 rfl ?_
      refine E_iconst C 3 dX11_findWay_12 (by decide) ?_
      refine E_imul C dX11_findWay_13 ?_
      refine E_istore_n (lv' := [(3, .int ((v3 * (3 : Int32)))), (0, .ref v0), (1, .int v1), (2, .int v2), (4, .int v4)]) C dX11_findWay_14 (by decide) rfl ?_
      refine E_iinc (lv' := [(4, .int ((v4 + 1))), (3, .int ((v3 * (3 : Int32)))), (0, .ref v0), (1, .int v1), (2, .int v2)]) C (v4 + 1) dX11_findWay_15 4 rfl rfl (by decide) rfl ?_
      refine E_goto C 5 dX11_findWay_18 (by decide) ?_
      exact E_pick [2, 3, 4, 1, 0] rfl (ih ((v3 * (3 : Int32))) ((v4 + 1)) μ)
def X11_findWay_L45 (G : UInt32 → Mem → Option (Unit × Mem)) (v0 : Nat) (v1 : Int32) (v2 : Int32) (v3 : Int32) (v4 : Int32) : Nat → UInt32 → Int32 → Int32 → Mem → Option (Unit × Mem)
  | 0, _, _, _, _ => none
  | n + 1, v5, v6, v7, μ => if v2 ≤ v7 then (G v5 μ) else (bd (fX11_stateOf v4 v2 v7 μ) fun x56 μ56 => (isC μ56 v0 11).bind fun _ => bd (fX11_part v0 v6 x56 μ56) fun x68 μ68 => (isC μ68 v0 11).bind fun _ => bd (fX11_parts v0 v6 μ68) fun x75 μ75 => (nn (FP.fdiv ((FP.i2f x68)) ((FP.i2f x75)))).bind fun x79 => (nn (FP.fmul v5 x79)).bind fun x80 => X11_findWay_L45 G v0 v1 v2 v3 v4 n x80 x56 ((v7 + 1)) μ75)
set_option maxHeartbeats 4000000 in
set_option maxRecDepth 100000 in
theorem X11_findWay_L45_ok {p : Program} {l : Launch} {e : Env} {R : Room} {s : State} {m : MethodId} {args : Array Value} {below : List Frame} {meth : Method} {c : Code} {D : va_G} {ca : Nat → ClassId} {ad : Nat → Nat} {A : Nat → Prop} {X : State → Prop} (C : CX p R s m args meth c D ca ad A X cX11_findWay RX11 9 none 2) {G : UInt32 → Mem → Option (Unit × Mem)} (v0 : Nat) (v1 : Int32) (v2 : Int32) (v3 : Int32) (v4 : Int32) (hG : ∀ (v5x : UInt32) (μx : Mem), Sm p l e R s m args below meth c D ca ad A 9 0 0 wU (KQ below args s D ca ad A) 93 [(0, .ref v0), (1, .int v1), (2, .int v2), (3, .int v3), (4, .int v4), (5, .float v5x)] [] μx (G v5x μx)) : ∀ (n : Nat) (v5 : UInt32) (v6 : Int32) (v7 : Int32) (μ : Mem), Sm p l e R s m args below meth c D ca ad A 9 0 0 wU (KQ below args s D ca ad A) 45 [(0, .ref v0), (1, .int v1), (2, .int v2), (3, .int v3), (4, .int v4), (5, .float v5), (6, .int v6), (7, .int v7)] [] μ (X11_findWay_L45 G v0 v1 v2 v3 v4 n v5 v6 v7 μ) := by
  intro n
  induction n with
  | zero =>
    intro v5 v6 v7 μ
    rw [X11_findWay_L45]
    exact E_none
  | succ n ih =>
    intro v5 v6 v7 μ
    rw [X11_findWay_L45]
    refine E_iload C dX11_findWay_45 7 rfl ?_
    refine E_iload_n C dX11_findWay_47 2 rfl ?_
    refine E_icmp_ge C 93 dX11_findWay_48 (by decide) ?_ ?_
    · exact E_pick [0, 1, 2, 3, 4, 5] rfl (hG v5 μ)
    · refine E_at (pc2 := 51) rfl ?_
      refine E_iload C dX11_findWay_51 4 rfl ?_
      refine E_iload_n C dX11_findWay_53 2 rfl ?_
      refine E_iload C dX11_findWay_54 7 rfl ?_
      refine E_callSI (st := []) C [.int v4, .int v2, .int v7] (mX11_stateOf v4 v2 v7 μ) cal_X11_stateOf st_X11_stateOf lk_X11_215 dX11_findWay_56 rfl rfl (Nat.le_of_ble_eq_true rfl) (Nat.le_of_ble_eq_true rfl) (fun x56 μ56 => ?_)
      refine E_istore (lv' := [(8, .int x56), (0, .ref v0), (1, .int v1), (2, .int v2), (3, .int v3), (4, .int v4), (5, .float v5), (6, .int v6), (7, .int v7)]) C dX11_findWay_59 (by decide) rfl ?_
      refine E_fload C dX11_findWay_61 6 rfl ?_
      refine E_aload_n C dX11_findWay_63 1 rfl ?_
      refine E_iload C dX11_findWay_64 7 rfl ?_
      refine E_iload C dX11_findWay_66 0 rfl ?_
      refine E_callVI (st := [.float v5]) C [.int v6, .int x56] (mX11_part v0 v6 x56 μ56) cal_X11_part vir_X11_part lk_X11_90 dX11_findWay_68 rfl rfl (Nat.le_of_ble_eq_true rfl) (Nat.le_of_ble_eq_true rfl) (fun x68 μ68 => ?_)
      refine E_i2f C dX11_findWay_71 ?_
      refine E_aload_n C dX11_findWay_72 1 rfl ?_
      refine E_iload C dX11_findWay_73 7 rfl ?_
      refine E_callVI (st := [.float ((FP.i2f x68)), .float v5]) C [.int v6] (mX11_parts v0 v6 μ68) cal_X11_parts vir_X11_parts lk_X11_93 dX11_findWay_75 rfl rfl (Nat.le_of_ble_eq_true rfl) (Nat.le_of_ble_eq_true rfl) (fun x75 μ75 => ?_)
      refine E_i2f C dX11_findWay_78 ?_
      refine E_fdiv C dX11_findWay_79 (fun x79 => ?_)
      refine E_fmul C dX11_findWay_80 (fun x80 => ?_)
      refine E_fstore (lv' := [(5, .float x80), (8, .int x56), (0, .ref v0), (1, .int v1), (2, .int v2), (3, .int v3), (4, .int v4), (6, .int v6), (7, .int v7)]) C dX11_findWay_81 (by decide) rfl ?_
      refine E_iload C dX11_findWay_83 1 rfl ?_
      refine E_istore (lv' := [(6, .int x56), (5, .float x80), (8, .int x56), (0, .ref v0), (1, .int v1), (2, .int v2), (3, .int v3), (4, .int v4), (7, .int v7)]) C dX11_findWay_85 (by decide) rfl ?_
      refine E_iinc (lv' := [(7, .int ((v7 + 1))), (6, .int x56), (5, .float x80), (8, .int x56), (0, .ref v0), (1, .int v1), (2, .int v2), (3, .int v3), (4, .int v4)]) C (v7 + 1) dX11_findWay_87 8 rfl rfl (by decide) rfl ?_
      refine E_goto C 45 dX11_findWay_90 (by decide) ?_
      exact E_pick [4, 5, 6, 7, 8, 2, 1, 0] rfl (ih x80 x56 ((v7 + 1)) μ75)
def X11_findWay_L30 (G : Mem → Option (Unit × Mem)) (v0 : Nat) (v1 : Int32) (v2 : Int32) (v3 : Int32) : Nat → Int32 → Mem → Option (Unit × Mem)
  | 0, _, _ => none
  | n + 1, v4, μ => if v3 ≤ v4 then (G μ) else (X11_findWay_L45 (fun v5_93 μ_93 => (gF μ_93 v0 11 17).bind fun x96 => if (Op.cmpValue (FP.fcmp v5_93 x96) .l) ≤ 0 then (X11_findWay_L30 G v0 v1 v2 v3 n ((v4 + 1)) μ_93) else ((pV μ_93 v0 11 17 (.float v5_93)).bind fun μ106 => (pV μ106 v0 11 18 (.int v4)).bind fun μ112 => X11_findWay_L30 G v0 v1 v2 v3 n ((v4 + 1)) μ112)) v0 v1 v2 v3 v4 FU FP.fconst1 v1 ((0 : Int32)) μ)
set_option maxHeartbeats 4000000 in
set_option maxRecDepth 100000 in
theorem X11_findWay_L30_ok {p : Program} {l : Launch} {e : Env} {R : Room} {s : State} {m : MethodId} {args : Array Value} {below : List Frame} {meth : Method} {c : Code} {D : va_G} {ca : Nat → ClassId} {ad : Nat → Nat} {A : Nat → Prop} {X : State → Prop} (C : CX p R s m args meth c D ca ad A X cX11_findWay RX11 9 none 2) {G : Mem → Option (Unit × Mem)} (v0 : Nat) (v1 : Int32) (v2 : Int32) (v3 : Int32) (hG : ∀  (μx : Mem), Sm p l e R s m args below meth c D ca ad A 9 0 0 wU (KQ below args s D ca ad A) 121 [] [] μx (G  μx)) : ∀ (n : Nat) (v4 : Int32) (μ : Mem), Sm p l e R s m args below meth c D ca ad A 9 0 0 wU (KQ below args s D ca ad A) 30 [(0, .ref v0), (1, .int v1), (2, .int v2), (3, .int v3), (4, .int v4)] [] μ (X11_findWay_L30 G v0 v1 v2 v3 n v4 μ) := by
  intro n
  induction n with
  | zero =>
    intro v4 μ
    rw [X11_findWay_L30]
    exact E_none
  | succ n ih =>
    intro v4 μ
    rw [X11_findWay_L30]
    refine E_iload C dX11_findWay_30 4 rfl ?_
    refine E_iload_n C dX11_findWay_32 3 rfl ?_
    refine E_icmp_ge C 121 dX11_findWay_33 (by decide) ?_ ?_
    · exact E_pick [] rfl (hG μ)
    · refine E_at (pc2 := 36) rfl ?_
      refine E_fconst1 C dX11_findWay_36 ?_
      refine E_fstore (lv' := [(5, .float FP.fconst1), (0, .ref v0), (1, .int v1), (2, .int v2), (3, .int v3), (4, .int v4)]) C dX11_findWay_37 (by decide) rfl ?_
      refine E_iload_n C dX11_findWay_39 2 rfl ?_
      refine E_istore (lv' := [(6, .int v1), (5, .float FP.fconst1), (0, .ref v0), (1, .int v1), (2, .int v2), (3, .int v3), (4, .int v4)]) C dX11_findWay_40 (by decide) rfl ?_
      refine E_iconst C 0 dX11_findWay_42 (by decide) ?_
      refine E_istore (lv' := [(7, .int ((0 : Int32))), (6, .int v1), (5, .float FP.fconst1), (0, .ref v0), (1, .int v1), (2, .int v2), (3, .int v3), (4, .int v4)]) C dX11_findWay_43 (by decide) rfl ?_
      refine E_at (pc2 := 45) rfl ?_
      refine E_pick (lv' := [(0, .ref v0), (1, .int v1), (2, .int v2), (3, .int v3), (4, .int v4), (5, .float FP.fconst1), (6, .int v1), (7, .int ((0 : Int32)))]) [3, 4, 5, 6, 7, 2, 1, 0] rfl ?_
      refine X11_findWay_L45_ok C v0 v1 v2 v3 v4 (fun v5_93 μ_93 => ?_) FU FP.fconst1 v1 ((0 : Int32)) μ
      refine E_fload C dX11_findWay_93 5 rfl ?_
      refine E_aload_n C dX11_findWay_95 0 rfl ?_
      refine E_getF C F_X11_211 dX11_findWay_96 (fun x96 => ?_)
      refine E_fcmp C dX11_findWay_99 ?_
      refine E_if_le C 115 dX11_findWay_100 (by decide) ?_ ?_
      · refine E_iinc (lv' := [(4, .int ((v4 + 1))), (0, .ref v0), (1, .int v1), (2, .int v2), (3, .int v3), (5, .float v5_93)]) C (v4 + 1) dX11_findWay_115 4 rfl rfl (by decide) rfl ?_
        refine E_goto C 30 dX11_findWay_118 (by decide) ?_
        exact E_pick [1, 2, 3, 4, 0] rfl (ih ((v4 + 1)) μ_93)
      · refine E_at (pc2 := 103) rfl ?_
        refine E_aload_n C dX11_findWay_103 0 rfl ?_
        refine E_fload C dX11_findWay_104 5 rfl ?_
        refine E_putF C P_X11_211 dX11_findWay_106 (fun μ106 => ?_)
        refine E_aload_n C dX11_findWay_109 0 rfl ?_
        refine E_iload C dX11_findWay_110 4 rfl ?_
        refine E_putI C P_X11_218 dX11_findWay_112 (fun μ112 => ?_)
        refine E_at (pc2 := 115) rfl ?_
        refine E_iinc (lv' := [(4, .int ((v4 + 1))), (0, .ref v0), (1, .int v1), (2, .int v2), (3, .int v3), (5, .float v5_93)]) C (v4 + 1) dX11_findWay_115 4 rfl rfl (by decide) rfl ?_
        refine E_goto C 30 dX11_findWay_118 (by decide) ?_
        exact E_pick [1, 2, 3, 4, 0] rfl (ih ((v4 + 1)) μ112)
def fX11_findWay (v0 : Nat) (v1 : Int32) (v2 : Int32) (μ : Mem) : Option (Unit × Mem) :=
  X11_findWay_L5 (fun v3_21 μ_21 => (pV μ_21 v0 11 17 (.float ((3212836864 : UInt32)))).bind fun μ24 => X11_findWay_L30 (fun μ_121 => some ((), μ_121)) v0 v1 v2 v3_21 FU ((0 : Int32)) μ24) v0 v1 v2 FU ((1 : Int32)) ((0 : Int32)) μ
set_option maxHeartbeats 4000000 in
set_option maxRecDepth 100000 in
theorem mX11_findWay (v0 : Nat) (v1 : Int32) (v2 : Int32) (μ : Mem) : Meth wU yX11_findWay cX11_findWay 9 none 2 [.ref v0, .int v1, .int v2] μ (fX11_findWay v0 v1 v2 μ) := by
  refine Meth.of (by decide) [(0, .ref v0), (1, .int v1), (2, .int v2)] rfl (Nat.le_of_ble_eq_true rfl) ?_
  intro p l e R s m args below meth c D ca ad A X C
  have C : CX p R s m args meth c D ca ad A X cX11_findWay RX11 9 none 2 := C
  unfold fX11_findWay
  refine E_iconst C 1 dX11_findWay_0 (by decide) ?_
  refine E_istore_n (lv' := [(3, .int ((1 : Int32))), (0, .ref v0), (1, .int v1), (2, .int v2)]) C dX11_findWay_1 (by decide) rfl ?_
  refine E_iconst C 0 dX11_findWay_2 (by decide) ?_
  refine E_istore (lv' := [(4, .int ((0 : Int32))), (3, .int ((1 : Int32))), (0, .ref v0), (1, .int v1), (2, .int v2)]) C dX11_findWay_3 (by decide) rfl ?_
  refine E_at (pc2 := 5) rfl ?_
  refine E_pick (lv' := [(0, .ref v0), (1, .int v1), (2, .int v2), (3, .int ((1 : Int32))), (4, .int ((0 : Int32)))]) [2, 3, 4, 1, 0] rfl ?_
  refine X11_findWay_L5_ok C v0 v1 v2 (fun v3_21 μ_21 => ?_) FU ((1 : Int32)) ((0 : Int32)) μ
  refine E_aload_n C dX11_findWay_21 0 rfl ?_
  refine E_ldcF C dX11_findWay_22 k_X11_210 ?_
  refine E_putF C P_X11_211 dX11_findWay_24 (fun μ24 => ?_)
  refine E_iconst C 0 dX11_findWay_27 (by decide) ?_
  refine E_istore (lv' := [(4, .int ((0 : Int32))), (0, .ref v0), (1, .int v1), (2, .int v2), (3, .int v3_21)]) C dX11_findWay_28 (by decide) rfl ?_
  refine E_at (pc2 := 30) rfl ?_
  refine E_pick (lv' := [(0, .ref v0), (1, .int v1), (2, .int v2), (3, .int v3_21), (4, .int ((0 : Int32)))]) [1, 2, 3, 4, 0] rfl ?_
  refine X11_findWay_L30_ok C v0 v1 v2 v3_21 (fun μ_121 => ?_) FU ((0 : Int32)) μ24
  exact E_ret C dX11_findWay_121
def fX11_way (v0 : Nat) (v1 : Int32) (v2 : Int32) (v3 : Int32) (μ : Mem) : Option (Int32 × Mem) :=
  bd (fX11_isState v1 μ) fun x1 μ1 => if x1 = 0 then (some ((-1 : Int32), μ1)) else (bd (fX11_in v2.toInt64 ((1 : Int64)) ((8 : Int64)) μ1) fun x13 μ13 => if x13 = 0 then (some ((-1 : Int32), μ13)) else (bd (fX11_in v3.toInt64 ((0 : Int64)) (((v2 - (1 : Int32))).toInt64) μ13) fun x26 μ26 => if x26 = 0 then (some ((-1 : Int32), μ26)) else ((isC μ26 v0 11).bind fun _ => bd (fX11_findWay v0 v1 v2 μ26) fun _ μ37 => (gI μ37 v0 11 18).bind fun x41 => bd (fX11_stateOf x41 v2 v3 μ37) fun x46 μ46 => some (x46, μ46))))
set_option maxHeartbeats 4000000 in
set_option maxRecDepth 100000 in
theorem mX11_way (v0 : Nat) (v1 : Int32) (v2 : Int32) (v3 : Int32) (μ : Mem) : Meth wI yX11_way cX11_way 4 (some .int) 3 [.ref v0, .int v1, .int v2, .int v3] μ (fX11_way v0 v1 v2 v3 μ) := by
  refine Meth.of (by decide) [(0, .ref v0), (1, .int v1), (2, .int v2), (3, .int v3)] rfl (Nat.le_of_ble_eq_true rfl) ?_
  intro p l e R s m args below meth c D ca ad A X C
  have C : CX p R s m args meth c D ca ad A X cX11_way RX11 4 (some .int) 3 := C
  unfold fX11_way
  refine E_iload_n C dX11_way_0 1 rfl ?_
  refine E_callSI (st := []) C [.int v1] (mX11_isState v1 μ) cal_X11_isState st_X11_isState lk_X11_87 dX11_way_1 rfl rfl (Nat.le_of_ble_eq_true rfl) (Nat.le_of_ble_eq_true rfl) (fun x1 μ1 => ?_)
  refine E_if_eq C 32 dX11_way_4 (by decide) ?_ ?_
  · refine E_iconst C (-1) dX11_way_32 (by decide) ?_
    exact E_iret C dX11_way_33
  · refine E_at (pc2 := 7) rfl ?_
    refine E_iload_n C dX11_way_7 2 rfl ?_
    refine E_i2l C dX11_way_8 ?_
    refine E_lconst C 1 dX11_way_9 (by decide) ?_
    refine E_ldc2 C dX11_way_10 k_X11_128 ?_
    refine E_callSI (st := []) C [.long v2.toInt64, .long ((1 : Int64)), .long ((8 : Int64))] (mX11_in v2.toInt64 ((1 : Int64)) ((8 : Int64)) μ1) cal_X11_in st_X11_in lk_X11_65 dX11_way_13 rfl rfl (Nat.le_of_ble_eq_true rfl) (Nat.le_of_ble_eq_true rfl) (fun x13 μ13 => ?_)
    refine E_if_eq C 32 dX11_way_16 (by decide) ?_ ?_
    · refine E_iconst C (-1) dX11_way_32 (by decide) ?_
      exact E_iret C dX11_way_33
    · refine E_at (pc2 := 19) rfl ?_
      refine E_iload_n C dX11_way_19 3 rfl ?_
      refine E_i2l C dX11_way_20 ?_
      refine E_lconst C 0 dX11_way_21 (by decide) ?_
      refine E_iload_n C dX11_way_22 2 rfl ?_
      refine E_iconst C 1 dX11_way_23 (by decide) ?_
      refine E_isub C dX11_way_24 ?_
      refine E_i2l C dX11_way_25 ?_
      refine E_callSI (st := []) C [.long v3.toInt64, .long ((0 : Int64)), .long (((v2 - (1 : Int32))).toInt64)] (mX11_in v3.toInt64 ((0 : Int64)) (((v2 - (1 : Int32))).toInt64) μ13) cal_X11_in st_X11_in lk_X11_65 dX11_way_26 rfl rfl (Nat.le_of_ble_eq_true rfl) (Nat.le_of_ble_eq_true rfl) (fun x26 μ26 => ?_)
      refine E_if_ne C 34 dX11_way_29 (by decide) ?_ ?_
      · refine E_aload_n C dX11_way_34 0 rfl ?_
        refine E_iload_n C dX11_way_35 1 rfl ?_
        refine E_iload_n C dX11_way_36 2 rfl ?_
        refine E_callVU (st := []) C [.int v1, .int v2] (mX11_findWay v0 v1 v2 μ26) cal_X11_findWay vir_X11_findWay lk_X11_221 dX11_way_37 rfl rfl (Nat.le_of_ble_eq_true rfl) (Nat.le_of_ble_eq_true rfl) (fun _ μ37 => ?_)
        refine E_aload_n C dX11_way_40 0 rfl ?_
        refine E_getI C F_X11_218 dX11_way_41 (fun x41 => ?_)
        refine E_iload_n C dX11_way_44 2 rfl ?_
        refine E_iload_n C dX11_way_45 3 rfl ?_
        refine E_callSI (st := []) C [.int x41, .int v2, .int v3] (mX11_stateOf x41 v2 v3 μ37) cal_X11_stateOf st_X11_stateOf lk_X11_215 dX11_way_46 rfl rfl (Nat.le_of_ble_eq_true rfl) (Nat.le_of_ble_eq_true rfl) (fun x46 μ46 => ?_)
        exact E_iret C dX11_way_49
      · refine E_at (pc2 := 32) rfl ?_
        refine E_iconst C (-1) dX11_way_32 (by decide) ?_
        exact E_iret C dX11_way_33
def fX11_chance (v0 : Nat) (v1 : Int32) (v2 : Int32) (μ : Mem) : Option (Int64 × Mem) :=
  bd (fX11_isState v1 μ) fun x1 μ1 => if x1 = 0 then (some ((-9223372036854775808 : Int64), μ1)) else (bd (fX11_in v2.toInt64 ((1 : Int64)) ((8 : Int64)) μ1) fun x13 μ13 => if x13 = 0 then (some ((-9223372036854775808 : Int64), μ13)) else ((isC μ13 v0 11).bind fun _ => bd (fX11_findWay v0 v1 v2 μ13) fun _ μ26 => (gF μ26 v0 11 17).bind fun x30 => bd (fX11_bits x30 μ26) fun x33 μ33 => some (x33, μ33)))
set_option maxHeartbeats 4000000 in
set_option maxRecDepth 100000 in
theorem mX11_chance (v0 : Nat) (v1 : Int32) (v2 : Int32) (μ : Mem) : Meth wJ yX11_chance cX11_chance 3 (some .long) 3 [.ref v0, .int v1, .int v2] μ (fX11_chance v0 v1 v2 μ) := by
  refine Meth.of (by decide) [(0, .ref v0), (1, .int v1), (2, .int v2)] rfl (Nat.le_of_ble_eq_true rfl) ?_
  intro p l e R s m args below meth c D ca ad A X C
  have C : CX p R s m args meth c D ca ad A X cX11_chance RX11 3 (some .long) 3 := C
  unfold fX11_chance
  refine E_iload_n C dX11_chance_0 1 rfl ?_
  refine E_callSI (st := []) C [.int v1] (mX11_isState v1 μ) cal_X11_isState st_X11_isState lk_X11_87 dX11_chance_1 rfl rfl (Nat.le_of_ble_eq_true rfl) (Nat.le_of_ble_eq_true rfl) (fun x1 μ1 => ?_)
  refine E_if_eq C 19 dX11_chance_4 (by decide) ?_ ?_
  · refine E_ldc2 C dX11_chance_19 k_X11_143 ?_
    exact E_lret C dX11_chance_22
  · refine E_at (pc2 := 7) rfl ?_
    refine E_iload_n C dX11_chance_7 2 rfl ?_
    refine E_i2l C dX11_chance_8 ?_
    refine E_lconst C 1 dX11_chance_9 (by decide) ?_
    refine E_ldc2 C dX11_chance_10 k_X11_128 ?_
    refine E_callSI (st := []) C [.long v2.toInt64, .long ((1 : Int64)), .long ((8 : Int64))] (mX11_in v2.toInt64 ((1 : Int64)) ((8 : Int64)) μ1) cal_X11_in st_X11_in lk_X11_65 dX11_chance_13 rfl rfl (Nat.le_of_ble_eq_true rfl) (Nat.le_of_ble_eq_true rfl) (fun x13 μ13 => ?_)
    refine E_if_ne C 23 dX11_chance_16 (by decide) ?_ ?_
    · refine E_aload_n C dX11_chance_23 0 rfl ?_
      refine E_iload_n C dX11_chance_24 1 rfl ?_
      refine E_iload_n C dX11_chance_25 2 rfl ?_
      refine E_callVU (st := []) C [.int v1, .int v2] (mX11_findWay v0 v1 v2 μ13) cal_X11_findWay vir_X11_findWay lk_X11_221 dX11_chance_26 rfl rfl (Nat.le_of_ble_eq_true rfl) (Nat.le_of_ble_eq_true rfl) (fun _ μ26 => ?_)
      refine E_aload_n C dX11_chance_29 0 rfl ?_
      refine E_getF C F_X11_211 dX11_chance_30 (fun x30 => ?_)
      refine E_callSJ (st := []) C [.float x30] (mX11_bits x30 μ26) cal_X11_bits st_X11_bits lk_X11_201 dX11_chance_33 rfl rfl (Nat.le_of_ble_eq_true rfl) (Nat.le_of_ble_eq_true rfl) (fun x33 μ33 => ?_)
      exact E_lret C dX11_chance_36
    · refine E_at (pc2 := 19) rfl ?_
      refine E_ldc2 C dX11_chance_19 k_X11_143 ?_
      exact E_lret C dX11_chance_22
def fX11_bestNow (v0 : Nat) (v1 : Int32) (v2 : Int32) (μ : Mem) : Option (UInt32 × Mem) :=
  (isC μ v0 11).bind fun _ => bd (fX11_finds v0 ((0 : Int32)) μ) fun _ μ2 => (gR μ2 v0 11 6).bind fun x6 => bd (fX11_place ((0 : Int32)) v1 v2 μ2) fun x12 μ12 => (aF μ12 x6 x12).bind fun x15 => some (x15, μ12)
set_option maxHeartbeats 4000000 in
set_option maxRecDepth 100000 in
theorem mX11_bestNow (v0 : Nat) (v1 : Int32) (v2 : Int32) (μ : Mem) : Meth wF yX11_bestNow cX11_bestNow 3 (some .float) 7 [.ref v0, .int v1, .int v2] μ (fX11_bestNow v0 v1 v2 μ) := by
  refine Meth.of (by decide) [(0, .ref v0), (1, .int v1), (2, .int v2)] rfl (Nat.le_of_ble_eq_true rfl) ?_
  intro p l e R s m args below meth c D ca ad A X C
  have C : CX p R s m args meth c D ca ad A X cX11_bestNow RX11 3 (some .float) 7 := C
  unfold fX11_bestNow
  refine E_aload_n C dX11_bestNow_0 0 rfl ?_
  refine E_iconst C 0 dX11_bestNow_1 (by decide) ?_
  refine E_callVU (st := []) C [.int ((0 : Int32))] (mX11_finds v0 ((0 : Int32)) μ) cal_X11_finds vir_X11_finds lk_X11_197 dX11_bestNow_2 rfl rfl (Nat.le_of_ble_eq_true rfl) (Nat.le_of_ble_eq_true rfl) (fun _ μ2 => ?_)
  refine E_aload_n C dX11_bestNow_5 0 rfl ?_
  refine E_getR C F_X11_24 dX11_bestNow_6 (fun x6 => ?_)
  refine E_iconst C 0 dX11_bestNow_9 (by decide) ?_
  refine E_iload_n C dX11_bestNow_10 1 rfl ?_
  refine E_iload_n C dX11_bestNow_11 2 rfl ?_
  refine E_callSI (st := [.ref x6]) C [.int ((0 : Int32)), .int v1, .int v2] (mX11_place ((0 : Int32)) v1 v2 μ2) cal_X11_place st_X11_place lk_X11_176 dX11_bestNow_12 rfl rfl (Nat.le_of_ble_eq_true rfl) (Nat.le_of_ble_eq_true rfl) (fun x12 μ12 => ?_)
  refine E_faload C dX11_bestNow_15 (fun x15 => ?_)
  exact E_fret C dX11_bestNow_16
def fX11_worth (v0 : Nat) (v1 : Int32) (v2 : Int32) (v3 : Int32) (v4 : Int32) (μ : Mem) : Option (Int64 × Mem) :=
  jn (fun (s0_34 : Int32) (μ_34 : Mem) => if s0_34 = 0 then (some ((-9223372036854775808 : Int64), μ_34)) else ((isC μ_34 v0 11).bind fun _ => bd (fX11_isStore v0 v3 μ_34) fun x43 μ43 => if x43 = 0 then (some ((-9223372036854775808 : Int64), μ43)) else (bd (fX11_isState v4 μ43) fun x51 μ51 => if x51 = 0 then (some ((-9223372036854775808 : Int64), μ51)) else ((isC μ51 v0 11).bind fun _ => bd (fX11_bestNow v0 v3 v4 μ51) fun x65 μ65 => jn (fun (v7_144 : UInt32) (μ_144 : Mem) => jn (fun (s0_162 : UInt32) (μ_162 : Mem) => bd (fX11_bits s0_162 μ_162) fun x162 μ162 => some (x162, μ162)) (fun j162 => if v1 = (1 : Int32) then ((nn (FP.fsub v7_144 x65)).bind fun x153 => j162 x153 μ_144) else ((nn (FP.fsub x65 v7_144)).bind fun x161 => j162 x161 μ_144))) (fun j144 => if v1 = 0 then ((pV μ65 v0 11 3 (.int (((1 : Int32) <<< (v2 &&& 31))))).bind fun μ78 => (isC μ78 v0 11).bind fun _ => bd (fX11_bestNow v0 v3 v4 μ78) fun x85 μ85 => (pV μ85 v0 11 3 (.int ((0 : Int32)))).bind fun μ92 => j144 x85 μ92) else (jn (fun (s0_111 : Int32) (μ_111 : Mem) => (gR μ_111 v0 11 0).bind fun x114 => (aI μ_111 0 x114 s0_111).bind fun x120 => (sI μ_111 x114 s0_111 ((x120 + (1 : Int32)))).bind fun μ123 => (isC μ123 v0 11).bind fun _ => bd (fX11_bestNow v0 v3 v4 μ123) fun x128 μ128 => (gR μ128 v0 11 0).bind fun x134 => (aI μ128 0 x134 s0_111).bind fun x140 => (sI μ128 x134 s0_111 ((x140 - (1 : Int32)))).bind fun μ143 => j144 x128 μ143) (fun j111 => if v1 = (1 : Int32) then (j111 ((0 : Int32)) μ65) else (j111 (((61 : Int32) + v2)) μ65)))))))) (fun j34 => if v1 = 0 then ((isC μ v0 11).bind fun _ => bd (fX11_isDemand v0 v2 μ) fun x6 μ6 => j34 x6 μ6) else (jn (fun  (μ_29 : Mem) => j34 ((1 : Int32)) μ_29) (fun j29 => if v1 = (1 : Int32) then (j29 μ) else (jn (fun  (μ_33 : Mem) => j34 ((0 : Int32)) μ_33) (fun j33 => if v1 = (2 : Int32) then (bd (fX11_isMonth v2 μ) fun x23 μ23 => if x23 = 0 then (j33 μ23) else (j29 μ23)) else (j33 μ))))))
set_option maxHeartbeats 4000000 in
set_option maxRecDepth 100000 in
theorem mX11_worth (v0 : Nat) (v1 : Int32) (v2 : Int32) (v3 : Int32) (v4 : Int32) (μ : Mem) : Meth wJ yX11_worth cX11_worth 9 (some .long) 8 [.ref v0, .int v1, .int v2, .int v3, .int v4] μ (fX11_worth v0 v1 v2 v3 v4 μ) := by
  refine Meth.of (by decide) [(0, .ref v0), (1, .int v1), (2, .int v2), (3, .int v3), (4, .int v4)] rfl (Nat.le_of_ble_eq_true rfl) ?_
  intro p l e R s m args below meth c D ca ad A X C
  have C : CX p R s m args meth c D ca ad A X cX11_worth RX11 9 (some .long) 8 := C
  unfold fX11_worth
  refine E_iload_n C dX11_worth_0 1 rfl ?_
  refine E_jn (fun j34 => ∀ (s0_34 : Int32) (μ_34 : Mem), Sm p l e R s m args below meth c D ca ad A 9 0 0 wJ (KQ below args s D ca ad A) 34 [(0, .ref v0), (1, .int v1), (2, .int v2), (3, .int v3), (4, .int v4)] [.int s0_34] μ_34 (j34 s0_34 μ_34)) ?_ (fun j34 hj34 => ?_)
  · intro s0_34 μ_34
    refine E_istore (lv' := [(5, .int s0_34), (0, .ref v0), (1, .int v1), (2, .int v2), (3, .int v3), (4, .int v4)]) C dX11_worth_34 (by decide) rfl ?_
    refine E_iload C dX11_worth_36 0 rfl ?_
    refine E_if_eq C 57 dX11_worth_38 (by decide) ?_ ?_
    · refine E_ldc2 C dX11_worth_57 k_X11_143 ?_
      exact E_lret C dX11_worth_60
    · refine E_at (pc2 := 41) rfl ?_
      refine E_aload_n C dX11_worth_41 1 rfl ?_
      refine E_iload_n C dX11_worth_42 4 rfl ?_
      refine E_callVI (st := []) C [.int v3] (mX11_isStore v0 v3 μ_34) cal_X11_isStore vir_X11_isStore lk_X11_169 dX11_worth_43 rfl rfl (Nat.le_of_ble_eq_true rfl) (Nat.le_of_ble_eq_true rfl) (fun x43 μ43 => ?_)
      refine E_if_eq C 57 dX11_worth_46 (by decide) ?_ ?_
      · refine E_ldc2 C dX11_worth_57 k_X11_143 ?_
        exact E_lret C dX11_worth_60
      · refine E_at (pc2 := 49) rfl ?_
        refine E_iload C dX11_worth_49 5 rfl ?_
        refine E_callSI (st := []) C [.int v4] (mX11_isState v4 μ43) cal_X11_isState st_X11_isState lk_X11_87 dX11_worth_51 rfl rfl (Nat.le_of_ble_eq_true rfl) (Nat.le_of_ble_eq_true rfl) (fun x51 μ51 => ?_)
        refine E_if_ne C 61 dX11_worth_54 (by decide) ?_ ?_
        · refine E_aload_n C dX11_worth_61 1 rfl ?_
          refine E_iload_n C dX11_worth_62 4 rfl ?_
          refine E_iload C dX11_worth_63 5 rfl ?_
          refine E_callVF (st := []) C [.int v3, .int v4] (mX11_bestNow v0 v3 v4 μ51) cal_X11_bestNow vir_X11_bestNow lk_X11_225 dX11_worth_65 rfl rfl (Nat.le_of_ble_eq_true rfl) (Nat.le_of_ble_eq_true rfl) (fun x65 μ65 => ?_)
          refine E_fstore (lv' := [(6, .float x65), (5, .int s0_34), (0, .ref v0), (1, .int v1), (2, .int v2), (3, .int v3), (4, .int v4)]) C dX11_worth_68 (by decide) rfl ?_
          refine E_iload_n C dX11_worth_70 3 rfl ?_
          refine E_jn (fun j144 => ∀ (v7_144 : UInt32) (μ_144 : Mem), Sm p l e R s m args below meth c D ca ad A 9 0 0 wJ (KQ below args s D ca ad A) 144 [(1, .int v1), (6, .float x65), (7, .float v7_144)] [] μ_144 (j144 v7_144 μ_144)) ?_ (fun j144 hj144 => ?_)
          · intro v7_144 μ_144
            refine E_iload_n C dX11_worth_144 0 rfl ?_
            refine E_iconst C 1 dX11_worth_145 (by decide) ?_
            refine E_jn (fun j162 => ∀ (s0_162 : UInt32) (μ_162 : Mem), Sm p l e R s m args below meth c D ca ad A 9 0 0 wJ (KQ below args s D ca ad A) 162 [] [.float s0_162] μ_162 (j162 s0_162 μ_162)) ?_ (fun j162 hj162 => ?_)
            · intro s0_162 μ_162
              refine E_callSJ (st := []) C [.float s0_162] (mX11_bits s0_162 μ_162) cal_X11_bits st_X11_bits lk_X11_201 dX11_worth_162 rfl rfl (Nat.le_of_ble_eq_true rfl) (Nat.le_of_ble_eq_true rfl) (fun x162 μ162 => ?_)
              exact E_lret C dX11_worth_165
            · refine E_icmp_ne C 157 dX11_worth_146 (by decide) ?_ ?_
              · refine E_fload C dX11_worth_157 1 rfl ?_
                refine E_fload C dX11_worth_159 2 rfl ?_
                refine E_fsub C dX11_worth_161 (fun x161 => ?_)
                exact E_pick [] rfl (hj162 x161 μ_144)
              · refine E_at (pc2 := 149) rfl ?_
                refine E_fload C dX11_worth_149 2 rfl ?_
                refine E_fload C dX11_worth_151 1 rfl ?_
                refine E_fsub C dX11_worth_153 (fun x153 => ?_)
                refine E_goto C 162 dX11_worth_154 (by decide) ?_
                exact E_pick [] rfl (hj162 x153 μ_144)
          · refine E_if_ne C 98 dX11_worth_71 (by decide) ?_ ?_
            · refine E_iload_n C dX11_worth_98 3 rfl ?_
              refine E_iconst C 1 dX11_worth_99 (by decide) ?_
              refine E_jn (fun j111 => ∀ (s0_111 : Int32) (μ_111 : Mem), Sm p l e R s m args below meth c D ca ad A 9 0 0 wJ (KQ below args s D ca ad A) 111 [(0, .ref v0), (1, .int v1), (3, .int v3), (4, .int v4), (6, .float x65)] [.int s0_111] μ_111 (j111 s0_111 μ_111)) ?_ (fun j111 hj111 => ?_)
              · intro s0_111 μ_111
                refine E_istore (lv' := [(8, .int s0_111), (0, .ref v0), (1, .int v1), (3, .int v3), (4, .int v4), (6, .float x65)]) C dX11_worth_111 (by decide) rfl ?_
                refine E_aload_n C dX11_worth_113 1 rfl ?_
                refine E_getR C F_X11_11 dX11_worth_114 (fun x114 => ?_)
                refine E_iload C dX11_worth_117 0 rfl ?_
                refine E_dup2_ir C dX11_worth_119 ?_
                refine E_iaload C dX11_worth_120 (fun x120 => ?_)
                refine E_iconst C 1 dX11_worth_121 (by decide) ?_
                refine E_iadd C dX11_worth_122 ?_
                refine E_iastore C dX11_worth_123 (fun μ123 => ?_)
                refine E_aload_n C dX11_worth_124 1 rfl ?_
                refine E_iload_n C dX11_worth_125 3 rfl ?_
                refine E_iload C dX11_worth_126 4 rfl ?_
                refine E_callVF (st := []) C [.int v3, .int v4] (mX11_bestNow v0 v3 v4 μ123) cal_X11_bestNow vir_X11_bestNow lk_X11_225 dX11_worth_128 rfl rfl (Nat.le_of_ble_eq_true rfl) (Nat.le_of_ble_eq_true rfl) (fun x128 μ128 => ?_)
                refine E_fstore (lv' := [(7, .float x128), (8, .int s0_111), (0, .ref v0), (1, .int v1), (3, .int v3), (4, .int v4), (6, .float x65)]) C dX11_worth_131 (by decide) rfl ?_
                refine E_aload_n C dX11_worth_133 2 rfl ?_
                refine E_getR C F_X11_11 dX11_worth_134 (fun x134 => ?_)
                refine E_iload C dX11_worth_137 1 rfl ?_
                refine E_dup2_ir C dX11_worth_139 ?_
                refine E_iaload C dX11_worth_140 (fun x140 => ?_)
                refine E_iconst C 1 dX11_worth_141 (by decide) ?_
                refine E_isub C dX11_worth_142 ?_
                refine E_iastore C dX11_worth_143 (fun μ143 => ?_)
                exact E_pick [3, 6, 0] rfl (hj144 x128 μ143)
              · refine E_icmp_ne C 107 dX11_worth_100 (by decide) ?_ ?_
                · refine E_bipush C 61 dX11_worth_107 (by decide) ?_
                  refine E_iload_n C dX11_worth_109 4 rfl ?_
                  refine E_iadd C dX11_worth_110 ?_
                  exact E_pick [2, 3, 5, 6, 0] rfl (hj111 (((61 : Int32) + v2)) μ65)
                · refine E_at (pc2 := 103) rfl ?_
                  refine E_iconst C 0 dX11_worth_103 (by decide) ?_
                  refine E_goto C 111 dX11_worth_104 (by decide) ?_
                  exact E_pick [2, 3, 5, 6, 0] rfl (hj111 ((0 : Int32)) μ65)
            · refine E_at (pc2 := 74) rfl ?_
              refine E_aload_n C dX11_worth_74 2 rfl ?_
              refine E_iconst C 1 dX11_worth_75 (by decide) ?_
              refine E_iload_n C dX11_worth_76 4 rfl ?_
              refine E_ishl C dX11_worth_77 ?_
              refine E_putI C P_X11_124 dX11_worth_78 (fun μ78 => ?_)
              refine E_aload_n C dX11_worth_81 2 rfl ?_
              refine E_iload_n C dX11_worth_82 5 rfl ?_
              refine E_iload C dX11_worth_83 6 rfl ?_
              refine E_callVF (st := []) C [.int v3, .int v4] (mX11_bestNow v0 v3 v4 μ78) cal_X11_bestNow vir_X11_bestNow lk_X11_225 dX11_worth_85 rfl rfl (Nat.le_of_ble_eq_true rfl) (Nat.le_of_ble_eq_true rfl) (fun x85 μ85 => ?_)
              refine E_fstore (lv' := [(7, .float x85), (6, .float x65), (5, .int s0_34), (0, .ref v0), (1, .int v1), (2, .int v2), (3, .int v3), (4, .int v4)]) C dX11_worth_88 (by decide) rfl ?_
              refine E_aload_n C dX11_worth_90 3 rfl ?_
              refine E_iconst C 0 dX11_worth_91 (by decide) ?_
              refine E_putI C P_X11_124 dX11_worth_92 (fun μ92 => ?_)
              refine E_goto C 144 dX11_worth_95 (by decide) ?_
              exact E_pick [4, 1, 0] rfl (hj144 x85 μ92)
        · refine E_at (pc2 := 57) rfl ?_
          refine E_ldc2 C dX11_worth_57 k_X11_143 ?_
          exact E_lret C dX11_worth_60
  · refine E_if_ne C 12 dX11_worth_1 (by decide) ?_ ?_
    · refine E_iload_n C dX11_worth_12 1 rfl ?_
      refine E_iconst C 1 dX11_worth_13 (by decide) ?_
      refine E_jn (fun j29 => ∀  (μ_29 : Mem), Sm p l e R s m args below meth c D ca ad A 9 0 0 wJ (KQ below args s D ca ad A) 29 [(0, .ref v0), (1, .int v1), (2, .int v2), (3, .int v3), (4, .int v4)] [] μ_29 (j29  μ_29)) ?_ (fun j29 hj29 => ?_)
      · intro  μ_29
        refine E_iconst C 1 dX11_worth_29 (by decide) ?_
        refine E_goto C 34 dX11_worth_30 (by decide) ?_
        exact E_pick [0, 1, 2, 3, 4] rfl (hj34 ((1 : Int32)) μ_29)
      · refine E_icmp_eq C 29 dX11_worth_14 (by decide) ?_ ?_
        · exact E_pick [0, 1, 2, 3, 4] rfl (hj29 μ)
        · refine E_at (pc2 := 17) rfl ?_
          refine E_iload_n C dX11_worth_17 1 rfl ?_
          refine E_iconst C 2 dX11_worth_18 (by decide) ?_
          refine E_jn (fun j33 => ∀  (μ_33 : Mem), Sm p l e R s m args below meth c D ca ad A 9 0 0 wJ (KQ below args s D ca ad A) 33 [(0, .ref v0), (1, .int v1), (2, .int v2), (3, .int v3), (4, .int v4)] [] μ_33 (j33  μ_33)) ?_ (fun j33 hj33 => ?_)
          · intro  μ_33
            refine E_iconst C 0 dX11_worth_33 (by decide) ?_
            exact E_pick [0, 1, 2, 3, 4] rfl (hj34 ((0 : Int32)) μ_33)
          · refine E_icmp_ne C 33 dX11_worth_19 (by decide) ?_ ?_
            · exact E_pick [0, 1, 2, 3, 4] rfl (hj33 μ)
            · refine E_at (pc2 := 22) rfl ?_
              refine E_iload_n C dX11_worth_22 2 rfl ?_
              refine E_callSI (st := []) C [.int v2] (mX11_isMonth v2 μ) cal_X11_isMonth st_X11_isMonth lk_X11_83 dX11_worth_23 rfl rfl (Nat.le_of_ble_eq_true rfl) (Nat.le_of_ble_eq_true rfl) (fun x23 μ23 => ?_)
              refine E_if_eq C 33 dX11_worth_26 (by decide) ?_ ?_
              · exact E_pick [0, 1, 2, 3, 4] rfl (hj33 μ23)
              · exact E_pick [0, 1, 2, 3, 4] rfl (hj29 μ23)
    · refine E_at (pc2 := 4) rfl ?_
      refine E_aload_n C dX11_worth_4 0 rfl ?_
      refine E_iload_n C dX11_worth_5 2 rfl ?_
      refine E_callVI (st := []) C [.int v2] (mX11_isDemand v0 v2 μ) cal_X11_isDemand vir_X11_isDemand lk_X11_99 dX11_worth_6 rfl rfl (Nat.le_of_ble_eq_true rfl) (Nat.le_of_ble_eq_true rfl) (fun x6 μ6 => ?_)
      refine E_goto C 34 dX11_worth_9 (by decide) ?_
      exact E_pick [0, 1, 2, 3, 4] rfl (hj34 x6 μ6)
def fX11_isRecord (v0 : Int32) (μ : Mem) : Option (Int32 × Mem) :=
  bd (fX11_in v0.toInt64 ((0 : Int64)) ((3 : Int64)) μ) fun x6 μ6 => (zz x6).bind fun z => some (z, μ6)
set_option maxHeartbeats 4000000 in
set_option maxRecDepth 100000 in
theorem mX11_isRecord (v0 : Int32) (μ : Mem) : Meth wI yX11_isRecord cX11_isRecord 1 (some .boolean) 1 [.int v0] μ (fX11_isRecord v0 μ) := by
  refine Meth.of (by decide) [(0, .int v0)] rfl (Nat.le_of_ble_eq_true rfl) ?_
  intro p l e R s m args below meth c D ca ad A X C
  have C : CX p R s m args meth c D ca ad A X cX11_isRecord RX11 1 (some .boolean) 1 := C
  unfold fX11_isRecord
  refine E_iload_n C dX11_isRecord_0 0 rfl ?_
  refine E_i2l C dX11_isRecord_1 ?_
  refine E_lconst C 0 dX11_isRecord_2 (by decide) ?_
  refine E_ldc2 C dX11_isRecord_3 k_X11_71 ?_
  refine E_callSI (st := []) C [.long v0.toInt64, .long ((0 : Int64)), .long ((3 : Int64))] (mX11_in v0.toInt64 ((0 : Int64)) ((3 : Int64)) μ) cal_X11_in st_X11_in lk_X11_65 dX11_isRecord_6 rfl rfl (Nat.le_of_ble_eq_true rfl) (Nat.le_of_ble_eq_true rfl) (fun x6 μ6 => ?_)
  exact E_zret C dX11_isRecord_9
def fX11_record (v0 : Nat) (v1 : Int32) (v2 : Int32) (μ : Mem) : Option (Int32 × Mem) :=
  bd (fX11_isRecord v1 μ) fun x1 μ1 => if x1 = 0 then (some ((-1 : Int32), μ1)) else (if v2 = (-1 : Int32) then ((gR μ1 v0 11 4).bind fun x15 => (sI μ1 x15 v1 ((0 : Int32))).bind fun μ20 => some ((0 : Int32), μ20)) else (bd (fX11_in v2.toInt64 ((0 : Int64)) ((9 : Int64)) μ1) fun x29 μ29 => if x29 = 0 then (some ((-2 : Int32), μ29)) else ((gR μ29 v0 11 4).bind fun x39 => (aI μ29 0 x39 v1).bind fun x43 => if x43 = (24 : Int32) then (some ((-4 : Int32), μ29)) else ((gR μ29 v0 11 5).bind fun x53 => (gR μ29 v0 11 4).bind fun x61 => (aI μ29 0 x61 v1).bind fun x65 => (sI μ29 x53 ((((24 : Int32) * v1) + x65)) v2).bind fun μ68 => (gR μ68 v0 11 4).bind fun x70 => (aI μ68 0 x70 v1).bind fun x75 => (sI μ68 x70 v1 ((x75 + (1 : Int32)))).bind fun μ78 => (gR μ78 v0 11 4).bind fun x80 => (aI μ78 0 x80 v1).bind fun x84 => some (x84, μ78)))))
set_option maxHeartbeats 4000000 in
set_option maxRecDepth 100000 in
theorem mX11_record (v0 : Nat) (v1 : Int32) (v2 : Int32) (μ : Mem) : Meth wI yX11_record cX11_record 3 (some .int) 2 [.ref v0, .int v1, .int v2] μ (fX11_record v0 v1 v2 μ) := by
  refine Meth.of (by decide) [(0, .ref v0), (1, .int v1), (2, .int v2)] rfl (Nat.le_of_ble_eq_true rfl) ?_
  intro p l e R s m args below meth c D ca ad A X C
  have C : CX p R s m args meth c D ca ad A X cX11_record RX11 3 (some .int) 2 := C
  unfold fX11_record
  refine E_iload_n C dX11_record_0 1 rfl ?_
  refine E_callSI (st := []) C [.int v1] (mX11_isRecord v1 μ) cal_X11_isRecord st_X11_isRecord lk_X11_229 dX11_record_1 rfl rfl (Nat.le_of_ble_eq_true rfl) (Nat.le_of_ble_eq_true rfl) (fun x1 μ1 => ?_)
  refine E_if_ne C 9 dX11_record_4 (by decide) ?_ ?_
  · refine E_iload_n C dX11_record_9 2 rfl ?_
    refine E_iconst C (-1) dX11_record_10 (by decide) ?_
    refine E_icmp_ne C 23 dX11_record_11 (by decide) ?_ ?_
    · refine E_iload_n C dX11_record_23 2 rfl ?_
      refine E_i2l C dX11_record_24 ?_
      refine E_lconst C 0 dX11_record_25 (by decide) ?_
      refine E_ldc2 C dX11_record_26 k_X11_75 ?_
      refine E_callSI (st := []) C [.long v2.toInt64, .long ((0 : Int64)), .long ((9 : Int64))] (mX11_in v2.toInt64 ((0 : Int64)) ((9 : Int64)) μ1) cal_X11_in st_X11_in lk_X11_65 dX11_record_29 rfl rfl (Nat.le_of_ble_eq_true rfl) (Nat.le_of_ble_eq_true rfl) (fun x29 μ29 => ?_)
      refine E_if_ne C 38 dX11_record_32 (by decide) ?_ ?_
      · refine E_aload_n C dX11_record_38 0 rfl ?_
        refine E_getR C F_X11_18 dX11_record_39 (fun x39 => ?_)
        refine E_iload_n C dX11_record_42 1 rfl ?_
        refine E_iaload C dX11_record_43 (fun x43 => ?_)
        refine E_bipush C 24 dX11_record_44 (by decide) ?_
        refine E_icmp_ne C 52 dX11_record_46 (by decide) ?_ ?_
        · refine E_aload_n C dX11_record_52 0 rfl ?_
          refine E_getR C F_X11_21 dX11_record_53 (fun x53 => ?_)
          refine E_bipush C 24 dX11_record_56 (by decide) ?_
          refine E_iload_n C dX11_record_58 1 rfl ?_
          refine E_imul C dX11_record_59 ?_
          refine E_aload_n C dX11_record_60 0 rfl ?_
          refine E_getR C F_X11_18 dX11_record_61 (fun x61 => ?_)
          refine E_iload_n C dX11_record_64 1 rfl ?_
          refine E_iaload C dX11_record_65 (fun x65 => ?_)
          refine E_iadd C dX11_record_66 ?_
          refine E_iload_n C dX11_record_67 2 rfl ?_
          refine E_iastore C dX11_record_68 (fun μ68 => ?_)
          refine E_aload_n C dX11_record_69 0 rfl ?_
          refine E_getR C F_X11_18 dX11_record_70 (fun x70 => ?_)
          refine E_iload_n C dX11_record_73 1 rfl ?_
          refine E_dup2_ir C dX11_record_74 ?_
          refine E_iaload C dX11_record_75 (fun x75 => ?_)
          refine E_iconst C 1 dX11_record_76 (by decide) ?_
          refine E_iadd C dX11_record_77 ?_
          refine E_iastore C dX11_record_78 (fun μ78 => ?_)
          refine E_aload_n C dX11_record_79 0 rfl ?_
          refine E_getR C F_X11_18 dX11_record_80 (fun x80 => ?_)
          refine E_iload_n C dX11_record_83 1 rfl ?_
          refine E_iaload C dX11_record_84 (fun x84 => ?_)
          exact E_iret C dX11_record_85
        · refine E_at (pc2 := 49) rfl ?_
          refine E_bipush C (-4) dX11_record_49 (by decide) ?_
          exact E_iret C dX11_record_51
      · refine E_at (pc2 := 35) rfl ?_
        refine E_bipush C (-2) dX11_record_35 (by decide) ?_
        exact E_iret C dX11_record_37
    · refine E_at (pc2 := 14) rfl ?_
      refine E_aload_n C dX11_record_14 0 rfl ?_
      refine E_getR C F_X11_18 dX11_record_15 (fun x15 => ?_)
      refine E_iload_n C dX11_record_18 1 rfl ?_
      refine E_iconst C 0 dX11_record_19 (by decide) ?_
      refine E_iastore C dX11_record_20 (fun μ20 => ?_)
      refine E_iconst C 0 dX11_record_21 (by decide) ?_
      exact E_iret C dX11_record_22
  · refine E_at (pc2 := 7) rfl ?_
    refine E_iconst C (-1) dX11_record_7 (by decide) ?_
    exact E_iret C dX11_record_8
def X11_nearest_L28 (G : Int32 → Mem → Option (Int32 × Mem)) (v0 : Nat) (v3 : Int32) (v4 : Int32) : Nat → Int32 → Int32 → Mem → Option (Int32 × Mem)
  | 0, _, _, _ => none
  | n + 1, v5, v6, μ => if (3 : Int32) ≤ v6 then (G v5 μ) else ((gR μ v0 11 0).bind fun x35 => (aI μ 0 x35 ((v4 + v6))).bind fun x43 => (gR μ v0 11 0).bind fun x50 => (aI μ 0 x50 ((v4 + v5))).bind fun x58 => if (abI ((x58 - v3))) ≤ (abI ((x43 - v3))) then (X11_nearest_L28 G v0 v3 v4 n v5 ((v6 + 1)) μ) else (X11_nearest_L28 G v0 v3 v4 n v6 ((v6 + 1)) μ))
set_option maxHeartbeats 4000000 in
set_option maxRecDepth 100000 in
theorem X11_nearest_L28_ok {p : Program} {l : Launch} {e : Env} {R : Room} {s : State} {m : MethodId} {args : Array Value} {below : List Frame} {meth : Method} {c : Code} {D : va_G} {ca : Nat → ClassId} {ad : Nat → Nat} {A : Nat → Prop} {X : State → Prop} (C : CX p R s m args meth c D ca ad A X cX11_nearest RX11 7 (some .int) 1) {G : Int32 → Mem → Option (Int32 × Mem)} (v0 : Nat) (v3 : Int32) (v4 : Int32) (hG : ∀ (v5x : Int32) (μx : Mem), Sm p l e R s m args below meth c D ca ad A 7 0 0 wI (KQ below args s D ca ad A) 77 [(5, .int v5x)] [] μx (G v5x μx)) : ∀ (n : Nat) (v5 : Int32) (v6 : Int32) (μ : Mem), Sm p l e R s m args below meth c D ca ad A 7 0 0 wI (KQ below args s D ca ad A) 28 [(0, .ref v0), (3, .int v3), (4, .int v4), (5, .int v5), (6, .int v6)] [] μ (X11_nearest_L28 G v0 v3 v4 n v5 v6 μ) := by
  intro n
  induction n with
  | zero =>
    intro v5 v6 μ
    rw [X11_nearest_L28]
    exact E_none
  | succ n ih =>
    intro v5 v6 μ
    rw [X11_nearest_L28]
    refine E_iload C dX11_nearest_28 4 rfl ?_
    refine E_iconst C 3 dX11_nearest_30 (by decide) ?_
    refine E_icmp_ge C 77 dX11_nearest_31 (by decide) ?_ ?_
    · exact E_pick [3] rfl (hG v5 μ)
    · refine E_at (pc2 := 34) rfl ?_
      refine E_aload_n C dX11_nearest_34 0 rfl ?_
      refine E_getR C F_X11_11 dX11_nearest_35 (fun x35 => ?_)
      refine E_iload C dX11_nearest_38 2 rfl ?_
      refine E_iload C dX11_nearest_40 4 rfl ?_
      refine E_iadd C dX11_nearest_42 ?_
      refine E_iaload C dX11_nearest_43 (fun x43 => ?_)
      refine E_iload_n C dX11_nearest_44 1 rfl ?_
      refine E_isub C dX11_nearest_45 ?_
      refine E_mabs C lk_X11_232 st_Math_abs in_Math co_Math_abs dX11_nearest_46 (Nat.le_of_ble_eq_true rfl) (Nat.le_of_ble_eq_true rfl) ?_
      refine E_aload_n C dX11_nearest_49 0 rfl ?_
      refine E_getR C F_X11_11 dX11_nearest_50 (fun x50 => ?_)
      refine E_iload C dX11_nearest_53 2 rfl ?_
      refine E_iload C dX11_nearest_55 3 rfl ?_
      refine E_iadd C dX11_nearest_57 ?_
      refine E_iaload C dX11_nearest_58 (fun x58 => ?_)
      refine E_iload_n C dX11_nearest_59 1 rfl ?_
      refine E_isub C dX11_nearest_60 ?_
      refine E_mabs C lk_X11_232 st_Math_abs in_Math co_Math_abs dX11_nearest_61 (Nat.le_of_ble_eq_true rfl) (Nat.le_of_ble_eq_true rfl) ?_
      refine E_icmp_ge C 71 dX11_nearest_64 (by decide) ?_ ?_
      · refine E_iinc (lv' := [(6, .int ((v6 + 1))), (0, .ref v0), (3, .int v3), (4, .int v4), (5, .int v5)]) C (v6 + 1) dX11_nearest_71 4 rfl rfl (by decide) rfl ?_
        refine E_goto C 28 dX11_nearest_74 (by decide) ?_
        exact E_pick [1, 2, 3, 4, 0] rfl (ih v5 ((v6 + 1)) μ)
      · refine E_at (pc2 := 67) rfl ?_
        refine E_iload C dX11_nearest_67 4 rfl ?_
        refine E_istore (lv' := [(5, .int v6), (0, .ref v0), (3, .int v3), (4, .int v4), (6, .int v6)]) C dX11_nearest_69 (by decide) rfl ?_
        refine E_at (pc2 := 71) rfl ?_
        refine E_iinc (lv' := [(6, .int ((v6 + 1))), (5, .int v6), (0, .ref v0), (3, .int v3), (4, .int v4)]) C (v6 + 1) dX11_nearest_71 4 rfl rfl (by decide) rfl ?_
        refine E_goto C 28 dX11_nearest_74 (by decide) ?_
        exact E_pick [2, 3, 4, 1, 0] rfl (ih v6 ((v6 + 1)) μ)
def fX11_nearest (v0 : Nat) (v1 : Int32) (v2 : Int32) (μ : Mem) : Option (Int32 × Mem) :=
  (gR μ v0 11 5).bind fun x1 => (aI μ 0 x1 ((((24 : Int32) * v1) + v2))).bind fun x10 => (rmI v2 ((12 : Int32))).bind fun x17 => X11_nearest_L28 (fun v5_77 μ_77 => some (v5_77, μ_77)) v0 x10 (((4 : Int32) + ((3 : Int32) * x17))) FU ((0 : Int32)) ((1 : Int32)) μ
set_option maxHeartbeats 4000000 in
set_option maxRecDepth 100000 in
theorem mX11_nearest (v0 : Nat) (v1 : Int32) (v2 : Int32) (μ : Mem) : Meth wI yX11_nearest cX11_nearest 7 (some .int) 1 [.ref v0, .int v1, .int v2] μ (fX11_nearest v0 v1 v2 μ) := by
  refine Meth.of (by decide) [(0, .ref v0), (1, .int v1), (2, .int v2)] rfl (Nat.le_of_ble_eq_true rfl) ?_
  intro p l e R s m args below meth c D ca ad A X C
  have C : CX p R s m args meth c D ca ad A X cX11_nearest RX11 7 (some .int) 1 := C
  unfold fX11_nearest
  refine E_aload_n C dX11_nearest_0 0 rfl ?_
  refine E_getR C F_X11_21 dX11_nearest_1 (fun x1 => ?_)
  refine E_bipush C 24 dX11_nearest_4 (by decide) ?_
  refine E_iload_n C dX11_nearest_6 1 rfl ?_
  refine E_imul C dX11_nearest_7 ?_
  refine E_iload_n C dX11_nearest_8 2 rfl ?_
  refine E_iadd C dX11_nearest_9 ?_
  refine E_iaload C dX11_nearest_10 (fun x10 => ?_)
  refine E_istore_n (lv' := [(3, .int x10), (0, .ref v0), (1, .int v1), (2, .int v2)]) C dX11_nearest_11 (by decide) rfl ?_
  refine E_iconst C 4 dX11_nearest_12 (by decide) ?_
  refine E_iconst C 3 dX11_nearest_13 (by decide) ?_
  refine E_iload_n C dX11_nearest_14 3 rfl ?_
  refine E_bipush C 12 dX11_nearest_15 (by decide) ?_
  refine E_irem C dX11_nearest_17 (fun x17 => ?_)
  refine E_imul C dX11_nearest_18 ?_
  refine E_iadd C dX11_nearest_19 ?_
  refine E_istore (lv' := [(4, .int (((4 : Int32) + ((3 : Int32) * x17)))), (3, .int x10), (0, .ref v0), (1, .int v1), (2, .int v2)]) C dX11_nearest_20 (by decide) rfl ?_
  refine E_iconst C 0 dX11_nearest_22 (by decide) ?_
  refine E_istore (lv' := [(5, .int ((0 : Int32))), (4, .int (((4 : Int32) + ((3 : Int32) * x17)))), (3, .int x10), (0, .ref v0), (1, .int v1), (2, .int v2)]) C dX11_nearest_23 (by decide) rfl ?_
  refine E_iconst C 1 dX11_nearest_25 (by decide) ?_
  refine E_istore (lv' := [(6, .int ((1 : Int32))), (5, .int ((0 : Int32))), (4, .int (((4 : Int32) + ((3 : Int32) * x17)))), (3, .int x10), (0, .ref v0), (1, .int v1), (2, .int v2)]) C dX11_nearest_26 (by decide) rfl ?_
  refine E_at (pc2 := 28) rfl ?_
  refine E_pick (lv' := [(0, .ref v0), (3, .int x10), (4, .int (((4 : Int32) + ((3 : Int32) * x17)))), (5, .int ((0 : Int32))), (6, .int ((1 : Int32)))]) [4, 3, 2, 1, 0] rfl ?_
  refine X11_nearest_L28_ok C v0 x10 (((4 : Int32) + ((3 : Int32) * x17))) (fun v5_77 μ_77 => ?_) FU ((0 : Int32)) ((1 : Int32)) μ
  refine E_iload C dX11_nearest_77 0 rfl ?_
  exact E_iret C dX11_nearest_79
def fX11_isReplay (v0 : Nat) (v1 : Int32) (v2 : Int32) (v3 : Int32) (μ : Mem) : Option (Int32 × Mem) :=
  bd (fX11_isRecord v1 μ) fun x1 μ1 => if x1 = 0 then ((zz ((0 : Int32))).bind fun z => some (z, μ1)) else ((isC μ1 v0 11).bind fun _ => bd (fX11_isStore v0 v2 μ1) fun x9 μ9 => if x9 = 0 then ((zz ((0 : Int32))).bind fun z => some (z, μ9)) else (bd (fX11_in v3.toInt64 ((0 : Int64)) ((20 : Int64)) μ9) fun x21 μ21 => if x21 = 0 then ((zz ((0 : Int32))).bind fun z => some (z, μ21)) else ((zz ((1 : Int32))).bind fun z => some (z, μ21))))
set_option maxHeartbeats 4000000 in
set_option maxRecDepth 100000 in
theorem mX11_isReplay (v0 : Nat) (v1 : Int32) (v2 : Int32) (v3 : Int32) (μ : Mem) : Meth wI yX11_isReplay cX11_isReplay 4 (some .boolean) 2 [.ref v0, .int v1, .int v2, .int v3] μ (fX11_isReplay v0 v1 v2 v3 μ) := by
  refine Meth.of (by decide) [(0, .ref v0), (1, .int v1), (2, .int v2), (3, .int v3)] rfl (Nat.le_of_ble_eq_true rfl) ?_
  intro p l e R s m args below meth c D ca ad A X C
  have C : CX p R s m args meth c D ca ad A X cX11_isReplay RX11 4 (some .boolean) 2 := C
  unfold fX11_isReplay
  refine E_iload_n C dX11_isReplay_0 1 rfl ?_
  refine E_callSI (st := []) C [.int v1] (mX11_isRecord v1 μ) cal_X11_isRecord st_X11_isRecord lk_X11_229 dX11_isReplay_1 rfl rfl (Nat.le_of_ble_eq_true rfl) (Nat.le_of_ble_eq_true rfl) (fun x1 μ1 => ?_)
  refine E_if_eq C 31 dX11_isReplay_4 (by decide) ?_ ?_
  · refine E_iconst C 0 dX11_isReplay_31 (by decide) ?_
    exact E_zret C dX11_isReplay_32
  · refine E_at (pc2 := 7) rfl ?_
    refine E_aload_n C dX11_isReplay_7 0 rfl ?_
    refine E_iload_n C dX11_isReplay_8 2 rfl ?_
    refine E_callVI (st := []) C [.int v2] (mX11_isStore v0 v2 μ1) cal_X11_isStore vir_X11_isStore lk_X11_169 dX11_isReplay_9 rfl rfl (Nat.le_of_ble_eq_true rfl) (Nat.le_of_ble_eq_true rfl) (fun x9 μ9 => ?_)
    refine E_if_eq C 31 dX11_isReplay_12 (by decide) ?_ ?_
    · refine E_iconst C 0 dX11_isReplay_31 (by decide) ?_
      exact E_zret C dX11_isReplay_32
    · refine E_at (pc2 := 15) rfl ?_
      refine E_iload_n C dX11_isReplay_15 3 rfl ?_
      refine E_i2l C dX11_isReplay_16 ?_
      refine E_lconst C 0 dX11_isReplay_17 (by decide) ?_
      refine E_ldc2 C dX11_isReplay_18 k_X11_208 ?_
      refine E_callSI (st := []) C [.long v3.toInt64, .long ((0 : Int64)), .long ((20 : Int64))] (mX11_in v3.toInt64 ((0 : Int64)) ((20 : Int64)) μ9) cal_X11_in st_X11_in lk_X11_65 dX11_isReplay_21 rfl rfl (Nat.le_of_ble_eq_true rfl) (Nat.le_of_ble_eq_true rfl) (fun x21 μ21 => ?_)
      refine E_if_eq C 31 dX11_isReplay_24 (by decide) ?_ ?_
      · refine E_iconst C 0 dX11_isReplay_31 (by decide) ?_
        exact E_zret C dX11_isReplay_32
      · refine E_at (pc2 := 27) rfl ?_
        refine E_iconst C 1 dX11_isReplay_27 (by decide) ?_
        refine E_goto C 32 dX11_isReplay_28 (by decide) ?_
        exact E_zret C dX11_isReplay_32
def X11_replays_L50 (G : Mem → Option (Unit × Mem)) (v0 : Nat) (v1 : Int32) (v3 : Int32) (v4 : Int32) (v5 : Int32) : Nat → Int32 → Mem → Option (Unit × Mem)
  | 0, _, _ => none
  | n + 1, v6, μ => if v4 ≤ v6 then (G μ) else ((rmI v6 ((12 : Int32))).bind fun x61 => (gR μ v0 11 24).bind fun x65 => (aI μ 0 x65 v6).bind fun x70 => jn (fun (s0_113 : Int32) (μ_113 : Mem) => (gR μ_113 v0 11 5).bind fun x121 => (aI μ_113 0 x121 ((((24 : Int32) * v1) + v6))).bind fun x131 => (isC μ_113 v0 11).bind fun _ => bd (fX11_goes v0 x61 x70 x131 s0_113 μ_113) fun _ μ134 => (gI μ134 v0 11 19).bind fun x139 => (gI μ134 v0 11 15).bind fun x143 => (pV μ134 v0 11 19 (.int ((x139 + x143)))).bind fun μ147 => (gI μ147 v0 11 20).bind fun x152 => (gI μ147 v0 11 13).bind fun x156 => (pV μ147 v0 11 20 (.int ((x152 + x156)))).bind fun μ160 => (gI μ160 v0 11 21).bind fun x165 => (gI μ160 v0 11 10).bind fun x169 => (pV μ160 v0 11 21 (.int ((x165 + x169)))).bind fun μ173 => (gI μ173 v0 11 22).bind fun x178 => (gI μ173 v0 11 12).bind fun x182 => (pV μ173 v0 11 22 (.int ((x178 + x182)))).bind fun μ186 => (gR μ186 v0 11 24).bind fun x190 => (gI μ186 v0 11 14).bind fun x198 => (sI μ186 x190 ((v6 + (1 : Int32))) x198).bind fun μ201 => (gI μ201 v0 11 23).bind fun x204 => (gI μ201 v0 11 14).bind fun x208 => (pV μ201 v0 11 23 (.int ((mnI x204 x208)))).bind fun μ214 => if v5 < 0 then (X11_replays_L50 G v0 v1 v3 v4 v5 n ((v6 + 1)) μ214) else ((isC μ214 v0 11).bind fun _ => bd (fX11_wants v0 v5 x61 μ214) fun x227 μ227 => if x227 ≤ 0 then (X11_replays_L50 G v0 v1 v3 v4 v5 n ((v6 + 1)) μ227) else ((gI μ227 v0 11 26).bind fun x235 => (pV μ227 v0 11 26 (.int ((x235 + (1 : Int32))))).bind fun μ240 => (gI μ240 v0 11 25).bind fun x245 => (gR μ240 v0 11 8).bind fun x249 => (aI μ240 0 x249 v5).bind fun x254 => (isC μ240 v0 11).bind fun _ => bd (fX11_wants v0 v5 x61 μ240) fun x260 μ260 => if x254 = x260 then ((pV μ260 v0 11 25 (.int ((x245 + (1 : Int32))))).bind fun μ272 => X11_replays_L50 G v0 v1 v3 v4 v5 n ((v6 + 1)) μ272) else ((pV μ260 v0 11 25 (.int ((x245 + (0 : Int32))))).bind fun μ272 => X11_replays_L50 G v0 v1 v3 v4 v5 n ((v6 + 1)) μ272)))) (fun j113 => if v3 ≤ 0 then ((isC μ v0 11).bind fun _ => bd (fX11_isAhead v0 x61 μ) fun x84 μ84 => if x84 = 0 then (j113 ((0 : Int32)) μ84) else ((gR μ84 v0 11 7).bind fun x91 => (isC μ84 v0 11).bind fun _ => bd (fX11_nearest v0 v1 v6 μ84) fun x102 μ102 => bd (fX11_place x61 x70 x102 μ102) fun x105 μ105 => (aI μ105 0 x91 x105).bind fun x108 => j113 x108 μ105)) else (j113 v3 μ)))
set_option maxHeartbeats 4000000 in
set_option maxRecDepth 100000 in
theorem X11_replays_L50_ok {p : Program} {l : Launch} {e : Env} {R : Room} {s : State} {m : MethodId} {args : Array Value} {below : List Frame} {meth : Method} {c : Code} {D : va_G} {ca : Nat → ClassId} {ad : Nat → Nat} {A : Nat → Prop} {X : State → Prop} (C : CX p R s m args meth c D ca ad A X cX11_replays RX11 10 none 7) {G : Mem → Option (Unit × Mem)} (v0 : Nat) (v1 : Int32) (v3 : Int32) (v4 : Int32) (v5 : Int32) (hG : ∀  (μx : Mem), Sm p l e R s m args below meth c D ca ad A 10 0 0 wU (KQ below args s D ca ad A) 281 [] [] μx (G  μx)) : ∀ (n : Nat) (v6 : Int32) (μ : Mem), Sm p l e R s m args below meth c D ca ad A 10 0 0 wU (KQ below args s D ca ad A) 50 [(0, .ref v0), (1, .int v1), (3, .int v3), (4, .int v4), (5, .int v5), (6, .int v6)] [] μ (X11_replays_L50 G v0 v1 v3 v4 v5 n v6 μ) := by
  intro n
  induction n with
  | zero =>
    intro v6 μ
    rw [X11_replays_L50]
    exact E_none
  | succ n ih =>
    intro v6 μ
    rw [X11_replays_L50]
    refine E_iload C dX11_replays_50 5 rfl ?_
    refine E_iload C dX11_replays_52 3 rfl ?_
    refine E_icmp_ge C 281 dX11_replays_54 (by decide) ?_ ?_
    · exact E_pick [] rfl (hG μ)
    · refine E_at (pc2 := 57) rfl ?_
      refine E_iload C dX11_replays_57 5 rfl ?_
      refine E_bipush C 12 dX11_replays_59 (by decide) ?_
      refine E_irem C dX11_replays_61 (fun x61 => ?_)
      refine E_istore (lv' := [(7, .int x61), (0, .ref v0), (1, .int v1), (3, .int v3), (4, .int v4), (5, .int v5), (6, .int v6)]) C dX11_replays_62 (by decide) rfl ?_
      refine E_aload_n C dX11_replays_64 1 rfl ?_
      refine E_getR C F_X11_40 dX11_replays_65 (fun x65 => ?_)
      refine E_iload C dX11_replays_68 6 rfl ?_
      refine E_iaload C dX11_replays_70 (fun x70 => ?_)
      refine E_istore (lv' := [(8, .int x70), (7, .int x61), (0, .ref v0), (1, .int v1), (3, .int v3), (4, .int v4), (5, .int v5), (6, .int v6)]) C dX11_replays_71 (by decide) rfl ?_
      refine E_iload_n C dX11_replays_73 4 rfl ?_
      refine E_jn (fun j113 => ∀ (s0_113 : Int32) (μ_113 : Mem), Sm p l e R s m args below meth c D ca ad A 10 0 0 wU (KQ below args s D ca ad A) 113 [(0, .ref v0), (1, .int v1), (3, .int v3), (4, .int v4), (5, .int v5), (6, .int v6), (7, .int x61), (8, .int x70)] [.int s0_113] μ_113 (j113 s0_113 μ_113)) ?_ (fun j113 hj113 => ?_)
      · intro s0_113 μ_113
        refine E_istore (lv' := [(9, .int s0_113), (0, .ref v0), (1, .int v1), (3, .int v3), (4, .int v4), (5, .int v5), (6, .int v6), (7, .int x61), (8, .int x70)]) C dX11_replays_113 (by decide) rfl ?_
        refine E_aload_n C dX11_replays_115 1 rfl ?_
        refine E_iload C dX11_replays_116 7 rfl ?_
        refine E_iload C dX11_replays_118 8 rfl ?_
        refine E_aload_n C dX11_replays_120 1 rfl ?_
        refine E_getR C F_X11_21 dX11_replays_121 (fun x121 => ?_)
        refine E_bipush C 24 dX11_replays_124 (by decide) ?_
        refine E_iload_n C dX11_replays_126 2 rfl ?_
        refine E_imul C dX11_replays_127 ?_
        refine E_iload C dX11_replays_128 6 rfl ?_
        refine E_iadd C dX11_replays_130 ?_
        refine E_iaload C dX11_replays_131 (fun x131 => ?_)
        refine E_iload C dX11_replays_132 0 rfl ?_
        refine E_callVU (st := []) C [.int x61, .int x70, .int x131, .int s0_113] (mX11_goes v0 x61 x70 x131 s0_113 μ_113) cal_X11_goes vir_X11_goes lk_X11_172 dX11_replays_134 rfl rfl (Nat.le_of_ble_eq_true rfl) (Nat.le_of_ble_eq_true rfl) (fun _ μ134 => ?_)
        refine E_aload_n C dX11_replays_137 1 rfl ?_
        refine E_dup_r C dX11_replays_138 ?_
        refine E_getI C F_X11_235 dX11_replays_139 (fun x139 => ?_)
        refine E_aload_n C dX11_replays_142 1 rfl ?_
        refine E_getI C F_X11_166 dX11_replays_143 (fun x143 => ?_)
        refine E_iadd C dX11_replays_146 ?_
        refine E_putI C P_X11_235 dX11_replays_147 (fun μ147 => ?_)
        refine E_aload_n C dX11_replays_150 1 rfl ?_
        refine E_dup_r C dX11_replays_151 ?_
        refine E_getI C F_X11_238 dX11_replays_152 (fun x152 => ?_)
        refine E_aload_n C dX11_replays_155 1 rfl ?_
        refine E_getI C F_X11_160 dX11_replays_156 (fun x156 => ?_)
        refine E_iadd C dX11_replays_159 ?_
        refine E_putI C P_X11_238 dX11_replays_160 (fun μ160 => ?_)
        refine E_aload_n C dX11_replays_163 1 rfl ?_
        refine E_dup_r C dX11_replays_164 ?_
        refine E_getI C F_X11_241 dX11_replays_165 (fun x165 => ?_)
        refine E_aload_n C dX11_replays_168 1 rfl ?_
        refine E_getI C F_X11_151 dX11_replays_169 (fun x169 => ?_)
        refine E_iadd C dX11_replays_172 ?_
        refine E_putI C P_X11_241 dX11_replays_173 (fun μ173 => ?_)
        refine E_aload_n C dX11_replays_176 1 rfl ?_
        refine E_dup_r C dX11_replays_177 ?_
        refine E_getI C F_X11_244 dX11_replays_178 (fun x178 => ?_)
        refine E_aload_n C dX11_replays_181 1 rfl ?_
        refine E_getI C F_X11_157 dX11_replays_182 (fun x182 => ?_)
        refine E_iadd C dX11_replays_185 ?_
        refine E_putI C P_X11_244 dX11_replays_186 (fun μ186 => ?_)
        refine E_aload_n C dX11_replays_189 1 rfl ?_
        refine E_getR C F_X11_40 dX11_replays_190 (fun x190 => ?_)
        refine E_iload C dX11_replays_193 6 rfl ?_
        refine E_iconst C 1 dX11_replays_195 (by decide) ?_
        refine E_iadd C dX11_replays_196 ?_
        refine E_aload_n C dX11_replays_197 1 rfl ?_
        refine E_getI C F_X11_163 dX11_replays_198 (fun x198 => ?_)
        refine E_iastore C dX11_replays_201 (fun μ201 => ?_)
        refine E_aload_n C dX11_replays_202 1 rfl ?_
        refine E_aload_n C dX11_replays_203 1 rfl ?_
        refine E_getI C F_X11_253 dX11_replays_204 (fun x204 => ?_)
        refine E_aload_n C dX11_replays_207 1 rfl ?_
        refine E_getI C F_X11_163 dX11_replays_208 (fun x208 => ?_)
        refine E_mmin C lk_X11_136 st_Math_min in_Math co_Math_min dX11_replays_211 (Nat.le_of_ble_eq_true rfl) (Nat.le_of_ble_eq_true rfl) ?_
        refine E_putI C P_X11_253 dX11_replays_214 (fun μ214 => ?_)
        refine E_iload C dX11_replays_217 5 rfl ?_
        refine E_if_lt C 275 dX11_replays_219 (by decide) ?_ ?_
        · refine E_iinc (lv' := [(6, .int ((v6 + 1))), (9, .int s0_113), (0, .ref v0), (1, .int v1), (3, .int v3), (4, .int v4), (5, .int v5), (7, .int x61), (8, .int x70)]) C (v6 + 1) dX11_replays_275 6 rfl rfl (by decide) rfl ?_
          refine E_goto C 50 dX11_replays_278 (by decide) ?_
          exact E_pick [2, 3, 4, 5, 6, 0] rfl (ih ((v6 + 1)) μ214)
        · refine E_at (pc2 := 222) rfl ?_
          refine E_aload_n C dX11_replays_222 1 rfl ?_
          refine E_iload C dX11_replays_223 5 rfl ?_
          refine E_iload C dX11_replays_225 7 rfl ?_
          refine E_callVI (st := []) C [.int v5, .int x61] (mX11_wants v0 v5 x61 μ214) cal_X11_wants vir_X11_wants lk_X11_130 dX11_replays_227 rfl rfl (Nat.le_of_ble_eq_true rfl) (Nat.le_of_ble_eq_true rfl) (fun x227 μ227 => ?_)
          refine E_if_le C 275 dX11_replays_230 (by decide) ?_ ?_
          · refine E_iinc (lv' := [(6, .int ((v6 + 1))), (9, .int s0_113), (0, .ref v0), (1, .int v1), (3, .int v3), (4, .int v4), (5, .int v5), (7, .int x61), (8, .int x70)]) C (v6 + 1) dX11_replays_275 6 rfl rfl (by decide) rfl ?_
            refine E_goto C 50 dX11_replays_278 (by decide) ?_
            exact E_pick [2, 3, 4, 5, 6, 0] rfl (ih ((v6 + 1)) μ227)
          · refine E_at (pc2 := 233) rfl ?_
            refine E_aload_n C dX11_replays_233 1 rfl ?_
            refine E_dup_r C dX11_replays_234 ?_
            refine E_getI C F_X11_250 dX11_replays_235 (fun x235 => ?_)
            refine E_iconst C 1 dX11_replays_238 (by decide) ?_
            refine E_iadd C dX11_replays_239 ?_
            refine E_putI C P_X11_250 dX11_replays_240 (fun μ240 => ?_)
            refine E_aload_n C dX11_replays_243 1 rfl ?_
            refine E_dup_r C dX11_replays_244 ?_
            refine E_getI C F_X11_247 dX11_replays_245 (fun x245 => ?_)
            refine E_aload_n C dX11_replays_248 1 rfl ?_
            refine E_getR C F_X11_31 dX11_replays_249 (fun x249 => ?_)
            refine E_iload C dX11_replays_252 5 rfl ?_
            refine E_iaload C dX11_replays_254 (fun x254 => ?_)
            refine E_aload_n C dX11_replays_255 1 rfl ?_
            refine E_iload C dX11_replays_256 5 rfl ?_
            refine E_iload C dX11_replays_258 7 rfl ?_
            refine E_callVI (st := [.int x254, .int x245, .ref v0]) C [.int v5, .int x61] (mX11_wants v0 v5 x61 μ240) cal_X11_wants vir_X11_wants lk_X11_130 dX11_replays_260 rfl rfl (Nat.le_of_ble_eq_true rfl) (Nat.le_of_ble_eq_true rfl) (fun x260 μ260 => ?_)
            refine E_icmp_ne C 270 dX11_replays_263 (by decide) ?_ ?_
            · refine E_iconst C 0 dX11_replays_270 (by decide) ?_
              refine E_at (pc2 := 271) rfl ?_
              refine E_iadd C dX11_replays_271 ?_
              refine E_putI C P_X11_247 dX11_replays_272 (fun μ272 => ?_)
              refine E_at (pc2 := 275) rfl ?_
              refine E_iinc (lv' := [(6, .int ((v6 + 1))), (9, .int s0_113), (0, .ref v0), (1, .int v1), (3, .int v3), (4, .int v4), (5, .int v5), (7, .int x61), (8, .int x70)]) C (v6 + 1) dX11_replays_275 6 rfl rfl (by decide) rfl ?_
              refine E_goto C 50 dX11_replays_278 (by decide) ?_
              exact E_pick [2, 3, 4, 5, 6, 0] rfl (ih ((v6 + 1)) μ272)
            · refine E_at (pc2 := 266) rfl ?_
              refine E_iconst C 1 dX11_replays_266 (by decide) ?_
              refine E_goto C 271 dX11_replays_267 (by decide) ?_
              refine E_iadd C dX11_replays_271 ?_
              refine E_putI C P_X11_247 dX11_replays_272 (fun μ272 => ?_)
              refine E_at (pc2 := 275) rfl ?_
              refine E_iinc (lv' := [(6, .int ((v6 + 1))), (9, .int s0_113), (0, .ref v0), (1, .int v1), (3, .int v3), (4, .int v4), (5, .int v5), (7, .int x61), (8, .int x70)]) C (v6 + 1) dX11_replays_275 6 rfl rfl (by decide) rfl ?_
              refine E_goto C 50 dX11_replays_278 (by decide) ?_
              exact E_pick [2, 3, 4, 5, 6, 0] rfl (ih ((v6 + 1)) μ272)
      · refine E_if_le C 81 dX11_replays_74 (by decide) ?_ ?_
        · refine E_aload_n C dX11_replays_81 2 rfl ?_
          refine E_iload C dX11_replays_82 1 rfl ?_
          refine E_callVI (st := []) C [.int x61] (mX11_isAhead v0 x61 μ) cal_X11_isAhead vir_X11_isAhead lk_X11_205 dX11_replays_84 rfl rfl (Nat.le_of_ble_eq_true rfl) (Nat.le_of_ble_eq_true rfl) (fun x84 μ84 => ?_)
          refine E_if_eq C 112 dX11_replays_87 (by decide) ?_ ?_
          · refine E_iconst C 0 dX11_replays_112 (by decide) ?_
            exact E_pick [2, 3, 4, 5, 6, 7, 1, 0] rfl (hj113 ((0 : Int32)) μ84)
          · refine E_at (pc2 := 90) rfl ?_
            refine E_aload_n C dX11_replays_90 2 rfl ?_
            refine E_getR C F_X11_28 dX11_replays_91 (fun x91 => ?_)
            refine E_iload C dX11_replays_94 1 rfl ?_
            refine E_iload C dX11_replays_96 0 rfl ?_
            refine E_aload_n C dX11_replays_98 2 rfl ?_
            refine E_iload_n C dX11_replays_99 3 rfl ?_
            refine E_iload C dX11_replays_100 7 rfl ?_
            refine E_callVI (st := [.int x70, .int x61, .ref x91]) C [.int v1, .int v6] (mX11_nearest v0 v1 v6 μ84) cal_X11_nearest vir_X11_nearest lk_X11_256 dX11_replays_102 rfl rfl (Nat.le_of_ble_eq_true rfl) (Nat.le_of_ble_eq_true rfl) (fun x102 μ102 => ?_)
            refine E_callSI (st := [.ref x91]) C [.int x61, .int x70, .int x102] (mX11_place x61 x70 x102 μ102) cal_X11_place st_X11_place lk_X11_176 dX11_replays_105 rfl rfl (Nat.le_of_ble_eq_true rfl) (Nat.le_of_ble_eq_true rfl) (fun x105 μ105 => ?_)
            refine E_iaload C dX11_replays_108 (fun x108 => ?_)
            refine E_goto C 113 dX11_replays_109 (by decide) ?_
            exact E_pick [2, 3, 4, 5, 6, 7, 1, 0] rfl (hj113 x108 μ105)
        · refine E_at (pc2 := 77) rfl ?_
          refine E_iload_n C dX11_replays_77 4 rfl ?_
          refine E_goto C 113 dX11_replays_78 (by decide) ?_
          exact E_pick [2, 3, 4, 5, 6, 7, 1, 0] rfl (hj113 v3 μ)
def fX11_replays (v0 : Nat) (v1 : Int32) (v2 : Int32) (v3 : Int32) (v4 : Int32) (v5 : Int32) (μ : Mem) : Option (Unit × Mem) :=
  (isC μ v0 11).bind fun _ => bd (fX11_finds v0 ((0 : Int32)) μ) fun _ μ2 => (pV μ2 v0 11 19 (.int ((0 : Int32)))).bind fun μ7 => (pV μ7 v0 11 20 (.int ((0 : Int32)))).bind fun μ12 => (pV μ12 v0 11 21 (.int ((0 : Int32)))).bind fun μ17 => (pV μ17 v0 11 22 (.int ((0 : Int32)))).bind fun μ22 => (pV μ22 v0 11 25 (.int ((0 : Int32)))).bind fun μ27 => (pV μ27 v0 11 26 (.int ((0 : Int32)))).bind fun μ32 => (pV μ32 v0 11 23 (.int v2)).bind fun μ37 => (gR μ37 v0 11 24).bind fun x41 => (sI μ37 x41 ((0 : Int32)) v2).bind fun μ46 => X11_replays_L50 (fun μ_281 => some ((), μ_281)) v0 v1 v3 v4 v5 FU ((0 : Int32)) μ46
set_option maxHeartbeats 4000000 in
set_option maxRecDepth 100000 in
theorem mX11_replays (v0 : Nat) (v1 : Int32) (v2 : Int32) (v3 : Int32) (v4 : Int32) (v5 : Int32) (μ : Mem) : Meth wU yX11_replays cX11_replays 10 none 7 [.ref v0, .int v1, .int v2, .int v3, .int v4, .int v5] μ (fX11_replays v0 v1 v2 v3 v4 v5 μ) := by
  refine Meth.of (by decide) [(0, .ref v0), (1, .int v1), (2, .int v2), (3, .int v3), (4, .int v4), (5, .int v5)] rfl (Nat.le_of_ble_eq_true rfl) ?_
  intro p l e R s m args below meth c D ca ad A X C
  have C : CX p R s m args meth c D ca ad A X cX11_replays RX11 10 none 7 := C
  unfold fX11_replays
  refine E_aload_n C dX11_replays_0 0 rfl ?_
  refine E_iconst C 0 dX11_replays_1 (by decide) ?_
  refine E_callVU (st := []) C [.int ((0 : Int32))] (mX11_finds v0 ((0 : Int32)) μ) cal_X11_finds vir_X11_finds lk_X11_197 dX11_replays_2 rfl rfl (Nat.le_of_ble_eq_true rfl) (Nat.le_of_ble_eq_true rfl) (fun _ μ2 => ?_)
  refine E_aload_n C dX11_replays_5 0 rfl ?_
  refine E_iconst C 0 dX11_replays_6 (by decide) ?_
  refine E_putI C P_X11_235 dX11_replays_7 (fun μ7 => ?_)
  refine E_aload_n C dX11_replays_10 0 rfl ?_
  refine E_iconst C 0 dX11_replays_11 (by decide) ?_
  refine E_putI C P_X11_238 dX11_replays_12 (fun μ12 => ?_)
  refine E_aload_n C dX11_replays_15 0 rfl ?_
  refine E_iconst C 0 dX11_replays_16 (by decide) ?_
  refine E_putI C P_X11_241 dX11_replays_17 (fun μ17 => ?_)
  refine E_aload_n C dX11_replays_20 0 rfl ?_
  refine E_iconst C 0 dX11_replays_21 (by decide) ?_
  refine E_putI C P_X11_244 dX11_replays_22 (fun μ22 => ?_)
  refine E_aload_n C dX11_replays_25 0 rfl ?_
  refine E_iconst C 0 dX11_replays_26 (by decide) ?_
  refine E_putI C P_X11_247 dX11_replays_27 (fun μ27 => ?_)
  refine E_aload_n C dX11_replays_30 0 rfl ?_
  refine E_iconst C 0 dX11_replays_31 (by decide) ?_
  refine E_putI C P_X11_250 dX11_replays_32 (fun μ32 => ?_)
  refine E_aload_n C dX11_replays_35 0 rfl ?_
  refine E_iload_n C dX11_replays_36 2 rfl ?_
  refine E_putI C P_X11_253 dX11_replays_37 (fun μ37 => ?_)
  refine E_aload_n C dX11_replays_40 0 rfl ?_
  refine E_getR C F_X11_40 dX11_replays_41 (fun x41 => ?_)
  refine E_iconst C 0 dX11_replays_44 (by decide) ?_
  refine E_iload_n C dX11_replays_45 2 rfl ?_
  refine E_iastore C dX11_replays_46 (fun μ46 => ?_)
  refine E_iconst C 0 dX11_replays_47 (by decide) ?_
  refine E_istore (lv' := [(6, .int ((0 : Int32))), (0, .ref v0), (1, .int v1), (2, .int v2), (3, .int v3), (4, .int v4), (5, .int v5)]) C dX11_replays_48 (by decide) rfl ?_
  refine E_at (pc2 := 50) rfl ?_
  refine E_pick (lv' := [(0, .ref v0), (1, .int v1), (3, .int v3), (4, .int v4), (5, .int v5), (6, .int ((0 : Int32)))]) [1, 2, 4, 5, 6, 0] rfl ?_
  refine X11_replays_L50_ok C v0 v1 v3 v4 v5 (fun μ_281 => ?_) FU ((0 : Int32)) μ46
  exact E_ret C dX11_replays_281
def fX11_replay (v0 : Nat) (v1 : Int32) (v2 : Int32) (v3 : Int32) (v4 : Int32) (v5 : Int32) (μ : Mem) : Option (Int64 × Mem) :=
  (isC μ v0 11).bind fun _ => bd (fX11_isReplay v0 v1 v2 v3 μ) fun x4 μ4 => if x4 = 0 then (some ((-9223372036854775808 : Int64), μ4)) else ((gR μ4 v0 11 4).bind fun x15 => (aI μ4 0 x15 v1).bind fun x19 => bd (fX11_in v4.toInt64 ((0 : Int64)) x19.toInt64 μ4) fun x21 μ21 => if x21 = 0 then (some ((-9223372036854775808 : Int64), μ21)) else (bd (fX11_in v5.toInt64 ((0 : Int64)) ((5 : Int64)) μ21) fun x34 μ34 => if x34 = 0 then (some ((-9223372036854775808 : Int64), μ34)) else ((isC μ34 v0 11).bind fun _ => bd (fX11_replays v0 v1 v2 v3 v4 ((-1 : Int32)) μ34) fun _ μ51 => if v5 = 0 then ((gR μ51 v0 11 24).bind fun x93 => (aI μ51 0 x93 v4).bind fun x98 => some (x98.toInt64, μ51)) else if v5 = 1 then ((gI μ51 v0 11 19).bind fun x102 => some (x102.toInt64, μ51)) else if v5 = 2 then ((gI μ51 v0 11 20).bind fun x108 => some (x108.toInt64, μ51)) else if v5 = 3 then ((gI μ51 v0 11 21).bind fun x114 => some (x114.toInt64, μ51)) else if v5 = 4 then ((gI μ51 v0 11 22).bind fun x120 => some (x120.toInt64, μ51)) else ((gI μ51 v0 11 23).bind fun x126 => some (x126.toInt64, μ51)))))
set_option maxHeartbeats 4000000 in
set_option maxRecDepth 100000 in
theorem mX11_replay (v0 : Nat) (v1 : Int32) (v2 : Int32) (v3 : Int32) (v4 : Int32) (v5 : Int32) (μ : Mem) : Meth wJ yX11_replay cX11_replay 6 (some .long) 8 [.ref v0, .int v1, .int v2, .int v3, .int v4, .int v5] μ (fX11_replay v0 v1 v2 v3 v4 v5 μ) := by
  refine Meth.of (by decide) [(0, .ref v0), (1, .int v1), (2, .int v2), (3, .int v3), (4, .int v4), (5, .int v5)] rfl (Nat.le_of_ble_eq_true rfl) ?_
  intro p l e R s m args below meth c D ca ad A X C
  have C : CX p R s m args meth c D ca ad A X cX11_replay RX11 6 (some .long) 8 := C
  unfold fX11_replay
  refine E_aload_n C dX11_replay_0 0 rfl ?_
  refine E_iload_n C dX11_replay_1 1 rfl ?_
  refine E_iload_n C dX11_replay_2 2 rfl ?_
  refine E_iload_n C dX11_replay_3 3 rfl ?_
  refine E_callVI (st := []) C [.int v1, .int v2, .int v3] (mX11_isReplay v0 v1 v2 v3 μ) cal_X11_isReplay vir_X11_isReplay lk_X11_259 dX11_replay_4 rfl rfl (Nat.le_of_ble_eq_true rfl) (Nat.le_of_ble_eq_true rfl) (fun x4 μ4 => ?_)
  refine E_if_eq C 40 dX11_replay_7 (by decide) ?_ ?_
  · refine E_ldc2 C dX11_replay_40 k_X11_143 ?_
    exact E_lret C dX11_replay_43
  · refine E_at (pc2 := 10) rfl ?_
    refine E_iload C dX11_replay_10 4 rfl ?_
    refine E_i2l C dX11_replay_12 ?_
    refine E_lconst C 0 dX11_replay_13 (by decide) ?_
    refine E_aload_n C dX11_replay_14 0 rfl ?_
    refine E_getR C F_X11_18 dX11_replay_15 (fun x15 => ?_)
    refine E_iload_n C dX11_replay_18 1 rfl ?_
    refine E_iaload C dX11_replay_19 (fun x19 => ?_)
    refine E_i2l C dX11_replay_20 ?_
    refine E_callSI (st := []) C [.long v4.toInt64, .long ((0 : Int64)), .long x19.toInt64] (mX11_in v4.toInt64 ((0 : Int64)) x19.toInt64 μ4) cal_X11_in st_X11_in lk_X11_65 dX11_replay_21 rfl rfl (Nat.le_of_ble_eq_true rfl) (Nat.le_of_ble_eq_true rfl) (fun x21 μ21 => ?_)
    refine E_if_eq C 40 dX11_replay_24 (by decide) ?_ ?_
    · refine E_ldc2 C dX11_replay_40 k_X11_143 ?_
      exact E_lret C dX11_replay_43
    · refine E_at (pc2 := 27) rfl ?_
      refine E_iload C dX11_replay_27 5 rfl ?_
      refine E_i2l C dX11_replay_29 ?_
      refine E_lconst C 0 dX11_replay_30 (by decide) ?_
      refine E_ldc2 C dX11_replay_31 k_X11_107 ?_
      refine E_callSI (st := []) C [.long v5.toInt64, .long ((0 : Int64)), .long ((5 : Int64))] (mX11_in v5.toInt64 ((0 : Int64)) ((5 : Int64)) μ21) cal_X11_in st_X11_in lk_X11_65 dX11_replay_34 rfl rfl (Nat.le_of_ble_eq_true rfl) (Nat.le_of_ble_eq_true rfl) (fun x34 μ34 => ?_)
      refine E_if_ne C 44 dX11_replay_37 (by decide) ?_ ?_
      · refine E_aload_n C dX11_replay_44 0 rfl ?_
        refine E_iload_n C dX11_replay_45 1 rfl ?_
        refine E_iload_n C dX11_replay_46 2 rfl ?_
        refine E_iload_n C dX11_replay_47 3 rfl ?_
        refine E_iload C dX11_replay_48 4 rfl ?_
        refine E_iconst C (-1) dX11_replay_50 (by decide) ?_
        refine E_callVU (st := []) C [.int v1, .int v2, .int v3, .int v4, .int ((-1 : Int32))] (mX11_replays v0 v1 v2 v3 v4 ((-1 : Int32)) μ34) cal_X11_replays vir_X11_replays lk_X11_263 dX11_replay_51 rfl rfl (Nat.le_of_ble_eq_true rfl) (Nat.le_of_ble_eq_true rfl) (fun _ μ51 => ?_)
        refine E_iload C dX11_replay_54 5 rfl ?_
        refine E_ite (fun h56_0 => ?_) (fun h56_0 => ?_)
        · refine E_tabIn (kx := 0) (off := 36) C 92 h56_0 dX11_replay_56 (by decide +kernel) (by decide) ?_
          refine E_aload_n C dX11_replay_92 0 rfl ?_
          refine E_getR C F_X11_40 dX11_replay_93 (fun x93 => ?_)
          refine E_iload C dX11_replay_96 4 rfl ?_
          refine E_iaload C dX11_replay_98 (fun x98 => ?_)
          refine E_i2l C dX11_replay_99 ?_
          exact E_lret C dX11_replay_100
        · refine E_ite (fun h56_1 => ?_) (fun h56_1 => ?_)
          · refine E_tabIn (kx := 1) (off := 45) C 101 h56_1 dX11_replay_56 (by decide +kernel) (by decide) ?_
            refine E_aload_n C dX11_replay_101 0 rfl ?_
            refine E_getI C F_X11_235 dX11_replay_102 (fun x102 => ?_)
            refine E_i2l C dX11_replay_105 ?_
            exact E_lret C dX11_replay_106
          · refine E_ite (fun h56_2 => ?_) (fun h56_2 => ?_)
            · refine E_tabIn (kx := 2) (off := 51) C 107 h56_2 dX11_replay_56 (by decide +kernel) (by decide) ?_
              refine E_aload_n C dX11_replay_107 0 rfl ?_
              refine E_getI C F_X11_238 dX11_replay_108 (fun x108 => ?_)
              refine E_i2l C dX11_replay_111 ?_
              exact E_lret C dX11_replay_112
            · refine E_ite (fun h56_3 => ?_) (fun h56_3 => ?_)
              · refine E_tabIn (kx := 3) (off := 57) C 113 h56_3 dX11_replay_56 (by decide +kernel) (by decide) ?_
                refine E_aload_n C dX11_replay_113 0 rfl ?_
                refine E_getI C F_X11_241 dX11_replay_114 (fun x114 => ?_)
                refine E_i2l C dX11_replay_117 ?_
                exact E_lret C dX11_replay_118
              · refine E_ite (fun h56_4 => ?_) (fun h56_4 => ?_)
                · refine E_tabIn (kx := 4) (off := 63) C 119 h56_4 dX11_replay_56 (by decide +kernel) (by decide) ?_
                  refine E_aload_n C dX11_replay_119 0 rfl ?_
                  refine E_getI C F_X11_244 dX11_replay_120 (fun x120 => ?_)
                  refine E_i2l C dX11_replay_123 ?_
                  exact E_lret C dX11_replay_124
                · refine E_tabOut C 125 dX11_replay_56 (by have q0 := i32_ne h56_0 (n := 0) rfl; have q1 := i32_ne h56_1 (n := 1) rfl; have q2 := i32_ne h56_2 (n := 2) rfl; have q3 := i32_ne h56_3 (n := 3) rfl; have q4 := i32_ne h56_4 (n := 4) rfl; omega) (by decide) ?_
                  refine E_aload_n C dX11_replay_125 0 rfl ?_
                  refine E_getI C F_X11_253 dX11_replay_126 (fun x126 => ?_)
                  refine E_i2l C dX11_replay_129 ?_
                  exact E_lret C dX11_replay_130
      · refine E_at (pc2 := 40) rfl ?_
        refine E_ldc2 C dX11_replay_40 k_X11_143 ?_
        exact E_lret C dX11_replay_43
def X11_sure_L72 (G : Int32 → Mem → Option (Int64 × Mem)) (v0 : Nat) (v5 : Int32) : Nat → Int32 → Int32 → Mem → Option (Int64 × Mem)
  | 0, _, _, _ => none
  | n + 1, v6, v7, μ => if v7 = 0 then (G v6 μ) else ((rmI v6 v7).bind fun x81 => X11_sure_L72 G v0 v5 n v7 x81 μ)
set_option maxHeartbeats 4000000 in
set_option maxRecDepth 100000 in
theorem X11_sure_L72_ok {p : Program} {l : Launch} {e : Env} {R : Room} {s : State} {m : MethodId} {args : Array Value} {below : List Frame} {meth : Method} {c : Code} {D : va_G} {ca : Nat → ClassId} {ad : Nat → Nat} {A : Nat → Prop} {X : State → Prop} (C : CX p R s m args meth c D ca ad A X cX11_sure RX11 9 (some .long) 8) {G : Int32 → Mem → Option (Int64 × Mem)} (v0 : Nat) (v5 : Int32) (hG : ∀ (v6x : Int32) (μx : Mem), Sm p l e R s m args below meth c D ca ad A 9 0 0 wJ (KQ below args s D ca ad A) 95 [(0, .ref v0), (5, .int v5), (6, .int v6x)] [] μx (G v6x μx)) : ∀ (n : Nat) (v6 : Int32) (v7 : Int32) (μ : Mem), Sm p l e R s m args below meth c D ca ad A 9 0 0 wJ (KQ below args s D ca ad A) 72 [(0, .ref v0), (5, .int v5), (6, .int v6), (7, .int v7)] [] μ (X11_sure_L72 G v0 v5 n v6 v7 μ) := by
  intro n
  induction n with
  | zero =>
    intro v6 v7 μ
    rw [X11_sure_L72]
    exact E_none
  | succ n ih =>
    intro v6 v7 μ
    rw [X11_sure_L72]
    refine E_iload C dX11_sure_72 3 rfl ?_
    refine E_if_eq C 95 dX11_sure_74 (by decide) ?_ ?_
    · exact E_pick [0, 1, 2] rfl (hG v6 μ)
    · refine E_at (pc2 := 77) rfl ?_
      refine E_iload C dX11_sure_77 2 rfl ?_
      refine E_iload C dX11_sure_79 3 rfl ?_
      refine E_irem C dX11_sure_81 (fun x81 => ?_)
      refine E_istore (lv' := [(8, .int x81), (0, .ref v0), (5, .int v5), (6, .int v6), (7, .int v7)]) C dX11_sure_82 (by decide) rfl ?_
      refine E_iload C dX11_sure_84 4 rfl ?_
      refine E_istore (lv' := [(6, .int v7), (8, .int x81), (0, .ref v0), (5, .int v5), (7, .int v7)]) C dX11_sure_86 (by decide) rfl ?_
      refine E_iload C dX11_sure_88 1 rfl ?_
      refine E_istore (lv' := [(7, .int x81), (6, .int v7), (8, .int x81), (0, .ref v0), (5, .int v5)]) C dX11_sure_90 (by decide) rfl ?_
      refine E_goto C 72 dX11_sure_92 (by decide) ?_
      exact E_pick [3, 4, 1, 0] rfl (ih v7 x81 μ)
def fX11_sure (v0 : Nat) (v1 : Int32) (v2 : Int32) (v3 : Int32) (v4 : Int32) (v5 : Int32) (μ : Mem) : Option (Int64 × Mem) :=
  (isC μ v0 11).bind fun _ => bd (fX11_isReplay v0 v1 v2 v3 μ) fun x4 μ4 => if x4 = 0 then (some ((-9223372036854775808 : Int64), μ4)) else ((isC μ4 v0 11).bind fun _ => bd (fX11_isDemand v0 v4 μ4) fun x13 μ13 => if x13 = 0 then (some ((-9223372036854775808 : Int64), μ13)) else (bd (fX11_in v5.toInt64 ((0 : Int64)) ((1 : Int64)) μ13) fun x24 μ24 => if x24 = 0 then (some ((-9223372036854775808 : Int64), μ24)) else ((gR μ24 v0 11 4).bind fun x39 => (aI μ24 0 x39 v1).bind fun x43 => (isC μ24 v0 11).bind fun _ => bd (fX11_replays v0 v1 v2 v3 x43 v4 μ24) fun _ μ46 => (gI μ46 v0 11 26).bind fun x50 => if x50 = 0 then (some ((-9223372036854775808 : Int64), μ46)) else ((gI μ46 v0 11 26).bind fun x61 => (gI μ46 v0 11 25).bind fun x67 => X11_sure_L72 (fun v6_95 μ_95 => if v5 = 0 then ((gI μ_95 v0 11 25).bind fun x101 => (dvI x101 v6_95).bind fun x113 => some (x113.toInt64, μ_95)) else ((gI μ_95 v0 11 26).bind fun x108 => (dvI x108 v6_95).bind fun x113 => some (x113.toInt64, μ_95))) v0 v5 FU x61 x67 μ46))))
set_option maxHeartbeats 4000000 in
set_option maxRecDepth 100000 in
theorem mX11_sure (v0 : Nat) (v1 : Int32) (v2 : Int32) (v3 : Int32) (v4 : Int32) (v5 : Int32) (μ : Mem) : Meth wJ yX11_sure cX11_sure 9 (some .long) 8 [.ref v0, .int v1, .int v2, .int v3, .int v4, .int v5] μ (fX11_sure v0 v1 v2 v3 v4 v5 μ) := by
  refine Meth.of (by decide) [(0, .ref v0), (1, .int v1), (2, .int v2), (3, .int v3), (4, .int v4), (5, .int v5)] rfl (Nat.le_of_ble_eq_true rfl) ?_
  intro p l e R s m args below meth c D ca ad A X C
  have C : CX p R s m args meth c D ca ad A X cX11_sure RX11 9 (some .long) 8 := C
  unfold fX11_sure
  refine E_aload_n C dX11_sure_0 0 rfl ?_
  refine E_iload_n C dX11_sure_1 1 rfl ?_
  refine E_iload_n C dX11_sure_2 2 rfl ?_
  refine E_iload_n C dX11_sure_3 3 rfl ?_
  refine E_callVI (st := []) C [.int v1, .int v2, .int v3] (mX11_isReplay v0 v1 v2 v3 μ) cal_X11_isReplay vir_X11_isReplay lk_X11_259 dX11_sure_4 rfl rfl (Nat.le_of_ble_eq_true rfl) (Nat.le_of_ble_eq_true rfl) (fun x4 μ4 => ?_)
  refine E_if_eq C 30 dX11_sure_7 (by decide) ?_ ?_
  · refine E_ldc2 C dX11_sure_30 k_X11_143 ?_
    exact E_lret C dX11_sure_33
  · refine E_at (pc2 := 10) rfl ?_
    refine E_aload_n C dX11_sure_10 0 rfl ?_
    refine E_iload C dX11_sure_11 4 rfl ?_
    refine E_callVI (st := []) C [.int v4] (mX11_isDemand v0 v4 μ4) cal_X11_isDemand vir_X11_isDemand lk_X11_99 dX11_sure_13 rfl rfl (Nat.le_of_ble_eq_true rfl) (Nat.le_of_ble_eq_true rfl) (fun x13 μ13 => ?_)
    refine E_if_eq C 30 dX11_sure_16 (by decide) ?_ ?_
    · refine E_ldc2 C dX11_sure_30 k_X11_143 ?_
      exact E_lret C dX11_sure_33
    · refine E_at (pc2 := 19) rfl ?_
      refine E_iload C dX11_sure_19 5 rfl ?_
      refine E_i2l C dX11_sure_21 ?_
      refine E_lconst C 0 dX11_sure_22 (by decide) ?_
      refine E_lconst C 1 dX11_sure_23 (by decide) ?_
      refine E_callSI (st := []) C [.long v5.toInt64, .long ((0 : Int64)), .long ((1 : Int64))] (mX11_in v5.toInt64 ((0 : Int64)) ((1 : Int64)) μ13) cal_X11_in st_X11_in lk_X11_65 dX11_sure_24 rfl rfl (Nat.le_of_ble_eq_true rfl) (Nat.le_of_ble_eq_true rfl) (fun x24 μ24 => ?_)
      refine E_if_ne C 34 dX11_sure_27 (by decide) ?_ ?_
      · refine E_aload_n C dX11_sure_34 0 rfl ?_
        refine E_iload_n C dX11_sure_35 1 rfl ?_
        refine E_iload_n C dX11_sure_36 2 rfl ?_
        refine E_iload_n C dX11_sure_37 3 rfl ?_
        refine E_aload_n C dX11_sure_38 0 rfl ?_
        refine E_getR C F_X11_18 dX11_sure_39 (fun x39 => ?_)
        refine E_iload_n C dX11_sure_42 1 rfl ?_
        refine E_iaload C dX11_sure_43 (fun x43 => ?_)
        refine E_iload C dX11_sure_44 4 rfl ?_
        refine E_callVU (st := []) C [.int v1, .int v2, .int v3, .int x43, .int v4] (mX11_replays v0 v1 v2 v3 x43 v4 μ24) cal_X11_replays vir_X11_replays lk_X11_263 dX11_sure_46 rfl rfl (Nat.le_of_ble_eq_true rfl) (Nat.le_of_ble_eq_true rfl) (fun _ μ46 => ?_)
        refine E_aload_n C dX11_sure_49 0 rfl ?_
        refine E_getI C F_X11_250 dX11_sure_50 (fun x50 => ?_)
        refine E_if_ne C 60 dX11_sure_53 (by decide) ?_ ?_
        · refine E_aload_n C dX11_sure_60 0 rfl ?_
          refine E_getI C F_X11_250 dX11_sure_61 (fun x61 => ?_)
          refine E_istore (lv' := [(6, .int x61), (0, .ref v0), (1, .int v1), (2, .int v2), (3, .int v3), (4, .int v4), (5, .int v5)]) C dX11_sure_64 (by decide) rfl ?_
          refine E_aload_n C dX11_sure_66 1 rfl ?_
          refine E_getI C F_X11_247 dX11_sure_67 (fun x67 => ?_)
          refine E_istore (lv' := [(7, .int x67), (6, .int x61), (0, .ref v0), (1, .int v1), (2, .int v2), (3, .int v3), (4, .int v4), (5, .int v5)]) C dX11_sure_70 (by decide) rfl ?_
          refine E_at (pc2 := 72) rfl ?_
          refine E_pick (lv' := [(0, .ref v0), (5, .int v5), (6, .int x61), (7, .int x67)]) [2, 7, 1, 0] rfl ?_
          refine X11_sure_L72_ok C v0 v5 (fun v6_95 μ_95 => ?_) FU x61 x67 μ46
          refine E_iload C dX11_sure_95 1 rfl ?_
          refine E_if_ne C 107 dX11_sure_97 (by decide) ?_ ?_
          · refine E_aload_n C dX11_sure_107 0 rfl ?_
            refine E_getI C F_X11_250 dX11_sure_108 (fun x108 => ?_)
            refine E_at (pc2 := 111) rfl ?_
            refine E_iload C dX11_sure_111 2 rfl ?_
            refine E_idiv C dX11_sure_113 (fun x113 => ?_)
            refine E_i2l C dX11_sure_114 ?_
            exact E_lret C dX11_sure_115
          · refine E_at (pc2 := 100) rfl ?_
            refine E_aload_n C dX11_sure_100 0 rfl ?_
            refine E_getI C F_X11_247 dX11_sure_101 (fun x101 => ?_)
            refine E_goto C 111 dX11_sure_104 (by decide) ?_
            refine E_iload C dX11_sure_111 2 rfl ?_
            refine E_idiv C dX11_sure_113 (fun x113 => ?_)
            refine E_i2l C dX11_sure_114 ?_
            exact E_lret C dX11_sure_115
        · refine E_at (pc2 := 56) rfl ?_
          refine E_ldc2 C dX11_sure_56 k_X11_143 ?_
          exact E_lret C dX11_sure_59
      · refine E_at (pc2 := 30) rfl ?_
        refine E_ldc2 C dX11_sure_30 k_X11_143 ?_
        exact E_lret C dX11_sure_33
def X11_learn_L24 (G : Mem → Option (Int32 × Mem)) (v0 : Nat) (v1 : Int32) : Nat → Int32 → Mem → Option (Int32 × Mem)
  | 0, _, _ => none
  | n + 1, v2, μ => if (9 : Int32) ≤ v2 then (G μ) else ((gR μ v0 11 0).bind fun x31 => (sI μ x31 (((40 : Int32) + v2)) ((1 : Int32))).bind fun μ39 => X11_learn_L24 G v0 v1 n ((v2 + 1)) μ39)
set_option maxHeartbeats 4000000 in
set_option maxRecDepth 100000 in
theorem X11_learn_L24_ok {p : Program} {l : Launch} {e : Env} {R : Room} {s : State} {m : MethodId} {args : Array Value} {below : List Frame} {meth : Method} {c : Code} {D : va_G} {ca : Nat → ClassId} {ad : Nat → Nat} {A : Nat → Prop} {X : State → Prop} (C : CX p R s m args meth c D ca ad A X cX11_learn RX11 4 (some .int) 2) {G : Mem → Option (Int32 × Mem)} (v0 : Nat) (v1 : Int32) (hG : ∀  (μx : Mem), Sm p l e R s m args below meth c D ca ad A 4 0 0 wI (KQ below args s D ca ad A) 46 [(0, .ref v0), (1, .int v1)] [] μx (G  μx)) : ∀ (n : Nat) (v2 : Int32) (μ : Mem), Sm p l e R s m args below meth c D ca ad A 4 0 0 wI (KQ below args s D ca ad A) 24 [(0, .ref v0), (1, .int v1), (2, .int v2)] [] μ (X11_learn_L24 G v0 v1 n v2 μ) := by
  intro n
  induction n with
  | zero =>
    intro v2 μ
    rw [X11_learn_L24]
    exact E_none
  | succ n ih =>
    intro v2 μ
    rw [X11_learn_L24]
    refine E_iload_n C dX11_learn_24 2 rfl ?_
    refine E_bipush C 9 dX11_learn_25 (by decide) ?_
    refine E_icmp_ge C 46 dX11_learn_27 (by decide) ?_ ?_
    · exact E_pick [0, 1] rfl (hG μ)
    · refine E_at (pc2 := 30) rfl ?_
      refine E_aload_n C dX11_learn_30 0 rfl ?_
      refine E_getR C F_X11_11 dX11_learn_31 (fun x31 => ?_)
      refine E_bipush C 40 dX11_learn_34 (by decide) ?_
      refine E_iload_n C dX11_learn_36 2 rfl ?_
      refine E_iadd C dX11_learn_37 ?_
      refine E_iconst C 1 dX11_learn_38 (by decide) ?_
      refine E_iastore C dX11_learn_39 (fun μ39 => ?_)
      refine E_iinc (lv' := [(2, .int ((v2 + 1))), (0, .ref v0), (1, .int v1)]) C (v2 + 1) dX11_learn_40 2 rfl rfl (by decide) rfl ?_
      refine E_goto C 24 dX11_learn_43 (by decide) ?_
      exact E_pick [1, 2, 0] rfl (ih ((v2 + 1)) μ39)
def X11_learn_L48 (G : Mem → Option (Int32 × Mem)) (v0 : Nat) (v1 : Int32) : Nat → Int32 → Mem → Option (Int32 × Mem)
  | 0, _, _ => none
  | n + 1, v2, μ => (gR μ v0 11 4).bind fun x50 => (aI μ 0 x50 v1).bind fun x54 => if x54 ≤ v2 then (G μ) else ((isC μ v0 11).bind fun _ => bd (fX11_nearest v0 v1 ((v2 - (1 : Int32))) μ) fun x66 μ66 => (isC μ66 v0 11).bind fun _ => bd (fX11_nearest v0 v1 v2 μ66) fun x74 μ74 => (gR μ74 v0 11 0).bind fun x80 => (gR μ74 v0 11 0).bind fun x87 => (aI μ74 0 x87 ((((40 : Int32) + ((3 : Int32) * x66)) + x74))).bind fun x91 => (sI μ74 x80 ((((40 : Int32) + ((3 : Int32) * x66)) + x74)) ((mnI ((9 : Int32)) ((x91 + (1 : Int32)))))).bind fun μ97 => X11_learn_L48 G v0 v1 n ((v2 + 1)) μ97)
set_option maxHeartbeats 4000000 in
set_option maxRecDepth 100000 in
theorem X11_learn_L48_ok {p : Program} {l : Launch} {e : Env} {R : Room} {s : State} {m : MethodId} {args : Array Value} {below : List Frame} {meth : Method} {c : Code} {D : va_G} {ca : Nat → ClassId} {ad : Nat → Nat} {A : Nat → Prop} {X : State → Prop} (C : CX p R s m args meth c D ca ad A X cX11_learn RX11 4 (some .int) 2) {G : Mem → Option (Int32 × Mem)} (v0 : Nat) (v1 : Int32) (hG : ∀  (μx : Mem), Sm p l e R s m args below meth c D ca ad A 4 0 0 wI (KQ below args s D ca ad A) 104 [(0, .ref v0), (1, .int v1)] [] μx (G  μx)) : ∀ (n : Nat) (v2 : Int32) (μ : Mem), Sm p l e R s m args below meth c D ca ad A 4 0 0 wI (KQ below args s D ca ad A) 48 [(0, .ref v0), (1, .int v1), (2, .int v2)] [] μ (X11_learn_L48 G v0 v1 n v2 μ) := by
  intro n
  induction n with
  | zero =>
    intro v2 μ
    rw [X11_learn_L48]
    exact E_none
  | succ n ih =>
    intro v2 μ
    rw [X11_learn_L48]
    refine E_iload_n C dX11_learn_48 2 rfl ?_
    refine E_aload_n C dX11_learn_49 0 rfl ?_
    refine E_getR C F_X11_18 dX11_learn_50 (fun x50 => ?_)
    refine E_iload_n C dX11_learn_53 1 rfl ?_
    refine E_iaload C dX11_learn_54 (fun x54 => ?_)
    refine E_icmp_ge C 104 dX11_learn_55 (by decide) ?_ ?_
    · exact E_pick [0, 1] rfl (hG μ)
    · refine E_at (pc2 := 58) rfl ?_
      refine E_bipush C 40 dX11_learn_58 (by decide) ?_
      refine E_iconst C 3 dX11_learn_60 (by decide) ?_
      refine E_aload_n C dX11_learn_61 0 rfl ?_
      refine E_iload_n C dX11_learn_62 1 rfl ?_
      refine E_iload_n C dX11_learn_63 2 rfl ?_
      refine E_iconst C 1 dX11_learn_64 (by decide) ?_
      refine E_isub C dX11_learn_65 ?_
      refine E_callVI (st := [.int ((3 : Int32)), .int ((40 : Int32))]) C [.int v1, .int ((v2 - (1 : Int32)))] (mX11_nearest v0 v1 ((v2 - (1 : Int32))) μ) cal_X11_nearest vir_X11_nearest lk_X11_256 dX11_learn_66 rfl rfl (Nat.le_of_ble_eq_true rfl) (Nat.le_of_ble_eq_true rfl) (fun x66 μ66 => ?_)
      refine E_imul C dX11_learn_69 ?_
      refine E_iadd C dX11_learn_70 ?_
      refine E_aload_n C dX11_learn_71 0 rfl ?_
      refine E_iload_n C dX11_learn_72 1 rfl ?_
      refine E_iload_n C dX11_learn_73 2 rfl ?_
      refine E_callVI (st := [.int (((40 : Int32) + ((3 : Int32) * x66)))]) C [.int v1, .int v2] (mX11_nearest v0 v1 v2 μ66) cal_X11_nearest vir_X11_nearest lk_X11_256 dX11_learn_74 rfl rfl (Nat.le_of_ble_eq_true rfl) (Nat.le_of_ble_eq_true rfl) (fun x74 μ74 => ?_)
      refine E_iadd C dX11_learn_77 ?_
      refine E_istore_n (lv' := [(3, .int ((((40 : Int32) + ((3 : Int32) * x66)) + x74))), (0, .ref v0), (1, .int v1), (2, .int v2)]) C dX11_learn_78 (by decide) rfl ?_
      refine E_aload_n C dX11_learn_79 1 rfl ?_
      refine E_getR C F_X11_11 dX11_learn_80 (fun x80 => ?_)
      refine E_iload_n C dX11_learn_83 0 rfl ?_
      refine E_bipush C 9 dX11_learn_84 (by decide) ?_
      refine E_aload_n C dX11_learn_86 1 rfl ?_
      refine E_getR C F_X11_11 dX11_learn_87 (fun x87 => ?_)
      refine E_iload_n C dX11_learn_90 0 rfl ?_
      refine E_iaload C dX11_learn_91 (fun x91 => ?_)
      refine E_iconst C 1 dX11_learn_92 (by decide) ?_
      refine E_iadd C dX11_learn_93 ?_
      refine E_mmin C lk_X11_136 st_Math_min in_Math co_Math_min dX11_learn_94 (Nat.le_of_ble_eq_true rfl) (Nat.le_of_ble_eq_true rfl) ?_
      refine E_iastore C dX11_learn_97 (fun μ97 => ?_)
      refine E_iinc (lv' := [(2, .int ((v2 + 1))), (3, .int ((((40 : Int32) + ((3 : Int32) * x66)) + x74))), (0, .ref v0), (1, .int v1)]) C (v2 + 1) dX11_learn_98 3 rfl rfl (by decide) rfl ?_
      refine E_goto C 48 dX11_learn_101 (by decide) ?_
      exact E_pick [2, 3, 0] rfl (ih ((v2 + 1)) μ97)
def fX11_learn (v0 : Nat) (v1 : Int32) (μ : Mem) : Option (Int32 × Mem) :=
  bd (fX11_isRecord v1 μ) fun x1 μ1 => if x1 = 0 then (some ((-1 : Int32), μ1)) else ((gR μ1 v0 11 4).bind fun x10 => (aI μ1 0 x10 v1).bind fun x14 => if (2 : Int32) ≤ x14 then (X11_learn_L24 (fun μ_46 => X11_learn_L48 (fun μ_104 => (gR μ_104 v0 11 4).bind fun x105 => (aI μ_104 0 x105 v1).bind fun x109 => some (x109, μ_104)) v0 v1 FU ((1 : Int32)) μ_46) v0 v1 FU ((0 : Int32)) μ1) else (some ((-3 : Int32), μ1)))
set_option maxHeartbeats 4000000 in
set_option maxRecDepth 100000 in
theorem mX11_learn (v0 : Nat) (v1 : Int32) (μ : Mem) : Meth wI yX11_learn cX11_learn 4 (some .int) 2 [.ref v0, .int v1] μ (fX11_learn v0 v1 μ) := by
  refine Meth.of (by decide) [(0, .ref v0), (1, .int v1)] rfl (Nat.le_of_ble_eq_true rfl) ?_
  intro p l e R s m args below meth c D ca ad A X C
  have C : CX p R s m args meth c D ca ad A X cX11_learn RX11 4 (some .int) 2 := C
  unfold fX11_learn
  refine E_iload_n C dX11_learn_0 1 rfl ?_
  refine E_callSI (st := []) C [.int v1] (mX11_isRecord v1 μ) cal_X11_isRecord st_X11_isRecord lk_X11_229 dX11_learn_1 rfl rfl (Nat.le_of_ble_eq_true rfl) (Nat.le_of_ble_eq_true rfl) (fun x1 μ1 => ?_)
  refine E_if_ne C 9 dX11_learn_4 (by decide) ?_ ?_
  · refine E_aload_n C dX11_learn_9 0 rfl ?_
    refine E_getR C F_X11_18 dX11_learn_10 (fun x10 => ?_)
    refine E_iload_n C dX11_learn_13 1 rfl ?_
    refine E_iaload C dX11_learn_14 (fun x14 => ?_)
    refine E_iconst C 2 dX11_learn_15 (by decide) ?_
    refine E_icmp_ge C 22 dX11_learn_16 (by decide) ?_ ?_
    · refine E_iconst C 0 dX11_learn_22 (by decide) ?_
      refine E_istore_n (lv' := [(2, .int ((0 : Int32))), (0, .ref v0), (1, .int v1)]) C dX11_learn_23 (by decide) rfl ?_
      refine E_at (pc2 := 24) rfl ?_
      refine E_pick (lv' := [(0, .ref v0), (1, .int v1), (2, .int ((0 : Int32)))]) [1, 2, 0] rfl ?_
      refine X11_learn_L24_ok C v0 v1 (fun μ_46 => ?_) FU ((0 : Int32)) μ1
      refine E_iconst C 1 dX11_learn_46 (by decide) ?_
      refine E_istore_n (lv' := [(2, .int ((1 : Int32))), (0, .ref v0), (1, .int v1)]) C dX11_learn_47 (by decide) rfl ?_
      refine E_at (pc2 := 48) rfl ?_
      refine E_pick (lv' := [(0, .ref v0), (1, .int v1), (2, .int ((1 : Int32)))]) [1, 2, 0] rfl ?_
      refine X11_learn_L48_ok C v0 v1 (fun μ_104 => ?_) FU ((1 : Int32)) μ_46
      refine E_aload_n C dX11_learn_104 0 rfl ?_
      refine E_getR C F_X11_18 dX11_learn_105 (fun x105 => ?_)
      refine E_iload_n C dX11_learn_108 1 rfl ?_
      refine E_iaload C dX11_learn_109 (fun x109 => ?_)
      exact E_iret C dX11_learn_110
    · refine E_at (pc2 := 19) rfl ?_
      refine E_bipush C (-3) dX11_learn_19 (by decide) ?_
      exact E_iret C dX11_learn_21
  · refine E_at (pc2 := 7) rfl ?_
    refine E_iconst C (-1) dX11_learn_7 (by decide) ?_
    exact E_iret C dX11_learn_8
def fX11_see (v0 : Nat) (v1 : Int32) (v2 : Int32) (v3 : Int32) (v4 : Int32) (μ : Mem) : Option (Int32 × Mem) :=
  if v1 = (-1 : Int32) then ((gR μ v0 11 0).bind fun x6 => (sI μ x6 ((110 : Int32)) ((0 : Int32))).bind fun μ12 => some ((0 : Int32), μ12)) else ((isC μ v0 11).bind fun _ => bd (fX11_isAhead v0 v1 μ) fun x17 μ17 => if x17 = 0 then (some ((-1 : Int32), μ17)) else ((isC μ17 v0 11).bind fun _ => bd (fX11_isStore v0 v2 μ17) fun x25 μ25 => if x25 = 0 then (some ((-1 : Int32), μ25)) else (bd (fX11_isState v3 μ25) fun x32 μ32 => if x32 = 0 then (some ((-1 : Int32), μ32)) else (bd (fX11_in v4.toInt64 ((0 : Int64)) ((20 : Int64)) μ32) fun x47 μ47 => if x47 = 0 then (some ((-2 : Int32), μ47)) else ((gR μ47 v0 11 0).bind fun x57 => (aI μ47 0 x57 ((110 : Int32))).bind fun x62 => if x62 = (5 : Int32) then (some ((-4 : Int32), μ47)) else ((gR μ47 v0 11 0).bind fun x74 => (aI μ47 0 x74 ((110 : Int32))).bind fun x79 => (gR μ47 v0 11 0).bind fun x85 => (sI μ47 x85 (((111 : Int32) + ((4 : Int32) * x79))) v1).bind fun μ91 => (gR μ91 v0 11 0).bind fun x93 => (sI μ91 x93 ((((111 : Int32) + ((4 : Int32) * x79)) + (1 : Int32))) v2).bind fun μ101 => (gR μ101 v0 11 0).bind fun x103 => (sI μ101 x103 ((((111 : Int32) + ((4 : Int32) * x79)) + (2 : Int32))) v3).bind fun μ111 => (gR μ111 v0 11 0).bind fun x113 => (sI μ111 x113 ((((111 : Int32) + ((4 : Int32) * x79)) + (3 : Int32))) v4).bind fun μ122 => (gR μ122 v0 11 0).bind fun x124 => (aI μ122 0 x124 ((110 : Int32))).bind fun x130 => (sI μ122 x124 ((110 : Int32)) ((x130 + (1 : Int32)))).bind fun μ133 => (gR μ133 v0 11 0).bind fun x135 => (aI μ133 0 x135 ((110 : Int32))).bind fun x140 => some (x140, μ133)))))))
set_option maxHeartbeats 4000000 in
set_option maxRecDepth 100000 in
theorem mX11_see (v0 : Nat) (v1 : Int32) (v2 : Int32) (v3 : Int32) (v4 : Int32) (μ : Mem) : Meth wI yX11_see cX11_see 6 (some .int) 2 [.ref v0, .int v1, .int v2, .int v3, .int v4] μ (fX11_see v0 v1 v2 v3 v4 μ) := by
  refine Meth.of (by decide) [(0, .ref v0), (1, .int v1), (2, .int v2), (3, .int v3), (4, .int v4)] rfl (Nat.le_of_ble_eq_true rfl) ?_
  intro p l e R s m args below meth c D ca ad A X C
  have C : CX p R s m args meth c D ca ad A X cX11_see RX11 6 (some .int) 2 := C
  unfold fX11_see
  refine E_iload_n C dX11_see_0 1 rfl ?_
  refine E_iconst C (-1) dX11_see_1 (by decide) ?_
  refine E_icmp_ne C 15 dX11_see_2 (by decide) ?_ ?_
  · refine E_aload_n C dX11_see_15 0 rfl ?_
    refine E_iload_n C dX11_see_16 1 rfl ?_
    refine E_callVI (st := []) C [.int v1] (mX11_isAhead v0 v1 μ) cal_X11_isAhead vir_X11_isAhead lk_X11_205 dX11_see_17 rfl rfl (Nat.le_of_ble_eq_true rfl) (Nat.le_of_ble_eq_true rfl) (fun x17 μ17 => ?_)
    refine E_if_eq C 38 dX11_see_20 (by decide) ?_ ?_
    · refine E_iconst C (-1) dX11_see_38 (by decide) ?_
      exact E_iret C dX11_see_39
    · refine E_at (pc2 := 23) rfl ?_
      refine E_aload_n C dX11_see_23 0 rfl ?_
      refine E_iload_n C dX11_see_24 2 rfl ?_
      refine E_callVI (st := []) C [.int v2] (mX11_isStore v0 v2 μ17) cal_X11_isStore vir_X11_isStore lk_X11_169 dX11_see_25 rfl rfl (Nat.le_of_ble_eq_true rfl) (Nat.le_of_ble_eq_true rfl) (fun x25 μ25 => ?_)
      refine E_if_eq C 38 dX11_see_28 (by decide) ?_ ?_
      · refine E_iconst C (-1) dX11_see_38 (by decide) ?_
        exact E_iret C dX11_see_39
      · refine E_at (pc2 := 31) rfl ?_
        refine E_iload_n C dX11_see_31 3 rfl ?_
        refine E_callSI (st := []) C [.int v3] (mX11_isState v3 μ25) cal_X11_isState st_X11_isState lk_X11_87 dX11_see_32 rfl rfl (Nat.le_of_ble_eq_true rfl) (Nat.le_of_ble_eq_true rfl) (fun x32 μ32 => ?_)
        refine E_if_ne C 40 dX11_see_35 (by decide) ?_ ?_
        · refine E_iload C dX11_see_40 4 rfl ?_
          refine E_i2l C dX11_see_42 ?_
          refine E_lconst C 0 dX11_see_43 (by decide) ?_
          refine E_ldc2 C dX11_see_44 k_X11_208 ?_
          refine E_callSI (st := []) C [.long v4.toInt64, .long ((0 : Int64)), .long ((20 : Int64))] (mX11_in v4.toInt64 ((0 : Int64)) ((20 : Int64)) μ32) cal_X11_in st_X11_in lk_X11_65 dX11_see_47 rfl rfl (Nat.le_of_ble_eq_true rfl) (Nat.le_of_ble_eq_true rfl) (fun x47 μ47 => ?_)
          refine E_if_ne C 56 dX11_see_50 (by decide) ?_ ?_
          · refine E_aload_n C dX11_see_56 0 rfl ?_
            refine E_getR C F_X11_11 dX11_see_57 (fun x57 => ?_)
            refine E_bipush C 110 dX11_see_60 (by decide) ?_
            refine E_iaload C dX11_see_62 (fun x62 => ?_)
            refine E_iconst C 5 dX11_see_63 (by decide) ?_
            refine E_icmp_ne C 70 dX11_see_64 (by decide) ?_ ?_
            · refine E_bipush C 111 dX11_see_70 (by decide) ?_
              refine E_iconst C 4 dX11_see_72 (by decide) ?_
              refine E_aload_n C dX11_see_73 0 rfl ?_
              refine E_getR C F_X11_11 dX11_see_74 (fun x74 => ?_)
              refine E_bipush C 110 dX11_see_77 (by decide) ?_
              refine E_iaload C dX11_see_79 (fun x79 => ?_)
              refine E_imul C dX11_see_80 ?_
              refine E_iadd C dX11_see_81 ?_
              refine E_istore (lv' := [(5, .int (((111 : Int32) + ((4 : Int32) * x79)))), (0, .ref v0), (1, .int v1), (2, .int v2), (3, .int v3), (4, .int v4)]) C dX11_see_82 (by decide) rfl ?_
              refine E_aload_n C dX11_see_84 1 rfl ?_
              refine E_getR C F_X11_11 dX11_see_85 (fun x85 => ?_)
              refine E_iload C dX11_see_88 0 rfl ?_
              refine E_iload_n C dX11_see_90 2 rfl ?_
              refine E_iastore C dX11_see_91 (fun μ91 => ?_)
              refine E_aload_n C dX11_see_92 1 rfl ?_
              refine E_getR C F_X11_11 dX11_see_93 (fun x93 => ?_)
              refine E_iload C dX11_see_96 0 rfl ?_
              refine E_iconst C 1 dX11_see_98 (by decide) ?_
              refine E_iadd C dX11_see_99 ?_
              refine E_iload_n C dX11_see_100 3 rfl ?_
              refine E_iastore C dX11_see_101 (fun μ101 => ?_)
              refine E_aload_n C dX11_see_102 1 rfl ?_
              refine E_getR C F_X11_11 dX11_see_103 (fun x103 => ?_)
              refine E_iload C dX11_see_106 0 rfl ?_
              refine E_iconst C 2 dX11_see_108 (by decide) ?_
              refine E_iadd C dX11_see_109 ?_
              refine E_iload_n C dX11_see_110 4 rfl ?_
              refine E_iastore C dX11_see_111 (fun μ111 => ?_)
              refine E_aload_n C dX11_see_112 1 rfl ?_
              refine E_getR C F_X11_11 dX11_see_113 (fun x113 => ?_)
              refine E_iload C dX11_see_116 0 rfl ?_
              refine E_iconst C 3 dX11_see_118 (by decide) ?_
              refine E_iadd C dX11_see_119 ?_
              refine E_iload C dX11_see_120 5 rfl ?_
              refine E_iastore C dX11_see_122 (fun μ122 => ?_)
              refine E_aload_n C dX11_see_123 1 rfl ?_
              refine E_getR C F_X11_11 dX11_see_124 (fun x124 => ?_)
              refine E_bipush C 110 dX11_see_127 (by decide) ?_
              refine E_dup2_ir C dX11_see_129 ?_
              refine E_iaload C dX11_see_130 (fun x130 => ?_)
              refine E_iconst C 1 dX11_see_131 (by decide) ?_
              refine E_iadd C dX11_see_132 ?_
              refine E_iastore C dX11_see_133 (fun μ133 => ?_)
              refine E_aload_n C dX11_see_134 1 rfl ?_
              refine E_getR C F_X11_11 dX11_see_135 (fun x135 => ?_)
              refine E_bipush C 110 dX11_see_138 (by decide) ?_
              refine E_iaload C dX11_see_140 (fun x140 => ?_)
              exact E_iret C dX11_see_141
            · refine E_at (pc2 := 67) rfl ?_
              refine E_bipush C (-4) dX11_see_67 (by decide) ?_
              exact E_iret C dX11_see_69
          · refine E_at (pc2 := 53) rfl ?_
            refine E_bipush C (-2) dX11_see_53 (by decide) ?_
            exact E_iret C dX11_see_55
        · refine E_at (pc2 := 38) rfl ?_
          refine E_iconst C (-1) dX11_see_38 (by decide) ?_
          exact E_iret C dX11_see_39
  · refine E_at (pc2 := 5) rfl ?_
    refine E_aload_n C dX11_see_5 0 rfl ?_
    refine E_getR C F_X11_11 dX11_see_6 (fun x6 => ?_)
    refine E_bipush C 110 dX11_see_9 (by decide) ?_
    refine E_iconst C 0 dX11_see_11 (by decide) ?_
    refine E_iastore C dX11_see_12 (fun μ12 => ?_)
    refine E_iconst C 0 dX11_see_13 (by decide) ?_
    exact E_iret C dX11_see_14
def fX11_isRelease (v0 : Nat) (v1 : Int32) (v2 : Int32) (v3 : Int32) (v4 : Int32) (μ : Mem) : Option (Int32 × Mem) :=
  (isC μ v0 11).bind fun _ => bd (fX11_isAhead v0 v1 μ) fun x2 μ2 => if x2 = 0 then ((zz ((0 : Int32))).bind fun z => some (z, μ2)) else ((isC μ2 v0 11).bind fun _ => bd (fX11_isStore v0 v2 μ2) fun x10 μ10 => if x10 = 0 then ((zz ((0 : Int32))).bind fun z => some (z, μ10)) else ((gR μ10 v0 11 7).bind fun x17 => bd (fX11_place v1 v2 v3 μ10) fun x23 μ23 => (aI μ23 0 x17 x23).bind fun x26 => if x26 = v4 then ((zz ((1 : Int32))).bind fun z => some (z, μ23)) else ((zz ((0 : Int32))).bind fun z => some (z, μ23))))
set_option maxHeartbeats 4000000 in
set_option maxRecDepth 100000 in
theorem mX11_isRelease (v0 : Nat) (v1 : Int32) (v2 : Int32) (v3 : Int32) (v4 : Int32) (μ : Mem) : Meth wI yX11_isRelease cX11_isRelease 5 (some .boolean) 2 [.ref v0, .int v1, .int v2, .int v3, .int v4] μ (fX11_isRelease v0 v1 v2 v3 v4 μ) := by
  refine Meth.of (by decide) [(0, .ref v0), (1, .int v1), (2, .int v2), (3, .int v3), (4, .int v4)] rfl (Nat.le_of_ble_eq_true rfl) ?_
  intro p l e R s m args below meth c D ca ad A X C
  have C : CX p R s m args meth c D ca ad A X cX11_isRelease RX11 5 (some .boolean) 2 := C
  unfold fX11_isRelease
  refine E_aload_n C dX11_isRelease_0 0 rfl ?_
  refine E_iload_n C dX11_isRelease_1 1 rfl ?_
  refine E_callVI (st := []) C [.int v1] (mX11_isAhead v0 v1 μ) cal_X11_isAhead vir_X11_isAhead lk_X11_205 dX11_isRelease_2 rfl rfl (Nat.le_of_ble_eq_true rfl) (Nat.le_of_ble_eq_true rfl) (fun x2 μ2 => ?_)
  refine E_if_eq C 36 dX11_isRelease_5 (by decide) ?_ ?_
  · refine E_iconst C 0 dX11_isRelease_36 (by decide) ?_
    exact E_zret C dX11_isRelease_37
  · refine E_at (pc2 := 8) rfl ?_
    refine E_aload_n C dX11_isRelease_8 0 rfl ?_
    refine E_iload_n C dX11_isRelease_9 2 rfl ?_
    refine E_callVI (st := []) C [.int v2] (mX11_isStore v0 v2 μ2) cal_X11_isStore vir_X11_isStore lk_X11_169 dX11_isRelease_10 rfl rfl (Nat.le_of_ble_eq_true rfl) (Nat.le_of_ble_eq_true rfl) (fun x10 μ10 => ?_)
    refine E_if_eq C 36 dX11_isRelease_13 (by decide) ?_ ?_
    · refine E_iconst C 0 dX11_isRelease_36 (by decide) ?_
      exact E_zret C dX11_isRelease_37
    · refine E_at (pc2 := 16) rfl ?_
      refine E_aload_n C dX11_isRelease_16 0 rfl ?_
      refine E_getR C F_X11_28 dX11_isRelease_17 (fun x17 => ?_)
      refine E_iload_n C dX11_isRelease_20 1 rfl ?_
      refine E_iload_n C dX11_isRelease_21 2 rfl ?_
      refine E_iload_n C dX11_isRelease_22 3 rfl ?_
      refine E_callSI (st := [.ref x17]) C [.int v1, .int v2, .int v3] (mX11_place v1 v2 v3 μ10) cal_X11_place st_X11_place lk_X11_176 dX11_isRelease_23 rfl rfl (Nat.le_of_ble_eq_true rfl) (Nat.le_of_ble_eq_true rfl) (fun x23 μ23 => ?_)
      refine E_iaload C dX11_isRelease_26 (fun x26 => ?_)
      refine E_iload C dX11_isRelease_27 4 rfl ?_
      refine E_icmp_ne C 36 dX11_isRelease_29 (by decide) ?_ ?_
      · refine E_iconst C 0 dX11_isRelease_36 (by decide) ?_
        exact E_zret C dX11_isRelease_37
      · refine E_at (pc2 := 32) rfl ?_
        refine E_iconst C 1 dX11_isRelease_32 (by decide) ?_
        refine E_goto C 37 dX11_isRelease_33 (by decide) ?_
        exact E_zret C dX11_isRelease_37
def X11_isSeen_L7 (G : Mem → Option (Int32 × Mem)) (v0 : Nat) : Nat → Int32 → Mem → Option (Int32 × Mem)
  | 0, _, _ => none
  | n + 1, v1, μ => (gR μ v0 11 0).bind fun x9 => (aI μ 0 x9 ((110 : Int32))).bind fun x14 => if x14 ≤ v1 then (G μ) else ((gR μ v0 11 0).bind fun x27 => (aI μ 0 x27 (((111 : Int32) + ((4 : Int32) * v1)))).bind fun x31 => (gR μ v0 11 0).bind fun x33 => (aI μ 0 x33 ((((111 : Int32) + ((4 : Int32) * v1)) + (1 : Int32)))).bind fun x39 => (gR μ v0 11 0).bind fun x41 => (aI μ 0 x41 ((((111 : Int32) + ((4 : Int32) * v1)) + (2 : Int32)))).bind fun x47 => (gR μ v0 11 0).bind fun x49 => (aI μ 0 x49 ((((111 : Int32) + ((4 : Int32) * v1)) + (3 : Int32)))).bind fun x55 => (isC μ v0 11).bind fun _ => bd (fX11_isRelease v0 x31 x39 x47 x55 μ) fun x56 μ56 => if x56 = 0 then ((zz ((0 : Int32))).bind fun z => some (z, μ56)) else (X11_isSeen_L7 G v0 n ((v1 + 1)) μ56))
set_option maxHeartbeats 4000000 in
set_option maxRecDepth 100000 in
theorem X11_isSeen_L7_ok {p : Program} {l : Launch} {e : Env} {R : Room} {s : State} {m : MethodId} {args : Array Value} {below : List Frame} {meth : Method} {c : Code} {D : va_G} {ca : Nat → ClassId} {ad : Nat → Nat} {A : Nat → Prop} {X : State → Prop} (C : CX p R s m args meth c D ca ad A X cX11_isSeen RX11 3 (some .boolean) 7) {G : Mem → Option (Int32 × Mem)} (v0 : Nat) (hG : ∀  (μx : Mem), Sm p l e R s m args below meth c D ca ad A 3 0 0 wI (KQ below args s D ca ad A) 70 [] [] μx (G  μx)) : ∀ (n : Nat) (v1 : Int32) (μ : Mem), Sm p l e R s m args below meth c D ca ad A 3 0 0 wI (KQ below args s D ca ad A) 7 [(0, .ref v0), (1, .int v1)] [] μ (X11_isSeen_L7 G v0 n v1 μ) := by
  intro n
  induction n with
  | zero =>
    intro v1 μ
    rw [X11_isSeen_L7]
    exact E_none
  | succ n ih =>
    intro v1 μ
    rw [X11_isSeen_L7]
    refine E_iload_n C dX11_isSeen_7 1 rfl ?_
    refine E_aload_n C dX11_isSeen_8 0 rfl ?_
    refine E_getR C F_X11_11 dX11_isSeen_9 (fun x9 => ?_)
    refine E_bipush C 110 dX11_isSeen_12 (by decide) ?_
    refine E_iaload C dX11_isSeen_14 (fun x14 => ?_)
    refine E_icmp_ge C 70 dX11_isSeen_15 (by decide) ?_ ?_
    · exact E_pick [] rfl (hG μ)
    · refine E_at (pc2 := 18) rfl ?_
      refine E_bipush C 111 dX11_isSeen_18 (by decide) ?_
      refine E_iconst C 4 dX11_isSeen_20 (by decide) ?_
      refine E_iload_n C dX11_isSeen_21 1 rfl ?_
      refine E_imul C dX11_isSeen_22 ?_
      refine E_iadd C dX11_isSeen_23 ?_
      refine E_istore_n (lv' := [(2, .int (((111 : Int32) + ((4 : Int32) * v1)))), (0, .ref v0), (1, .int v1)]) C dX11_isSeen_24 (by decide) rfl ?_
      refine E_aload_n C dX11_isSeen_25 1 rfl ?_
      refine E_aload_n C dX11_isSeen_26 1 rfl ?_
      refine E_getR C F_X11_11 dX11_isSeen_27 (fun x27 => ?_)
      refine E_iload_n C dX11_isSeen_30 0 rfl ?_
      refine E_iaload C dX11_isSeen_31 (fun x31 => ?_)
      refine E_aload_n C dX11_isSeen_32 1 rfl ?_
      refine E_getR C F_X11_11 dX11_isSeen_33 (fun x33 => ?_)
      refine E_iload_n C dX11_isSeen_36 0 rfl ?_
      refine E_iconst C 1 dX11_isSeen_37 (by decide) ?_
      refine E_iadd C dX11_isSeen_38 ?_
      refine E_iaload C dX11_isSeen_39 (fun x39 => ?_)
      refine E_aload_n C dX11_isSeen_40 1 rfl ?_
      refine E_getR C F_X11_11 dX11_isSeen_41 (fun x41 => ?_)
      refine E_iload_n C dX11_isSeen_44 0 rfl ?_
      refine E_iconst C 2 dX11_isSeen_45 (by decide) ?_
      refine E_iadd C dX11_isSeen_46 ?_
      refine E_iaload C dX11_isSeen_47 (fun x47 => ?_)
      refine E_aload_n C dX11_isSeen_48 1 rfl ?_
      refine E_getR C F_X11_11 dX11_isSeen_49 (fun x49 => ?_)
      refine E_iload_n C dX11_isSeen_52 0 rfl ?_
      refine E_iconst C 3 dX11_isSeen_53 (by decide) ?_
      refine E_iadd C dX11_isSeen_54 ?_
      refine E_iaload C dX11_isSeen_55 (fun x55 => ?_)
      refine E_callVI (st := []) C [.int x31, .int x39, .int x47, .int x55] (mX11_isRelease v0 x31 x39 x47 x55 μ) cal_X11_isRelease vir_X11_isRelease lk_X11_267 dX11_isSeen_56 rfl rfl (Nat.le_of_ble_eq_true rfl) (Nat.le_of_ble_eq_true rfl) (fun x56 μ56 => ?_)
      refine E_if_ne C 64 dX11_isSeen_59 (by decide) ?_ ?_
      · refine E_iinc (lv' := [(1, .int ((v1 + 1))), (2, .int (((111 : Int32) + ((4 : Int32) * v1)))), (0, .ref v0)]) C (v1 + 1) dX11_isSeen_64 2 rfl rfl (by decide) rfl ?_
        refine E_goto C 7 dX11_isSeen_67 (by decide) ?_
        exact E_pick [2, 0] rfl (ih ((v1 + 1)) μ56)
      · refine E_at (pc2 := 62) rfl ?_
        refine E_iconst C 0 dX11_isSeen_62 (by decide) ?_
        exact E_zret C dX11_isSeen_63
def fX11_isSeen (v0 : Nat) (μ : Mem) : Option (Int32 × Mem) :=
  (isC μ v0 11).bind fun _ => bd (fX11_finds v0 ((0 : Int32)) μ) fun _ μ2 => X11_isSeen_L7 (fun μ_70 => (zz ((1 : Int32))).bind fun z => some (z, μ_70)) v0 FU ((0 : Int32)) μ2
set_option maxHeartbeats 4000000 in
set_option maxRecDepth 100000 in
theorem mX11_isSeen (v0 : Nat) (μ : Mem) : Meth wI yX11_isSeen cX11_isSeen 3 (some .boolean) 7 [.ref v0] μ (fX11_isSeen v0 μ) := by
  refine Meth.of (by decide) [(0, .ref v0)] rfl (Nat.le_of_ble_eq_true rfl) ?_
  intro p l e R s m args below meth c D ca ad A X C
  have C : CX p R s m args meth c D ca ad A X cX11_isSeen RX11 3 (some .boolean) 7 := C
  unfold fX11_isSeen
  refine E_aload_n C dX11_isSeen_0 0 rfl ?_
  refine E_iconst C 0 dX11_isSeen_1 (by decide) ?_
  refine E_callVU (st := []) C [.int ((0 : Int32))] (mX11_finds v0 ((0 : Int32)) μ) cal_X11_finds vir_X11_finds lk_X11_197 dX11_isSeen_2 rfl rfl (Nat.le_of_ble_eq_true rfl) (Nat.le_of_ble_eq_true rfl) (fun _ μ2 => ?_)
  refine E_iconst C 0 dX11_isSeen_5 (by decide) ?_
  refine E_istore_n (lv' := [(1, .int ((0 : Int32))), (0, .ref v0)]) C dX11_isSeen_6 (by decide) rfl ?_
  refine E_at (pc2 := 7) rfl ?_
  refine E_pick (lv' := [(0, .ref v0), (1, .int ((0 : Int32)))]) [1, 0] rfl ?_
  refine X11_isSeen_L7_ok C v0 (fun μ_70 => ?_) FU ((0 : Int32)) μ2
  refine E_iconst C 1 dX11_isSeen_70 (by decide) ?_
  exact E_zret C dX11_isSeen_71
def X11_fits_L29 (G : Int32 → Int32 → Mem → Option (Int32 × Mem)) (v0 : Nat) (v1 : Int32) (v2 : Int32) : Nat → Int32 → Int32 → Int32 → Mem → Option (Int32 × Mem)
  | 0, _, _, _, _ => none
  | n + 1, v3, v4, v5, μ => if v5 < 0 then (G v3 v4 μ) else ((gR μ v0 11 0).bind fun x35 => (sI μ x35 ((3 : Int32)) v5).bind fun μ41 => (isC μ41 v0 11).bind fun _ => bd (fX11_isSeen v0 μ41) fun x43 μ43 => if x43 = 0 then (X11_fits_L29 G v0 v1 v2 n v3 v4 ((v5 + -1)) μ43) else (X11_fits_L29 G v0 v1 v2 n ((v3 + 1)) v5 ((v5 + -1)) μ43))
set_option maxHeartbeats 4000000 in
set_option maxRecDepth 100000 in
theorem X11_fits_L29_ok {p : Program} {l : Launch} {e : Env} {R : Room} {s : State} {m : MethodId} {args : Array Value} {below : List Frame} {meth : Method} {c : Code} {D : va_G} {ca : Nat → ClassId} {ad : Nat → Nat} {A : Nat → Prop} {X : State → Prop} (C : CX p R s m args meth c D ca ad A X cX11_fits RX11 6 (some .int) 8) {G : Int32 → Int32 → Mem → Option (Int32 × Mem)} (v0 : Nat) (v1 : Int32) (v2 : Int32) (hG : ∀ (v3x : Int32) (v4x : Int32) (μx : Mem), Sm p l e R s m args below meth c D ca ad A 6 0 0 wI (KQ below args s D ca ad A) 62 [(0, .ref v0), (1, .int v1), (2, .int v2), (3, .int v3x), (4, .int v4x)] [] μx (G v3x v4x μx)) : ∀ (n : Nat) (v3 : Int32) (v4 : Int32) (v5 : Int32) (μ : Mem), Sm p l e R s m args below meth c D ca ad A 6 0 0 wI (KQ below args s D ca ad A) 29 [(0, .ref v0), (1, .int v1), (2, .int v2), (3, .int v3), (4, .int v4), (5, .int v5)] [] μ (X11_fits_L29 G v0 v1 v2 n v3 v4 v5 μ) := by
  intro n
  induction n with
  | zero =>
    intro v3 v4 v5 μ
    rw [X11_fits_L29]
    exact E_none
  | succ n ih =>
    intro v3 v4 v5 μ
    rw [X11_fits_L29]
    refine E_iload C dX11_fits_29 5 rfl ?_
    refine E_if_lt C 62 dX11_fits_31 (by decide) ?_ ?_
    · exact E_pick [0, 1, 2, 3, 4] rfl (hG v3 v4 μ)
    · refine E_at (pc2 := 34) rfl ?_
      refine E_aload_n C dX11_fits_34 0 rfl ?_
      refine E_getR C F_X11_11 dX11_fits_35 (fun x35 => ?_)
      refine E_iconst C 3 dX11_fits_38 (by decide) ?_
      refine E_iload C dX11_fits_39 5 rfl ?_
      refine E_iastore C dX11_fits_41 (fun μ41 => ?_)
      refine E_aload_n C dX11_fits_42 0 rfl ?_
      refine E_callVI (st := []) C [] (mX11_isSeen v0 μ41) cal_X11_isSeen vir_X11_isSeen lk_X11_271 dX11_fits_43 rfl rfl (Nat.le_of_ble_eq_true rfl) (Nat.le_of_ble_eq_true rfl) (fun x43 μ43 => ?_)
      refine E_if_eq C 56 dX11_fits_46 (by decide) ?_ ?_
      · refine E_iinc (lv' := [(5, .int ((v5 + -1))), (0, .ref v0), (1, .int v1), (2, .int v2), (3, .int v3), (4, .int v4)]) C (v5 + -1) dX11_fits_56 5 rfl rfl (by decide) rfl ?_
        refine E_goto C 29 dX11_fits_59 (by decide) ?_
        exact E_pick [1, 2, 3, 4, 5, 0] rfl (ih v3 v4 ((v5 + -1)) μ43)
      · refine E_at (pc2 := 49) rfl ?_
        refine E_iinc (lv' := [(3, .int ((v3 + 1))), (0, .ref v0), (1, .int v1), (2, .int v2), (4, .int v4), (5, .int v5)]) C (v3 + 1) dX11_fits_49 3 rfl rfl (by decide) rfl ?_
        refine E_iload C dX11_fits_52 5 rfl ?_
        refine E_istore (lv' := [(4, .int v5), (3, .int ((v3 + 1))), (0, .ref v0), (1, .int v1), (2, .int v2), (5, .int v5)]) C dX11_fits_54 (by decide) rfl ?_
        refine E_at (pc2 := 56) rfl ?_
        refine E_iinc (lv' := [(5, .int ((v5 + -1))), (4, .int v5), (3, .int ((v3 + 1))), (0, .ref v0), (1, .int v1), (2, .int v2)]) C (v5 + -1) dX11_fits_56 5 rfl rfl (by decide) rfl ?_
        refine E_goto C 29 dX11_fits_59 (by decide) ?_
        exact E_pick [3, 4, 5, 2, 1, 0] rfl (ih ((v3 + 1)) v5 ((v5 + -1)) μ43)
def fX11_fits (v0 : Nat) (v1 : Int32) (μ : Mem) : Option (Int32 × Mem) :=
  bd (fX11_in v1.toInt64 ((0 : Int64)) ((1 : Int64)) μ) fun x4 μ4 => if x4 = 0 then (some ((-1 : Int32), μ4)) else ((gR μ4 v0 11 0).bind fun x13 => (aI μ4 0 x13 ((3 : Int32))).bind fun x17 => X11_fits_L29 (fun v3_62 v4_62 μ_62 => (gR μ_62 v0 11 0).bind fun x63 => (sI μ_62 x63 ((3 : Int32)) x17).bind fun μ68 => if v1 = 0 then (some (v3_62, μ68)) else (some (v4_62, μ68))) v0 v1 x17 FU ((0 : Int32)) ((-5 : Int32)) ((20 : Int32)) μ4)
set_option maxHeartbeats 4000000 in
set_option maxRecDepth 100000 in
theorem mX11_fits (v0 : Nat) (v1 : Int32) (μ : Mem) : Meth wI yX11_fits cX11_fits 6 (some .int) 8 [.ref v0, .int v1] μ (fX11_fits v0 v1 μ) := by
  refine Meth.of (by decide) [(0, .ref v0), (1, .int v1)] rfl (Nat.le_of_ble_eq_true rfl) ?_
  intro p l e R s m args below meth c D ca ad A X C
  have C : CX p R s m args meth c D ca ad A X cX11_fits RX11 6 (some .int) 8 := C
  unfold fX11_fits
  refine E_iload_n C dX11_fits_0 1 rfl ?_
  refine E_i2l C dX11_fits_1 ?_
  refine E_lconst C 0 dX11_fits_2 (by decide) ?_
  refine E_lconst C 1 dX11_fits_3 (by decide) ?_
  refine E_callSI (st := []) C [.long v1.toInt64, .long ((0 : Int64)), .long ((1 : Int64))] (mX11_in v1.toInt64 ((0 : Int64)) ((1 : Int64)) μ) cal_X11_in st_X11_in lk_X11_65 dX11_fits_4 rfl rfl (Nat.le_of_ble_eq_true rfl) (Nat.le_of_ble_eq_true rfl) (fun x4 μ4 => ?_)
  refine E_if_ne C 12 dX11_fits_7 (by decide) ?_ ?_
  · refine E_aload_n C dX11_fits_12 0 rfl ?_
    refine E_getR C F_X11_11 dX11_fits_13 (fun x13 => ?_)
    refine E_iconst C 3 dX11_fits_16 (by decide) ?_
    refine E_iaload C dX11_fits_17 (fun x17 => ?_)
    refine E_istore_n (lv' := [(2, .int x17), (0, .ref v0), (1, .int v1)]) C dX11_fits_18 (by decide) rfl ?_
    refine E_iconst C 0 dX11_fits_19 (by decide) ?_
    refine E_istore_n (lv' := [(3, .int ((0 : Int32))), (2, .int x17), (0, .ref v0), (1, .int v1)]) C dX11_fits_20 (by decide) rfl ?_
    refine E_bipush C (-5) dX11_fits_21 (by decide) ?_
    refine E_istore (lv' := [(4, .int ((-5 : Int32))), (3, .int ((0 : Int32))), (2, .int x17), (0, .ref v0), (1, .int v1)]) C dX11_fits_23 (by decide) rfl ?_
    refine E_bipush C 20 dX11_fits_25 (by decide) ?_
    refine E_istore (lv' := [(5, .int ((20 : Int32))), (4, .int ((-5 : Int32))), (3, .int ((0 : Int32))), (2, .int x17), (0, .ref v0), (1, .int v1)]) C dX11_fits_27 (by decide) rfl ?_
    refine E_at (pc2 := 29) rfl ?_
    refine E_pick (lv' := [(0, .ref v0), (1, .int v1), (2, .int x17), (3, .int ((0 : Int32))), (4, .int ((-5 : Int32))), (5, .int ((20 : Int32)))]) [4, 5, 3, 2, 1, 0] rfl ?_
    refine X11_fits_L29_ok C v0 v1 x17 (fun v3_62 v4_62 μ_62 => ?_) FU ((0 : Int32)) ((-5 : Int32)) ((20 : Int32)) μ4
    refine E_aload_n C dX11_fits_62 0 rfl ?_
    refine E_getR C F_X11_11 dX11_fits_63 (fun x63 => ?_)
    refine E_iconst C 3 dX11_fits_66 (by decide) ?_
    refine E_iload_n C dX11_fits_67 2 rfl ?_
    refine E_iastore C dX11_fits_68 (fun μ68 => ?_)
    refine E_iload_n C dX11_fits_69 1 rfl ?_
    refine E_if_ne C 77 dX11_fits_70 (by decide) ?_ ?_
    · refine E_iload C dX11_fits_77 4 rfl ?_
      exact E_iret C dX11_fits_79
    · refine E_at (pc2 := 73) rfl ?_
      refine E_iload_n C dX11_fits_73 3 rfl ?_
      refine E_goto C 79 dX11_fits_74 (by decide) ?_
      exact E_iret C dX11_fits_79
  · refine E_at (pc2 := 10) rfl ?_
    refine E_iconst C (-1) dX11_fits_10 (by decide) ?_
    exact E_iret C dX11_fits_11
def fX11_plan (v0 : Nat) (v1 : Int32) (v2 : Int32) (μ : Mem) : Option (Int32 × Mem) :=
  if v1 = (-1 : Int32) then ((gR μ v0 11 0).bind fun x6 => (sI μ x6 ((131 : Int32)) ((0 : Int32))).bind fun μ13 => some ((0 : Int32), μ13)) else (bd (fX11_in v1.toInt64 ((0 : Int64)) ((3 : Int64)) μ) fun x22 μ22 => if x22 = 0 then (some ((-1 : Int32), μ22)) else (jn (fun  (μ_43 : Mem) => jn (fun  (μ_59 : Mem) => jn (fun  (μ_76 : Mem) => jn (fun  (μ_96 : Mem) => (gR μ_96 v0 11 0).bind fun x97 => (aI μ_96 0 x97 ((131 : Int32))).bind fun x103 => if x103 = (8 : Int32) then (some ((-4 : Int32), μ_96)) else ((gR μ_96 v0 11 0).bind fun x113 => (gR μ_96 v0 11 0).bind fun x121 => (aI μ_96 0 x121 ((131 : Int32))).bind fun x127 => (sI μ_96 x113 (((132 : Int32) + ((2 : Int32) * x127))) v1).bind fun μ131 => (gR μ131 v0 11 0).bind fun x133 => (gR μ131 v0 11 0).bind fun x141 => (aI μ131 0 x141 ((131 : Int32))).bind fun x147 => (sI μ131 x133 ((((132 : Int32) + ((2 : Int32) * x147)) + (1 : Int32))) v2).bind fun μ153 => (gR μ153 v0 11 0).bind fun x155 => (aI μ153 0 x155 ((131 : Int32))).bind fun x162 => (sI μ153 x155 ((131 : Int32)) ((x162 + (1 : Int32)))).bind fun μ165 => (gR μ165 v0 11 0).bind fun x167 => (aI μ165 0 x167 ((131 : Int32))).bind fun x173 => some (x173, μ165))) (fun j96 => if v1 = (2 : Int32) then (bd (fX11_in v2.toInt64 ((0 : Int64)) ((9 : Int64)) μ_76) fun x87 μ87 => if x87 = 0 then (some ((-2 : Int32), μ87)) else (j96 μ87)) else (j96 μ_76))) (fun j76 => if v1 = (1 : Int32) then (bd (fX11_in v2.toInt64 ((0 : Int64)) ((9 : Int64)) μ_59) fun x70 μ70 => if x70 = 0 then (some ((-2 : Int32), μ70)) else (j76 μ70)) else (j76 μ_59))) (fun j59 => if v1 = 0 then (bd (fX11_in v2.toInt64 ((1 : Int64)) ((12 : Int64)) μ_43) fun x53 μ53 => if x53 = 0 then (some ((-2 : Int32), μ53)) else (j59 μ53)) else (j59 μ_43))) (fun j43 => if v1 = (3 : Int32) then ((isC μ22 v0 11).bind fun _ => bd (fX11_isDemand v0 v2 μ22) fun x35 μ35 => if x35 = 0 then (some ((-1 : Int32), μ35)) else (j43 μ35)) else (j43 μ22))))
set_option maxHeartbeats 4000000 in
set_option maxRecDepth 100000 in
theorem mX11_plan (v0 : Nat) (v1 : Int32) (v2 : Int32) (μ : Mem) : Meth wI yX11_plan cX11_plan 3 (some .int) 2 [.ref v0, .int v1, .int v2] μ (fX11_plan v0 v1 v2 μ) := by
  refine Meth.of (by decide) [(0, .ref v0), (1, .int v1), (2, .int v2)] rfl (Nat.le_of_ble_eq_true rfl) ?_
  intro p l e R s m args below meth c D ca ad A X C
  have C : CX p R s m args meth c D ca ad A X cX11_plan RX11 3 (some .int) 2 := C
  unfold fX11_plan
  refine E_iload_n C dX11_plan_0 1 rfl ?_
  refine E_iconst C (-1) dX11_plan_1 (by decide) ?_
  refine E_icmp_ne C 16 dX11_plan_2 (by decide) ?_ ?_
  · refine E_iload_n C dX11_plan_16 1 rfl ?_
    refine E_i2l C dX11_plan_17 ?_
    refine E_lconst C 0 dX11_plan_18 (by decide) ?_
    refine E_ldc2 C dX11_plan_19 k_X11_71 ?_
    refine E_callSI (st := []) C [.long v1.toInt64, .long ((0 : Int64)), .long ((3 : Int64))] (mX11_in v1.toInt64 ((0 : Int64)) ((3 : Int64)) μ) cal_X11_in st_X11_in lk_X11_65 dX11_plan_22 rfl rfl (Nat.le_of_ble_eq_true rfl) (Nat.le_of_ble_eq_true rfl) (fun x22 μ22 => ?_)
    refine E_if_eq C 41 dX11_plan_25 (by decide) ?_ ?_
    · refine E_iconst C (-1) dX11_plan_41 (by decide) ?_
      exact E_iret C dX11_plan_42
    · refine E_at (pc2 := 28) rfl ?_
      refine E_iload_n C dX11_plan_28 1 rfl ?_
      refine E_iconst C 3 dX11_plan_29 (by decide) ?_
      refine E_jn (fun j43 => ∀  (μ_43 : Mem), Sm p l e R s m args below meth c D ca ad A 3 0 0 wI (KQ below args s D ca ad A) 43 [(0, .ref v0), (1, .int v1), (2, .int v2)] [] μ_43 (j43  μ_43)) ?_ (fun j43 hj43 => ?_)
      · intro  μ_43
        refine E_iload_n C dX11_plan_43 1 rfl ?_
        refine E_jn (fun j59 => ∀  (μ_59 : Mem), Sm p l e R s m args below meth c D ca ad A 3 0 0 wI (KQ below args s D ca ad A) 59 [(0, .ref v0), (1, .int v1), (2, .int v2)] [] μ_59 (j59  μ_59)) ?_ (fun j59 hj59 => ?_)
        · intro  μ_59
          refine E_iload_n C dX11_plan_59 1 rfl ?_
          refine E_iconst C 1 dX11_plan_60 (by decide) ?_
          refine E_jn (fun j76 => ∀  (μ_76 : Mem), Sm p l e R s m args below meth c D ca ad A 3 0 0 wI (KQ below args s D ca ad A) 76 [(0, .ref v0), (1, .int v1), (2, .int v2)] [] μ_76 (j76  μ_76)) ?_ (fun j76 hj76 => ?_)
          · intro  μ_76
            refine E_iload_n C dX11_plan_76 1 rfl ?_
            refine E_iconst C 2 dX11_plan_77 (by decide) ?_
            refine E_jn (fun j96 => ∀  (μ_96 : Mem), Sm p l e R s m args below meth c D ca ad A 3 0 0 wI (KQ below args s D ca ad A) 96 [(0, .ref v0), (1, .int v1), (2, .int v2)] [] μ_96 (j96  μ_96)) ?_ (fun j96 hj96 => ?_)
            · intro  μ_96
              refine E_aload_n C dX11_plan_96 0 rfl ?_
              refine E_getR C F_X11_11 dX11_plan_97 (fun x97 => ?_)
              refine E_sipush C 131 dX11_plan_100 (by decide) ?_
              refine E_iaload C dX11_plan_103 (fun x103 => ?_)
              refine E_bipush C 8 dX11_plan_104 (by decide) ?_
              refine E_icmp_ne C 112 dX11_plan_106 (by decide) ?_ ?_
              · refine E_aload_n C dX11_plan_112 0 rfl ?_
                refine E_getR C F_X11_11 dX11_plan_113 (fun x113 => ?_)
                refine E_sipush C 132 dX11_plan_116 (by decide) ?_
                refine E_iconst C 2 dX11_plan_119 (by decide) ?_
                refine E_aload_n C dX11_plan_120 0 rfl ?_
                refine E_getR C F_X11_11 dX11_plan_121 (fun x121 => ?_)
                refine E_sipush C 131 dX11_plan_124 (by decide) ?_
                refine E_iaload C dX11_plan_127 (fun x127 => ?_)
                refine E_imul C dX11_plan_128 ?_
                refine E_iadd C dX11_plan_129 ?_
                refine E_iload_n C dX11_plan_130 1 rfl ?_
                refine E_iastore C dX11_plan_131 (fun μ131 => ?_)
                refine E_aload_n C dX11_plan_132 0 rfl ?_
                refine E_getR C F_X11_11 dX11_plan_133 (fun x133 => ?_)
                refine E_sipush C 132 dX11_plan_136 (by decide) ?_
                refine E_iconst C 2 dX11_plan_139 (by decide) ?_
                refine E_aload_n C dX11_plan_140 0 rfl ?_
                refine E_getR C F_X11_11 dX11_plan_141 (fun x141 => ?_)
                refine E_sipush C 131 dX11_plan_144 (by decide) ?_
                refine E_iaload C dX11_plan_147 (fun x147 => ?_)
                refine E_imul C dX11_plan_148 ?_
                refine E_iadd C dX11_plan_149 ?_
                refine E_iconst C 1 dX11_plan_150 (by decide) ?_
                refine E_iadd C dX11_plan_151 ?_
                refine E_iload_n C dX11_plan_152 2 rfl ?_
                refine E_iastore C dX11_plan_153 (fun μ153 => ?_)
                refine E_aload_n C dX11_plan_154 0 rfl ?_
                refine E_getR C F_X11_11 dX11_plan_155 (fun x155 => ?_)
                refine E_sipush C 131 dX11_plan_158 (by decide) ?_
                refine E_dup2_ir C dX11_plan_161 ?_
                refine E_iaload C dX11_plan_162 (fun x162 => ?_)
                refine E_iconst C 1 dX11_plan_163 (by decide) ?_
                refine E_iadd C dX11_plan_164 ?_
                refine E_iastore C dX11_plan_165 (fun μ165 => ?_)
                refine E_aload_n C dX11_plan_166 0 rfl ?_
                refine E_getR C F_X11_11 dX11_plan_167 (fun x167 => ?_)
                refine E_sipush C 131 dX11_plan_170 (by decide) ?_
                refine E_iaload C dX11_plan_173 (fun x173 => ?_)
                exact E_iret C dX11_plan_174
              · refine E_at (pc2 := 109) rfl ?_
                refine E_bipush C (-4) dX11_plan_109 (by decide) ?_
                exact E_iret C dX11_plan_111
            · refine E_icmp_ne C 96 dX11_plan_78 (by decide) ?_ ?_
              · exact E_pick [0, 1, 2] rfl (hj96 μ_76)
              · refine E_at (pc2 := 81) rfl ?_
                refine E_iload_n C dX11_plan_81 2 rfl ?_
                refine E_i2l C dX11_plan_82 ?_
                refine E_lconst C 0 dX11_plan_83 (by decide) ?_
                refine E_ldc2 C dX11_plan_84 k_X11_75 ?_
                refine E_callSI (st := []) C [.long v2.toInt64, .long ((0 : Int64)), .long ((9 : Int64))] (mX11_in v2.toInt64 ((0 : Int64)) ((9 : Int64)) μ_76) cal_X11_in st_X11_in lk_X11_65 dX11_plan_87 rfl rfl (Nat.le_of_ble_eq_true rfl) (Nat.le_of_ble_eq_true rfl) (fun x87 μ87 => ?_)
                refine E_if_ne C 96 dX11_plan_90 (by decide) ?_ ?_
                · exact E_pick [0, 1, 2] rfl (hj96 μ87)
                · refine E_at (pc2 := 93) rfl ?_
                  refine E_bipush C (-2) dX11_plan_93 (by decide) ?_
                  exact E_iret C dX11_plan_95
          · refine E_icmp_ne C 76 dX11_plan_61 (by decide) ?_ ?_
            · exact E_pick [0, 1, 2] rfl (hj76 μ_59)
            · refine E_at (pc2 := 64) rfl ?_
              refine E_iload_n C dX11_plan_64 2 rfl ?_
              refine E_i2l C dX11_plan_65 ?_
              refine E_lconst C 0 dX11_plan_66 (by decide) ?_
              refine E_ldc2 C dX11_plan_67 k_X11_75 ?_
              refine E_callSI (st := []) C [.long v2.toInt64, .long ((0 : Int64)), .long ((9 : Int64))] (mX11_in v2.toInt64 ((0 : Int64)) ((9 : Int64)) μ_59) cal_X11_in st_X11_in lk_X11_65 dX11_plan_70 rfl rfl (Nat.le_of_ble_eq_true rfl) (Nat.le_of_ble_eq_true rfl) (fun x70 μ70 => ?_)
              refine E_if_eq C 93 dX11_plan_73 (by decide) ?_ ?_
              · refine E_bipush C (-2) dX11_plan_93 (by decide) ?_
                exact E_iret C dX11_plan_95
              · exact E_pick [0, 1, 2] rfl (hj76 μ70)
        · refine E_if_ne C 59 dX11_plan_44 (by decide) ?_ ?_
          · exact E_pick [0, 1, 2] rfl (hj59 μ_43)
          · refine E_at (pc2 := 47) rfl ?_
            refine E_iload_n C dX11_plan_47 2 rfl ?_
            refine E_i2l C dX11_plan_48 ?_
            refine E_lconst C 1 dX11_plan_49 (by decide) ?_
            refine E_ldc2 C dX11_plan_50 k_X11_73 ?_
            refine E_callSI (st := []) C [.long v2.toInt64, .long ((1 : Int64)), .long ((12 : Int64))] (mX11_in v2.toInt64 ((1 : Int64)) ((12 : Int64)) μ_43) cal_X11_in st_X11_in lk_X11_65 dX11_plan_53 rfl rfl (Nat.le_of_ble_eq_true rfl) (Nat.le_of_ble_eq_true rfl) (fun x53 μ53 => ?_)
            refine E_if_eq C 93 dX11_plan_56 (by decide) ?_ ?_
            · refine E_bipush C (-2) dX11_plan_93 (by decide) ?_
              exact E_iret C dX11_plan_95
            · exact E_pick [0, 1, 2] rfl (hj59 μ53)
      · refine E_icmp_ne C 43 dX11_plan_30 (by decide) ?_ ?_
        · exact E_pick [0, 1, 2] rfl (hj43 μ22)
        · refine E_at (pc2 := 33) rfl ?_
          refine E_aload_n C dX11_plan_33 0 rfl ?_
          refine E_iload_n C dX11_plan_34 2 rfl ?_
          refine E_callVI (st := []) C [.int v2] (mX11_isDemand v0 v2 μ22) cal_X11_isDemand vir_X11_isDemand lk_X11_99 dX11_plan_35 rfl rfl (Nat.le_of_ble_eq_true rfl) (Nat.le_of_ble_eq_true rfl) (fun x35 μ35 => ?_)
          refine E_if_ne C 43 dX11_plan_38 (by decide) ?_ ?_
          · exact E_pick [0, 1, 2] rfl (hj43 μ35)
          · refine E_at (pc2 := 41) rfl ?_
            refine E_iconst C (-1) dX11_plan_41 (by decide) ?_
            exact E_iret C dX11_plan_42
  · refine E_at (pc2 := 5) rfl ?_
    refine E_aload_n C dX11_plan_5 0 rfl ?_
    refine E_getR C F_X11_11 dX11_plan_6 (fun x6 => ?_)
    refine E_sipush C 131 dX11_plan_9 (by decide) ?_
    refine E_iconst C 0 dX11_plan_12 (by decide) ?_
    refine E_iastore C dX11_plan_13 (fun μ13 => ?_)
    refine E_iconst C 0 dX11_plan_14 (by decide) ?_
    exact E_iret C dX11_plan_15
def X11_lays_L2 (G : Mem → Option (Unit × Mem)) (v0 : Nat) (v1 : Nat) : Nat → Int32 → Mem → Option (Unit × Mem)
  | 0, _, _ => none
  | n + 1, v2, μ => if (173 : Int32) ≤ v2 then (G μ) else ((aI μ 0 v0 v2).bind fun x13 => (sI μ v1 v2 x13).bind fun μ14 => X11_lays_L2 G v0 v1 n ((v2 + 1)) μ14)
set_option maxHeartbeats 4000000 in
set_option maxRecDepth 100000 in
theorem X11_lays_L2_ok {p : Program} {l : Launch} {e : Env} {R : Room} {s : State} {m : MethodId} {args : Array Value} {below : List Frame} {meth : Method} {c : Code} {D : va_G} {ca : Nat → ClassId} {ad : Nat → Nat} {A : Nat → Prop} {X : State → Prop} (C : CX p R s m args meth c D ca ad A X cX11_lays RX11 3 none 0) {G : Mem → Option (Unit × Mem)} (v0 : Nat) (v1 : Nat) (hG : ∀  (μx : Mem), Sm p l e R s m args below meth c D ca ad A 3 0 0 wU (KQ below args s D ca ad A) 21 [] [] μx (G  μx)) : ∀ (n : Nat) (v2 : Int32) (μ : Mem), Sm p l e R s m args below meth c D ca ad A 3 0 0 wU (KQ below args s D ca ad A) 2 [(0, .ref v0), (1, .ref v1), (2, .int v2)] [] μ (X11_lays_L2 G v0 v1 n v2 μ) := by
  intro n
  induction n with
  | zero =>
    intro v2 μ
    rw [X11_lays_L2]
    exact E_none
  | succ n ih =>
    intro v2 μ
    rw [X11_lays_L2]
    refine E_iload_n C dX11_lays_2 2 rfl ?_
    refine E_sipush C 173 dX11_lays_3 (by decide) ?_
    refine E_icmp_ge C 21 dX11_lays_6 (by decide) ?_ ?_
    · exact E_pick [] rfl (hG μ)
    · refine E_at (pc2 := 9) rfl ?_
      refine E_aload_n C dX11_lays_9 1 rfl ?_
      refine E_iload_n C dX11_lays_10 2 rfl ?_
      refine E_aload_n C dX11_lays_11 0 rfl ?_
      refine E_iload_n C dX11_lays_12 2 rfl ?_
      refine E_iaload C dX11_lays_13 (fun x13 => ?_)
      refine E_iastore C dX11_lays_14 (fun μ14 => ?_)
      refine E_iinc (lv' := [(2, .int ((v2 + 1))), (0, .ref v0), (1, .ref v1)]) C (v2 + 1) dX11_lays_15 2 rfl rfl (by decide) rfl ?_
      refine E_goto C 2 dX11_lays_18 (by decide) ?_
      exact E_pick [1, 2, 0] rfl (ih ((v2 + 1)) μ14)
def fX11_lays (v0 : Nat) (v1 : Nat) (μ : Mem) : Option (Unit × Mem) :=
  X11_lays_L2 (fun μ_21 => some ((), μ_21)) v0 v1 FU ((0 : Int32)) μ
set_option maxHeartbeats 4000000 in
set_option maxRecDepth 100000 in
theorem mX11_lays (v0 : Nat) (v1 : Nat) (μ : Mem) : Meth wU yX11_lays cX11_lays 3 none 0 [.ref v0, .ref v1] μ (fX11_lays v0 v1 μ) := by
  refine Meth.of (by decide) [(0, .ref v0), (1, .ref v1)] rfl (Nat.le_of_ble_eq_true rfl) ?_
  intro p l e R s m args below meth c D ca ad A X C
  have C : CX p R s m args meth c D ca ad A X cX11_lays RX11 3 none 0 := C
  unfold fX11_lays
  refine E_iconst C 0 dX11_lays_0 (by decide) ?_
  refine E_istore_n (lv' := [(2, .int ((0 : Int32))), (0, .ref v0), (1, .ref v1)]) C dX11_lays_1 (by decide) rfl ?_
  refine E_at (pc2 := 2) rfl ?_
  refine E_pick (lv' := [(0, .ref v0), (1, .ref v1), (2, .int ((0 : Int32)))]) [1, 2, 0] rfl ?_
  refine X11_lays_L2_ok C v0 v1 (fun μ_21 => ?_) FU ((0 : Int32)) μ
  exact E_ret C dX11_lays_21
def X11_ends_L114 (G : Mem → Option (Int64 × Mem)) (v0 : Nat) (v1 : Int32) (v2 : Int32) (v3 : Int32) (v4 : Int32) : Nat → Int32 → Mem → Option (Int64 × Mem)
  | 0, _, _ => none
  | n + 1, v5, μ => if (12 : Int32) ≤ v5 then (G μ) else ((gR μ v0 11 0).bind fun x122 => (sI μ x122 (((49 : Int32) + v5)) v4).bind fun μ132 => X11_ends_L114 G v0 v1 v2 v3 v4 n ((v5 + 1)) μ132)
set_option maxHeartbeats 4000000 in
set_option maxRecDepth 100000 in
theorem X11_ends_L114_ok {p : Program} {l : Launch} {e : Env} {R : Room} {s : State} {m : MethodId} {args : Array Value} {below : List Frame} {meth : Method} {c : Code} {D : va_G} {ca : Nat → ClassId} {ad : Nat → Nat} {A : Nat → Prop} {X : State → Prop} (C : CX p R s m args meth c D ca ad A X cX11_ends RX11 6 (some .long) 8) {G : Mem → Option (Int64 × Mem)} (v0 : Nat) (v1 : Int32) (v2 : Int32) (v3 : Int32) (v4 : Int32) (hG : ∀  (μx : Mem), Sm p l e R s m args below meth c D ca ad A 6 0 0 wJ (KQ below args s D ca ad A) 139 [(0, .ref v0), (1, .int v1), (2, .int v2), (3, .int v3)] [] μx (G  μx)) : ∀ (n : Nat) (v5 : Int32) (μ : Mem), Sm p l e R s m args below meth c D ca ad A 6 0 0 wJ (KQ below args s D ca ad A) 114 [(0, .ref v0), (1, .int v1), (2, .int v2), (3, .int v3), (4, .int v4), (5, .int v5)] [] μ (X11_ends_L114 G v0 v1 v2 v3 v4 n v5 μ) := by
  intro n
  induction n with
  | zero =>
    intro v5 μ
    rw [X11_ends_L114]
    exact E_none
  | succ n ih =>
    intro v5 μ
    rw [X11_ends_L114]
    refine E_iload C dX11_ends_114 5 rfl ?_
    refine E_bipush C 12 dX11_ends_116 (by decide) ?_
    refine E_icmp_ge C 139 dX11_ends_118 (by decide) ?_ ?_
    · exact E_pick [0, 1, 2, 3] rfl (hG μ)
    · refine E_at (pc2 := 121) rfl ?_
      refine E_aload_n C dX11_ends_121 0 rfl ?_
      refine E_getR C F_X11_11 dX11_ends_122 (fun x122 => ?_)
      refine E_bipush C 49 dX11_ends_125 (by decide) ?_
      refine E_iload C dX11_ends_127 5 rfl ?_
      refine E_iadd C dX11_ends_129 ?_
      refine E_iload C dX11_ends_130 4 rfl ?_
      refine E_iastore C dX11_ends_132 (fun μ132 => ?_)
      refine E_iinc (lv' := [(5, .int ((v5 + 1))), (0, .ref v0), (1, .int v1), (2, .int v2), (3, .int v3), (4, .int v4)]) C (v5 + 1) dX11_ends_133 5 rfl rfl (by decide) rfl ?_
      refine E_goto C 114 dX11_ends_136 (by decide) ?_
      exact E_pick [1, 2, 3, 4, 5, 0] rfl (ih ((v5 + 1)) μ132)
def X11_ends_L32 (G : Mem → Option (Int64 × Mem)) (v0 : Nat) (v1 : Int32) (v2 : Int32) : Nat → Int32 → Mem → Option (Int64 × Mem)
  | 0, _, _ => none
  | n + 1, v3, μ => (gR μ v0 11 0).bind fun x34 => (aI μ 0 x34 ((131 : Int32))).bind fun x40 => if x40 ≤ v3 then (G μ) else ((gR μ v0 11 0).bind fun x45 => (aI μ 0 x45 ((((132 : Int32) + ((2 : Int32) * v3)) + (1 : Int32)))).bind fun x57 => (gR μ v0 11 0).bind fun x61 => (aI μ 0 x61 (((132 : Int32) + ((2 : Int32) * v3)))).bind fun x71 => if x71 = 0 then ((gR μ v0 11 0).bind fun x101 => (sI μ x101 ((0 : Int32)) x57).bind fun μ107 => X11_ends_L32 G v0 v1 v2 n ((v3 + 1)) μ107) else if x71 = 1 then (X11_ends_L114 (fun μ_139 => X11_ends_L32 G v0 v1 v2 n ((v3 + 1)) μ_139) v0 v1 v2 v3 x57 FU ((0 : Int32)) μ) else if x71 = 2 then ((gR μ v0 11 0).bind fun x143 => (sI μ x143 ((2 : Int32)) x57).bind fun μ149 => X11_ends_L32 G v0 v1 v2 n ((v3 + 1)) μ149) else ((gI μ v0 11 3).bind fun x155 => (pV μ v0 11 3 (.int ((x155 ||| ((1 : Int32) <<< (x57 &&& 31)))))).bind fun μ163 => X11_ends_L32 G v0 v1 v2 n ((v3 + 1)) μ163))
set_option maxHeartbeats 4000000 in
set_option maxRecDepth 100000 in
theorem X11_ends_L32_ok {p : Program} {l : Launch} {e : Env} {R : Room} {s : State} {m : MethodId} {args : Array Value} {below : List Frame} {meth : Method} {c : Code} {D : va_G} {ca : Nat → ClassId} {ad : Nat → Nat} {A : Nat → Prop} {X : State → Prop} (C : CX p R s m args meth c D ca ad A X cX11_ends RX11 6 (some .long) 8) {G : Mem → Option (Int64 × Mem)} (v0 : Nat) (v1 : Int32) (v2 : Int32) (hG : ∀  (μx : Mem), Sm p l e R s m args below meth c D ca ad A 6 0 0 wJ (KQ below args s D ca ad A) 172 [(0, .ref v0), (1, .int v1), (2, .int v2)] [] μx (G  μx)) : ∀ (n : Nat) (v3 : Int32) (μ : Mem), Sm p l e R s m args below meth c D ca ad A 6 0 0 wJ (KQ below args s D ca ad A) 32 [(0, .ref v0), (1, .int v1), (2, .int v2), (3, .int v3)] [] μ (X11_ends_L32 G v0 v1 v2 n v3 μ) := by
  intro n
  induction n with
  | zero =>
    intro v3 μ
    rw [X11_ends_L32]
    exact E_none
  | succ n ih =>
    intro v3 μ
    rw [X11_ends_L32]
    refine E_iload_n C dX11_ends_32 3 rfl ?_
    refine E_aload_n C dX11_ends_33 0 rfl ?_
    refine E_getR C F_X11_11 dX11_ends_34 (fun x34 => ?_)
    refine E_sipush C 131 dX11_ends_37 (by decide) ?_
    refine E_iaload C dX11_ends_40 (fun x40 => ?_)
    refine E_icmp_ge C 172 dX11_ends_41 (by decide) ?_ ?_
    · exact E_pick [0, 1, 2] rfl (hG μ)
    · refine E_at (pc2 := 44) rfl ?_
      refine E_aload_n C dX11_ends_44 0 rfl ?_
      refine E_getR C F_X11_11 dX11_ends_45 (fun x45 => ?_)
      refine E_sipush C 132 dX11_ends_48 (by decide) ?_
      refine E_iconst C 2 dX11_ends_51 (by decide) ?_
      refine E_iload_n C dX11_ends_52 3 rfl ?_
      refine E_imul C dX11_ends_53 ?_
      refine E_iadd C dX11_ends_54 ?_
      refine E_iconst C 1 dX11_ends_55 (by decide) ?_
      refine E_iadd C dX11_ends_56 ?_
      refine E_iaload C dX11_ends_57 (fun x57 => ?_)
      refine E_istore (lv' := [(4, .int x57), (0, .ref v0), (1, .int v1), (2, .int v2), (3, .int v3)]) C dX11_ends_58 (by decide) rfl ?_
      refine E_aload_n C dX11_ends_60 1 rfl ?_
      refine E_getR C F_X11_11 dX11_ends_61 (fun x61 => ?_)
      refine E_sipush C 132 dX11_ends_64 (by decide) ?_
      refine E_iconst C 2 dX11_ends_67 (by decide) ?_
      refine E_iload_n C dX11_ends_68 4 rfl ?_
      refine E_imul C dX11_ends_69 ?_
      refine E_iadd C dX11_ends_70 ?_
      refine E_iaload C dX11_ends_71 (fun x71 => ?_)
      refine E_ite (fun h72_0 => ?_) (fun h72_0 => ?_)
      · refine E_tabIn (kx := 0) (off := 28) C 100 h72_0 dX11_ends_72 (by decide +kernel) (by decide) ?_
        refine E_aload_n C dX11_ends_100 1 rfl ?_
        refine E_getR C F_X11_11 dX11_ends_101 (fun x101 => ?_)
        refine E_iconst C 0 dX11_ends_104 (by decide) ?_
        refine E_iload C dX11_ends_105 0 rfl ?_
        refine E_iastore C dX11_ends_107 (fun μ107 => ?_)
        refine E_goto C 166 dX11_ends_108 (by decide) ?_
        refine E_iinc (lv' := [(3, .int ((v3 + 1))), (4, .int x57), (0, .ref v0), (1, .int v1), (2, .int v2)]) C (v3 + 1) dX11_ends_166 4 rfl rfl (by decide) rfl ?_
        refine E_goto C 32 dX11_ends_169 (by decide) ?_
        exact E_pick [2, 3, 4, 0] rfl (ih ((v3 + 1)) μ107)
      · refine E_ite (fun h72_1 => ?_) (fun h72_1 => ?_)
        · refine E_tabIn (kx := 1) (off := 39) C 111 h72_1 dX11_ends_72 (by decide +kernel) (by decide) ?_
          refine E_iconst C 0 dX11_ends_111 (by decide) ?_
          refine E_istore (lv' := [(5, .int ((0 : Int32))), (4, .int x57), (0, .ref v0), (1, .int v1), (2, .int v2), (3, .int v3)]) C dX11_ends_112 (by decide) rfl ?_
          refine E_at (pc2 := 114) rfl ?_
          refine E_pick (lv' := [(0, .ref v0), (1, .int v1), (2, .int v2), (3, .int v3), (4, .int x57), (5, .int ((0 : Int32)))]) [2, 3, 4, 5, 1, 0] rfl ?_
          refine X11_ends_L114_ok C v0 v1 v2 v3 x57 (fun μ_139 => ?_) FU ((0 : Int32)) μ
          refine E_goto C 166 dX11_ends_139 (by decide) ?_
          refine E_iinc (lv' := [(3, .int ((v3 + 1))), (0, .ref v0), (1, .int v1), (2, .int v2)]) C (v3 + 1) dX11_ends_166 3 rfl rfl (by decide) rfl ?_
          refine E_goto C 32 dX11_ends_169 (by decide) ?_
          exact E_pick [1, 2, 3, 0] rfl (ih ((v3 + 1)) μ_139)
        · refine E_ite (fun h72_2 => ?_) (fun h72_2 => ?_)
          · refine E_tabIn (kx := 2) (off := 70) C 142 h72_2 dX11_ends_72 (by decide +kernel) (by decide) ?_
            refine E_aload_n C dX11_ends_142 1 rfl ?_
            refine E_getR C F_X11_11 dX11_ends_143 (fun x143 => ?_)
            refine E_iconst C 2 dX11_ends_146 (by decide) ?_
            refine E_iload C dX11_ends_147 0 rfl ?_
            refine E_iastore C dX11_ends_149 (fun μ149 => ?_)
            refine E_goto C 166 dX11_ends_150 (by decide) ?_
            refine E_iinc (lv' := [(3, .int ((v3 + 1))), (4, .int x57), (0, .ref v0), (1, .int v1), (2, .int v2)]) C (v3 + 1) dX11_ends_166 4 rfl rfl (by decide) rfl ?_
            refine E_goto C 32 dX11_ends_169 (by decide) ?_
            exact E_pick [2, 3, 4, 0] rfl (ih ((v3 + 1)) μ149)
          · refine E_tabOut C 153 dX11_ends_72 (by have q0 := i32_ne h72_0 (n := 0) rfl; have q1 := i32_ne h72_1 (n := 1) rfl; have q2 := i32_ne h72_2 (n := 2) rfl; omega) (by decide) ?_
            refine E_aload_n C dX11_ends_153 1 rfl ?_
            refine E_dup_r C dX11_ends_154 ?_
            refine E_getI C F_X11_124 dX11_ends_155 (fun x155 => ?_)
            refine E_iconst C 1 dX11_ends_158 (by decide) ?_
            refine E_iload C dX11_ends_159 0 rfl ?_
            refine E_ishl C dX11_ends_161 ?_
            refine E_ior C dX11_ends_162 ?_
            refine E_putI C P_X11_124 dX11_ends_163 (fun μ163 => ?_)
            refine E_at (pc2 := 166) rfl ?_
            refine E_iinc (lv' := [(3, .int ((v3 + 1))), (4, .int x57), (0, .ref v0), (1, .int v1), (2, .int v2)]) C (v3 + 1) dX11_ends_166 4 rfl rfl (by decide) rfl ?_
            refine E_goto C 32 dX11_ends_169 (by decide) ?_
            exact E_pick [2, 3, 4, 0] rfl (ih ((v3 + 1)) μ163)
def fX11_ends (v0 : Nat) (v1 : Int32) (v2 : Int32) (μ : Mem) : Option (Int64 × Mem) :=
  (isC μ v0 11).bind fun _ => bd (fX11_isStore v0 v1 μ) fun x2 μ2 => if x2 = 0 then (some ((-9223372036854775808 : Int64), μ2)) else (bd (fX11_isState v2 μ2) fun x9 μ9 => if x9 = 0 then (some ((-9223372036854775808 : Int64), μ9)) else ((gR μ9 v0 11 0).bind fun x20 => (gR μ9 v0 11 27).bind fun x24 => bd (fX11_lays x20 x24 μ9) fun _ μ27 => X11_ends_L32 (fun μ_172 => (gR μ_172 v0 11 0).bind fun x175 => (aI μ_172 0 x175 ((0 : Int32))).bind fun x179 => (isC μ_172 v0 11).bind fun _ => bd (fX11_bestNow v0 ((mnI v1 x179)) v2 μ_172) fun x184 μ184 => (pV μ184 v0 11 3 (.int ((0 : Int32)))).bind fun μ190 => (gR μ190 v0 11 27).bind fun x194 => (gR μ190 v0 11 0).bind fun x198 => bd (fX11_lays x194 x198 μ190) fun _ μ201 => bd (fX11_bits x184 μ201) fun x205 μ205 => some (x205, μ205)) v0 v1 v2 FU ((0 : Int32)) μ27))
set_option maxHeartbeats 4000000 in
set_option maxRecDepth 100000 in
theorem mX11_ends (v0 : Nat) (v1 : Int32) (v2 : Int32) (μ : Mem) : Meth wJ yX11_ends cX11_ends 6 (some .long) 8 [.ref v0, .int v1, .int v2] μ (fX11_ends v0 v1 v2 μ) := by
  refine Meth.of (by decide) [(0, .ref v0), (1, .int v1), (2, .int v2)] rfl (Nat.le_of_ble_eq_true rfl) ?_
  intro p l e R s m args below meth c D ca ad A X C
  have C : CX p R s m args meth c D ca ad A X cX11_ends RX11 6 (some .long) 8 := C
  unfold fX11_ends
  refine E_aload_n C dX11_ends_0 0 rfl ?_
  refine E_iload_n C dX11_ends_1 1 rfl ?_
  refine E_callVI (st := []) C [.int v1] (mX11_isStore v0 v1 μ) cal_X11_isStore vir_X11_isStore lk_X11_169 dX11_ends_2 rfl rfl (Nat.le_of_ble_eq_true rfl) (Nat.le_of_ble_eq_true rfl) (fun x2 μ2 => ?_)
  refine E_if_eq C 15 dX11_ends_5 (by decide) ?_ ?_
  · refine E_ldc2 C dX11_ends_15 k_X11_143 ?_
    exact E_lret C dX11_ends_18
  · refine E_at (pc2 := 8) rfl ?_
    refine E_iload_n C dX11_ends_8 2 rfl ?_
    refine E_callSI (st := []) C [.int v2] (mX11_isState v2 μ2) cal_X11_isState st_X11_isState lk_X11_87 dX11_ends_9 rfl rfl (Nat.le_of_ble_eq_true rfl) (Nat.le_of_ble_eq_true rfl) (fun x9 μ9 => ?_)
    refine E_if_ne C 19 dX11_ends_12 (by decide) ?_ ?_
    · refine E_aload_n C dX11_ends_19 0 rfl ?_
      refine E_getR C F_X11_11 dX11_ends_20 (fun x20 => ?_)
      refine E_aload_n C dX11_ends_23 0 rfl ?_
      refine E_getR C F_X11_43 dX11_ends_24 (fun x24 => ?_)
      refine E_callSU (st := []) C [.ref x20, .ref x24] (mX11_lays x20 x24 μ9) cal_X11_lays st_X11_lays lk_X11_275 dX11_ends_27 rfl rfl (Nat.le_of_ble_eq_true rfl) (Nat.le_of_ble_eq_true rfl) (fun _ μ27 => ?_)
      refine E_iconst C 0 dX11_ends_30 (by decide) ?_
      refine E_istore_n (lv' := [(3, .int ((0 : Int32))), (0, .ref v0), (1, .int v1), (2, .int v2)]) C dX11_ends_31 (by decide) rfl ?_
      refine E_at (pc2 := 32) rfl ?_
      refine E_pick (lv' := [(0, .ref v0), (1, .int v1), (2, .int v2), (3, .int ((0 : Int32)))]) [1, 2, 3, 0] rfl ?_
      refine X11_ends_L32_ok C v0 v1 v2 (fun μ_172 => ?_) FU ((0 : Int32)) μ27
      refine E_aload_n C dX11_ends_172 0 rfl ?_
      refine E_iload_n C dX11_ends_173 1 rfl ?_
      refine E_aload_n C dX11_ends_174 0 rfl ?_
      refine E_getR C F_X11_11 dX11_ends_175 (fun x175 => ?_)
      refine E_iconst C 0 dX11_ends_178 (by decide) ?_
      refine E_iaload C dX11_ends_179 (fun x179 => ?_)
      refine E_mmin C lk_X11_136 st_Math_min in_Math co_Math_min dX11_ends_180 (Nat.le_of_ble_eq_true rfl) (Nat.le_of_ble_eq_true rfl) ?_
      refine E_iload_n C dX11_ends_183 2 rfl ?_
      refine E_callVF (st := []) C [.int ((mnI v1 x179)), .int v2] (mX11_bestNow v0 ((mnI v1 x179)) v2 μ_172) cal_X11_bestNow vir_X11_bestNow lk_X11_225 dX11_ends_184 rfl rfl (Nat.le_of_ble_eq_true rfl) (Nat.le_of_ble_eq_true rfl) (fun x184 μ184 => ?_)
      refine E_fstore_n (lv' := [(3, .float x184), (0, .ref v0), (1, .int v1), (2, .int v2)]) C dX11_ends_187 (by decide) rfl ?_
      refine E_aload_n C dX11_ends_188 1 rfl ?_
      refine E_iconst C 0 dX11_ends_189 (by decide) ?_
      refine E_putI C P_X11_124 dX11_ends_190 (fun μ190 => ?_)
      refine E_aload_n C dX11_ends_193 1 rfl ?_
      refine E_getR C F_X11_43 dX11_ends_194 (fun x194 => ?_)
      refine E_aload_n C dX11_ends_197 1 rfl ?_
      refine E_getR C F_X11_11 dX11_ends_198 (fun x198 => ?_)
      refine E_callSU (st := []) C [.ref x194, .ref x198] (mX11_lays x194 x198 μ190) cal_X11_lays st_X11_lays lk_X11_275 dX11_ends_201 rfl rfl (Nat.le_of_ble_eq_true rfl) (Nat.le_of_ble_eq_true rfl) (fun _ μ201 => ?_)
      refine E_fload_n C dX11_ends_204 0 rfl ?_
      refine E_callSJ (st := []) C [.float x184] (mX11_bits x184 μ201) cal_X11_bits st_X11_bits lk_X11_201 dX11_ends_205 rfl rfl (Nat.le_of_ble_eq_true rfl) (Nat.le_of_ble_eq_true rfl) (fun x205 μ205 => ?_)
      exact E_lret C dX11_ends_208
    · refine E_at (pc2 := 15) rfl ?_
      refine E_ldc2 C dX11_ends_15 k_X11_143 ?_
      exact E_lret C dX11_ends_18
def fX11_book (v0 : Nat) (v1 : Int32) (v2 : Int32) (v3 : Int32) (μ : Mem) : Option (Int32 × Mem) :=
  if v1 = (-1 : Int32) then ((gR μ v0 11 0).bind fun x6 => (sI μ x6 ((148 : Int32)) ((0 : Int32))).bind fun μ13 => some ((0 : Int32), μ13)) else (bd (fX11_isMonth v1 μ) fun x17 μ17 => if x17 = 0 then (some ((-1 : Int32), μ17)) else (bd (fX11_in v2.toInt64 ((0 : Int64)) ((12 : Int64)) μ17) fun x31 μ31 => if x31 = 0 then (some ((-2 : Int32), μ31)) else (bd (fX11_in v3.toInt64 ((0 : Int64)) ((20 : Int64)) μ31) fun x43 μ43 => if x43 = 0 then (some ((-2 : Int32), μ43)) else ((gR μ43 v0 11 0).bind fun x53 => (aI μ43 0 x53 ((148 : Int32))).bind fun x59 => if x59 = (8 : Int32) then (some ((-4 : Int32), μ43)) else ((gR μ43 v0 11 0).bind fun x73 => (aI μ43 0 x73 ((148 : Int32))).bind fun x79 => (gR μ43 v0 11 0).bind fun x85 => (sI μ43 x85 (((149 : Int32) + ((3 : Int32) * x79))) v1).bind fun μ91 => (gR μ91 v0 11 0).bind fun x93 => (sI μ91 x93 ((((149 : Int32) + ((3 : Int32) * x79)) + (1 : Int32))) v2).bind fun μ101 => (gR μ101 v0 11 0).bind fun x103 => (sI μ101 x103 ((((149 : Int32) + ((3 : Int32) * x79)) + (2 : Int32))) v3).bind fun μ111 => (gR μ111 v0 11 0).bind fun x113 => (aI μ111 0 x113 ((148 : Int32))).bind fun x120 => (sI μ111 x113 ((148 : Int32)) ((x120 + (1 : Int32)))).bind fun μ123 => (gR μ123 v0 11 0).bind fun x125 => (aI μ123 0 x125 ((148 : Int32))).bind fun x131 => some (x131, μ123))))))
set_option maxHeartbeats 4000000 in
set_option maxRecDepth 100000 in
theorem mX11_book (v0 : Nat) (v1 : Int32) (v2 : Int32) (v3 : Int32) (μ : Mem) : Meth wI yX11_book cX11_book 5 (some .int) 2 [.ref v0, .int v1, .int v2, .int v3] μ (fX11_book v0 v1 v2 v3 μ) := by
  refine Meth.of (by decide) [(0, .ref v0), (1, .int v1), (2, .int v2), (3, .int v3)] rfl (Nat.le_of_ble_eq_true rfl) ?_
  intro p l e R s m args below meth c D ca ad A X C
  have C : CX p R s m args meth c D ca ad A X cX11_book RX11 5 (some .int) 2 := C
  unfold fX11_book
  refine E_iload_n C dX11_book_0 1 rfl ?_
  refine E_iconst C (-1) dX11_book_1 (by decide) ?_
  refine E_icmp_ne C 16 dX11_book_2 (by decide) ?_ ?_
  · refine E_iload_n C dX11_book_16 1 rfl ?_
    refine E_callSI (st := []) C [.int v1] (mX11_isMonth v1 μ) cal_X11_isMonth st_X11_isMonth lk_X11_83 dX11_book_17 rfl rfl (Nat.le_of_ble_eq_true rfl) (Nat.le_of_ble_eq_true rfl) (fun x17 μ17 => ?_)
    refine E_if_ne C 25 dX11_book_20 (by decide) ?_ ?_
    · refine E_iload_n C dX11_book_25 2 rfl ?_
      refine E_i2l C dX11_book_26 ?_
      refine E_lconst C 0 dX11_book_27 (by decide) ?_
      refine E_ldc2 C dX11_book_28 k_X11_73 ?_
      refine E_callSI (st := []) C [.long v2.toInt64, .long ((0 : Int64)), .long ((12 : Int64))] (mX11_in v2.toInt64 ((0 : Int64)) ((12 : Int64)) μ17) cal_X11_in st_X11_in lk_X11_65 dX11_book_31 rfl rfl (Nat.le_of_ble_eq_true rfl) (Nat.le_of_ble_eq_true rfl) (fun x31 μ31 => ?_)
      refine E_if_eq C 49 dX11_book_34 (by decide) ?_ ?_
      · refine E_bipush C (-2) dX11_book_49 (by decide) ?_
        exact E_iret C dX11_book_51
      · refine E_at (pc2 := 37) rfl ?_
        refine E_iload_n C dX11_book_37 3 rfl ?_
        refine E_i2l C dX11_book_38 ?_
        refine E_lconst C 0 dX11_book_39 (by decide) ?_
        refine E_ldc2 C dX11_book_40 k_X11_208 ?_
        refine E_callSI (st := []) C [.long v3.toInt64, .long ((0 : Int64)), .long ((20 : Int64))] (mX11_in v3.toInt64 ((0 : Int64)) ((20 : Int64)) μ31) cal_X11_in st_X11_in lk_X11_65 dX11_book_43 rfl rfl (Nat.le_of_ble_eq_true rfl) (Nat.le_of_ble_eq_true rfl) (fun x43 μ43 => ?_)
        refine E_if_ne C 52 dX11_book_46 (by decide) ?_ ?_
        · refine E_aload_n C dX11_book_52 0 rfl ?_
          refine E_getR C F_X11_11 dX11_book_53 (fun x53 => ?_)
          refine E_sipush C 148 dX11_book_56 (by decide) ?_
          refine E_iaload C dX11_book_59 (fun x59 => ?_)
          refine E_bipush C 8 dX11_book_60 (by decide) ?_
          refine E_icmp_ne C 68 dX11_book_62 (by decide) ?_ ?_
          · refine E_sipush C 149 dX11_book_68 (by decide) ?_
            refine E_iconst C 3 dX11_book_71 (by decide) ?_
            refine E_aload_n C dX11_book_72 0 rfl ?_
            refine E_getR C F_X11_11 dX11_book_73 (fun x73 => ?_)
            refine E_sipush C 148 dX11_book_76 (by decide) ?_
            refine E_iaload C dX11_book_79 (fun x79 => ?_)
            refine E_imul C dX11_book_80 ?_
            refine E_iadd C dX11_book_81 ?_
            refine E_istore (lv' := [(4, .int (((149 : Int32) + ((3 : Int32) * x79)))), (0, .ref v0), (1, .int v1), (2, .int v2), (3, .int v3)]) C dX11_book_82 (by decide) rfl ?_
            refine E_aload_n C dX11_book_84 1 rfl ?_
            refine E_getR C F_X11_11 dX11_book_85 (fun x85 => ?_)
            refine E_iload C dX11_book_88 0 rfl ?_
            refine E_iload_n C dX11_book_90 2 rfl ?_
            refine E_iastore C dX11_book_91 (fun μ91 => ?_)
            refine E_aload_n C dX11_book_92 1 rfl ?_
            refine E_getR C F_X11_11 dX11_book_93 (fun x93 => ?_)
            refine E_iload C dX11_book_96 0 rfl ?_
            refine E_iconst C 1 dX11_book_98 (by decide) ?_
            refine E_iadd C dX11_book_99 ?_
            refine E_iload_n C dX11_book_100 3 rfl ?_
            refine E_iastore C dX11_book_101 (fun μ101 => ?_)
            refine E_aload_n C dX11_book_102 1 rfl ?_
            refine E_getR C F_X11_11 dX11_book_103 (fun x103 => ?_)
            refine E_iload C dX11_book_106 0 rfl ?_
            refine E_iconst C 2 dX11_book_108 (by decide) ?_
            refine E_iadd C dX11_book_109 ?_
            refine E_iload_n C dX11_book_110 4 rfl ?_
            refine E_iastore C dX11_book_111 (fun μ111 => ?_)
            refine E_aload_n C dX11_book_112 1 rfl ?_
            refine E_getR C F_X11_11 dX11_book_113 (fun x113 => ?_)
            refine E_sipush C 148 dX11_book_116 (by decide) ?_
            refine E_dup2_ir C dX11_book_119 ?_
            refine E_iaload C dX11_book_120 (fun x120 => ?_)
            refine E_iconst C 1 dX11_book_121 (by decide) ?_
            refine E_iadd C dX11_book_122 ?_
            refine E_iastore C dX11_book_123 (fun μ123 => ?_)
            refine E_aload_n C dX11_book_124 1 rfl ?_
            refine E_getR C F_X11_11 dX11_book_125 (fun x125 => ?_)
            refine E_sipush C 148 dX11_book_128 (by decide) ?_
            refine E_iaload C dX11_book_131 (fun x131 => ?_)
            exact E_iret C dX11_book_132
          · refine E_at (pc2 := 65) rfl ?_
            refine E_bipush C (-4) dX11_book_65 (by decide) ?_
            exact E_iret C dX11_book_67
        · refine E_at (pc2 := 49) rfl ?_
          refine E_bipush C (-2) dX11_book_49 (by decide) ?_
          exact E_iret C dX11_book_51
    · refine E_at (pc2 := 23) rfl ?_
      refine E_iconst C (-1) dX11_book_23 (by decide) ?_
      exact E_iret C dX11_book_24
  · refine E_at (pc2 := 5) rfl ?_
    refine E_aload_n C dX11_book_5 0 rfl ?_
    refine E_getR C F_X11_11 dX11_book_6 (fun x6 => ?_)
    refine E_sipush C 148 dX11_book_9 (by decide) ?_
    refine E_iconst C 0 dX11_book_12 (by decide) ?_
    refine E_iastore C dX11_book_13 (fun μ13 => ?_)
    refine E_iconst C 0 dX11_book_14 (by decide) ?_
    exact E_iret C dX11_book_15
def X11_looked_L7 (G : Mem → Option (Int32 × Mem)) (v0 : Nat) : Nat → Int32 → Mem → Option (Int32 × Mem)
  | 0, _, _ => none
  | n + 1, v1, μ => (gR μ v0 11 0).bind fun x9 => (aI μ 0 x9 ((148 : Int32))).bind fun x15 => if x15 ≤ v1 then (G μ) else ((gR μ v0 11 0).bind fun x29 => (aI μ 0 x29 (((149 : Int32) + ((3 : Int32) * v1)))).bind fun x33 => (gR μ v0 11 0).bind fun x35 => (aI μ 0 x35 ((((149 : Int32) + ((3 : Int32) * v1)) + (1 : Int32)))).bind fun x41 => (gR μ v0 11 0).bind fun x44 => (aI μ 0 x44 ((((149 : Int32) + ((3 : Int32) * v1)) + (2 : Int32)))).bind fun x50 => (isC μ v0 11).bind fun _ => bd (fX11_isRelease v0 x33 x41 ((1 : Int32)) x50 μ) fun x51 μ51 => if x51 = 0 then (some (v1, μ51)) else (X11_looked_L7 G v0 n ((v1 + 1)) μ51))
set_option maxHeartbeats 4000000 in
set_option maxRecDepth 100000 in
theorem X11_looked_L7_ok {p : Program} {l : Launch} {e : Env} {R : Room} {s : State} {m : MethodId} {args : Array Value} {below : List Frame} {meth : Method} {c : Code} {D : va_G} {ca : Nat → ClassId} {ad : Nat → Nat} {A : Nat → Prop} {X : State → Prop} (C : CX p R s m args meth c D ca ad A X cX11_looked RX11 3 (some .int) 7) {G : Mem → Option (Int32 × Mem)} (v0 : Nat) (hG : ∀  (μx : Mem), Sm p l e R s m args below meth c D ca ad A 3 0 0 wI (KQ below args s D ca ad A) 65 [] [] μx (G  μx)) : ∀ (n : Nat) (v1 : Int32) (μ : Mem), Sm p l e R s m args below meth c D ca ad A 3 0 0 wI (KQ below args s D ca ad A) 7 [(0, .ref v0), (1, .int v1)] [] μ (X11_looked_L7 G v0 n v1 μ) := by
  intro n
  induction n with
  | zero =>
    intro v1 μ
    rw [X11_looked_L7]
    exact E_none
  | succ n ih =>
    intro v1 μ
    rw [X11_looked_L7]
    refine E_iload_n C dX11_looked_7 1 rfl ?_
    refine E_aload_n C dX11_looked_8 0 rfl ?_
    refine E_getR C F_X11_11 dX11_looked_9 (fun x9 => ?_)
    refine E_sipush C 148 dX11_looked_12 (by decide) ?_
    refine E_iaload C dX11_looked_15 (fun x15 => ?_)
    refine E_icmp_ge C 65 dX11_looked_16 (by decide) ?_ ?_
    · exact E_pick [] rfl (hG μ)
    · refine E_at (pc2 := 19) rfl ?_
      refine E_sipush C 149 dX11_looked_19 (by decide) ?_
      refine E_iconst C 3 dX11_looked_22 (by decide) ?_
      refine E_iload_n C dX11_looked_23 1 rfl ?_
      refine E_imul C dX11_looked_24 ?_
      refine E_iadd C dX11_looked_25 ?_
      refine E_istore_n (lv' := [(2, .int (((149 : Int32) + ((3 : Int32) * v1)))), (0, .ref v0), (1, .int v1)]) C dX11_looked_26 (by decide) rfl ?_
      refine E_aload_n C dX11_looked_27 1 rfl ?_
      refine E_aload_n C dX11_looked_28 1 rfl ?_
      refine E_getR C F_X11_11 dX11_looked_29 (fun x29 => ?_)
      refine E_iload_n C dX11_looked_32 0 rfl ?_
      refine E_iaload C dX11_looked_33 (fun x33 => ?_)
      refine E_aload_n C dX11_looked_34 1 rfl ?_
      refine E_getR C F_X11_11 dX11_looked_35 (fun x35 => ?_)
      refine E_iload_n C dX11_looked_38 0 rfl ?_
      refine E_iconst C 1 dX11_looked_39 (by decide) ?_
      refine E_iadd C dX11_looked_40 ?_
      refine E_iaload C dX11_looked_41 (fun x41 => ?_)
      refine E_iconst C 1 dX11_looked_42 (by decide) ?_
      refine E_aload_n C dX11_looked_43 1 rfl ?_
      refine E_getR C F_X11_11 dX11_looked_44 (fun x44 => ?_)
      refine E_iload_n C dX11_looked_47 0 rfl ?_
      refine E_iconst C 2 dX11_looked_48 (by decide) ?_
      refine E_iadd C dX11_looked_49 ?_
      refine E_iaload C dX11_looked_50 (fun x50 => ?_)
      refine E_callVI (st := []) C [.int x33, .int x41, .int ((1 : Int32)), .int x50] (mX11_isRelease v0 x33 x41 ((1 : Int32)) x50 μ) cal_X11_isRelease vir_X11_isRelease lk_X11_267 dX11_looked_51 rfl rfl (Nat.le_of_ble_eq_true rfl) (Nat.le_of_ble_eq_true rfl) (fun x51 μ51 => ?_)
      refine E_if_ne C 59 dX11_looked_54 (by decide) ?_ ?_
      · refine E_iinc (lv' := [(1, .int ((v1 + 1))), (2, .int (((149 : Int32) + ((3 : Int32) * v1)))), (0, .ref v0)]) C (v1 + 1) dX11_looked_59 2 rfl rfl (by decide) rfl ?_
        refine E_goto C 7 dX11_looked_62 (by decide) ?_
        exact E_pick [2, 0] rfl (ih ((v1 + 1)) μ51)
      · refine E_at (pc2 := 57) rfl ?_
        refine E_iload_n C dX11_looked_57 2 rfl ?_
        exact E_iret C dX11_looked_58
def fX11_looked (v0 : Nat) (μ : Mem) : Option (Int32 × Mem) :=
  (isC μ v0 11).bind fun _ => bd (fX11_finds v0 ((0 : Int32)) μ) fun _ μ2 => X11_looked_L7 (fun μ_65 => some ((-5 : Int32), μ_65)) v0 FU ((0 : Int32)) μ2
set_option maxHeartbeats 4000000 in
set_option maxRecDepth 100000 in
theorem mX11_looked (v0 : Nat) (μ : Mem) : Meth wI yX11_looked cX11_looked 3 (some .int) 7 [.ref v0] μ (fX11_looked v0 μ) := by
  refine Meth.of (by decide) [(0, .ref v0)] rfl (Nat.le_of_ble_eq_true rfl) ?_
  intro p l e R s m args below meth c D ca ad A X C
  have C : CX p R s m args meth c D ca ad A X cX11_looked RX11 3 (some .int) 7 := C
  unfold fX11_looked
  refine E_aload_n C dX11_looked_0 0 rfl ?_
  refine E_iconst C 0 dX11_looked_1 (by decide) ?_
  refine E_callVU (st := []) C [.int ((0 : Int32))] (mX11_finds v0 ((0 : Int32)) μ) cal_X11_finds vir_X11_finds lk_X11_197 dX11_looked_2 rfl rfl (Nat.le_of_ble_eq_true rfl) (Nat.le_of_ble_eq_true rfl) (fun _ μ2 => ?_)
  refine E_iconst C 0 dX11_looked_5 (by decide) ?_
  refine E_istore_n (lv' := [(1, .int ((0 : Int32))), (0, .ref v0)]) C dX11_looked_6 (by decide) rfl ?_
  refine E_at (pc2 := 7) rfl ?_
  refine E_pick (lv' := [(0, .ref v0), (1, .int ((0 : Int32)))]) [1, 0] rfl ?_
  refine X11_looked_L7_ok C v0 (fun μ_65 => ?_) FU ((0 : Int32)) μ2
  refine E_bipush C (-5) dX11_looked_65 (by decide) ?_
  exact E_iret C dX11_looked_67
def fX11_feed (v0 : Nat) (v1 : Int32) (μ : Mem) : Option (Int32 × Mem) :=
  bd (fX11_in v1.toInt64 ((0 : Int64)) ((127 : Int64)) μ) fun x6 μ6 => if x6 = 0 then (some ((-2 : Int32), μ6)) else ((gI μ6 v0 11 29).bind fun x16 => if x16 = (100 : Int32) then (some ((-4 : Int32), μ6)) else ((gR μ6 v0 11 28).bind fun x28 => (gI μ6 v0 11 29).bind fun x32 => (sB μ6 x28 x32 v1.toInt8.toInt32).bind fun μ37 => (gI μ37 v0 11 29).bind fun x40 => (pV μ37 v0 11 29 (.int ((x40 + (1 : Int32))))).bind fun μ45 => (gI μ45 v0 11 29).bind fun x49 => some (x49, μ45)))
set_option maxHeartbeats 4000000 in
set_option maxRecDepth 100000 in
theorem mX11_feed (v0 : Nat) (v1 : Int32) (μ : Mem) : Meth wI yX11_feed cX11_feed 2 (some .int) 1 [.ref v0, .int v1] μ (fX11_feed v0 v1 μ) := by
  refine Meth.of (by decide) [(0, .ref v0), (1, .int v1)] rfl (Nat.le_of_ble_eq_true rfl) ?_
  intro p l e R s m args below meth c D ca ad A X C
  have C : CX p R s m args meth c D ca ad A X cX11_feed RX11 2 (some .int) 1 := C
  unfold fX11_feed
  refine E_iload_n C dX11_feed_0 1 rfl ?_
  refine E_i2l C dX11_feed_1 ?_
  refine E_lconst C 0 dX11_feed_2 (by decide) ?_
  refine E_ldc2 C dX11_feed_3 k_X11_279 ?_
  refine E_callSI (st := []) C [.long v1.toInt64, .long ((0 : Int64)), .long ((127 : Int64))] (mX11_in v1.toInt64 ((0 : Int64)) ((127 : Int64)) μ) cal_X11_in st_X11_in lk_X11_65 dX11_feed_6 rfl rfl (Nat.le_of_ble_eq_true rfl) (Nat.le_of_ble_eq_true rfl) (fun x6 μ6 => ?_)
  refine E_if_ne C 15 dX11_feed_9 (by decide) ?_ ?_
  · refine E_aload_n C dX11_feed_15 0 rfl ?_
    refine E_getI C F_X11_281 dX11_feed_16 (fun x16 => ?_)
    refine E_bipush C 100 dX11_feed_19 (by decide) ?_
    refine E_icmp_ne C 27 dX11_feed_21 (by decide) ?_ ?_
    · refine E_aload_n C dX11_feed_27 0 rfl ?_
      refine E_getR C F_X11_46 dX11_feed_28 (fun x28 => ?_)
      refine E_aload_n C dX11_feed_31 0 rfl ?_
      refine E_getI C F_X11_281 dX11_feed_32 (fun x32 => ?_)
      refine E_iload_n C dX11_feed_35 1 rfl ?_
      refine E_i2b C dX11_feed_36 ?_
      refine E_bastore C dX11_feed_37 (fun μ37 => ?_)
      refine E_aload_n C dX11_feed_38 0 rfl ?_
      refine E_dup_r C dX11_feed_39 ?_
      refine E_getI C F_X11_281 dX11_feed_40 (fun x40 => ?_)
      refine E_iconst C 1 dX11_feed_43 (by decide) ?_
      refine E_iadd C dX11_feed_44 ?_
      refine E_putI C P_X11_281 dX11_feed_45 (fun μ45 => ?_)
      refine E_aload_n C dX11_feed_48 0 rfl ?_
      refine E_getI C F_X11_281 dX11_feed_49 (fun x49 => ?_)
      exact E_iret C dX11_feed_52
    · refine E_at (pc2 := 24) rfl ?_
      refine E_bipush C (-4) dX11_feed_24 (by decide) ?_
      exact E_iret C dX11_feed_26
  · refine E_at (pc2 := 12) rfl ?_
    refine E_bipush C (-2) dX11_feed_12 (by decide) ?_
    exact E_iret C dX11_feed_14
def fX11_isDigit (v0 : Nat) (μ : Mem) : Option (Int32 × Mem) :=
  (gI μ v0 11 30).bind fun x1 => (gI μ v0 11 29).bind fun x5 => if x5 ≤ x1 then ((zz ((0 : Int32))).bind fun z => some (z, μ)) else ((gR μ v0 11 28).bind fun x12 => (gI μ v0 11 30).bind fun x16 => (aI μ 3 x12 x16).bind fun x19 => bd (fX11_in x19.toInt64 ((48 : Int64)) ((57 : Int64)) μ) fun x27 μ27 => if x27 = 0 then ((zz ((0 : Int32))).bind fun z => some (z, μ27)) else ((zz ((1 : Int32))).bind fun z => some (z, μ27)))
set_option maxHeartbeats 4000000 in
set_option maxRecDepth 100000 in
theorem mX11_isDigit (v0 : Nat) (μ : Mem) : Meth wI yX11_isDigit cX11_isDigit 1 (some .boolean) 1 [.ref v0] μ (fX11_isDigit v0 μ) := by
  refine Meth.of (by decide) [(0, .ref v0)] rfl (Nat.le_of_ble_eq_true rfl) ?_
  intro p l e R s m args below meth c D ca ad A X C
  have C : CX p R s m args meth c D ca ad A X cX11_isDigit RX11 1 (some .boolean) 1 := C
  unfold fX11_isDigit
  refine E_aload_n C dX11_isDigit_0 0 rfl ?_
  refine E_getI C F_X11_284 dX11_isDigit_1 (fun x1 => ?_)
  refine E_aload_n C dX11_isDigit_4 0 rfl ?_
  refine E_getI C F_X11_281 dX11_isDigit_5 (fun x5 => ?_)
  refine E_icmp_ge C 37 dX11_isDigit_8 (by decide) ?_ ?_
  · refine E_iconst C 0 dX11_isDigit_37 (by decide) ?_
    exact E_zret C dX11_isDigit_38
  · refine E_at (pc2 := 11) rfl ?_
    refine E_aload_n C dX11_isDigit_11 0 rfl ?_
    refine E_getR C F_X11_46 dX11_isDigit_12 (fun x12 => ?_)
    refine E_aload_n C dX11_isDigit_15 0 rfl ?_
    refine E_getI C F_X11_284 dX11_isDigit_16 (fun x16 => ?_)
    refine E_baload C dX11_isDigit_19 (fun x19 => ?_)
    refine E_i2l C dX11_isDigit_20 ?_
    refine E_ldc2 C dX11_isDigit_21 k_X11_287 ?_
    refine E_ldc2 C dX11_isDigit_24 k_X11_289 ?_
    refine E_callSI (st := []) C [.long x19.toInt64, .long ((48 : Int64)), .long ((57 : Int64))] (mX11_in x19.toInt64 ((48 : Int64)) ((57 : Int64)) μ) cal_X11_in st_X11_in lk_X11_65 dX11_isDigit_27 rfl rfl (Nat.le_of_ble_eq_true rfl) (Nat.le_of_ble_eq_true rfl) (fun x27 μ27 => ?_)
    refine E_if_eq C 37 dX11_isDigit_30 (by decide) ?_ ?_
    · refine E_iconst C 0 dX11_isDigit_37 (by decide) ?_
      exact E_zret C dX11_isDigit_38
    · refine E_at (pc2 := 33) rfl ?_
      refine E_iconst C 1 dX11_isDigit_33 (by decide) ?_
      refine E_goto C 38 dX11_isDigit_34 (by decide) ?_
      exact E_zret C dX11_isDigit_38
def fX11_wrong (v0 : Nat) (μ : Mem) : Option (Unit × Mem) :=
  (gI μ v0 11 31).bind fun x2 => if 0 ≤ x2 then ((gI μ v0 11 31).bind fun x16 => (pV μ v0 11 31 (.int x16)).bind fun μ19 => some ((), μ19)) else ((gI μ v0 11 30).bind fun x9 => (pV μ v0 11 31 (.int x9)).bind fun μ19 => some ((), μ19))
set_option maxHeartbeats 4000000 in
set_option maxRecDepth 100000 in
theorem mX11_wrong (v0 : Nat) (μ : Mem) : Meth wU yX11_wrong cX11_wrong 1 none 0 [.ref v0] μ (fX11_wrong v0 μ) := by
  refine Meth.of (by decide) [(0, .ref v0)] rfl (Nat.le_of_ble_eq_true rfl) ?_
  intro p l e R s m args below meth c D ca ad A X C
  have C : CX p R s m args meth c D ca ad A X cX11_wrong RX11 1 none 0 := C
  unfold fX11_wrong
  refine E_aload_n C dX11_wrong_0 0 rfl ?_
  refine E_aload_n C dX11_wrong_1 0 rfl ?_
  refine E_getI C F_X11_291 dX11_wrong_2 (fun x2 => ?_)
  refine E_if_ge C 15 dX11_wrong_5 (by decide) ?_ ?_
  · refine E_aload_n C dX11_wrong_15 0 rfl ?_
    refine E_getI C F_X11_291 dX11_wrong_16 (fun x16 => ?_)
    refine E_at (pc2 := 19) rfl ?_
    refine E_putI C P_X11_291 dX11_wrong_19 (fun μ19 => ?_)
    exact E_ret C dX11_wrong_22
  · refine E_at (pc2 := 8) rfl ?_
    refine E_aload_n C dX11_wrong_8 0 rfl ?_
    refine E_getI C F_X11_284 dX11_wrong_9 (fun x9 => ?_)
    refine E_goto C 19 dX11_wrong_12 (by decide) ?_
    refine E_putI C P_X11_291 dX11_wrong_19 (fun μ19 => ?_)
    exact E_ret C dX11_wrong_22
def fX11_digit (v0 : Nat) (μ : Mem) : Option (Int32 × Mem) :=
  (gI μ v0 11 31).bind fun x1 => jn (fun  (μ_14 : Mem) => (isC μ_14 v0 11).bind fun _ => bd (fX11_wrong v0 μ_14) fun _ μ15 => some ((0 : Int32), μ15)) (fun j14 => if 0 ≤ x1 then (j14 μ) else ((isC μ v0 11).bind fun _ => bd (fX11_isDigit v0 μ) fun x8 μ8 => if x8 = 0 then (j14 μ8) else ((gI μ8 v0 11 30).bind fun x22 => (pV μ8 v0 11 30 (.int ((x22 + (1 : Int32))))).bind fun μ27 => (gR μ27 v0 11 28).bind fun x31 => (gI μ27 v0 11 30).bind fun x35 => (aI μ27 3 x31 ((x35 - (1 : Int32)))).bind fun x40 => some ((x40 - (48 : Int32)), μ27))))
set_option maxHeartbeats 4000000 in
set_option maxRecDepth 100000 in
theorem mX11_digit (v0 : Nat) (μ : Mem) : Meth wI yX11_digit cX11_digit 1 (some .int) 2 [.ref v0] μ (fX11_digit v0 μ) := by
  refine Meth.of (by decide) [(0, .ref v0)] rfl (Nat.le_of_ble_eq_true rfl) ?_
  intro p l e R s m args below meth c D ca ad A X C
  have C : CX p R s m args meth c D ca ad A X cX11_digit RX11 1 (some .int) 2 := C
  unfold fX11_digit
  refine E_aload_n C dX11_digit_0 0 rfl ?_
  refine E_getI C F_X11_291 dX11_digit_1 (fun x1 => ?_)
  refine E_jn (fun j14 => ∀  (μ_14 : Mem), Sm p l e R s m args below meth c D ca ad A 1 0 0 wI (KQ below args s D ca ad A) 14 [(0, .ref v0)] [] μ_14 (j14  μ_14)) ?_ (fun j14 hj14 => ?_)
  · intro  μ_14
    refine E_aload_n C dX11_digit_14 0 rfl ?_
    refine E_callVU (st := []) C [] (mX11_wrong v0 μ_14) cal_X11_wrong vir_X11_wrong lk_X11_297 dX11_digit_15 rfl rfl (Nat.le_of_ble_eq_true rfl) (Nat.le_of_ble_eq_true rfl) (fun _ μ15 => ?_)
    refine E_iconst C 0 dX11_digit_18 (by decide) ?_
    exact E_iret C dX11_digit_19
  · refine E_if_ge C 14 dX11_digit_4 (by decide) ?_ ?_
    · exact E_pick [0] rfl (hj14 μ)
    · refine E_at (pc2 := 7) rfl ?_
      refine E_aload_n C dX11_digit_7 0 rfl ?_
      refine E_callVI (st := []) C [] (mX11_isDigit v0 μ) cal_X11_isDigit vir_X11_isDigit lk_X11_294 dX11_digit_8 rfl rfl (Nat.le_of_ble_eq_true rfl) (Nat.le_of_ble_eq_true rfl) (fun x8 μ8 => ?_)
      refine E_if_ne C 20 dX11_digit_11 (by decide) ?_ ?_
      · refine E_aload_n C dX11_digit_20 0 rfl ?_
        refine E_dup_r C dX11_digit_21 ?_
        refine E_getI C F_X11_284 dX11_digit_22 (fun x22 => ?_)
        refine E_iconst C 1 dX11_digit_25 (by decide) ?_
        refine E_iadd C dX11_digit_26 ?_
        refine E_putI C P_X11_284 dX11_digit_27 (fun μ27 => ?_)
        refine E_aload_n C dX11_digit_30 0 rfl ?_
        refine E_getR C F_X11_46 dX11_digit_31 (fun x31 => ?_)
        refine E_aload_n C dX11_digit_34 0 rfl ?_
        refine E_getI C F_X11_284 dX11_digit_35 (fun x35 => ?_)
        refine E_iconst C 1 dX11_digit_38 (by decide) ?_
        refine E_isub C dX11_digit_39 ?_
        refine E_baload C dX11_digit_40 (fun x40 => ?_)
        refine E_bipush C 48 dX11_digit_41 (by decide) ?_
        refine E_isub C dX11_digit_43 ?_
        exact E_iret C dX11_digit_44
      · exact E_pick [0] rfl (hj14 μ8)
def fX11_twoDigits (v0 : Nat) (μ : Mem) : Option (Int32 × Mem) :=
  (isC μ v0 11).bind fun _ => bd (fX11_digit v0 μ) fun x1 μ1 => (gI μ1 v0 11 31).bind fun x6 => if 0 ≤ x6 then (some (x1, μ1)) else ((isC μ1 v0 11).bind fun _ => bd (fX11_isDigit v0 μ1) fun x13 μ13 => if x13 = 0 then (some (x1, μ13)) else ((isC μ13 v0 11).bind fun _ => bd (fX11_digit v0 μ13) fun x24 μ24 => some ((((10 : Int32) * x1) + x24), μ24)))
set_option maxHeartbeats 4000000 in
set_option maxRecDepth 100000 in
theorem mX11_twoDigits (v0 : Nat) (μ : Mem) : Meth wI yX11_twoDigits cX11_twoDigits 2 (some .int) 3 [.ref v0] μ (fX11_twoDigits v0 μ) := by
  refine Meth.of (by decide) [(0, .ref v0)] rfl (Nat.le_of_ble_eq_true rfl) ?_
  intro p l e R s m args below meth c D ca ad A X C
  have C : CX p R s m args meth c D ca ad A X cX11_twoDigits RX11 2 (some .int) 3 := C
  unfold fX11_twoDigits
  refine E_aload_n C dX11_twoDigits_0 0 rfl ?_
  refine E_callVI (st := []) C [] (mX11_digit v0 μ) cal_X11_digit vir_X11_digit lk_X11_300 dX11_twoDigits_1 rfl rfl (Nat.le_of_ble_eq_true rfl) (Nat.le_of_ble_eq_true rfl) (fun x1 μ1 => ?_)
  refine E_istore_n (lv' := [(1, .int x1), (0, .ref v0)]) C dX11_twoDigits_4 (by decide) rfl ?_
  refine E_aload_n C dX11_twoDigits_5 1 rfl ?_
  refine E_getI C F_X11_291 dX11_twoDigits_6 (fun x6 => ?_)
  refine E_if_ge C 31 dX11_twoDigits_9 (by decide) ?_ ?_
  · refine E_iload_n C dX11_twoDigits_31 0 rfl ?_
    exact E_iret C dX11_twoDigits_32
  · refine E_at (pc2 := 12) rfl ?_
    refine E_aload_n C dX11_twoDigits_12 1 rfl ?_
    refine E_callVI (st := []) C [] (mX11_isDigit v0 μ1) cal_X11_isDigit vir_X11_isDigit lk_X11_294 dX11_twoDigits_13 rfl rfl (Nat.le_of_ble_eq_true rfl) (Nat.le_of_ble_eq_true rfl) (fun x13 μ13 => ?_)
    refine E_if_eq C 31 dX11_twoDigits_16 (by decide) ?_ ?_
    · refine E_iload_n C dX11_twoDigits_31 0 rfl ?_
      exact E_iret C dX11_twoDigits_32
    · refine E_at (pc2 := 19) rfl ?_
      refine E_bipush C 10 dX11_twoDigits_19 (by decide) ?_
      refine E_iload_n C dX11_twoDigits_21 0 rfl ?_
      refine E_imul C dX11_twoDigits_22 ?_
      refine E_aload_n C dX11_twoDigits_23 1 rfl ?_
      refine E_callVI (st := [.int (((10 : Int32) * x1))]) C [] (mX11_digit v0 μ13) cal_X11_digit vir_X11_digit lk_X11_300 dX11_twoDigits_24 rfl rfl (Nat.le_of_ble_eq_true rfl) (Nat.le_of_ble_eq_true rfl) (fun x24 μ24 => ?_)
      refine E_iadd C dX11_twoDigits_27 ?_
      refine E_goto C 32 dX11_twoDigits_28 (by decide) ?_
      exact E_iret C dX11_twoDigits_32
def fX11_takes (v0 : Nat) (v1 : Int32) (μ : Mem) : Option (Int32 × Mem) :=
  (gI μ v0 11 31).bind fun x1 => if 0 ≤ x1 then ((zz ((0 : Int32))).bind fun z => some (z, μ)) else ((gI μ v0 11 30).bind fun x8 => (gI μ v0 11 29).bind fun x12 => if x12 ≤ x8 then ((zz ((0 : Int32))).bind fun z => some (z, μ)) else ((gR μ v0 11 28).bind fun x19 => (gI μ v0 11 30).bind fun x23 => (aI μ 3 x19 x23).bind fun x26 => if x26 = v1 then ((gI μ v0 11 30).bind fun x35 => (pV μ v0 11 30 (.int ((x35 + (1 : Int32))))).bind fun μ40 => (zz ((1 : Int32))).bind fun z => some (z, μ40)) else ((zz ((0 : Int32))).bind fun z => some (z, μ))))
set_option maxHeartbeats 4000000 in
set_option maxRecDepth 100000 in
theorem mX11_takes (v0 : Nat) (v1 : Int32) (μ : Mem) : Meth wI yX11_takes cX11_takes 2 (some .boolean) 0 [.ref v0, .int v1] μ (fX11_takes v0 v1 μ) := by
  refine Meth.of (by decide) [(0, .ref v0), (1, .int v1)] rfl (Nat.le_of_ble_eq_true rfl) ?_
  intro p l e R s m args below meth c D ca ad A X C
  have C : CX p R s m args meth c D ca ad A X cX11_takes RX11 2 (some .boolean) 0 := C
  unfold fX11_takes
  refine E_aload_n C dX11_takes_0 0 rfl ?_
  refine E_getI C F_X11_291 dX11_takes_1 (fun x1 => ?_)
  refine E_if_ge C 31 dX11_takes_4 (by decide) ?_ ?_
  · refine E_iconst C 0 dX11_takes_31 (by decide) ?_
    exact E_zret C dX11_takes_32
  · refine E_at (pc2 := 7) rfl ?_
    refine E_aload_n C dX11_takes_7 0 rfl ?_
    refine E_getI C F_X11_284 dX11_takes_8 (fun x8 => ?_)
    refine E_aload_n C dX11_takes_11 0 rfl ?_
    refine E_getI C F_X11_281 dX11_takes_12 (fun x12 => ?_)
    refine E_icmp_ge C 31 dX11_takes_15 (by decide) ?_ ?_
    · refine E_iconst C 0 dX11_takes_31 (by decide) ?_
      exact E_zret C dX11_takes_32
    · refine E_at (pc2 := 18) rfl ?_
      refine E_aload_n C dX11_takes_18 0 rfl ?_
      refine E_getR C F_X11_46 dX11_takes_19 (fun x19 => ?_)
      refine E_aload_n C dX11_takes_22 0 rfl ?_
      refine E_getI C F_X11_284 dX11_takes_23 (fun x23 => ?_)
      refine E_baload C dX11_takes_26 (fun x26 => ?_)
      refine E_iload_n C dX11_takes_27 1 rfl ?_
      refine E_icmp_eq C 33 dX11_takes_28 (by decide) ?_ ?_
      · refine E_aload_n C dX11_takes_33 0 rfl ?_
        refine E_dup_r C dX11_takes_34 ?_
        refine E_getI C F_X11_284 dX11_takes_35 (fun x35 => ?_)
        refine E_iconst C 1 dX11_takes_38 (by decide) ?_
        refine E_iadd C dX11_takes_39 ?_
        refine E_putI C P_X11_284 dX11_takes_40 (fun μ40 => ?_)
        refine E_iconst C 1 dX11_takes_43 (by decide) ?_
        exact E_zret C dX11_takes_44
      · refine E_at (pc2 := 31) rfl ?_
        refine E_iconst C 0 dX11_takes_31 (by decide) ?_
        exact E_zret C dX11_takes_32
def fX11_must (v0 : Nat) (v1 : Int32) (μ : Mem) : Option (Unit × Mem) :=
  (isC μ v0 11).bind fun _ => bd (fX11_takes v0 v1 μ) fun x2 μ2 => if x2 = 0 then ((isC μ2 v0 11).bind fun _ => bd (fX11_wrong v0 μ2) fun _ μ9 => some ((), μ9)) else (some ((), μ2))
set_option maxHeartbeats 4000000 in
set_option maxRecDepth 100000 in
theorem mX11_must (v0 : Nat) (v1 : Int32) (μ : Mem) : Meth wU yX11_must cX11_must 2 none 1 [.ref v0, .int v1] μ (fX11_must v0 v1 μ) := by
  refine Meth.of (by decide) [(0, .ref v0), (1, .int v1)] rfl (Nat.le_of_ble_eq_true rfl) ?_
  intro p l e R s m args below meth c D ca ad A X C
  have C : CX p R s m args meth c D ca ad A X cX11_must RX11 2 none 1 := C
  unfold fX11_must
  refine E_aload_n C dX11_must_0 0 rfl ?_
  refine E_iload_n C dX11_must_1 1 rfl ?_
  refine E_callVI (st := []) C [.int v1] (mX11_takes v0 v1 μ) cal_X11_takes vir_X11_takes lk_X11_304 dX11_must_2 rfl rfl (Nat.le_of_ble_eq_true rfl) (Nat.le_of_ble_eq_true rfl) (fun x2 μ2 => ?_)
  refine E_if_ne C 12 dX11_must_5 (by decide) ?_ ?_
  · exact E_ret C dX11_must_12
  · refine E_at (pc2 := 8) rfl ?_
    refine E_aload_n C dX11_must_8 0 rfl ?_
    refine E_callVU (st := []) C [] (mX11_wrong v0 μ2) cal_X11_wrong vir_X11_wrong lk_X11_297 dX11_must_9 rfl rfl (Nat.le_of_ble_eq_true rfl) (Nat.le_of_ble_eq_true rfl) (fun _ μ9 => ?_)
    exact E_ret C dX11_must_12
def X11_digits_L2 (G : Mem → Option (Unit × Mem)) (v0 : Nat) (v1 : Int32) (v2 : Int32) : Nat → Int32 → Mem → Option (Unit × Mem)
  | 0, _, _ => none
  | n + 1, v3, μ => if v2 ≤ v3 then (G μ) else ((gR μ v0 11 32).bind fun x8 => (isC μ v0 11).bind fun _ => bd (fX11_digit v0 μ) fun x15 μ15 => (sI μ15 x8 ((v1 + v3)) x15).bind fun μ18 => X11_digits_L2 G v0 v1 v2 n ((v3 + 1)) μ18)
set_option maxHeartbeats 4000000 in
set_option maxRecDepth 100000 in
theorem X11_digits_L2_ok {p : Program} {l : Launch} {e : Env} {R : Room} {s : State} {m : MethodId} {args : Array Value} {below : List Frame} {meth : Method} {c : Code} {D : va_G} {ca : Nat → ClassId} {ad : Nat → Nat} {A : Nat → Prop} {X : State → Prop} (C : CX p R s m args meth c D ca ad A X cX11_digits RX11 4 none 3) {G : Mem → Option (Unit × Mem)} (v0 : Nat) (v1 : Int32) (v2 : Int32) (hG : ∀  (μx : Mem), Sm p l e R s m args below meth c D ca ad A 4 0 0 wU (KQ below args s D ca ad A) 25 [] [] μx (G  μx)) : ∀ (n : Nat) (v3 : Int32) (μ : Mem), Sm p l e R s m args below meth c D ca ad A 4 0 0 wU (KQ below args s D ca ad A) 2 [(0, .ref v0), (1, .int v1), (2, .int v2), (3, .int v3)] [] μ (X11_digits_L2 G v0 v1 v2 n v3 μ) := by
  intro n
  induction n with
  | zero =>
    intro v3 μ
    rw [X11_digits_L2]
    exact E_none
  | succ n ih =>
    intro v3 μ
    rw [X11_digits_L2]
    refine E_iload_n C dX11_digits_2 3 rfl ?_
    refine E_iload_n C dX11_digits_3 2 rfl ?_
    refine E_icmp_ge C 25 dX11_digits_4 (by decide) ?_ ?_
    · exact E_pick [] rfl (hG μ)
    · refine E_at (pc2 := 7) rfl ?_
      refine E_aload_n C dX11_digits_7 0 rfl ?_
      refine E_getR C F_X11_50 dX11_digits_8 (fun x8 => ?_)
      refine E_iload_n C dX11_digits_11 1 rfl ?_
      refine E_iload_n C dX11_digits_12 3 rfl ?_
      refine E_iadd C dX11_digits_13 ?_
      refine E_aload_n C dX11_digits_14 0 rfl ?_
      refine E_callVI (st := [.int ((v1 + v3)), .ref x8]) C [] (mX11_digit v0 μ) cal_X11_digit vir_X11_digit lk_X11_300 dX11_digits_15 rfl rfl (Nat.le_of_ble_eq_true rfl) (Nat.le_of_ble_eq_true rfl) (fun x15 μ15 => ?_)
      refine E_iastore C dX11_digits_18 (fun μ18 => ?_)
      refine E_iinc (lv' := [(3, .int ((v3 + 1))), (0, .ref v0), (1, .int v1), (2, .int v2)]) C (v3 + 1) dX11_digits_19 3 rfl rfl (by decide) rfl ?_
      refine E_goto C 2 dX11_digits_22 (by decide) ?_
      exact E_pick [1, 2, 3, 0] rfl (ih ((v3 + 1)) μ18)
def fX11_digits (v0 : Nat) (v1 : Int32) (v2 : Int32) (μ : Mem) : Option (Unit × Mem) :=
  X11_digits_L2 (fun μ_25 => some ((), μ_25)) v0 v1 v2 FU ((0 : Int32)) μ
set_option maxHeartbeats 4000000 in
set_option maxRecDepth 100000 in
theorem mX11_digits (v0 : Nat) (v1 : Int32) (v2 : Int32) (μ : Mem) : Meth wU yX11_digits cX11_digits 4 none 3 [.ref v0, .int v1, .int v2] μ (fX11_digits v0 v1 v2 μ) := by
  refine Meth.of (by decide) [(0, .ref v0), (1, .int v1), (2, .int v2)] rfl (Nat.le_of_ble_eq_true rfl) ?_
  intro p l e R s m args below meth c D ca ad A X C
  have C : CX p R s m args meth c D ca ad A X cX11_digits RX11 4 none 3 := C
  unfold fX11_digits
  refine E_iconst C 0 dX11_digits_0 (by decide) ?_
  refine E_istore_n (lv' := [(3, .int ((0 : Int32))), (0, .ref v0), (1, .int v1), (2, .int v2)]) C dX11_digits_1 (by decide) rfl ?_
  refine E_at (pc2 := 2) rfl ?_
  refine E_pick (lv' := [(0, .ref v0), (1, .int v1), (2, .int v2), (3, .int ((0 : Int32)))]) [1, 2, 3, 0] rfl ?_
  refine X11_digits_L2_ok C v0 v1 v2 (fun μ_25 => ?_) FU ((0 : Int32)) μ
  exact E_ret C dX11_digits_25
def fX11_readClause (v0 : Nat) (v1 : Int32) (μ : Mem) : Option (Unit × Mem) :=
  (gI μ v0 11 30).bind fun x1 => (gI μ v0 11 29).bind fun x5 => jn (fun (s0_24 : Int32) (μ_24 : Mem) => (gR μ_24 v0 11 32).bind fun x26 => (sI μ_24 x26 v1 s0_24).bind fun μ31 => (gI μ31 v0 11 30).bind fun x34 => (pV μ31 v0 11 30 (.int ((x34 + (1 : Int32))))).bind fun μ39 => if s0_24 = 99 then ((gR μ39 v0 11 32).bind fun x242 => (isC μ39 v0 11).bind fun _ => bd (fX11_twoDigits v0 μ39) fun x249 μ249 => (sI μ249 x242 ((v1 + (1 : Int32))) x249).bind fun μ252 => some ((), μ252)) else if s0_24 = 100 then ((isC μ39 v0 11).bind fun _ => bd (fX11_digits v0 ((v1 + (1 : Int32))) ((3 : Int32)) μ39) fun _ μ121 => (gR μ121 v0 11 32).bind fun x125 => (isC μ121 v0 11).bind fun _ => bd (fX11_twoDigits v0 μ121) fun x132 μ132 => (sI μ132 x125 ((v1 + (4 : Int32))) x132).bind fun μ135 => (isC μ135 v0 11).bind fun _ => bd (fX11_must v0 ((46 : Int32)) μ135) fun _ μ139 => (gR μ139 v0 11 32).bind fun x143 => (isC μ139 v0 11).bind fun _ => bd (fX11_twoDigits v0 μ139) fun x150 μ150 => (sI μ150 x143 ((v1 + (5 : Int32))) x150).bind fun μ153 => (isC μ153 v0 11).bind fun _ => bd (fX11_must v0 ((46 : Int32)) μ153) fun _ μ157 => (gR μ157 v0 11 32).bind fun x161 => (isC μ157 v0 11).bind fun _ => bd (fX11_twoDigits v0 μ157) fun x169 μ169 => (sI μ169 x161 ((v1 + (6 : Int32))) x169).bind fun μ172 => some ((), μ172)) else if s0_24 = 101 then ((gR μ39 v0 11 32).bind fun x211 => (isC μ39 v0 11).bind fun _ => bd (fX11_twoDigits v0 μ39) fun x218 μ218 => (sI μ218 x211 ((v1 + (1 : Int32))) x218).bind fun μ221 => (isC μ221 v0 11).bind fun _ => bd (fX11_must v0 ((46 : Int32)) μ221) fun _ μ225 => (gR μ225 v0 11 32).bind fun x229 => (isC μ225 v0 11).bind fun _ => bd (fX11_digit v0 μ225) fun x236 μ236 => (sI μ236 x229 ((v1 + (2 : Int32))) x236).bind fun μ239 => some ((), μ239)) else if s0_24 = 102 then ((gR μ39 v0 11 32).bind fun x211 => (isC μ39 v0 11).bind fun _ => bd (fX11_twoDigits v0 μ39) fun x218 μ218 => (sI μ218 x211 ((v1 + (1 : Int32))) x218).bind fun μ221 => (isC μ221 v0 11).bind fun _ => bd (fX11_must v0 ((46 : Int32)) μ221) fun _ μ225 => (gR μ225 v0 11 32).bind fun x229 => (isC μ225 v0 11).bind fun _ => bd (fX11_digit v0 μ225) fun x236 μ236 => (sI μ236 x229 ((v1 + (2 : Int32))) x236).bind fun μ239 => some ((), μ239)) else if s0_24 = 103 then ((gI μ39 v0 11 30).bind fun x256 => (pV μ39 v0 11 30 (.int ((x256 - (1 : Int32))))).bind fun μ261 => (isC μ261 v0 11).bind fun _ => bd (fX11_wrong v0 μ261) fun _ μ265 => some ((), μ265)) else if s0_24 = 104 then ((gI μ39 v0 11 30).bind fun x256 => (pV μ39 v0 11 30 (.int ((x256 - (1 : Int32))))).bind fun μ261 => (isC μ261 v0 11).bind fun _ => bd (fX11_wrong v0 μ261) fun _ μ265 => some ((), μ265)) else if s0_24 = 105 then ((gI μ39 v0 11 30).bind fun x256 => (pV μ39 v0 11 30 (.int ((x256 - (1 : Int32))))).bind fun μ261 => (isC μ261 v0 11).bind fun _ => bd (fX11_wrong v0 μ261) fun _ μ265 => some ((), μ265)) else if s0_24 = 106 then ((gI μ39 v0 11 30).bind fun x256 => (pV μ39 v0 11 30 (.int ((x256 - (1 : Int32))))).bind fun μ261 => (isC μ261 v0 11).bind fun _ => bd (fX11_wrong v0 μ261) fun _ μ265 => some ((), μ265)) else if s0_24 = 107 then ((gI μ39 v0 11 30).bind fun x256 => (pV μ39 v0 11 30 (.int ((x256 - (1 : Int32))))).bind fun μ261 => (isC μ261 v0 11).bind fun _ => bd (fX11_wrong v0 μ261) fun _ μ265 => some ((), μ265)) else if s0_24 = 108 then ((gI μ39 v0 11 30).bind fun x256 => (pV μ39 v0 11 30 (.int ((x256 - (1 : Int32))))).bind fun μ261 => (isC μ261 v0 11).bind fun _ => bd (fX11_wrong v0 μ261) fun _ μ265 => some ((), μ265)) else if s0_24 = 109 then ((gI μ39 v0 11 30).bind fun x256 => (pV μ39 v0 11 30 (.int ((x256 - (1 : Int32))))).bind fun μ261 => (isC μ261 v0 11).bind fun _ => bd (fX11_wrong v0 μ261) fun _ μ265 => some ((), μ265)) else if s0_24 = 110 then ((gI μ39 v0 11 30).bind fun x256 => (pV μ39 v0 11 30 (.int ((x256 - (1 : Int32))))).bind fun μ261 => (isC μ261 v0 11).bind fun _ => bd (fX11_wrong v0 μ261) fun _ μ265 => some ((), μ265)) else if s0_24 = 111 then ((gI μ39 v0 11 30).bind fun x256 => (pV μ39 v0 11 30 (.int ((x256 - (1 : Int32))))).bind fun μ261 => (isC μ261 v0 11).bind fun _ => bd (fX11_wrong v0 μ261) fun _ μ265 => some ((), μ265)) else if s0_24 = 112 then ((isC μ39 v0 11).bind fun _ => bd (fX11_digits v0 ((v1 + (1 : Int32))) ((4 : Int32)) μ39) fun _ μ206 => some ((), μ206)) else if s0_24 = 113 then ((gR μ39 v0 11 32).bind fun x175 => (isC μ39 v0 11).bind fun _ => bd (fX11_twoDigits v0 μ39) fun x182 μ182 => (sI μ182 x175 ((v1 + (1 : Int32))) x182).bind fun μ185 => (isC μ185 v0 11).bind fun _ => bd (fX11_must v0 ((46 : Int32)) μ185) fun _ μ189 => (isC μ189 v0 11).bind fun _ => bd (fX11_digits v0 ((v1 + (2 : Int32))) ((3 : Int32)) μ189) fun _ μ197 => some ((), μ197)) else ((gI μ39 v0 11 30).bind fun x256 => (pV μ39 v0 11 30 (.int ((x256 - (1 : Int32))))).bind fun μ261 => (isC μ261 v0 11).bind fun _ => bd (fX11_wrong v0 μ261) fun _ μ265 => some ((), μ265))) (fun j24 => if x5 ≤ x1 then (j24 ((-1 : Int32)) μ) else ((gR μ v0 11 28).bind fun x12 => (gI μ v0 11 30).bind fun x16 => (aI μ 3 x12 x16).bind fun x19 => j24 x19 μ))
set_option maxHeartbeats 4000000 in
set_option maxRecDepth 100000 in
theorem mX11_readClause (v0 : Nat) (v1 : Int32) (μ : Mem) : Meth wU yX11_readClause cX11_readClause 3 none 4 [.ref v0, .int v1] μ (fX11_readClause v0 v1 μ) := by
  refine Meth.of (by decide) [(0, .ref v0), (1, .int v1)] rfl (Nat.le_of_ble_eq_true rfl) ?_
  intro p l e R s m args below meth c D ca ad A X C
  have C : CX p R s m args meth c D ca ad A X cX11_readClause RX11 3 none 4 := C
  unfold fX11_readClause
  refine E_aload_n C dX11_readClause_0 0 rfl ?_
  refine E_getI C F_X11_284 dX11_readClause_1 (fun x1 => ?_)
  refine E_aload_n C dX11_readClause_4 0 rfl ?_
  refine E_getI C F_X11_281 dX11_readClause_5 (fun x5 => ?_)
  refine E_jn (fun j24 => ∀ (s0_24 : Int32) (μ_24 : Mem), Sm p l e R s m args below meth c D ca ad A 3 0 0 wU (KQ below args s D ca ad A) 24 [(0, .ref v0), (1, .int v1)] [.int s0_24] μ_24 (j24 s0_24 μ_24)) ?_ (fun j24 hj24 => ?_)
  · intro s0_24 μ_24
    refine E_istore_n (lv' := [(2, .int s0_24), (0, .ref v0), (1, .int v1)]) C dX11_readClause_24 (by decide) rfl ?_
    refine E_aload_n C dX11_readClause_25 1 rfl ?_
    refine E_getR C F_X11_50 dX11_readClause_26 (fun x26 => ?_)
    refine E_iload_n C dX11_readClause_29 2 rfl ?_
    refine E_iload_n C dX11_readClause_30 0 rfl ?_
    refine E_iastore C dX11_readClause_31 (fun μ31 => ?_)
    refine E_aload_n C dX11_readClause_32 1 rfl ?_
    refine E_dup_r C dX11_readClause_33 ?_
    refine E_getI C F_X11_284 dX11_readClause_34 (fun x34 => ?_)
    refine E_iconst C 1 dX11_readClause_37 (by decide) ?_
    refine E_iadd C dX11_readClause_38 ?_
    refine E_putI C P_X11_284 dX11_readClause_39 (fun μ39 => ?_)
    refine E_iload_n C dX11_readClause_42 0 rfl ?_
    refine E_ite (fun h43_99 => ?_) (fun h43_99 => ?_)
    · refine E_tabIn (kx := 99) (off := 198) C 241 h43_99 dX11_readClause_43 (by decide +kernel) (by decide) ?_
      refine E_aload_n C dX11_readClause_241 1 rfl ?_
      refine E_getR C F_X11_50 dX11_readClause_242 (fun x242 => ?_)
      refine E_iload_n C dX11_readClause_245 2 rfl ?_
      refine E_iconst C 1 dX11_readClause_246 (by decide) ?_
      refine E_iadd C dX11_readClause_247 ?_
      refine E_aload_n C dX11_readClause_248 1 rfl ?_
      refine E_callVI (st := [.int ((v1 + (1 : Int32))), .ref x242]) C [] (mX11_twoDigits v0 μ39) cal_X11_twoDigits vir_X11_twoDigits lk_X11_310 dX11_readClause_249 rfl rfl (Nat.le_of_ble_eq_true rfl) (Nat.le_of_ble_eq_true rfl) (fun x249 μ249 => ?_)
      refine E_iastore C dX11_readClause_252 (fun μ252 => ?_)
      exact E_ret C dX11_readClause_253
    · refine E_ite (fun h43_100 => ?_) (fun h43_100 => ?_)
      · refine E_tabIn (kx := 100) (off := 73) C 116 h43_100 dX11_readClause_43 (by decide +kernel) (by decide) ?_
        refine E_aload_n C dX11_readClause_116 1 rfl ?_
        refine E_iload_n C dX11_readClause_117 2 rfl ?_
        refine E_iconst C 1 dX11_readClause_118 (by decide) ?_
        refine E_iadd C dX11_readClause_119 ?_
        refine E_iconst C 3 dX11_readClause_120 (by decide) ?_
        refine E_callVU (st := []) C [.int ((v1 + (1 : Int32))), .int ((3 : Int32))] (mX11_digits v0 ((v1 + (1 : Int32))) ((3 : Int32)) μ39) cal_X11_digits vir_X11_digits lk_X11_307 dX11_readClause_121 rfl rfl (Nat.le_of_ble_eq_true rfl) (Nat.le_of_ble_eq_true rfl) (fun _ μ121 => ?_)
        refine E_aload_n C dX11_readClause_124 1 rfl ?_
        refine E_getR C F_X11_50 dX11_readClause_125 (fun x125 => ?_)
        refine E_iload_n C dX11_readClause_128 2 rfl ?_
        refine E_iconst C 4 dX11_readClause_129 (by decide) ?_
        refine E_iadd C dX11_readClause_130 ?_
        refine E_aload_n C dX11_readClause_131 1 rfl ?_
        refine E_callVI (st := [.int ((v1 + (4 : Int32))), .ref x125]) C [] (mX11_twoDigits v0 μ121) cal_X11_twoDigits vir_X11_twoDigits lk_X11_310 dX11_readClause_132 rfl rfl (Nat.le_of_ble_eq_true rfl) (Nat.le_of_ble_eq_true rfl) (fun x132 μ132 => ?_)
        refine E_iastore C dX11_readClause_135 (fun μ135 => ?_)
        refine E_aload_n C dX11_readClause_136 1 rfl ?_
        refine E_bipush C 46 dX11_readClause_137 (by decide) ?_
        refine E_callVU (st := []) C [.int ((46 : Int32))] (mX11_must v0 ((46 : Int32)) μ135) cal_X11_must vir_X11_must lk_X11_313 dX11_readClause_139 rfl rfl (Nat.le_of_ble_eq_true rfl) (Nat.le_of_ble_eq_true rfl) (fun _ μ139 => ?_)
        refine E_aload_n C dX11_readClause_142 1 rfl ?_
        refine E_getR C F_X11_50 dX11_readClause_143 (fun x143 => ?_)
        refine E_iload_n C dX11_readClause_146 2 rfl ?_
        refine E_iconst C 5 dX11_readClause_147 (by decide) ?_
        refine E_iadd C dX11_readClause_148 ?_
        refine E_aload_n C dX11_readClause_149 1 rfl ?_
        refine E_callVI (st := [.int ((v1 + (5 : Int32))), .ref x143]) C [] (mX11_twoDigits v0 μ139) cal_X11_twoDigits vir_X11_twoDigits lk_X11_310 dX11_readClause_150 rfl rfl (Nat.le_of_ble_eq_true rfl) (Nat.le_of_ble_eq_true rfl) (fun x150 μ150 => ?_)
        refine E_iastore C dX11_readClause_153 (fun μ153 => ?_)
        refine E_aload_n C dX11_readClause_154 1 rfl ?_
        refine E_bipush C 46 dX11_readClause_155 (by decide) ?_
        refine E_callVU (st := []) C [.int ((46 : Int32))] (mX11_must v0 ((46 : Int32)) μ153) cal_X11_must vir_X11_must lk_X11_313 dX11_readClause_157 rfl rfl (Nat.le_of_ble_eq_true rfl) (Nat.le_of_ble_eq_true rfl) (fun _ μ157 => ?_)
        refine E_aload_n C dX11_readClause_160 1 rfl ?_
        refine E_getR C F_X11_50 dX11_readClause_161 (fun x161 => ?_)
        refine E_iload_n C dX11_readClause_164 2 rfl ?_
        refine E_bipush C 6 dX11_readClause_165 (by decide) ?_
        refine E_iadd C dX11_readClause_167 ?_
        refine E_aload_n C dX11_readClause_168 1 rfl ?_
        refine E_callVI (st := [.int ((v1 + (6 : Int32))), .ref x161]) C [] (mX11_twoDigits v0 μ157) cal_X11_twoDigits vir_X11_twoDigits lk_X11_310 dX11_readClause_169 rfl rfl (Nat.le_of_ble_eq_true rfl) (Nat.le_of_ble_eq_true rfl) (fun x169 μ169 => ?_)
        refine E_iastore C dX11_readClause_172 (fun μ172 => ?_)
        exact E_ret C dX11_readClause_173
      · refine E_ite (fun h43_101 => ?_) (fun h43_101 => ?_)
        · refine E_tabIn (kx := 101) (off := 167) C 210 h43_101 dX11_readClause_43 (by decide +kernel) (by decide) ?_
          refine E_aload_n C dX11_readClause_210 1 rfl ?_
          refine E_getR C F_X11_50 dX11_readClause_211 (fun x211 => ?_)
          refine E_iload_n C dX11_readClause_214 2 rfl ?_
          refine E_iconst C 1 dX11_readClause_215 (by decide) ?_
          refine E_iadd C dX11_readClause_216 ?_
          refine E_aload_n C dX11_readClause_217 1 rfl ?_
          refine E_callVI (st := [.int ((v1 + (1 : Int32))), .ref x211]) C [] (mX11_twoDigits v0 μ39) cal_X11_twoDigits vir_X11_twoDigits lk_X11_310 dX11_readClause_218 rfl rfl (Nat.le_of_ble_eq_true rfl) (Nat.le_of_ble_eq_true rfl) (fun x218 μ218 => ?_)
          refine E_iastore C dX11_readClause_221 (fun μ221 => ?_)
          refine E_aload_n C dX11_readClause_222 1 rfl ?_
          refine E_bipush C 46 dX11_readClause_223 (by decide) ?_
          refine E_callVU (st := []) C [.int ((46 : Int32))] (mX11_must v0 ((46 : Int32)) μ221) cal_X11_must vir_X11_must lk_X11_313 dX11_readClause_225 rfl rfl (Nat.le_of_ble_eq_true rfl) (Nat.le_of_ble_eq_true rfl) (fun _ μ225 => ?_)
          refine E_aload_n C dX11_readClause_228 1 rfl ?_
          refine E_getR C F_X11_50 dX11_readClause_229 (fun x229 => ?_)
          refine E_iload_n C dX11_readClause_232 2 rfl ?_
          refine E_iconst C 2 dX11_readClause_233 (by decide) ?_
          refine E_iadd C dX11_readClause_234 ?_
          refine E_aload_n C dX11_readClause_235 1 rfl ?_
          refine E_callVI (st := [.int ((v1 + (2 : Int32))), .ref x229]) C [] (mX11_digit v0 μ225) cal_X11_digit vir_X11_digit lk_X11_300 dX11_readClause_236 rfl rfl (Nat.le_of_ble_eq_true rfl) (Nat.le_of_ble_eq_true rfl) (fun x236 μ236 => ?_)
          refine E_iastore C dX11_readClause_239 (fun μ239 => ?_)
          exact E_ret C dX11_readClause_240
        · refine E_ite (fun h43_102 => ?_) (fun h43_102 => ?_)
          · refine E_tabIn (kx := 102) (off := 167) C 210 h43_102 dX11_readClause_43 (by decide +kernel) (by decide) ?_
            refine E_aload_n C dX11_readClause_210 1 rfl ?_
            refine E_getR C F_X11_50 dX11_readClause_211 (fun x211 => ?_)
            refine E_iload_n C dX11_readClause_214 2 rfl ?_
            refine E_iconst C 1 dX11_readClause_215 (by decide) ?_
            refine E_iadd C dX11_readClause_216 ?_
            refine E_aload_n C dX11_readClause_217 1 rfl ?_
            refine E_callVI (st := [.int ((v1 + (1 : Int32))), .ref x211]) C [] (mX11_twoDigits v0 μ39) cal_X11_twoDigits vir_X11_twoDigits lk_X11_310 dX11_readClause_218 rfl rfl (Nat.le_of_ble_eq_true rfl) (Nat.le_of_ble_eq_true rfl) (fun x218 μ218 => ?_)
            refine E_iastore C dX11_readClause_221 (fun μ221 => ?_)
            refine E_aload_n C dX11_readClause_222 1 rfl ?_
            refine E_bipush C 46 dX11_readClause_223 (by decide) ?_
            refine E_callVU (st := []) C [.int ((46 : Int32))] (mX11_must v0 ((46 : Int32)) μ221) cal_X11_must vir_X11_must lk_X11_313 dX11_readClause_225 rfl rfl (Nat.le_of_ble_eq_true rfl) (Nat.le_of_ble_eq_true rfl) (fun _ μ225 => ?_)
            refine E_aload_n C dX11_readClause_228 1 rfl ?_
            refine E_getR C F_X11_50 dX11_readClause_229 (fun x229 => ?_)
            refine E_iload_n C dX11_readClause_232 2 rfl ?_
            refine E_iconst C 2 dX11_readClause_233 (by decide) ?_
            refine E_iadd C dX11_readClause_234 ?_
            refine E_aload_n C dX11_readClause_235 1 rfl ?_
            refine E_callVI (st := [.int ((v1 + (2 : Int32))), .ref x229]) C [] (mX11_digit v0 μ225) cal_X11_digit vir_X11_digit lk_X11_300 dX11_readClause_236 rfl rfl (Nat.le_of_ble_eq_true rfl) (Nat.le_of_ble_eq_true rfl) (fun x236 μ236 => ?_)
            refine E_iastore C dX11_readClause_239 (fun μ239 => ?_)
            exact E_ret C dX11_readClause_240
          · refine E_ite (fun h43_103 => ?_) (fun h43_103 => ?_)
            · refine E_tabIn (kx := 103) (off := 211) C 254 h43_103 dX11_readClause_43 (by decide +kernel) (by decide) ?_
              refine E_aload_n C dX11_readClause_254 1 rfl ?_
              refine E_dup_r C dX11_readClause_255 ?_
              refine E_getI C F_X11_284 dX11_readClause_256 (fun x256 => ?_)
              refine E_iconst C 1 dX11_readClause_259 (by decide) ?_
              refine E_isub C dX11_readClause_260 ?_
              refine E_putI C P_X11_284 dX11_readClause_261 (fun μ261 => ?_)
              refine E_aload_n C dX11_readClause_264 1 rfl ?_
              refine E_callVU (st := []) C [] (mX11_wrong v0 μ261) cal_X11_wrong vir_X11_wrong lk_X11_297 dX11_readClause_265 rfl rfl (Nat.le_of_ble_eq_true rfl) (Nat.le_of_ble_eq_true rfl) (fun _ μ265 => ?_)
              exact E_ret C dX11_readClause_268
            · refine E_ite (fun h43_104 => ?_) (fun h43_104 => ?_)
              · refine E_tabIn (kx := 104) (off := 211) C 254 h43_104 dX11_readClause_43 (by decide +kernel) (by decide) ?_
                refine E_aload_n C dX11_readClause_254 1 rfl ?_
                refine E_dup_r C dX11_readClause_255 ?_
                refine E_getI C F_X11_284 dX11_readClause_256 (fun x256 => ?_)
                refine E_iconst C 1 dX11_readClause_259 (by decide) ?_
                refine E_isub C dX11_readClause_260 ?_
                refine E_putI C P_X11_284 dX11_readClause_261 (fun μ261 => ?_)
                refine E_aload_n C dX11_readClause_264 1 rfl ?_
                refine E_callVU (st := []) C [] (mX11_wrong v0 μ261) cal_X11_wrong vir_X11_wrong lk_X11_297 dX11_readClause_265 rfl rfl (Nat.le_of_ble_eq_true rfl) (Nat.le_of_ble_eq_true rfl) (fun _ μ265 => ?_)
                exact E_ret C dX11_readClause_268
              · refine E_ite (fun h43_105 => ?_) (fun h43_105 => ?_)
                · refine E_tabIn (kx := 105) (off := 211) C 254 h43_105 dX11_readClause_43 (by decide +kernel) (by decide) ?_
                  refine E_aload_n C dX11_readClause_254 1 rfl ?_
                  refine E_dup_r C dX11_readClause_255 ?_
                  refine E_getI C F_X11_284 dX11_readClause_256 (fun x256 => ?_)
                  refine E_iconst C 1 dX11_readClause_259 (by decide) ?_
                  refine E_isub C dX11_readClause_260 ?_
                  refine E_putI C P_X11_284 dX11_readClause_261 (fun μ261 => ?_)
                  refine E_aload_n C dX11_readClause_264 1 rfl ?_
                  refine E_callVU (st := []) C [] (mX11_wrong v0 μ261) cal_X11_wrong vir_X11_wrong lk_X11_297 dX11_readClause_265 rfl rfl (Nat.le_of_ble_eq_true rfl) (Nat.le_of_ble_eq_true rfl) (fun _ μ265 => ?_)
                  exact E_ret C dX11_readClause_268
                · refine E_ite (fun h43_106 => ?_) (fun h43_106 => ?_)
                  · refine E_tabIn (kx := 106) (off := 211) C 254 h43_106 dX11_readClause_43 (by decide +kernel) (by decide) ?_
                    refine E_aload_n C dX11_readClause_254 1 rfl ?_
                    refine E_dup_r C dX11_readClause_255 ?_
                    refine E_getI C F_X11_284 dX11_readClause_256 (fun x256 => ?_)
                    refine E_iconst C 1 dX11_readClause_259 (by decide) ?_
                    refine E_isub C dX11_readClause_260 ?_
                    refine E_putI C P_X11_284 dX11_readClause_261 (fun μ261 => ?_)
                    refine E_aload_n C dX11_readClause_264 1 rfl ?_
                    refine E_callVU (st := []) C [] (mX11_wrong v0 μ261) cal_X11_wrong vir_X11_wrong lk_X11_297 dX11_readClause_265 rfl rfl (Nat.le_of_ble_eq_true rfl) (Nat.le_of_ble_eq_true rfl) (fun _ μ265 => ?_)
                    exact E_ret C dX11_readClause_268
                  · refine E_ite (fun h43_107 => ?_) (fun h43_107 => ?_)
                    · refine E_tabIn (kx := 107) (off := 211) C 254 h43_107 dX11_readClause_43 (by decide +kernel) (by decide) ?_
                      refine E_aload_n C dX11_readClause_254 1 rfl ?_
                      refine E_dup_r C dX11_readClause_255 ?_
                      refine E_getI C F_X11_284 dX11_readClause_256 (fun x256 => ?_)
                      refine E_iconst C 1 dX11_readClause_259 (by decide) ?_
                      refine E_isub C dX11_readClause_260 ?_
                      refine E_putI C P_X11_284 dX11_readClause_261 (fun μ261 => ?_)
                      refine E_aload_n C dX11_readClause_264 1 rfl ?_
                      refine E_callVU (st := []) C [] (mX11_wrong v0 μ261) cal_X11_wrong vir_X11_wrong lk_X11_297 dX11_readClause_265 rfl rfl (Nat.le_of_ble_eq_true rfl) (Nat.le_of_ble_eq_true rfl) (fun _ μ265 => ?_)
                      exact E_ret C dX11_readClause_268
                    · refine E_ite (fun h43_108 => ?_) (fun h43_108 => ?_)
                      · refine E_tabIn (kx := 108) (off := 211) C 254 h43_108 dX11_readClause_43 (by decide +kernel) (by decide) ?_
                        refine E_aload_n C dX11_readClause_254 1 rfl ?_
                        refine E_dup_r C dX11_readClause_255 ?_
                        refine E_getI C F_X11_284 dX11_readClause_256 (fun x256 => ?_)
                        refine E_iconst C 1 dX11_readClause_259 (by decide) ?_
                        refine E_isub C dX11_readClause_260 ?_
                        refine E_putI C P_X11_284 dX11_readClause_261 (fun μ261 => ?_)
                        refine E_aload_n C dX11_readClause_264 1 rfl ?_
                        refine E_callVU (st := []) C [] (mX11_wrong v0 μ261) cal_X11_wrong vir_X11_wrong lk_X11_297 dX11_readClause_265 rfl rfl (Nat.le_of_ble_eq_true rfl) (Nat.le_of_ble_eq_true rfl) (fun _ μ265 => ?_)
                        exact E_ret C dX11_readClause_268
                      · refine E_ite (fun h43_109 => ?_) (fun h43_109 => ?_)
                        · refine E_tabIn (kx := 109) (off := 211) C 254 h43_109 dX11_readClause_43 (by decide +kernel) (by decide) ?_
                          refine E_aload_n C dX11_readClause_254 1 rfl ?_
                          refine E_dup_r C dX11_readClause_255 ?_
                          refine E_getI C F_X11_284 dX11_readClause_256 (fun x256 => ?_)
                          refine E_iconst C 1 dX11_readClause_259 (by decide) ?_
                          refine E_isub C dX11_readClause_260 ?_
                          refine E_putI C P_X11_284 dX11_readClause_261 (fun μ261 => ?_)
                          refine E_aload_n C dX11_readClause_264 1 rfl ?_
                          refine E_callVU (st := []) C [] (mX11_wrong v0 μ261) cal_X11_wrong vir_X11_wrong lk_X11_297 dX11_readClause_265 rfl rfl (Nat.le_of_ble_eq_true rfl) (Nat.le_of_ble_eq_true rfl) (fun _ μ265 => ?_)
                          exact E_ret C dX11_readClause_268
                        · refine E_ite (fun h43_110 => ?_) (fun h43_110 => ?_)
                          · refine E_tabIn (kx := 110) (off := 211) C 254 h43_110 dX11_readClause_43 (by decide +kernel) (by decide) ?_
                            refine E_aload_n C dX11_readClause_254 1 rfl ?_
                            refine E_dup_r C dX11_readClause_255 ?_
                            refine E_getI C F_X11_284 dX11_readClause_256 (fun x256 => ?_)
                            refine E_iconst C 1 dX11_readClause_259 (by decide) ?_
                            refine E_isub C dX11_readClause_260 ?_
                            refine E_putI C P_X11_284 dX11_readClause_261 (fun μ261 => ?_)
                            refine E_aload_n C dX11_readClause_264 1 rfl ?_
                            refine E_callVU (st := []) C [] (mX11_wrong v0 μ261) cal_X11_wrong vir_X11_wrong lk_X11_297 dX11_readClause_265 rfl rfl (Nat.le_of_ble_eq_true rfl) (Nat.le_of_ble_eq_true rfl) (fun _ μ265 => ?_)
                            exact E_ret C dX11_readClause_268
                          · refine E_ite (fun h43_111 => ?_) (fun h43_111 => ?_)
                            · refine E_tabIn (kx := 111) (off := 211) C 254 h43_111 dX11_readClause_43 (by decide +kernel) (by decide) ?_
                              refine E_aload_n C dX11_readClause_254 1 rfl ?_
                              refine E_dup_r C dX11_readClause_255 ?_
                              refine E_getI C F_X11_284 dX11_readClause_256 (fun x256 => ?_)
                              refine E_iconst C 1 dX11_readClause_259 (by decide) ?_
                              refine E_isub C dX11_readClause_260 ?_
                              refine E_putI C P_X11_284 dX11_readClause_261 (fun μ261 => ?_)
                              refine E_aload_n C dX11_readClause_264 1 rfl ?_
                              refine E_callVU (st := []) C [] (mX11_wrong v0 μ261) cal_X11_wrong vir_X11_wrong lk_X11_297 dX11_readClause_265 rfl rfl (Nat.le_of_ble_eq_true rfl) (Nat.le_of_ble_eq_true rfl) (fun _ μ265 => ?_)
                              exact E_ret C dX11_readClause_268
                            · refine E_ite (fun h43_112 => ?_) (fun h43_112 => ?_)
                              · refine E_tabIn (kx := 112) (off := 158) C 201 h43_112 dX11_readClause_43 (by decide +kernel) (by decide) ?_
                                refine E_aload_n C dX11_readClause_201 1 rfl ?_
                                refine E_iload_n C dX11_readClause_202 2 rfl ?_
                                refine E_iconst C 1 dX11_readClause_203 (by decide) ?_
                                refine E_iadd C dX11_readClause_204 ?_
                                refine E_iconst C 4 dX11_readClause_205 (by decide) ?_
                                refine E_callVU (st := []) C [.int ((v1 + (1 : Int32))), .int ((4 : Int32))] (mX11_digits v0 ((v1 + (1 : Int32))) ((4 : Int32)) μ39) cal_X11_digits vir_X11_digits lk_X11_307 dX11_readClause_206 rfl rfl (Nat.le_of_ble_eq_true rfl) (Nat.le_of_ble_eq_true rfl) (fun _ μ206 => ?_)
                                exact E_ret C dX11_readClause_209
                              · refine E_ite (fun h43_113 => ?_) (fun h43_113 => ?_)
                                · refine E_tabIn (kx := 113) (off := 131) C 174 h43_113 dX11_readClause_43 (by decide +kernel) (by decide) ?_
                                  refine E_aload_n C dX11_readClause_174 1 rfl ?_
                                  refine E_getR C F_X11_50 dX11_readClause_175 (fun x175 => ?_)
                                  refine E_iload_n C dX11_readClause_178 2 rfl ?_
                                  refine E_iconst C 1 dX11_readClause_179 (by decide) ?_
                                  refine E_iadd C dX11_readClause_180 ?_
                                  refine E_aload_n C dX11_readClause_181 1 rfl ?_
                                  refine E_callVI (st := [.int ((v1 + (1 : Int32))), .ref x175]) C [] (mX11_twoDigits v0 μ39) cal_X11_twoDigits vir_X11_twoDigits lk_X11_310 dX11_readClause_182 rfl rfl (Nat.le_of_ble_eq_true rfl) (Nat.le_of_ble_eq_true rfl) (fun x182 μ182 => ?_)
                                  refine E_iastore C dX11_readClause_185 (fun μ185 => ?_)
                                  refine E_aload_n C dX11_readClause_186 1 rfl ?_
                                  refine E_bipush C 46 dX11_readClause_187 (by decide) ?_
                                  refine E_callVU (st := []) C [.int ((46 : Int32))] (mX11_must v0 ((46 : Int32)) μ185) cal_X11_must vir_X11_must lk_X11_313 dX11_readClause_189 rfl rfl (Nat.le_of_ble_eq_true rfl) (Nat.le_of_ble_eq_true rfl) (fun _ μ189 => ?_)
                                  refine E_aload_n C dX11_readClause_192 1 rfl ?_
                                  refine E_iload_n C dX11_readClause_193 2 rfl ?_
                                  refine E_iconst C 2 dX11_readClause_194 (by decide) ?_
                                  refine E_iadd C dX11_readClause_195 ?_
                                  refine E_iconst C 3 dX11_readClause_196 (by decide) ?_
                                  refine E_callVU (st := []) C [.int ((v1 + (2 : Int32))), .int ((3 : Int32))] (mX11_digits v0 ((v1 + (2 : Int32))) ((3 : Int32)) μ189) cal_X11_digits vir_X11_digits lk_X11_307 dX11_readClause_197 rfl rfl (Nat.le_of_ble_eq_true rfl) (Nat.le_of_ble_eq_true rfl) (fun _ μ197 => ?_)
                                  exact E_ret C dX11_readClause_200
                                · refine E_tabOut C 254 dX11_readClause_43 (by have q0 := i32_ne h43_99 (n := 99) rfl; have q1 := i32_ne h43_100 (n := 100) rfl; have q2 := i32_ne h43_101 (n := 101) rfl; have q3 := i32_ne h43_102 (n := 102) rfl; have q4 := i32_ne h43_103 (n := 103) rfl; have q5 := i32_ne h43_104 (n := 104) rfl; have q6 := i32_ne h43_105 (n := 105) rfl; have q7 := i32_ne h43_106 (n := 106) rfl; have q8 := i32_ne h43_107 (n := 107) rfl; have q9 := i32_ne h43_108 (n := 108) rfl; have q10 := i32_ne h43_109 (n := 109) rfl; have q11 := i32_ne h43_110 (n := 110) rfl; have q12 := i32_ne h43_111 (n := 111) rfl; have q13 := i32_ne h43_112 (n := 112) rfl; have q14 := i32_ne h43_113 (n := 113) rfl; omega) (by decide) ?_
                                  refine E_aload_n C dX11_readClause_254 1 rfl ?_
                                  refine E_dup_r C dX11_readClause_255 ?_
                                  refine E_getI C F_X11_284 dX11_readClause_256 (fun x256 => ?_)
                                  refine E_iconst C 1 dX11_readClause_259 (by decide) ?_
                                  refine E_isub C dX11_readClause_260 ?_
                                  refine E_putI C P_X11_284 dX11_readClause_261 (fun μ261 => ?_)
                                  refine E_aload_n C dX11_readClause_264 1 rfl ?_
                                  refine E_callVU (st := []) C [] (mX11_wrong v0 μ261) cal_X11_wrong vir_X11_wrong lk_X11_297 dX11_readClause_265 rfl rfl (Nat.le_of_ble_eq_true rfl) (Nat.le_of_ble_eq_true rfl) (fun _ μ265 => ?_)
                                  exact E_ret C dX11_readClause_268
  · refine E_icmp_ge C 23 dX11_readClause_8 (by decide) ?_ ?_
    · refine E_iconst C (-1) dX11_readClause_23 (by decide) ?_
      exact E_pick [0, 1] rfl (hj24 ((-1 : Int32)) μ)
    · refine E_at (pc2 := 11) rfl ?_
      refine E_aload_n C dX11_readClause_11 0 rfl ?_
      refine E_getR C F_X11_46 dX11_readClause_12 (fun x12 => ?_)
      refine E_aload_n C dX11_readClause_15 0 rfl ?_
      refine E_getI C F_X11_284 dX11_readClause_16 (fun x16 => ?_)
      refine E_baload C dX11_readClause_19 (fun x19 => ?_)
      refine E_goto C 24 dX11_readClause_20 (by decide) ?_
      exact E_pick [0, 1] rfl (hj24 x19 μ)
def X11_isDone_L215 (G : Mem → Option (Int32 × Mem)) (v0 : Nat) (v1 : Int32) (v2 : Int32) : Nat → Int32 → Mem → Option (Int32 × Mem)
  | 0, _, _ => none
  | n + 1, v3, μ => if (3 : Int32) ≤ v3 then (G μ) else ((gR μ v0 11 0).bind fun x221 => (gR μ v0 11 32).bind fun x233 => (aI μ 0 x233 (((v1 + (2 : Int32)) + v3))).bind fun x241 => (sI μ x221 ((((40 : Int32) + ((3 : Int32) * v2)) + v3)) x241).bind fun μ242 => X11_isDone_L215 G v0 v1 v2 n ((v3 + 1)) μ242)
set_option maxHeartbeats 4000000 in
set_option maxRecDepth 100000 in
theorem X11_isDone_L215_ok {p : Program} {l : Launch} {e : Env} {R : Room} {s : State} {m : MethodId} {args : Array Value} {below : List Frame} {meth : Method} {c : Code} {D : va_G} {ca : Nat → ClassId} {ad : Nat → Nat} {A : Nat → Prop} {X : State → Prop} (C : CX p R s m args meth c D ca ad A X cX11_isDone RX11 4 (some .boolean) 3) {G : Mem → Option (Int32 × Mem)} (v0 : Nat) (v1 : Int32) (v2 : Int32) (hG : ∀  (μx : Mem), Sm p l e R s m args below meth c D ca ad A 4 0 0 wI (KQ below args s D ca ad A) 249 [] [] μx (G  μx)) : ∀ (n : Nat) (v3 : Int32) (μ : Mem), Sm p l e R s m args below meth c D ca ad A 4 0 0 wI (KQ below args s D ca ad A) 215 [(0, .ref v0), (1, .int v1), (2, .int v2), (3, .int v3)] [] μ (X11_isDone_L215 G v0 v1 v2 n v3 μ) := by
  intro n
  induction n with
  | zero =>
    intro v3 μ
    rw [X11_isDone_L215]
    exact E_none
  | succ n ih =>
    intro v3 μ
    rw [X11_isDone_L215]
    refine E_iload_n C dX11_isDone_215 3 rfl ?_
    refine E_iconst C 3 dX11_isDone_216 (by decide) ?_
    refine E_icmp_ge C 249 dX11_isDone_217 (by decide) ?_ ?_
    · exact E_pick [] rfl (hG μ)
    · refine E_at (pc2 := 220) rfl ?_
      refine E_aload_n C dX11_isDone_220 0 rfl ?_
      refine E_getR C F_X11_11 dX11_isDone_221 (fun x221 => ?_)
      refine E_bipush C 40 dX11_isDone_224 (by decide) ?_
      refine E_iconst C 3 dX11_isDone_226 (by decide) ?_
      refine E_iload_n C dX11_isDone_227 2 rfl ?_
      refine E_imul C dX11_isDone_228 ?_
      refine E_iadd C dX11_isDone_229 ?_
      refine E_iload_n C dX11_isDone_230 3 rfl ?_
      refine E_iadd C dX11_isDone_231 ?_
      refine E_aload_n C dX11_isDone_232 0 rfl ?_
      refine E_getR C F_X11_50 dX11_isDone_233 (fun x233 => ?_)
      refine E_iload_n C dX11_isDone_236 1 rfl ?_
      refine E_iconst C 2 dX11_isDone_237 (by decide) ?_
      refine E_iadd C dX11_isDone_238 ?_
      refine E_iload_n C dX11_isDone_239 3 rfl ?_
      refine E_iadd C dX11_isDone_240 ?_
      refine E_iaload C dX11_isDone_241 (fun x241 => ?_)
      refine E_iastore C dX11_isDone_242 (fun μ242 => ?_)
      refine E_iinc (lv' := [(3, .int ((v3 + 1))), (0, .ref v0), (1, .int v1), (2, .int v2)]) C (v3 + 1) dX11_isDone_243 3 rfl rfl (by decide) rfl ?_
      refine E_goto C 215 dX11_isDone_246 (by decide) ?_
      exact E_pick [1, 2, 3, 0] rfl (ih ((v3 + 1)) μ242)
def fX11_isDone (v0 : Nat) (v1 : Int32) (μ : Mem) : Option (Int32 × Mem) :=
  (gR μ v0 11 32).bind fun x1 => (aI μ 0 x1 ((v1 + (1 : Int32)))).bind fun x7 => (gR μ v0 11 32).bind fun x10 => (aI μ 0 x10 v1).bind fun x14 => if x14 = 99 then ((isC μ v0 11).bind fun _ => bd (fX11_put v0 ((0 : Int32)) x7 μ) fun x254 μ254 => if x254 < 0 then ((zz ((0 : Int32))).bind fun z => some (z, μ254)) else ((zz ((1 : Int32))).bind fun z => some (z, μ254))) else if x14 = 100 then ((gR μ v0 11 32).bind fun x59 => (aI μ 0 x59 ((v1 + (2 : Int32)))).bind fun x65 => (gR μ v0 11 32).bind fun x67 => (aI μ 0 x67 ((v1 + (3 : Int32)))).bind fun x73 => (gR μ v0 11 32).bind fun x75 => (aI μ 0 x75 ((v1 + (4 : Int32)))).bind fun x81 => (gR μ v0 11 32).bind fun x83 => (aI μ 0 x83 ((v1 + (5 : Int32)))).bind fun x89 => (gR μ v0 11 32).bind fun x91 => (aI μ 0 x91 ((v1 + (6 : Int32)))).bind fun x98 => (isC μ v0 11).bind fun _ => bd (fX11_demand v0 x7 x65 x73 x81 x89 x98 μ) fun x99 μ99 => if x99 < 0 then ((zz ((0 : Int32))).bind fun z => some (z, μ99)) else ((zz ((1 : Int32))).bind fun z => some (z, μ99))) else if x14 = 112 then (bd (fX11_isState x7 μ) fun x176 μ176 => if x176 = 0 then ((zz ((0 : Int32))).bind fun z => some (z, μ176)) else ((gR μ176 v0 11 32).bind fun x183 => (aI μ176 0 x183 ((v1 + (2 : Int32)))).bind fun x189 => (gR μ176 v0 11 32).bind fun x191 => (aI μ176 0 x191 ((v1 + (3 : Int32)))).bind fun x197 => (gR μ176 v0 11 32).bind fun x200 => (aI μ176 0 x200 ((v1 + (4 : Int32)))).bind fun x206 => if ((x189 + x197) + x206) = 0 then ((zz ((0 : Int32))).bind fun z => some (z, μ176)) else (X11_isDone_L215 (fun μ_249 => (zz ((1 : Int32))).bind fun z => some (z, μ_249)) v0 v1 x7 FU ((0 : Int32)) μ176))) else if x14 = 113 then (bd (fX11_isMonth x7 μ) fun x112 μ112 => if x112 = 0 then ((zz ((0 : Int32))).bind fun z => some (z, μ112)) else ((gR μ112 v0 11 32).bind fun x122 => (aI μ112 0 x122 ((v1 + (2 : Int32)))).bind fun x128 => (isC μ112 v0 11).bind fun _ => bd (fX11_inflow v0 x7 ((0 : Int32)) x128 μ112) fun x129 μ129 => if x129 < 0 then ((zz ((0 : Int32))).bind fun z => some (z, μ129)) else ((gR μ129 v0 11 32).bind fun x139 => (aI μ129 0 x139 ((v1 + (3 : Int32)))).bind fun x145 => (isC μ129 v0 11).bind fun _ => bd (fX11_inflow v0 x7 ((1 : Int32)) x145 μ129) fun x146 μ146 => if x146 < 0 then ((zz ((0 : Int32))).bind fun z => some (z, μ146)) else ((gR μ146 v0 11 32).bind fun x156 => (aI μ146 0 x156 ((v1 + (4 : Int32)))).bind fun x162 => (isC μ146 v0 11).bind fun _ => bd (fX11_inflow v0 x7 ((2 : Int32)) x162 μ146) fun x163 μ163 => if x163 < 0 then ((zz ((0 : Int32))).bind fun z => some (z, μ163)) else ((zz ((1 : Int32))).bind fun z => some (z, μ163)))))) else ((gR μ v0 11 32).bind fun x269 => (aI μ 0 x269 v1).bind fun x273 => jn (fun (s2_284 : Int32) (μ_284 : Mem) => (gR μ_284 v0 11 32).bind fun x285 => (aI μ_284 0 x285 ((v1 + (2 : Int32)))).bind fun x291 => (isC μ_284 v0 11).bind fun _ => bd (fX11_month v0 x7 s2_284 x291 μ_284) fun x292 μ292 => if x292 < 0 then ((zz ((0 : Int32))).bind fun z => some (z, μ292)) else ((zz ((1 : Int32))).bind fun z => some (z, μ292))) (fun j284 => if x273 = (101 : Int32) then (j284 ((0 : Int32)) μ) else (j284 ((1 : Int32)) μ)))
set_option maxHeartbeats 4000000 in
set_option maxRecDepth 100000 in
theorem mX11_isDone (v0 : Nat) (v1 : Int32) (μ : Mem) : Meth wI yX11_isDone cX11_isDone 4 (some .boolean) 3 [.ref v0, .int v1] μ (fX11_isDone v0 v1 μ) := by
  refine Meth.of (by decide) [(0, .ref v0), (1, .int v1)] rfl (Nat.le_of_ble_eq_true rfl) ?_
  intro p l e R s m args below meth c D ca ad A X C
  have C : CX p R s m args meth c D ca ad A X cX11_isDone RX11 4 (some .boolean) 3 := C
  unfold fX11_isDone
  refine E_aload_n C dX11_isDone_0 0 rfl ?_
  refine E_getR C F_X11_50 dX11_isDone_1 (fun x1 => ?_)
  refine E_iload_n C dX11_isDone_4 1 rfl ?_
  refine E_iconst C 1 dX11_isDone_5 (by decide) ?_
  refine E_iadd C dX11_isDone_6 ?_
  refine E_iaload C dX11_isDone_7 (fun x7 => ?_)
  refine E_istore_n (lv' := [(2, .int x7), (0, .ref v0), (1, .int v1)]) C dX11_isDone_8 (by decide) rfl ?_
  refine E_aload_n C dX11_isDone_9 1 rfl ?_
  refine E_getR C F_X11_50 dX11_isDone_10 (fun x10 => ?_)
  refine E_iload_n C dX11_isDone_13 2 rfl ?_
  refine E_iaload C dX11_isDone_14 (fun x14 => ?_)
  refine E_ite (fun h15_99 => ?_) (fun h15_99 => ?_)
  · refine E_lookup (off := 236) C 251 dX11_isDone_15 (by decide +kernel) (by rw [h15_99]; decide +kernel) (by decide) ?_
    refine E_aload_n C dX11_isDone_251 1 rfl ?_
    refine E_iconst C 0 dX11_isDone_252 (by decide) ?_
    refine E_iload_n C dX11_isDone_253 0 rfl ?_
    refine E_callVI (st := []) C [.int ((0 : Int32)), .int x7] (mX11_put v0 ((0 : Int32)) x7 μ) cal_X11_put vir_X11_put lk_X11_323 dX11_isDone_254 rfl rfl (Nat.le_of_ble_eq_true rfl) (Nat.le_of_ble_eq_true rfl) (fun x254 μ254 => ?_)
    refine E_if_lt C 264 dX11_isDone_257 (by decide) ?_ ?_
    · refine E_iconst C 0 dX11_isDone_264 (by decide) ?_
      exact E_zret C dX11_isDone_265
    · refine E_at (pc2 := 260) rfl ?_
      refine E_iconst C 1 dX11_isDone_260 (by decide) ?_
      refine E_goto C 265 dX11_isDone_261 (by decide) ?_
      exact E_zret C dX11_isDone_265
  · refine E_ite (fun h15_100 => ?_) (fun h15_100 => ?_)
    · refine E_lookup (off := 41) C 56 dX11_isDone_15 (by decide +kernel) (by rw [h15_100]; decide +kernel) (by decide) ?_
      refine E_aload_n C dX11_isDone_56 1 rfl ?_
      refine E_iload_n C dX11_isDone_57 0 rfl ?_
      refine E_aload_n C dX11_isDone_58 1 rfl ?_
      refine E_getR C F_X11_50 dX11_isDone_59 (fun x59 => ?_)
      refine E_iload_n C dX11_isDone_62 2 rfl ?_
      refine E_iconst C 2 dX11_isDone_63 (by decide) ?_
      refine E_iadd C dX11_isDone_64 ?_
      refine E_iaload C dX11_isDone_65 (fun x65 => ?_)
      refine E_aload_n C dX11_isDone_66 1 rfl ?_
      refine E_getR C F_X11_50 dX11_isDone_67 (fun x67 => ?_)
      refine E_iload_n C dX11_isDone_70 2 rfl ?_
      refine E_iconst C 3 dX11_isDone_71 (by decide) ?_
      refine E_iadd C dX11_isDone_72 ?_
      refine E_iaload C dX11_isDone_73 (fun x73 => ?_)
      refine E_aload_n C dX11_isDone_74 1 rfl ?_
      refine E_getR C F_X11_50 dX11_isDone_75 (fun x75 => ?_)
      refine E_iload_n C dX11_isDone_78 2 rfl ?_
      refine E_iconst C 4 dX11_isDone_79 (by decide) ?_
      refine E_iadd C dX11_isDone_80 ?_
      refine E_iaload C dX11_isDone_81 (fun x81 => ?_)
      refine E_aload_n C dX11_isDone_82 1 rfl ?_
      refine E_getR C F_X11_50 dX11_isDone_83 (fun x83 => ?_)
      refine E_iload_n C dX11_isDone_86 2 rfl ?_
      refine E_iconst C 5 dX11_isDone_87 (by decide) ?_
      refine E_iadd C dX11_isDone_88 ?_
      refine E_iaload C dX11_isDone_89 (fun x89 => ?_)
      refine E_aload_n C dX11_isDone_90 1 rfl ?_
      refine E_getR C F_X11_50 dX11_isDone_91 (fun x91 => ?_)
      refine E_iload_n C dX11_isDone_94 2 rfl ?_
      refine E_bipush C 6 dX11_isDone_95 (by decide) ?_
      refine E_iadd C dX11_isDone_97 ?_
      refine E_iaload C dX11_isDone_98 (fun x98 => ?_)
      refine E_callVI (st := []) C [.int x7, .int x65, .int x73, .int x81, .int x89, .int x98] (mX11_demand v0 x7 x65 x73 x81 x89 x98 μ) cal_X11_demand vir_X11_demand lk_X11_316 dX11_isDone_99 rfl rfl (Nat.le_of_ble_eq_true rfl) (Nat.le_of_ble_eq_true rfl) (fun x99 μ99 => ?_)
      refine E_if_lt C 109 dX11_isDone_102 (by decide) ?_ ?_
      · refine E_iconst C 0 dX11_isDone_109 (by decide) ?_
        exact E_zret C dX11_isDone_110
      · refine E_at (pc2 := 105) rfl ?_
        refine E_iconst C 1 dX11_isDone_105 (by decide) ?_
        refine E_goto C 110 dX11_isDone_106 (by decide) ?_
        exact E_zret C dX11_isDone_110
    · refine E_ite (fun h15_112 => ?_) (fun h15_112 => ?_)
      · refine E_lookup (off := 160) C 175 dX11_isDone_15 (by decide +kernel) (by rw [h15_112]; decide +kernel) (by decide) ?_
        refine E_iload_n C dX11_isDone_175 0 rfl ?_
        refine E_callSI (st := []) C [.int x7] (mX11_isState x7 μ) cal_X11_isState st_X11_isState lk_X11_87 dX11_isDone_176 rfl rfl (Nat.le_of_ble_eq_true rfl) (Nat.le_of_ble_eq_true rfl) (fun x176 μ176 => ?_)
        refine E_if_eq C 211 dX11_isDone_179 (by decide) ?_ ?_
        · refine E_iconst C 0 dX11_isDone_211 (by decide) ?_
          exact E_zret C dX11_isDone_212
        · refine E_at (pc2 := 182) rfl ?_
          refine E_aload_n C dX11_isDone_182 1 rfl ?_
          refine E_getR C F_X11_50 dX11_isDone_183 (fun x183 => ?_)
          refine E_iload_n C dX11_isDone_186 2 rfl ?_
          refine E_iconst C 2 dX11_isDone_187 (by decide) ?_
          refine E_iadd C dX11_isDone_188 ?_
          refine E_iaload C dX11_isDone_189 (fun x189 => ?_)
          refine E_aload_n C dX11_isDone_190 1 rfl ?_
          refine E_getR C F_X11_50 dX11_isDone_191 (fun x191 => ?_)
          refine E_iload_n C dX11_isDone_194 2 rfl ?_
          refine E_iconst C 3 dX11_isDone_195 (by decide) ?_
          refine E_iadd C dX11_isDone_196 ?_
          refine E_iaload C dX11_isDone_197 (fun x197 => ?_)
          refine E_iadd C dX11_isDone_198 ?_
          refine E_aload_n C dX11_isDone_199 1 rfl ?_
          refine E_getR C F_X11_50 dX11_isDone_200 (fun x200 => ?_)
          refine E_iload_n C dX11_isDone_203 2 rfl ?_
          refine E_iconst C 4 dX11_isDone_204 (by decide) ?_
          refine E_iadd C dX11_isDone_205 ?_
          refine E_iaload C dX11_isDone_206 (fun x206 => ?_)
          refine E_iadd C dX11_isDone_207 ?_
          refine E_if_ne C 213 dX11_isDone_208 (by decide) ?_ ?_
          · refine E_iconst C 0 dX11_isDone_213 (by decide) ?_
            refine E_istore_n (lv' := [(3, .int ((0 : Int32))), (2, .int x7), (0, .ref v0), (1, .int v1)]) C dX11_isDone_214 (by decide) rfl ?_
            refine E_at (pc2 := 215) rfl ?_
            refine E_pick (lv' := [(0, .ref v0), (1, .int v1), (2, .int x7), (3, .int ((0 : Int32)))]) [2, 3, 1, 0] rfl ?_
            refine X11_isDone_L215_ok C v0 v1 x7 (fun μ_249 => ?_) FU ((0 : Int32)) μ176
            refine E_iconst C 1 dX11_isDone_249 (by decide) ?_
            exact E_zret C dX11_isDone_250
          · refine E_at (pc2 := 211) rfl ?_
            refine E_iconst C 0 dX11_isDone_211 (by decide) ?_
            exact E_zret C dX11_isDone_212
      · refine E_ite (fun h15_113 => ?_) (fun h15_113 => ?_)
        · refine E_lookup (off := 96) C 111 dX11_isDone_15 (by decide +kernel) (by rw [h15_113]; decide +kernel) (by decide) ?_
          refine E_iload_n C dX11_isDone_111 0 rfl ?_
          refine E_callSI (st := []) C [.int x7] (mX11_isMonth x7 μ) cal_X11_isMonth st_X11_isMonth lk_X11_83 dX11_isDone_112 rfl rfl (Nat.le_of_ble_eq_true rfl) (Nat.le_of_ble_eq_true rfl) (fun x112 μ112 => ?_)
          refine E_if_eq C 173 dX11_isDone_115 (by decide) ?_ ?_
          · refine E_iconst C 0 dX11_isDone_173 (by decide) ?_
            exact E_zret C dX11_isDone_174
          · refine E_at (pc2 := 118) rfl ?_
            refine E_aload_n C dX11_isDone_118 1 rfl ?_
            refine E_iload_n C dX11_isDone_119 0 rfl ?_
            refine E_iconst C 0 dX11_isDone_120 (by decide) ?_
            refine E_aload_n C dX11_isDone_121 1 rfl ?_
            refine E_getR C F_X11_50 dX11_isDone_122 (fun x122 => ?_)
            refine E_iload_n C dX11_isDone_125 2 rfl ?_
            refine E_iconst C 2 dX11_isDone_126 (by decide) ?_
            refine E_iadd C dX11_isDone_127 ?_
            refine E_iaload C dX11_isDone_128 (fun x128 => ?_)
            refine E_callVI (st := []) C [.int x7, .int ((0 : Int32)), .int x128] (mX11_inflow v0 x7 ((0 : Int32)) x128 μ112) cal_X11_inflow vir_X11_inflow lk_X11_320 dX11_isDone_129 rfl rfl (Nat.le_of_ble_eq_true rfl) (Nat.le_of_ble_eq_true rfl) (fun x129 μ129 => ?_)
            refine E_if_lt C 173 dX11_isDone_132 (by decide) ?_ ?_
            · refine E_iconst C 0 dX11_isDone_173 (by decide) ?_
              exact E_zret C dX11_isDone_174
            · refine E_at (pc2 := 135) rfl ?_
              refine E_aload_n C dX11_isDone_135 1 rfl ?_
              refine E_iload_n C dX11_isDone_136 0 rfl ?_
              refine E_iconst C 1 dX11_isDone_137 (by decide) ?_
              refine E_aload_n C dX11_isDone_138 1 rfl ?_
              refine E_getR C F_X11_50 dX11_isDone_139 (fun x139 => ?_)
              refine E_iload_n C dX11_isDone_142 2 rfl ?_
              refine E_iconst C 3 dX11_isDone_143 (by decide) ?_
              refine E_iadd C dX11_isDone_144 ?_
              refine E_iaload C dX11_isDone_145 (fun x145 => ?_)
              refine E_callVI (st := []) C [.int x7, .int ((1 : Int32)), .int x145] (mX11_inflow v0 x7 ((1 : Int32)) x145 μ129) cal_X11_inflow vir_X11_inflow lk_X11_320 dX11_isDone_146 rfl rfl (Nat.le_of_ble_eq_true rfl) (Nat.le_of_ble_eq_true rfl) (fun x146 μ146 => ?_)
              refine E_if_lt C 173 dX11_isDone_149 (by decide) ?_ ?_
              · refine E_iconst C 0 dX11_isDone_173 (by decide) ?_
                exact E_zret C dX11_isDone_174
              · refine E_at (pc2 := 152) rfl ?_
                refine E_aload_n C dX11_isDone_152 1 rfl ?_
                refine E_iload_n C dX11_isDone_153 0 rfl ?_
                refine E_iconst C 2 dX11_isDone_154 (by decide) ?_
                refine E_aload_n C dX11_isDone_155 1 rfl ?_
                refine E_getR C F_X11_50 dX11_isDone_156 (fun x156 => ?_)
                refine E_iload_n C dX11_isDone_159 2 rfl ?_
                refine E_iconst C 4 dX11_isDone_160 (by decide) ?_
                refine E_iadd C dX11_isDone_161 ?_
                refine E_iaload C dX11_isDone_162 (fun x162 => ?_)
                refine E_callVI (st := []) C [.int x7, .int ((2 : Int32)), .int x162] (mX11_inflow v0 x7 ((2 : Int32)) x162 μ146) cal_X11_inflow vir_X11_inflow lk_X11_320 dX11_isDone_163 rfl rfl (Nat.le_of_ble_eq_true rfl) (Nat.le_of_ble_eq_true rfl) (fun x163 μ163 => ?_)
                refine E_if_lt C 173 dX11_isDone_166 (by decide) ?_ ?_
                · refine E_iconst C 0 dX11_isDone_173 (by decide) ?_
                  exact E_zret C dX11_isDone_174
                · refine E_at (pc2 := 169) rfl ?_
                  refine E_iconst C 1 dX11_isDone_169 (by decide) ?_
                  refine E_goto C 174 dX11_isDone_170 (by decide) ?_
                  exact E_zret C dX11_isDone_174
        · refine E_lookup (off := 251) C 266 dX11_isDone_15 (by decide +kernel) (by simp [Op.lookupswitch.offset, Ne.symm (i32_ne h15_99 (n := 99) rfl), Ne.symm (i32_ne h15_100 (n := 100) rfl), Ne.symm (i32_ne h15_112 (n := 112) rfl), Ne.symm (i32_ne h15_113 (n := 113) rfl)]) (by decide) ?_
          refine E_aload_n C dX11_isDone_266 1 rfl ?_
          refine E_iload_n C dX11_isDone_267 0 rfl ?_
          refine E_aload_n C dX11_isDone_268 1 rfl ?_
          refine E_getR C F_X11_50 dX11_isDone_269 (fun x269 => ?_)
          refine E_iload_n C dX11_isDone_272 2 rfl ?_
          refine E_iaload C dX11_isDone_273 (fun x273 => ?_)
          refine E_bipush C 101 dX11_isDone_274 (by decide) ?_
          refine E_jn (fun j284 => ∀ (s2_284 : Int32) (μ_284 : Mem), Sm p l e R s m args below meth c D ca ad A 4 0 0 wI (KQ below args s D ca ad A) 284 [(0, .ref v0), (1, .int v1)] [.int s2_284, .int x7, .ref v0] μ_284 (j284 s2_284 μ_284)) ?_ (fun j284 hj284 => ?_)
          · intro s2_284 μ_284
            refine E_aload_n C dX11_isDone_284 0 rfl ?_
            refine E_getR C F_X11_50 dX11_isDone_285 (fun x285 => ?_)
            refine E_iload_n C dX11_isDone_288 1 rfl ?_
            refine E_iconst C 2 dX11_isDone_289 (by decide) ?_
            refine E_iadd C dX11_isDone_290 ?_
            refine E_iaload C dX11_isDone_291 (fun x291 => ?_)
            refine E_callVI (st := []) C [.int x7, .int s2_284, .int x291] (mX11_month v0 x7 s2_284 x291 μ_284) cal_X11_month vir_X11_month lk_X11_326 dX11_isDone_292 rfl rfl (Nat.le_of_ble_eq_true rfl) (Nat.le_of_ble_eq_true rfl) (fun x292 μ292 => ?_)
            refine E_if_lt C 302 dX11_isDone_295 (by decide) ?_ ?_
            · refine E_iconst C 0 dX11_isDone_302 (by decide) ?_
              exact E_zret C dX11_isDone_303
            · refine E_at (pc2 := 298) rfl ?_
              refine E_iconst C 1 dX11_isDone_298 (by decide) ?_
              refine E_goto C 303 dX11_isDone_299 (by decide) ?_
              exact E_zret C dX11_isDone_303
          · refine E_icmp_ne C 283 dX11_isDone_276 (by decide) ?_ ?_
            · refine E_iconst C 1 dX11_isDone_283 (by decide) ?_
              exact E_pick [1, 2] rfl (hj284 ((1 : Int32)) μ)
            · refine E_at (pc2 := 279) rfl ?_
              refine E_iconst C 0 dX11_isDone_279 (by decide) ?_
              refine E_goto C 284 dX11_isDone_280 (by decide) ?_
              exact E_pick [1, 2] rfl (hj284 ((0 : Int32)) μ)
def X11_read_L17 (G : Int32 → Mem → Option (Int32 × Mem)) (v0 : Nat) : Nat → Int32 → Mem → Option (Int32 × Mem)
  | 0, _, _ => none
  | n + 1, v1, μ => if (12 : Int32) ≤ v1 then (G v1 μ) else ((isC μ v0 11).bind fun _ => bd (fX11_takes v0 ((59 : Int32)) μ) fun x26 μ26 => if x26 = 0 then (G v1 μ26) else ((isC μ26 v0 11).bind fun _ => bd (fX11_readClause v0 (((7 : Int32) * v1)) μ26) fun _ μ37 => X11_read_L17 G v0 n ((v1 + 1)) μ37))
set_option maxHeartbeats 4000000 in
set_option maxRecDepth 100000 in
theorem X11_read_L17_ok {p : Program} {l : Launch} {e : Env} {R : Room} {s : State} {m : MethodId} {args : Array Value} {below : List Frame} {meth : Method} {c : Code} {D : va_G} {ca : Nat → ClassId} {ad : Nat → Nat} {A : Nat → Prop} {X : State → Prop} (C : CX p R s m args meth c D ca ad A X cX11_read RX11 4 (some .int) 5) {G : Int32 → Mem → Option (Int32 × Mem)} (v0 : Nat) (hG : ∀ (v1x : Int32) (μx : Mem), Sm p l e R s m args below meth c D ca ad A 4 0 0 wI (KQ below args s D ca ad A) 46 [(0, .ref v0), (1, .int v1x)] [] μx (G v1x μx)) : ∀ (n : Nat) (v1 : Int32) (μ : Mem), Sm p l e R s m args below meth c D ca ad A 4 0 0 wI (KQ below args s D ca ad A) 17 [(0, .ref v0), (1, .int v1)] [] μ (X11_read_L17 G v0 n v1 μ) := by
  intro n
  induction n with
  | zero =>
    intro v1 μ
    rw [X11_read_L17]
    exact E_none
  | succ n ih =>
    intro v1 μ
    rw [X11_read_L17]
    refine E_iload_n C dX11_read_17 1 rfl ?_
    refine E_bipush C 12 dX11_read_18 (by decide) ?_
    refine E_icmp_ge C 46 dX11_read_20 (by decide) ?_ ?_
    · exact E_pick [0, 1] rfl (hG v1 μ)
    · refine E_at (pc2 := 23) rfl ?_
      refine E_aload_n C dX11_read_23 0 rfl ?_
      refine E_bipush C 59 dX11_read_24 (by decide) ?_
      refine E_callVI (st := []) C [.int ((59 : Int32))] (mX11_takes v0 ((59 : Int32)) μ) cal_X11_takes vir_X11_takes lk_X11_304 dX11_read_26 rfl rfl (Nat.le_of_ble_eq_true rfl) (Nat.le_of_ble_eq_true rfl) (fun x26 μ26 => ?_)
      refine E_if_eq C 46 dX11_read_29 (by decide) ?_ ?_
      · exact E_pick [0, 1] rfl (hG v1 μ26)
      · refine E_at (pc2 := 32) rfl ?_
        refine E_aload_n C dX11_read_32 0 rfl ?_
        refine E_bipush C 7 dX11_read_33 (by decide) ?_
        refine E_iload_n C dX11_read_35 1 rfl ?_
        refine E_imul C dX11_read_36 ?_
        refine E_callVU (st := []) C [.int (((7 : Int32) * v1))] (mX11_readClause v0 (((7 : Int32) * v1)) μ26) cal_X11_readClause vir_X11_readClause lk_X11_329 dX11_read_37 rfl rfl (Nat.le_of_ble_eq_true rfl) (Nat.le_of_ble_eq_true rfl) (fun _ μ37 => ?_)
        refine E_iinc (lv' := [(1, .int ((v1 + 1))), (0, .ref v0)]) C (v1 + 1) dX11_read_40 1 rfl rfl (by decide) rfl ?_
        refine E_goto C 17 dX11_read_43 (by decide) ?_
        exact E_pick [1, 0] rfl (ih ((v1 + 1)) μ37)
def X11_read_L85 (G : Int32 → Mem → Option (Int32 × Mem)) (v0 : Nat) (v1 : Int32) : Nat → Int32 → Int32 → Mem → Option (Int32 × Mem)
  | 0, _, _, _ => none
  | n + 1, v2, v3, μ => if v1 ≤ v3 then (G v2 μ) else ((isC μ v0 11).bind fun _ => bd (fX11_isDone v0 (((7 : Int32) * v3)) μ) fun x96 μ96 => if x96 = 0 then (X11_read_L85 G v0 v1 n ((v2 + (0 : Int32))) ((v3 + 1)) μ96) else (X11_read_L85 G v0 v1 n ((v2 + (1 : Int32))) ((v3 + 1)) μ96))
set_option maxHeartbeats 4000000 in
set_option maxRecDepth 100000 in
theorem X11_read_L85_ok {p : Program} {l : Launch} {e : Env} {R : Room} {s : State} {m : MethodId} {args : Array Value} {below : List Frame} {meth : Method} {c : Code} {D : va_G} {ca : Nat → ClassId} {ad : Nat → Nat} {A : Nat → Prop} {X : State → Prop} (C : CX p R s m args meth c D ca ad A X cX11_read RX11 4 (some .int) 5) {G : Int32 → Mem → Option (Int32 × Mem)} (v0 : Nat) (v1 : Int32) (hG : ∀ (v2x : Int32) (μx : Mem), Sm p l e R s m args below meth c D ca ad A 4 0 0 wI (KQ below args s D ca ad A) 115 [(2, .int v2x)] [] μx (G v2x μx)) : ∀ (n : Nat) (v2 : Int32) (v3 : Int32) (μ : Mem), Sm p l e R s m args below meth c D ca ad A 4 0 0 wI (KQ below args s D ca ad A) 85 [(0, .ref v0), (1, .int v1), (2, .int v2), (3, .int v3)] [] μ (X11_read_L85 G v0 v1 n v2 v3 μ) := by
  intro n
  induction n with
  | zero =>
    intro v2 v3 μ
    rw [X11_read_L85]
    exact E_none
  | succ n ih =>
    intro v2 v3 μ
    rw [X11_read_L85]
    refine E_iload_n C dX11_read_85 3 rfl ?_
    refine E_iload_n C dX11_read_86 1 rfl ?_
    refine E_icmp_ge C 115 dX11_read_87 (by decide) ?_ ?_
    · exact E_pick [2] rfl (hG v2 μ)
    · refine E_at (pc2 := 90) rfl ?_
      refine E_iload_n C dX11_read_90 2 rfl ?_
      refine E_aload_n C dX11_read_91 0 rfl ?_
      refine E_bipush C 7 dX11_read_92 (by decide) ?_
      refine E_iload_n C dX11_read_94 3 rfl ?_
      refine E_imul C dX11_read_95 ?_
      refine E_callVI (st := [.int v2]) C [.int (((7 : Int32) * v3))] (mX11_isDone v0 (((7 : Int32) * v3)) μ) cal_X11_isDone vir_X11_isDone lk_X11_332 dX11_read_96 rfl rfl (Nat.le_of_ble_eq_true rfl) (Nat.le_of_ble_eq_true rfl) (fun x96 μ96 => ?_)
      refine E_if_eq C 106 dX11_read_99 (by decide) ?_ ?_
      · refine E_iconst C 0 dX11_read_106 (by decide) ?_
        refine E_at (pc2 := 107) rfl ?_
        refine E_iadd C dX11_read_107 ?_
        refine E_istore_n (lv' := [(2, .int ((v2 + (0 : Int32)))), (0, .ref v0), (1, .int v1), (3, .int v3)]) C dX11_read_108 (by decide) rfl ?_
        refine E_iinc (lv' := [(3, .int ((v3 + 1))), (2, .int ((v2 + (0 : Int32)))), (0, .ref v0), (1, .int v1)]) C (v3 + 1) dX11_read_109 3 rfl rfl (by decide) rfl ?_
        refine E_goto C 85 dX11_read_112 (by decide) ?_
        exact E_pick [2, 3, 1, 0] rfl (ih ((v2 + (0 : Int32))) ((v3 + 1)) μ96)
      · refine E_at (pc2 := 102) rfl ?_
        refine E_iconst C 1 dX11_read_102 (by decide) ?_
        refine E_goto C 107 dX11_read_103 (by decide) ?_
        refine E_iadd C dX11_read_107 ?_
        refine E_istore_n (lv' := [(2, .int ((v2 + (1 : Int32)))), (0, .ref v0), (1, .int v1), (3, .int v3)]) C dX11_read_108 (by decide) rfl ?_
        refine E_iinc (lv' := [(3, .int ((v3 + 1))), (2, .int ((v2 + (1 : Int32)))), (0, .ref v0), (1, .int v1)]) C (v3 + 1) dX11_read_109 3 rfl rfl (by decide) rfl ?_
        refine E_goto C 85 dX11_read_112 (by decide) ?_
        exact E_pick [2, 3, 1, 0] rfl (ih ((v2 + (1 : Int32))) ((v3 + 1)) μ96)
def fX11_read (v0 : Nat) (μ : Mem) : Option (Int32 × Mem) :=
  (pV μ v0 11 30 (.int ((0 : Int32)))).bind fun μ2 => (pV μ2 v0 11 31 (.int ((-1 : Int32)))).bind fun μ7 => (isC μ7 v0 11).bind fun _ => bd (fX11_readClause v0 ((0 : Int32)) μ7) fun _ μ14 => X11_read_L17 (fun v1_46 μ_46 => (gI μ_46 v0 11 30).bind fun x47 => (gI μ_46 v0 11 29).bind fun x51 => jn (fun (μ_61 : Mem) => (pV μ_61 v0 11 29 (.int ((0 : Int32)))).bind fun μ63 => (gI μ63 v0 11 31).bind fun x67 => if x67 < 0 then (X11_read_L85 (fun v2_115 μ_115 => some (v2_115, μ_115)) v0 v1_46 FU ((0 : Int32)) ((0 : Int32)) μ63) else ((gI μ63 v0 11 31).bind fun x76 => some (((-10 : Int32) - x76), μ63))) (fun j61 => if x51 ≤ x47 then (j61 μ_46) else ((isC μ_46 v0 11).bind fun _ => bd (fX11_wrong v0 μ_46) fun _ μ58 => j61 μ58))) v0 FU ((1 : Int32)) μ14
set_option maxHeartbeats 4000000 in
set_option maxRecDepth 100000 in
theorem mX11_read (v0 : Nat) (μ : Mem) : Meth wI yX11_read cX11_read 4 (some .int) 5 [.ref v0] μ (fX11_read v0 μ) := by
  refine Meth.of (by decide) [(0, .ref v0)] rfl (Nat.le_of_ble_eq_true rfl) ?_
  intro p l e R s m args below meth c D ca ad A X C
  have C : CX p R s m args meth c D ca ad A X cX11_read RX11 4 (some .int) 5 := C
  unfold fX11_read
  refine E_aload_n C dX11_read_0 0 rfl ?_
  refine E_iconst C 0 dX11_read_1 (by decide) ?_
  refine E_putI C P_X11_284 dX11_read_2 (fun μ2 => ?_)
  refine E_aload_n C dX11_read_5 0 rfl ?_
  refine E_iconst C (-1) dX11_read_6 (by decide) ?_
  refine E_putI C P_X11_291 dX11_read_7 (fun μ7 => ?_)
  refine E_iconst C 1 dX11_read_10 (by decide) ?_
  refine E_istore_n (lv' := [(1, .int ((1 : Int32))), (0, .ref v0)]) C dX11_read_11 (by decide) rfl ?_
  refine E_aload_n C dX11_read_12 1 rfl ?_
  refine E_iconst C 0 dX11_read_13 (by decide) ?_
  refine E_callVU (st := []) C [.int ((0 : Int32))] (mX11_readClause v0 ((0 : Int32)) μ7) cal_X11_readClause vir_X11_readClause lk_X11_329 dX11_read_14 rfl rfl (Nat.le_of_ble_eq_true rfl) (Nat.le_of_ble_eq_true rfl) (fun _ μ14 => ?_)
  refine E_at (pc2 := 17) rfl ?_
  refine E_pick (lv' := [(0, .ref v0), (1, .int ((1 : Int32)))]) [1, 0] rfl ?_
  refine X11_read_L17_ok C v0 (fun v1_46 μ_46 => ?_) FU ((1 : Int32)) μ14
  refine E_aload_n C dX11_read_46 0 rfl ?_
  refine E_getI C F_X11_284 dX11_read_47 (fun x47 => ?_)
  refine E_aload_n C dX11_read_50 0 rfl ?_
  refine E_getI C F_X11_281 dX11_read_51 (fun x51 => ?_)
  refine E_jn (fun j61 => ∀  (μ_61 : Mem), Sm p l e R s m args below meth c D ca ad A 4 0 0 wI (KQ below args s D ca ad A) 61 [(0, .ref v0), (1, .int v1_46)] [] μ_61 (j61  μ_61)) ?_ (fun j61 hj61 => ?_)
  · intro  μ_61
    refine E_aload_n C dX11_read_61 0 rfl ?_
    refine E_iconst C 0 dX11_read_62 (by decide) ?_
    refine E_putI C P_X11_281 dX11_read_63 (fun μ63 => ?_)
    refine E_aload_n C dX11_read_66 0 rfl ?_
    refine E_getI C F_X11_291 dX11_read_67 (fun x67 => ?_)
    refine E_if_lt C 81 dX11_read_70 (by decide) ?_ ?_
    · refine E_iconst C 0 dX11_read_81 (by decide) ?_
      refine E_istore_n (lv' := [(2, .int ((0 : Int32))), (0, .ref v0), (1, .int v1_46)]) C dX11_read_82 (by decide) rfl ?_
      refine E_iconst C 0 dX11_read_83 (by decide) ?_
      refine E_istore_n (lv' := [(3, .int ((0 : Int32))), (2, .int ((0 : Int32))), (0, .ref v0), (1, .int v1_46)]) C dX11_read_84 (by decide) rfl ?_
      refine E_at (pc2 := 85) rfl ?_
      refine E_pick (lv' := [(0, .ref v0), (1, .int v1_46), (2, .int ((0 : Int32))), (3, .int ((0 : Int32)))]) [2, 3, 1, 0] rfl ?_
      refine X11_read_L85_ok C v0 v1_46 (fun v2_115 μ_115 => ?_) FU ((0 : Int32)) ((0 : Int32)) μ63
      refine E_iload_n C dX11_read_115 0 rfl ?_
      exact E_iret C dX11_read_116
    · refine E_at (pc2 := 73) rfl ?_
      refine E_bipush C (-10) dX11_read_73 (by decide) ?_
      refine E_aload_n C dX11_read_75 0 rfl ?_
      refine E_getI C F_X11_291 dX11_read_76 (fun x76 => ?_)
      refine E_isub C dX11_read_79 ?_
      exact E_iret C dX11_read_80
  · refine E_icmp_ge C 61 dX11_read_54 (by decide) ?_ ?_
    · exact E_pick [0, 1] rfl (hj61 μ_46)
    · refine E_at (pc2 := 57) rfl ?_
      refine E_aload_n C dX11_read_57 0 rfl ?_
      refine E_callVU (st := []) C [] (mX11_wrong v0 μ_46) cal_X11_wrong vir_X11_wrong lk_X11_297 dX11_read_58 rfl rfl (Nat.le_of_ble_eq_true rfl) (Nat.le_of_ble_eq_true rfl) (fun _ μ58 => ?_)
      exact E_pick [0, 1] rfl (hj61 μ58)
def fX11_isTape (v0 : Int32) (μ : Mem) : Option (Int32 × Mem) :=
  bd (fX11_in v0.toInt64 ((0 : Int64)) ((5 : Int64)) μ) fun x6 μ6 => (zz x6).bind fun z => some (z, μ6)
set_option maxHeartbeats 4000000 in
set_option maxRecDepth 100000 in
theorem mX11_isTape (v0 : Int32) (μ : Mem) : Meth wI yX11_isTape cX11_isTape 1 (some .boolean) 1 [.int v0] μ (fX11_isTape v0 μ) := by
  refine Meth.of (by decide) [(0, .int v0)] rfl (Nat.le_of_ble_eq_true rfl) ?_
  intro p l e R s m args below meth c D ca ad A X C
  have C : CX p R s m args meth c D ca ad A X cX11_isTape RX11 1 (some .boolean) 1 := C
  unfold fX11_isTape
  refine E_iload_n C dX11_isTape_0 0 rfl ?_
  refine E_i2l C dX11_isTape_1 ?_
  refine E_lconst C 0 dX11_isTape_2 (by decide) ?_
  refine E_ldc2 C dX11_isTape_3 k_X11_107 ?_
  refine E_callSI (st := []) C [.long v0.toInt64, .long ((0 : Int64)), .long ((5 : Int64))] (mX11_in v0.toInt64 ((0 : Int64)) ((5 : Int64)) μ) cal_X11_in st_X11_in lk_X11_65 dX11_isTape_6 rfl rfl (Nat.le_of_ble_eq_true rfl) (Nat.le_of_ble_eq_true rfl) (fun x6 μ6 => ?_)
  exact E_zret C dX11_isTape_9
def X11_judge_L64 (G : Mem → Option (Int32 × Mem)) (v0 : Nat) (v1 : Int32) (v4 : Int32) (v5 : Int32) : Nat → Int32 → Mem → Option (Int32 × Mem)
  | 0, _, _ => none
  | n + 1, v6, μ => (gR μ v0 11 4).bind fun x67 => (aI μ 0 x67 v1).bind fun x71 => if x71 < v6 then (G μ) else (if v5 < 0 then (some (((100 : Int32) + v6), μ)) else ((gR μ v0 11 34).bind fun x83 => (aI μ 0 x83 v4).bind fun x88 => if v5 < (x88 - v6) then ((gR μ v0 11 35).bind fun x102 => (aJ μ x102 (((((60 : Int32) * v4) + v5) + v6))).bind fun x116 => (gR μ v0 11 24).bind fun x118 => (aI μ 0 x118 v6).bind fun x123 => if (lg_cmp x116 x123.toInt64) = 0 then (X11_judge_L64 G v0 v1 v4 v5 n ((v6 + 1)) μ) else (some (v6, μ))) else (some (((100 : Int32) + v6), μ))))
set_option maxHeartbeats 4000000 in
set_option maxRecDepth 100000 in
theorem X11_judge_L64_ok {p : Program} {l : Launch} {e : Env} {R : Room} {s : State} {m : MethodId} {args : Array Value} {below : List Frame} {meth : Method} {c : Code} {D : va_G} {ca : Nat → ClassId} {ad : Nat → Nat} {A : Nat → Prop} {X : State → Prop} (C : CX p R s m args meth c D ca ad A X cX11_judge RX11 7 (some .int) 8) {G : Mem → Option (Int32 × Mem)} (v0 : Nat) (v1 : Int32) (v4 : Int32) (v5 : Int32) (hG : ∀  (μx : Mem), Sm p l e R s m args below meth c D ca ad A 7 0 0 wI (KQ below args s D ca ad A) 138 [] [] μx (G  μx)) : ∀ (n : Nat) (v6 : Int32) (μ : Mem), Sm p l e R s m args below meth c D ca ad A 7 0 0 wI (KQ below args s D ca ad A) 64 [(0, .ref v0), (1, .int v1), (4, .int v4), (5, .int v5), (6, .int v6)] [] μ (X11_judge_L64 G v0 v1 v4 v5 n v6 μ) := by
  intro n
  induction n with
  | zero =>
    intro v6 μ
    rw [X11_judge_L64]
    exact E_none
  | succ n ih =>
    intro v6 μ
    rw [X11_judge_L64]
    refine E_iload C dX11_judge_64 4 rfl ?_
    refine E_aload_n C dX11_judge_66 0 rfl ?_
    refine E_getR C F_X11_18 dX11_judge_67 (fun x67 => ?_)
    refine E_iload_n C dX11_judge_70 1 rfl ?_
    refine E_iaload C dX11_judge_71 (fun x71 => ?_)
    refine E_icmp_gt C 138 dX11_judge_72 (by decide) ?_ ?_
    · exact E_pick [] rfl (hG μ)
    · refine E_at (pc2 := 75) rfl ?_
      refine E_iload C dX11_judge_75 3 rfl ?_
      refine E_if_lt C 95 dX11_judge_77 (by decide) ?_ ?_
      · refine E_bipush C 100 dX11_judge_95 (by decide) ?_
        refine E_iload C dX11_judge_97 4 rfl ?_
        refine E_iadd C dX11_judge_99 ?_
        exact E_iret C dX11_judge_100
      · refine E_at (pc2 := 80) rfl ?_
        refine E_iload C dX11_judge_80 3 rfl ?_
        refine E_aload_n C dX11_judge_82 0 rfl ?_
        refine E_getR C F_X11_56 dX11_judge_83 (fun x83 => ?_)
        refine E_iload C dX11_judge_86 2 rfl ?_
        refine E_iaload C dX11_judge_88 (fun x88 => ?_)
        refine E_iload C dX11_judge_89 4 rfl ?_
        refine E_isub C dX11_judge_91 ?_
        refine E_icmp_lt C 101 dX11_judge_92 (by decide) ?_ ?_
        · refine E_aload_n C dX11_judge_101 0 rfl ?_
          refine E_getR C F_X11_59 dX11_judge_102 (fun x102 => ?_)
          refine E_bipush C 60 dX11_judge_105 (by decide) ?_
          refine E_iload C dX11_judge_107 2 rfl ?_
          refine E_imul C dX11_judge_109 ?_
          refine E_iload C dX11_judge_110 3 rfl ?_
          refine E_iadd C dX11_judge_112 ?_
          refine E_iload C dX11_judge_113 4 rfl ?_
          refine E_iadd C dX11_judge_115 ?_
          refine E_laload C dX11_judge_116 (fun x116 => ?_)
          refine E_aload_n C dX11_judge_117 0 rfl ?_
          refine E_getR C F_X11_40 dX11_judge_118 (fun x118 => ?_)
          refine E_iload C dX11_judge_121 4 rfl ?_
          refine E_iaload C dX11_judge_123 (fun x123 => ?_)
          refine E_i2l C dX11_judge_124 ?_
          refine E_lcmp C dX11_judge_125 ?_
          refine E_if_eq C 132 dX11_judge_126 (by decide) ?_ ?_
          · refine E_iinc (lv' := [(6, .int ((v6 + 1))), (0, .ref v0), (1, .int v1), (4, .int v4), (5, .int v5)]) C (v6 + 1) dX11_judge_132 4 rfl rfl (by decide) rfl ?_
            refine E_goto C 64 dX11_judge_135 (by decide) ?_
            exact E_pick [1, 2, 3, 4, 0] rfl (ih ((v6 + 1)) μ)
          · refine E_at (pc2 := 129) rfl ?_
            refine E_iload C dX11_judge_129 4 rfl ?_
            exact E_iret C dX11_judge_131
        · refine E_at (pc2 := 95) rfl ?_
          refine E_bipush C 100 dX11_judge_95 (by decide) ?_
          refine E_iload C dX11_judge_97 4 rfl ?_
          refine E_iadd C dX11_judge_99 ?_
          exact E_iret C dX11_judge_100
def fX11_judge (v0 : Nat) (v1 : Int32) (v2 : Int32) (v3 : Int32) (v4 : Int32) (v5 : Int32) (μ : Mem) : Option (Int32 × Mem) :=
  (isC μ v0 11).bind fun _ => bd (fX11_isReplay v0 v1 v2 v3 μ) fun x4 μ4 => if x4 = 0 then (some ((-1 : Int32), μ4)) else (bd (fX11_isTape v4 μ4) fun x12 μ12 => if x12 = 0 then (some ((-1 : Int32), μ12)) else ((gR μ12 v0 11 33).bind fun x21 => (aI μ12 0 x21 v4).bind fun x26 => if 0 ≤ x26 then ((gR μ12 v0 11 33).bind fun x34 => (aI μ12 0 x34 v4).bind fun x39 => if x39 = (3 : Int32) then ((gR μ12 v0 11 4).bind fun x52 => (aI μ12 0 x52 v1).bind fun x56 => (isC μ12 v0 11).bind fun _ => bd (fX11_replays v0 v1 v2 v3 x56 ((-1 : Int32)) μ12) fun _ μ58 => X11_judge_L64 (fun μ_138 => some ((-5 : Int32), μ_138)) v0 v1 v4 v5 FU ((0 : Int32)) μ58) else (some ((-12 : Int32), μ12))) else (some ((100 : Int32), μ12))))
set_option maxHeartbeats 4000000 in
set_option maxRecDepth 100000 in
theorem mX11_judge (v0 : Nat) (v1 : Int32) (v2 : Int32) (v3 : Int32) (v4 : Int32) (v5 : Int32) (μ : Mem) : Meth wI yX11_judge cX11_judge 7 (some .int) 8 [.ref v0, .int v1, .int v2, .int v3, .int v4, .int v5] μ (fX11_judge v0 v1 v2 v3 v4 v5 μ) := by
  refine Meth.of (by decide) [(0, .ref v0), (1, .int v1), (2, .int v2), (3, .int v3), (4, .int v4), (5, .int v5)] rfl (Nat.le_of_ble_eq_true rfl) ?_
  intro p l e R s m args below meth c D ca ad A X C
  have C : CX p R s m args meth c D ca ad A X cX11_judge RX11 7 (some .int) 8 := C
  unfold fX11_judge
  refine E_aload_n C dX11_judge_0 0 rfl ?_
  refine E_iload_n C dX11_judge_1 1 rfl ?_
  refine E_iload_n C dX11_judge_2 2 rfl ?_
  refine E_iload_n C dX11_judge_3 3 rfl ?_
  refine E_callVI (st := []) C [.int v1, .int v2, .int v3] (mX11_isReplay v0 v1 v2 v3 μ) cal_X11_isReplay vir_X11_isReplay lk_X11_259 dX11_judge_4 rfl rfl (Nat.le_of_ble_eq_true rfl) (Nat.le_of_ble_eq_true rfl) (fun x4 μ4 => ?_)
  refine E_if_eq C 18 dX11_judge_7 (by decide) ?_ ?_
  · refine E_iconst C (-1) dX11_judge_18 (by decide) ?_
    exact E_iret C dX11_judge_19
  · refine E_at (pc2 := 10) rfl ?_
    refine E_iload C dX11_judge_10 4 rfl ?_
    refine E_callSI (st := []) C [.int v4] (mX11_isTape v4 μ4) cal_X11_isTape st_X11_isTape lk_X11_335 dX11_judge_12 rfl rfl (Nat.le_of_ble_eq_true rfl) (Nat.le_of_ble_eq_true rfl) (fun x12 μ12 => ?_)
    refine E_if_ne C 20 dX11_judge_15 (by decide) ?_ ?_
    · refine E_aload_n C dX11_judge_20 0 rfl ?_
      refine E_getR C F_X11_53 dX11_judge_21 (fun x21 => ?_)
      refine E_iload C dX11_judge_24 4 rfl ?_
      refine E_iaload C dX11_judge_26 (fun x26 => ?_)
      refine E_if_ge C 33 dX11_judge_27 (by decide) ?_ ?_
      · refine E_aload_n C dX11_judge_33 0 rfl ?_
        refine E_getR C F_X11_53 dX11_judge_34 (fun x34 => ?_)
        refine E_iload C dX11_judge_37 4 rfl ?_
        refine E_iaload C dX11_judge_39 (fun x39 => ?_)
        refine E_iconst C 3 dX11_judge_40 (by decide) ?_
        refine E_icmp_eq C 47 dX11_judge_41 (by decide) ?_ ?_
        · refine E_aload_n C dX11_judge_47 0 rfl ?_
          refine E_iload_n C dX11_judge_48 1 rfl ?_
          refine E_iload_n C dX11_judge_49 2 rfl ?_
          refine E_iload_n C dX11_judge_50 3 rfl ?_
          refine E_aload_n C dX11_judge_51 0 rfl ?_
          refine E_getR C F_X11_18 dX11_judge_52 (fun x52 => ?_)
          refine E_iload_n C dX11_judge_55 1 rfl ?_
          refine E_iaload C dX11_judge_56 (fun x56 => ?_)
          refine E_iconst C (-1) dX11_judge_57 (by decide) ?_
          refine E_callVU (st := []) C [.int v1, .int v2, .int v3, .int x56, .int ((-1 : Int32))] (mX11_replays v0 v1 v2 v3 x56 ((-1 : Int32)) μ12) cal_X11_replays vir_X11_replays lk_X11_263 dX11_judge_58 rfl rfl (Nat.le_of_ble_eq_true rfl) (Nat.le_of_ble_eq_true rfl) (fun _ μ58 => ?_)
          refine E_iconst C 0 dX11_judge_61 (by decide) ?_
          refine E_istore (lv' := [(6, .int ((0 : Int32))), (0, .ref v0), (1, .int v1), (2, .int v2), (3, .int v3), (4, .int v4), (5, .int v5)]) C dX11_judge_62 (by decide) rfl ?_
          refine E_at (pc2 := 64) rfl ?_
          refine E_pick (lv' := [(0, .ref v0), (1, .int v1), (4, .int v4), (5, .int v5), (6, .int ((0 : Int32)))]) [1, 2, 5, 6, 0] rfl ?_
          refine X11_judge_L64_ok C v0 v1 v4 v5 (fun μ_138 => ?_) FU ((0 : Int32)) μ58
          refine E_bipush C (-5) dX11_judge_138 (by decide) ?_
          exact E_iret C dX11_judge_140
        · refine E_at (pc2 := 44) rfl ?_
          refine E_bipush C (-12) dX11_judge_44 (by decide) ?_
          exact E_iret C dX11_judge_46
      · refine E_at (pc2 := 30) rfl ?_
        refine E_bipush C 100 dX11_judge_30 (by decide) ?_
        exact E_iret C dX11_judge_32
    · refine E_at (pc2 := 18) rfl ?_
      refine E_iconst C (-1) dX11_judge_18 (by decide) ?_
      exact E_iret C dX11_judge_19
def fX11_image (v0 : Nat) (μ : Mem) : Option (Int32 × Mem) :=
  (gR μ v0 11 0).bind fun x1 => (gR μ v0 11 1).bind fun x5 => bd (fX11_lays x1 x5 μ) fun _ μ8 => (pZ μ8 v0 11 2 ((1 : Int32))).bind fun μ13 => (gR μ13 v0 11 0).bind fun x17 => (aI μ13 0 x17 ((73 : Int32))).bind fun x22 => some (x22, μ13)
set_option maxHeartbeats 4000000 in
set_option maxRecDepth 100000 in
theorem mX11_image (v0 : Nat) (μ : Mem) : Meth wI yX11_image cX11_image 1 (some .int) 1 [.ref v0] μ (fX11_image v0 μ) := by
  refine Meth.of (by decide) [(0, .ref v0)] rfl (Nat.le_of_ble_eq_true rfl) ?_
  intro p l e R s m args below meth c D ca ad A X C
  have C : CX p R s m args meth c D ca ad A X cX11_image RX11 1 (some .int) 1 := C
  unfold fX11_image
  refine E_aload_n C dX11_image_0 0 rfl ?_
  refine E_getR C F_X11_11 dX11_image_1 (fun x1 => ?_)
  refine E_aload_n C dX11_image_4 0 rfl ?_
  refine E_getR C F_X11_15 dX11_image_5 (fun x5 => ?_)
  refine E_callSU (st := []) C [.ref x1, .ref x5] (mX11_lays x1 x5 μ) cal_X11_lays st_X11_lays lk_X11_275 dX11_image_8 rfl rfl (Nat.le_of_ble_eq_true rfl) (Nat.le_of_ble_eq_true rfl) (fun _ μ8 => ?_)
  refine E_aload_n C dX11_image_11 0 rfl ?_
  refine E_iconst C 1 dX11_image_12 (by decide) ?_
  refine E_putZ C P_X11_338 dX11_image_13 (fun μ13 => ?_)
  refine E_aload_n C dX11_image_16 0 rfl ?_
  refine E_getR C F_X11_11 dX11_image_17 (fun x17 => ?_)
  refine E_bipush C 73 dX11_image_20 (by decide) ?_
  refine E_iaload C dX11_image_22 (fun x22 => ?_)
  exact E_iret C dX11_image_23
def fX11_undo (v0 : Nat) (μ : Mem) : Option (Int32 × Mem) :=
  (gI μ v0 11 2).bind fun x1 => if x1 = 0 then (some ((-3 : Int32), μ)) else ((gR μ v0 11 1).bind fun x11 => (gR μ v0 11 0).bind fun x15 => bd (fX11_lays x11 x15 μ) fun _ μ18 => (gR μ18 v0 11 0).bind fun x22 => (aI μ18 0 x22 ((73 : Int32))).bind fun x27 => some (x27, μ18))
set_option maxHeartbeats 4000000 in
set_option maxRecDepth 100000 in
theorem mX11_undo (v0 : Nat) (μ : Mem) : Meth wI yX11_undo cX11_undo 1 (some .int) 1 [.ref v0] μ (fX11_undo v0 μ) := by
  refine Meth.of (by decide) [(0, .ref v0)] rfl (Nat.le_of_ble_eq_true rfl) ?_
  intro p l e R s m args below meth c D ca ad A X C
  have C : CX p R s m args meth c D ca ad A X cX11_undo RX11 1 (some .int) 1 := C
  unfold fX11_undo
  refine E_aload_n C dX11_undo_0 0 rfl ?_
  refine E_getI C F_X11_338 dX11_undo_1 (fun x1 => ?_)
  refine E_if_ne C 10 dX11_undo_4 (by decide) ?_ ?_
  · refine E_aload_n C dX11_undo_10 0 rfl ?_
    refine E_getR C F_X11_15 dX11_undo_11 (fun x11 => ?_)
    refine E_aload_n C dX11_undo_14 0 rfl ?_
    refine E_getR C F_X11_11 dX11_undo_15 (fun x15 => ?_)
    refine E_callSU (st := []) C [.ref x11, .ref x15] (mX11_lays x11 x15 μ) cal_X11_lays st_X11_lays lk_X11_275 dX11_undo_18 rfl rfl (Nat.le_of_ble_eq_true rfl) (Nat.le_of_ble_eq_true rfl) (fun _ μ18 => ?_)
    refine E_aload_n C dX11_undo_21 0 rfl ?_
    refine E_getR C F_X11_11 dX11_undo_22 (fun x22 => ?_)
    refine E_bipush C 73 dX11_undo_25 (by decide) ?_
    refine E_iaload C dX11_undo_27 (fun x27 => ?_)
    exact E_iret C dX11_undo_28
  · refine E_at (pc2 := 7) rfl ?_
    refine E_bipush C (-3) dX11_undo_7 (by decide) ?_
    exact E_iret C dX11_undo_9
def fX11_count (v0 : Nat) (v1 : Int32) (μ : Mem) : Option (Int32 × Mem) :=
  if v1 = 0 then ((gR μ v0 11 0).bind fun x37 => (aI μ 0 x37 ((73 : Int32))).bind fun x42 => some (x42, μ)) else if v1 = 1 then ((gR μ v0 11 0).bind fun x45 => (aI μ 0 x45 ((110 : Int32))).bind fun x50 => some (x50, μ)) else if v1 = 2 then ((gR μ v0 11 0).bind fun x53 => (aI μ 0 x53 ((131 : Int32))).bind fun x59 => some (x59, μ)) else if v1 = 3 then ((gR μ v0 11 0).bind fun x62 => (aI μ 0 x62 ((148 : Int32))).bind fun x68 => some (x68, μ)) else if v1 = 4 then ((gI μ v0 11 29).bind fun x71 => some (x71, μ)) else (bd (fX11_in v1.toInt64 ((5 : Int64)) ((8 : Int64)) μ) fun x83 μ83 => if x83 = 0 then (some ((-2 : Int32), μ83)) else ((gR μ83 v0 11 4).bind fun x90 => (aI μ83 0 x90 ((v1 - (5 : Int32)))).bind fun x96 => some (x96, μ83)))
set_option maxHeartbeats 4000000 in
set_option maxRecDepth 100000 in
theorem mX11_count (v0 : Nat) (v1 : Int32) (μ : Mem) : Meth wI yX11_count cX11_count 2 (some .int) 1 [.ref v0, .int v1] μ (fX11_count v0 v1 μ) := by
  refine Meth.of (by decide) [(0, .ref v0), (1, .int v1)] rfl (Nat.le_of_ble_eq_true rfl) ?_
  intro p l e R s m args below meth c D ca ad A X C
  have C : CX p R s m args meth c D ca ad A X cX11_count RX11 2 (some .int) 1 := C
  unfold fX11_count
  refine E_iload_n C dX11_count_0 1 rfl ?_
  refine E_ite (fun h1_0 => ?_) (fun h1_0 => ?_)
  · refine E_tabIn (kx := 0) (off := 35) C 36 h1_0 dX11_count_1 (by decide +kernel) (by decide) ?_
    refine E_aload_n C dX11_count_36 0 rfl ?_
    refine E_getR C F_X11_11 dX11_count_37 (fun x37 => ?_)
    refine E_bipush C 73 dX11_count_40 (by decide) ?_
    refine E_iaload C dX11_count_42 (fun x42 => ?_)
    exact E_iret C dX11_count_43
  · refine E_ite (fun h1_1 => ?_) (fun h1_1 => ?_)
    · refine E_tabIn (kx := 1) (off := 43) C 44 h1_1 dX11_count_1 (by decide +kernel) (by decide) ?_
      refine E_aload_n C dX11_count_44 0 rfl ?_
      refine E_getR C F_X11_11 dX11_count_45 (fun x45 => ?_)
      refine E_bipush C 110 dX11_count_48 (by decide) ?_
      refine E_iaload C dX11_count_50 (fun x50 => ?_)
      exact E_iret C dX11_count_51
    · refine E_ite (fun h1_2 => ?_) (fun h1_2 => ?_)
      · refine E_tabIn (kx := 2) (off := 51) C 52 h1_2 dX11_count_1 (by decide +kernel) (by decide) ?_
        refine E_aload_n C dX11_count_52 0 rfl ?_
        refine E_getR C F_X11_11 dX11_count_53 (fun x53 => ?_)
        refine E_sipush C 131 dX11_count_56 (by decide) ?_
        refine E_iaload C dX11_count_59 (fun x59 => ?_)
        exact E_iret C dX11_count_60
      · refine E_ite (fun h1_3 => ?_) (fun h1_3 => ?_)
        · refine E_tabIn (kx := 3) (off := 60) C 61 h1_3 dX11_count_1 (by decide +kernel) (by decide) ?_
          refine E_aload_n C dX11_count_61 0 rfl ?_
          refine E_getR C F_X11_11 dX11_count_62 (fun x62 => ?_)
          refine E_sipush C 148 dX11_count_65 (by decide) ?_
          refine E_iaload C dX11_count_68 (fun x68 => ?_)
          exact E_iret C dX11_count_69
        · refine E_ite (fun h1_4 => ?_) (fun h1_4 => ?_)
          · refine E_tabIn (kx := 4) (off := 69) C 70 h1_4 dX11_count_1 (by decide +kernel) (by decide) ?_
            refine E_aload_n C dX11_count_70 0 rfl ?_
            refine E_getI C F_X11_281 dX11_count_71 (fun x71 => ?_)
            exact E_iret C dX11_count_74
          · refine E_tabOut C 75 dX11_count_1 (by have q0 := i32_ne h1_0 (n := 0) rfl; have q1 := i32_ne h1_1 (n := 1) rfl; have q2 := i32_ne h1_2 (n := 2) rfl; have q3 := i32_ne h1_3 (n := 3) rfl; have q4 := i32_ne h1_4 (n := 4) rfl; omega) (by decide) ?_
            refine E_iload_n C dX11_count_75 1 rfl ?_
            refine E_i2l C dX11_count_76 ?_
            refine E_ldc2 C dX11_count_77 k_X11_107 ?_
            refine E_ldc2 C dX11_count_80 k_X11_128 ?_
            refine E_callSI (st := []) C [.long v1.toInt64, .long ((5 : Int64)), .long ((8 : Int64))] (mX11_in v1.toInt64 ((5 : Int64)) ((8 : Int64)) μ) cal_X11_in st_X11_in lk_X11_65 dX11_count_83 rfl rfl (Nat.le_of_ble_eq_true rfl) (Nat.le_of_ble_eq_true rfl) (fun x83 μ83 => ?_)
            refine E_if_eq C 100 dX11_count_86 (by decide) ?_ ?_
            · refine E_bipush C (-2) dX11_count_100 (by decide) ?_
              exact E_iret C dX11_count_102
            · refine E_at (pc2 := 89) rfl ?_
              refine E_aload_n C dX11_count_89 0 rfl ?_
              refine E_getR C F_X11_18 dX11_count_90 (fun x90 => ?_)
              refine E_iload_n C dX11_count_93 1 rfl ?_
              refine E_iconst C 5 dX11_count_94 (by decide) ?_
              refine E_isub C dX11_count_95 ?_
              refine E_iaload C dX11_count_96 (fun x96 => ?_)
              refine E_goto C 102 dX11_count_97 (by decide) ?_
              exact E_iret C dX11_count_102
def X11_tape_L72 (G : Mem → Option (Int32 × Mem)) (v0 : Nat) (v1 : Int32) : Nat → Int32 → Mem → Option (Int32 × Mem)
  | 0, _, _ => none
  | n + 1, v4, μ => if (60 : Int32) ≤ v4 then (G μ) else ((gR μ v0 11 35).bind fun x80 => (sJ μ x80 ((((60 : Int32) * v1) + v4)) ((0 : Int64))).bind fun μ91 => X11_tape_L72 G v0 v1 n ((v4 + 1)) μ91)
set_option maxHeartbeats 4000000 in
set_option maxRecDepth 100000 in
theorem X11_tape_L72_ok {p : Program} {l : Launch} {e : Env} {R : Room} {s : State} {m : MethodId} {args : Array Value} {below : List Frame} {meth : Method} {c : Code} {D : va_G} {ca : Nat → ClassId} {ad : Nat → Nat} {A : Nat → Prop} {X : State → Prop} (C : CX p R s m args meth c D ca ad A X cX11_tape RX11 5 (some .int) 2) {G : Mem → Option (Int32 × Mem)} (v0 : Nat) (v1 : Int32) (hG : ∀  (μx : Mem), Sm p l e R s m args below meth c D ca ad A 5 0 0 wI (KQ below args s D ca ad A) 98 [] [] μx (G  μx)) : ∀ (n : Nat) (v4 : Int32) (μ : Mem), Sm p l e R s m args below meth c D ca ad A 5 0 0 wI (KQ below args s D ca ad A) 72 [(0, .ref v0), (1, .int v1), (4, .int v4)] [] μ (X11_tape_L72 G v0 v1 n v4 μ) := by
  intro n
  induction n with
  | zero =>
    intro v4 μ
    rw [X11_tape_L72]
    exact E_none
  | succ n ih =>
    intro v4 μ
    rw [X11_tape_L72]
    refine E_iload C dX11_tape_72 2 rfl ?_
    refine E_bipush C 60 dX11_tape_74 (by decide) ?_
    refine E_icmp_ge C 98 dX11_tape_76 (by decide) ?_ ?_
    · exact E_pick [] rfl (hG μ)
    · refine E_at (pc2 := 79) rfl ?_
      refine E_aload_n C dX11_tape_79 0 rfl ?_
      refine E_getR C F_X11_59 dX11_tape_80 (fun x80 => ?_)
      refine E_bipush C 60 dX11_tape_83 (by decide) ?_
      refine E_iload_n C dX11_tape_85 1 rfl ?_
      refine E_imul C dX11_tape_86 ?_
      refine E_iload C dX11_tape_87 2 rfl ?_
      refine E_iadd C dX11_tape_89 ?_
      refine E_lconst C 0 dX11_tape_90 (by decide) ?_
      refine E_lastore C dX11_tape_91 (fun μ91 => ?_)
      refine E_iinc (lv' := [(4, .int ((v4 + 1))), (0, .ref v0), (1, .int v1)]) C (v4 + 1) dX11_tape_92 2 rfl rfl (by decide) rfl ?_
      refine E_goto C 72 dX11_tape_95 (by decide) ?_
      exact E_pick [1, 2, 0] rfl (ih ((v4 + 1)) μ91)
def fX11_tape (v0 : Nat) (v1 : Int32) (v2 : Int32) (v3 : Int32) (μ : Mem) : Option (Int32 × Mem) :=
  bd (fX11_isTape v1 μ) fun x1 μ1 => if x1 = 0 then (some ((-1 : Int32), μ1)) else (bd (fX11_in v2.toInt64 ((-1 : Int64)) ((4 : Int64)) μ1) fun x17 μ17 => if x17 = 0 then (some ((-2 : Int32), μ17)) else (jn (fun  (μ_36 : Mem) => jn (fun  (μ_47 : Mem) => (gR μ_47 v0 11 33).bind fun x48 => (sI μ_47 x48 v1 v2).bind fun μ53 => (gR μ53 v0 11 34).bind fun x55 => jn (fun (s2_68 : Int32) (μ_68 : Mem) => (sI μ_68 x55 v1 s2_68).bind fun μ68 => X11_tape_L72 (fun μ_98 => some ((1 : Int32), μ_98)) v0 v1 FU ((0 : Int32)) μ68) (fun j68 => if 0 ≤ v2 then (j68 v3 μ53) else (j68 ((0 : Int32)) μ53))) (fun j47 => if v2 < 0 then (j47 μ_36) else (if 0 ≤ v3 then (j47 μ_36) else (some ((-14 : Int32), μ_36))))) (fun j36 => if v2 < 0 then (j36 μ17) else (if v3 ≤ (60 : Int32) then (j36 μ17) else (some ((-2 : Int32), μ17))))))
set_option maxHeartbeats 4000000 in
set_option maxRecDepth 100000 in
theorem mX11_tape (v0 : Nat) (v1 : Int32) (v2 : Int32) (v3 : Int32) (μ : Mem) : Meth wI yX11_tape cX11_tape 5 (some .int) 2 [.ref v0, .int v1, .int v2, .int v3] μ (fX11_tape v0 v1 v2 v3 μ) := by
  refine Meth.of (by decide) [(0, .ref v0), (1, .int v1), (2, .int v2), (3, .int v3)] rfl (Nat.le_of_ble_eq_true rfl) ?_
  intro p l e R s m args below meth c D ca ad A X C
  have C : CX p R s m args meth c D ca ad A X cX11_tape RX11 5 (some .int) 2 := C
  unfold fX11_tape
  refine E_iload_n C dX11_tape_0 1 rfl ?_
  refine E_callSI (st := []) C [.int v1] (mX11_isTape v1 μ) cal_X11_isTape st_X11_isTape lk_X11_335 dX11_tape_1 rfl rfl (Nat.le_of_ble_eq_true rfl) (Nat.le_of_ble_eq_true rfl) (fun x1 μ1 => ?_)
  refine E_if_ne C 9 dX11_tape_4 (by decide) ?_ ?_
  · refine E_iload_n C dX11_tape_9 2 rfl ?_
    refine E_i2l C dX11_tape_10 ?_
    refine E_ldc2 C dX11_tape_11 k_X11_342 ?_
    refine E_ldc2 C dX11_tape_14 k_X11_97 ?_
    refine E_callSI (st := []) C [.long v2.toInt64, .long ((-1 : Int64)), .long ((4 : Int64))] (mX11_in v2.toInt64 ((-1 : Int64)) ((4 : Int64)) μ1) cal_X11_in st_X11_in lk_X11_65 dX11_tape_17 rfl rfl (Nat.le_of_ble_eq_true rfl) (Nat.le_of_ble_eq_true rfl) (fun x17 μ17 => ?_)
    refine E_if_eq C 33 dX11_tape_20 (by decide) ?_ ?_
    · refine E_bipush C (-2) dX11_tape_33 (by decide) ?_
      exact E_iret C dX11_tape_35
    · refine E_at (pc2 := 23) rfl ?_
      refine E_iload_n C dX11_tape_23 2 rfl ?_
      refine E_jn (fun j36 => ∀  (μ_36 : Mem), Sm p l e R s m args below meth c D ca ad A 5 0 0 wI (KQ below args s D ca ad A) 36 [(0, .ref v0), (1, .int v1), (2, .int v2), (3, .int v3)] [] μ_36 (j36  μ_36)) ?_ (fun j36 hj36 => ?_)
      · intro  μ_36
        refine E_iload_n C dX11_tape_36 2 rfl ?_
        refine E_jn (fun j47 => ∀  (μ_47 : Mem), Sm p l e R s m args below meth c D ca ad A 5 0 0 wI (KQ below args s D ca ad A) 47 [(0, .ref v0), (1, .int v1), (2, .int v2), (3, .int v3)] [] μ_47 (j47  μ_47)) ?_ (fun j47 hj47 => ?_)
        · intro  μ_47
          refine E_aload_n C dX11_tape_47 0 rfl ?_
          refine E_getR C F_X11_53 dX11_tape_48 (fun x48 => ?_)
          refine E_iload_n C dX11_tape_51 1 rfl ?_
          refine E_iload_n C dX11_tape_52 2 rfl ?_
          refine E_iastore C dX11_tape_53 (fun μ53 => ?_)
          refine E_aload_n C dX11_tape_54 0 rfl ?_
          refine E_getR C F_X11_56 dX11_tape_55 (fun x55 => ?_)
          refine E_iload_n C dX11_tape_58 1 rfl ?_
          refine E_iload_n C dX11_tape_59 2 rfl ?_
          refine E_jn (fun j68 => ∀ (s2_68 : Int32) (μ_68 : Mem), Sm p l e R s m args below meth c D ca ad A 5 0 0 wI (KQ below args s D ca ad A) 68 [(0, .ref v0), (1, .int v1)] [.int s2_68, .int v1, .ref x55] μ_68 (j68 s2_68 μ_68)) ?_ (fun j68 hj68 => ?_)
          · intro s2_68 μ_68
            refine E_iastore C dX11_tape_68 (fun μ68 => ?_)
            refine E_iconst C 0 dX11_tape_69 (by decide) ?_
            refine E_istore (lv' := [(4, .int ((0 : Int32))), (0, .ref v0), (1, .int v1)]) C dX11_tape_70 (by decide) rfl ?_
            refine E_at (pc2 := 72) rfl ?_
            refine E_pick (lv' := [(0, .ref v0), (1, .int v1), (4, .int ((0 : Int32)))]) [1, 2, 0] rfl ?_
            refine X11_tape_L72_ok C v0 v1 (fun μ_98 => ?_) FU ((0 : Int32)) μ68
            refine E_iconst C 1 dX11_tape_98 (by decide) ?_
            exact E_iret C dX11_tape_99
          · refine E_if_ge C 67 dX11_tape_60 (by decide) ?_ ?_
            · refine E_iload_n C dX11_tape_67 3 rfl ?_
              exact E_pick [0, 1] rfl (hj68 v3 μ53)
            · refine E_at (pc2 := 63) rfl ?_
              refine E_iconst C 0 dX11_tape_63 (by decide) ?_
              refine E_goto C 68 dX11_tape_64 (by decide) ?_
              exact E_pick [0, 1] rfl (hj68 ((0 : Int32)) μ53)
        · refine E_if_lt C 47 dX11_tape_37 (by decide) ?_ ?_
          · exact E_pick [0, 1, 2, 3] rfl (hj47 μ_36)
          · refine E_at (pc2 := 40) rfl ?_
            refine E_iload_n C dX11_tape_40 3 rfl ?_
            refine E_if_ge C 47 dX11_tape_41 (by decide) ?_ ?_
            · exact E_pick [0, 1, 2, 3] rfl (hj47 μ_36)
            · refine E_at (pc2 := 44) rfl ?_
              refine E_bipush C (-14) dX11_tape_44 (by decide) ?_
              exact E_iret C dX11_tape_46
      · refine E_if_lt C 36 dX11_tape_24 (by decide) ?_ ?_
        · exact E_pick [0, 1, 2, 3] rfl (hj36 μ17)
        · refine E_at (pc2 := 27) rfl ?_
          refine E_iload_n C dX11_tape_27 3 rfl ?_
          refine E_bipush C 60 dX11_tape_28 (by decide) ?_
          refine E_icmp_le C 36 dX11_tape_30 (by decide) ?_ ?_
          · exact E_pick [0, 1, 2, 3] rfl (hj36 μ17)
          · refine E_at (pc2 := 33) rfl ?_
            refine E_bipush C (-2) dX11_tape_33 (by decide) ?_
            exact E_iret C dX11_tape_35
  · refine E_at (pc2 := 7) rfl ?_
    refine E_iconst C (-1) dX11_tape_7 (by decide) ?_
    exact E_iret C dX11_tape_8
def fX11_cutTo (v0 : Int32) (v1 : Int64) (μ : Mem) : Option (Int64 × Mem) :=
  if v0 = 0 then (some (v1.toInt32.toInt8.toInt32.toInt64, μ)) else if v0 = 1 then (some (v1.toInt32.toInt16.toInt32.toInt64, μ)) else if v0 = 2 then (some (v1.toInt32.toInt64, μ)) else if v0 = 3 then (some (v1, μ)) else (if (lg_cmp v1 ((0 : Int64))) = 0 then (some ((0 : Int64), μ)) else (some ((1 : Int64), μ)))
set_option maxHeartbeats 4000000 in
set_option maxRecDepth 100000 in
theorem mX11_cutTo (v0 : Int32) (v1 : Int64) (μ : Mem) : Meth wJ yX11_cutTo cX11_cutTo 3 (some .long) 0 [.int v0, .long v1] μ (fX11_cutTo v0 v1 μ) := by
  refine Meth.of (by decide) [(0, .int v0), (1, .long v1)] rfl (Nat.le_of_ble_eq_true rfl) ?_
  intro p l e R s m args below meth c D ca ad A X C
  have C : CX p R s m args meth c D ca ad A X cX11_cutTo RX11 3 (some .long) 0 := C
  unfold fX11_cutTo
  refine E_iload_n C dX11_cutTo_0 0 rfl ?_
  refine E_ite (fun h1_0 => ?_) (fun h1_0 => ?_)
  · refine E_tabIn (kx := 0) (off := 31) C 32 h1_0 dX11_cutTo_1 (by decide +kernel) (by decide) ?_
    refine E_lload_n C dX11_cutTo_32 1 rfl ?_
    refine E_l2i C dX11_cutTo_33 ?_
    refine E_i2b C dX11_cutTo_34 ?_
    refine E_i2l C dX11_cutTo_35 ?_
    exact E_lret C dX11_cutTo_36
  · refine E_ite (fun h1_1 => ?_) (fun h1_1 => ?_)
    · refine E_tabIn (kx := 1) (off := 36) C 37 h1_1 dX11_cutTo_1 (by decide +kernel) (by decide) ?_
      refine E_lload_n C dX11_cutTo_37 1 rfl ?_
      refine E_l2i C dX11_cutTo_38 ?_
      refine E_i2s C dX11_cutTo_39 ?_
      refine E_i2l C dX11_cutTo_40 ?_
      exact E_lret C dX11_cutTo_41
    · refine E_ite (fun h1_2 => ?_) (fun h1_2 => ?_)
      · refine E_tabIn (kx := 2) (off := 41) C 42 h1_2 dX11_cutTo_1 (by decide +kernel) (by decide) ?_
        refine E_lload_n C dX11_cutTo_42 1 rfl ?_
        refine E_l2i C dX11_cutTo_43 ?_
        refine E_i2l C dX11_cutTo_44 ?_
        exact E_lret C dX11_cutTo_45
      · refine E_ite (fun h1_3 => ?_) (fun h1_3 => ?_)
        · refine E_tabIn (kx := 3) (off := 45) C 46 h1_3 dX11_cutTo_1 (by decide +kernel) (by decide) ?_
          refine E_lload_n C dX11_cutTo_46 1 rfl ?_
          exact E_lret C dX11_cutTo_47
        · refine E_tabOut C 48 dX11_cutTo_1 (by have q0 := i32_ne h1_0 (n := 0) rfl; have q1 := i32_ne h1_1 (n := 1) rfl; have q2 := i32_ne h1_2 (n := 2) rfl; have q3 := i32_ne h1_3 (n := 3) rfl; omega) (by decide) ?_
          refine E_lload_n C dX11_cutTo_48 1 rfl ?_
          refine E_lconst C 0 dX11_cutTo_49 (by decide) ?_
          refine E_lcmp C dX11_cutTo_50 ?_
          refine E_if_eq C 58 dX11_cutTo_51 (by decide) ?_ ?_
          · refine E_lconst C 0 dX11_cutTo_58 (by decide) ?_
            exact E_lret C dX11_cutTo_59
          · refine E_at (pc2 := 54) rfl ?_
            refine E_lconst C 1 dX11_cutTo_54 (by decide) ?_
            refine E_goto C 59 dX11_cutTo_55 (by decide) ?_
            exact E_lret C dX11_cutTo_59
def fX11_item (v0 : Nat) (v1 : Int32) (v2 : Int32) (v3 : Int64) (μ : Mem) : Option (Int32 × Mem) :=
  bd (fX11_isTape v1 μ) fun x1 μ1 => if x1 = 0 then (some ((-1 : Int32), μ1)) else ((gR μ1 v0 11 33).bind fun x10 => (aI μ1 0 x10 v1).bind fun x14 => if 0 ≤ x14 then ((gR μ1 v0 11 34).bind fun x25 => (aI μ1 0 x25 v1).bind fun x29 => bd (fX11_in v2.toInt64 ((0 : Int64)) (((x29 - (1 : Int32))).toInt64) μ1) fun x33 μ33 => if x33 = 0 then (some ((-13 : Int32), μ33)) else ((gR μ33 v0 11 35).bind fun x43 => (gR μ33 v0 11 33).bind fun x53 => (aI μ33 0 x53 v1).bind fun x57 => bd (fX11_cutTo x57 v3 μ33) fun x59 μ59 => (sJ μ59 x43 ((((60 : Int32) * v1) + v2)) x59).bind fun μ62 => some ((1 : Int32), μ62))) else (some ((-11 : Int32), μ1)))
set_option maxHeartbeats 4000000 in
set_option maxRecDepth 100000 in
theorem mX11_item (v0 : Nat) (v1 : Int32) (v2 : Int32) (v3 : Int64) (μ : Mem) : Meth wI yX11_item cX11_item 5 (some .int) 2 [.ref v0, .int v1, .int v2, .long v3] μ (fX11_item v0 v1 v2 v3 μ) := by
  refine Meth.of (by decide) [(0, .ref v0), (1, .int v1), (2, .int v2), (3, .long v3)] rfl (Nat.le_of_ble_eq_true rfl) ?_
  intro p l e R s m args below meth c D ca ad A X C
  have C : CX p R s m args meth c D ca ad A X cX11_item RX11 5 (some .int) 2 := C
  unfold fX11_item
  refine E_iload_n C dX11_item_0 1 rfl ?_
  refine E_callSI (st := []) C [.int v1] (mX11_isTape v1 μ) cal_X11_isTape st_X11_isTape lk_X11_335 dX11_item_1 rfl rfl (Nat.le_of_ble_eq_true rfl) (Nat.le_of_ble_eq_true rfl) (fun x1 μ1 => ?_)
  refine E_if_ne C 9 dX11_item_4 (by decide) ?_ ?_
  · refine E_aload_n C dX11_item_9 0 rfl ?_
    refine E_getR C F_X11_53 dX11_item_10 (fun x10 => ?_)
    refine E_iload_n C dX11_item_13 1 rfl ?_
    refine E_iaload C dX11_item_14 (fun x14 => ?_)
    refine E_if_ge C 21 dX11_item_15 (by decide) ?_ ?_
    · refine E_iload_n C dX11_item_21 2 rfl ?_
      refine E_i2l C dX11_item_22 ?_
      refine E_lconst C 0 dX11_item_23 (by decide) ?_
      refine E_aload_n C dX11_item_24 0 rfl ?_
      refine E_getR C F_X11_56 dX11_item_25 (fun x25 => ?_)
      refine E_iload_n C dX11_item_28 1 rfl ?_
      refine E_iaload C dX11_item_29 (fun x29 => ?_)
      refine E_iconst C 1 dX11_item_30 (by decide) ?_
      refine E_isub C dX11_item_31 ?_
      refine E_i2l C dX11_item_32 ?_
      refine E_callSI (st := []) C [.long v2.toInt64, .long ((0 : Int64)), .long (((x29 - (1 : Int32))).toInt64)] (mX11_in v2.toInt64 ((0 : Int64)) (((x29 - (1 : Int32))).toInt64) μ1) cal_X11_in st_X11_in lk_X11_65 dX11_item_33 rfl rfl (Nat.le_of_ble_eq_true rfl) (Nat.le_of_ble_eq_true rfl) (fun x33 μ33 => ?_)
      refine E_if_ne C 42 dX11_item_36 (by decide) ?_ ?_
      · refine E_aload_n C dX11_item_42 0 rfl ?_
        refine E_getR C F_X11_59 dX11_item_43 (fun x43 => ?_)
        refine E_bipush C 60 dX11_item_46 (by decide) ?_
        refine E_iload_n C dX11_item_48 1 rfl ?_
        refine E_imul C dX11_item_49 ?_
        refine E_iload_n C dX11_item_50 2 rfl ?_
        refine E_iadd C dX11_item_51 ?_
        refine E_aload_n C dX11_item_52 0 rfl ?_
        refine E_getR C F_X11_53 dX11_item_53 (fun x53 => ?_)
        refine E_iload_n C dX11_item_56 1 rfl ?_
        refine E_iaload C dX11_item_57 (fun x57 => ?_)
        refine E_lload_n C dX11_item_58 3 rfl ?_
        refine E_callSJ (st := [.int ((((60 : Int32) * v1) + v2)), .ref x43]) C [.int x57, .long v3] (mX11_cutTo x57 v3 μ33) cal_X11_cutTo st_X11_cutTo lk_X11_344 dX11_item_59 rfl rfl (Nat.le_of_ble_eq_true rfl) (Nat.le_of_ble_eq_true rfl) (fun x59 μ59 => ?_)
        refine E_lastore C dX11_item_62 (fun μ62 => ?_)
        refine E_iconst C 1 dX11_item_63 (by decide) ?_
        exact E_iret C dX11_item_64
      · refine E_at (pc2 := 39) rfl ?_
        refine E_bipush C (-13) dX11_item_39 (by decide) ?_
        exact E_iret C dX11_item_41
    · refine E_at (pc2 := 18) rfl ?_
      refine E_bipush C (-11) dX11_item_18 (by decide) ?_
      exact E_iret C dX11_item_20
  · refine E_at (pc2 := 7) rfl ?_
    refine E_iconst C (-1) dX11_item_7 (by decide) ?_
    exact E_iret C dX11_item_8
def fX11_peek (v0 : Nat) (v1 : Int32) (v2 : Int32) (μ : Mem) : Option (Int64 × Mem) :=
  bd (fX11_isTape v1 μ) fun x1 μ1 => if x1 = 0 then (some ((-9223372036854775808 : Int64), μ1)) else ((gR μ1 v0 11 34).bind fun x11 => (aI μ1 0 x11 v1).bind fun x15 => bd (fX11_in v2.toInt64 ((0 : Int64)) (((x15 - (1 : Int32))).toInt64) μ1) fun x19 μ19 => if x19 = 0 then (some ((-9223372036854775808 : Int64), μ19)) else ((gR μ19 v0 11 35).bind fun x26 => (aJ μ19 x26 ((((60 : Int32) * v1) + v2))).bind fun x35 => some (x35, μ19)))
set_option maxHeartbeats 4000000 in
set_option maxRecDepth 100000 in
theorem mX11_peek (v0 : Nat) (v1 : Int32) (v2 : Int32) (μ : Mem) : Meth wJ yX11_peek cX11_peek 3 (some .long) 2 [.ref v0, .int v1, .int v2] μ (fX11_peek v0 v1 v2 μ) := by
  refine Meth.of (by decide) [(0, .ref v0), (1, .int v1), (2, .int v2)] rfl (Nat.le_of_ble_eq_true rfl) ?_
  intro p l e R s m args below meth c D ca ad A X C
  have C : CX p R s m args meth c D ca ad A X cX11_peek RX11 3 (some .long) 2 := C
  unfold fX11_peek
  refine E_iload_n C dX11_peek_0 1 rfl ?_
  refine E_callSI (st := []) C [.int v1] (mX11_isTape v1 μ) cal_X11_isTape st_X11_isTape lk_X11_335 dX11_peek_1 rfl rfl (Nat.le_of_ble_eq_true rfl) (Nat.le_of_ble_eq_true rfl) (fun x1 μ1 => ?_)
  refine E_if_eq C 39 dX11_peek_4 (by decide) ?_ ?_
  · refine E_ldc2 C dX11_peek_39 k_X11_143 ?_
    exact E_lret C dX11_peek_42
  · refine E_at (pc2 := 7) rfl ?_
    refine E_iload_n C dX11_peek_7 2 rfl ?_
    refine E_i2l C dX11_peek_8 ?_
    refine E_lconst C 0 dX11_peek_9 (by decide) ?_
    refine E_aload_n C dX11_peek_10 0 rfl ?_
    refine E_getR C F_X11_56 dX11_peek_11 (fun x11 => ?_)
    refine E_iload_n C dX11_peek_14 1 rfl ?_
    refine E_iaload C dX11_peek_15 (fun x15 => ?_)
    refine E_iconst C 1 dX11_peek_16 (by decide) ?_
    refine E_isub C dX11_peek_17 ?_
    refine E_i2l C dX11_peek_18 ?_
    refine E_callSI (st := []) C [.long v2.toInt64, .long ((0 : Int64)), .long (((x15 - (1 : Int32))).toInt64)] (mX11_in v2.toInt64 ((0 : Int64)) (((x15 - (1 : Int32))).toInt64) μ1) cal_X11_in st_X11_in lk_X11_65 dX11_peek_19 rfl rfl (Nat.le_of_ble_eq_true rfl) (Nat.le_of_ble_eq_true rfl) (fun x19 μ19 => ?_)
    refine E_if_eq C 39 dX11_peek_22 (by decide) ?_ ?_
    · refine E_ldc2 C dX11_peek_39 k_X11_143 ?_
      exact E_lret C dX11_peek_42
    · refine E_at (pc2 := 25) rfl ?_
      refine E_aload_n C dX11_peek_25 0 rfl ?_
      refine E_getR C F_X11_59 dX11_peek_26 (fun x26 => ?_)
      refine E_bipush C 60 dX11_peek_29 (by decide) ?_
      refine E_iload_n C dX11_peek_31 1 rfl ?_
      refine E_imul C dX11_peek_32 ?_
      refine E_iload_n C dX11_peek_33 2 rfl ?_
      refine E_iadd C dX11_peek_34 ?_
      refine E_laload C dX11_peek_35 (fun x35 => ?_)
      refine E_goto C 42 dX11_peek_36 (by decide) ?_
      exact E_lret C dX11_peek_42
def X11_shift_L127 (G : Mem → Option (Int32 × Mem)) (v0 : Nat) (v5 : Int32) (v6 : Int32) (v7 : Int32) : Nat → Int32 → Mem → Option (Int32 × Mem)
  | 0, _, _ => none
  | n + 1, v8, μ => if v5 ≤ v8 then (G μ) else (jn (fun (s0_153 : Int32) (μ_153 : Mem) => (gR μ_153 v0 11 35).bind fun x156 => (gR μ_153 v0 11 35).bind fun x165 => (aJ μ_153 x165 ((v6 + s0_153))).bind fun x173 => (sJ μ_153 x156 ((v7 + s0_153)) x173).bind fun μ174 => X11_shift_L127 G v0 v5 v6 v7 n ((v8 + 1)) μ174) (fun j153 => if v7 ≤ v6 then (j153 v8 μ) else (j153 (((v5 - (1 : Int32)) - v8)) μ)))
set_option maxHeartbeats 4000000 in
set_option maxRecDepth 100000 in
theorem X11_shift_L127_ok {p : Program} {l : Launch} {e : Env} {R : Room} {s : State} {m : MethodId} {args : Array Value} {below : List Frame} {meth : Method} {c : Code} {D : va_G} {ca : Nat → ClassId} {ad : Nat → Nat} {A : Nat → Prop} {X : State → Prop} (C : CX p R s m args meth c D ca ad A X cX11_shift RX11 10 (some .int) 2) {G : Mem → Option (Int32 × Mem)} (v0 : Nat) (v5 : Int32) (v6 : Int32) (v7 : Int32) (hG : ∀  (μx : Mem), Sm p l e R s m args below meth c D ca ad A 10 0 0 wI (KQ below args s D ca ad A) 181 [(5, .int v5)] [] μx (G  μx)) : ∀ (n : Nat) (v8 : Int32) (μ : Mem), Sm p l e R s m args below meth c D ca ad A 10 0 0 wI (KQ below args s D ca ad A) 127 [(0, .ref v0), (5, .int v5), (6, .int v6), (7, .int v7), (8, .int v8)] [] μ (X11_shift_L127 G v0 v5 v6 v7 n v8 μ) := by
  intro n
  induction n with
  | zero =>
    intro v8 μ
    rw [X11_shift_L127]
    exact E_none
  | succ n ih =>
    intro v8 μ
    rw [X11_shift_L127]
    refine E_iload C dX11_shift_127 4 rfl ?_
    refine E_iload C dX11_shift_129 1 rfl ?_
    refine E_icmp_ge C 181 dX11_shift_131 (by decide) ?_ ?_
    · exact E_pick [1] rfl (hG μ)
    · refine E_at (pc2 := 134) rfl ?_
      refine E_iload C dX11_shift_134 2 rfl ?_
      refine E_iload C dX11_shift_136 3 rfl ?_
      refine E_jn (fun j153 => ∀ (s0_153 : Int32) (μ_153 : Mem), Sm p l e R s m args below meth c D ca ad A 10 0 0 wI (KQ below args s D ca ad A) 153 [(0, .ref v0), (5, .int v5), (6, .int v6), (7, .int v7), (8, .int v8)] [.int s0_153] μ_153 (j153 s0_153 μ_153)) ?_ (fun j153 hj153 => ?_)
      · intro s0_153 μ_153
        refine E_istore (lv' := [(9, .int s0_153), (0, .ref v0), (5, .int v5), (6, .int v6), (7, .int v7), (8, .int v8)]) C dX11_shift_153 (by decide) rfl ?_
        refine E_aload_n C dX11_shift_155 1 rfl ?_
        refine E_getR C F_X11_59 dX11_shift_156 (fun x156 => ?_)
        refine E_iload C dX11_shift_159 4 rfl ?_
        refine E_iload C dX11_shift_161 0 rfl ?_
        refine E_iadd C dX11_shift_163 ?_
        refine E_aload_n C dX11_shift_164 1 rfl ?_
        refine E_getR C F_X11_59 dX11_shift_165 (fun x165 => ?_)
        refine E_iload C dX11_shift_168 3 rfl ?_
        refine E_iload C dX11_shift_170 0 rfl ?_
        refine E_iadd C dX11_shift_172 ?_
        refine E_laload C dX11_shift_173 (fun x173 => ?_)
        refine E_lastore C dX11_shift_174 (fun μ174 => ?_)
        refine E_iinc (lv' := [(8, .int ((v8 + 1))), (9, .int s0_153), (0, .ref v0), (5, .int v5), (6, .int v6), (7, .int v7)]) C (v8 + 1) dX11_shift_175 5 rfl rfl (by decide) rfl ?_
        refine E_goto C 127 dX11_shift_178 (by decide) ?_
        exact E_pick [2, 3, 4, 5, 0] rfl (ih ((v8 + 1)) μ174)
      · refine E_icmp_ge C 151 dX11_shift_138 (by decide) ?_ ?_
        · refine E_iload C dX11_shift_151 4 rfl ?_
          exact E_pick [0, 1, 2, 3, 4] rfl (hj153 v8 μ)
        · refine E_at (pc2 := 141) rfl ?_
          refine E_iload C dX11_shift_141 1 rfl ?_
          refine E_iconst C 1 dX11_shift_143 (by decide) ?_
          refine E_isub C dX11_shift_144 ?_
          refine E_iload C dX11_shift_145 4 rfl ?_
          refine E_isub C dX11_shift_147 ?_
          refine E_goto C 153 dX11_shift_148 (by decide) ?_
          exact E_pick [0, 1, 2, 3, 4] rfl (hj153 (((v5 - (1 : Int32)) - v8)) μ)
def fX11_shift (v0 : Nat) (v1 : Int32) (v2 : Int32) (v3 : Int32) (v4 : Int32) (v5 : Int32) (μ : Mem) : Option (Int32 × Mem) :=
  bd (fX11_isTape v1 μ) fun x1 μ1 => if x1 = 0 then (some ((-1 : Int32), μ1)) else (bd (fX11_isTape v3 μ1) fun x8 μ8 => if x8 = 0 then (some ((-1 : Int32), μ8)) else ((gR μ8 v0 11 33).bind fun x17 => (aI μ8 0 x17 v1).bind fun x21 => if x21 < 0 then (some ((-11 : Int32), μ8)) else ((gR μ8 v0 11 33).bind fun x26 => (aI μ8 0 x26 v3).bind fun x30 => if 0 ≤ x30 then ((gR μ8 v0 11 33).bind fun x38 => (aI μ8 0 x38 v1).bind fun x42 => (gR μ8 v0 11 33).bind fun x44 => (aI μ8 0 x44 v3).bind fun x48 => if x42 = x48 then (if v5 < 0 then (some ((-13 : Int32), μ8)) else (if v2 < 0 then (some ((-13 : Int32), μ8)) else (if v4 < 0 then (some ((-13 : Int32), μ8)) else ((gR μ8 v0 11 34).bind fun x76 => (aI μ8 0 x76 v1).bind fun x80 => if 0 < (lg_cmp ((v2.toInt64 + v5.toInt64)) x80.toInt64) then (some ((-13 : Int32), μ8)) else ((gR μ8 v0 11 34).bind fun x94 => (aI μ8 0 x94 v3).bind fun x98 => if (lg_cmp ((v4.toInt64 + v5.toInt64)) x98.toInt64) ≤ 0 then (X11_shift_L127 (fun μ_181 => some (v5, μ_181)) v0 v5 ((((60 : Int32) * v1) + v2)) ((((60 : Int32) * v3) + v4)) FU ((0 : Int32)) μ8) else (some ((-13 : Int32), μ8))))))) else (some ((-12 : Int32), μ8))) else (some ((-11 : Int32), μ8)))))
set_option maxHeartbeats 4000000 in
set_option maxRecDepth 100000 in
theorem mX11_shift (v0 : Nat) (v1 : Int32) (v2 : Int32) (v3 : Int32) (v4 : Int32) (v5 : Int32) (μ : Mem) : Meth wI yX11_shift cX11_shift 10 (some .int) 2 [.ref v0, .int v1, .int v2, .int v3, .int v4, .int v5] μ (fX11_shift v0 v1 v2 v3 v4 v5 μ) := by
  refine Meth.of (by decide) [(0, .ref v0), (1, .int v1), (2, .int v2), (3, .int v3), (4, .int v4), (5, .int v5)] rfl (Nat.le_of_ble_eq_true rfl) ?_
  intro p l e R s m args below meth c D ca ad A X C
  have C : CX p R s m args meth c D ca ad A X cX11_shift RX11 10 (some .int) 2 := C
  unfold fX11_shift
  refine E_iload_n C dX11_shift_0 1 rfl ?_
  refine E_callSI (st := []) C [.int v1] (mX11_isTape v1 μ) cal_X11_isTape st_X11_isTape lk_X11_335 dX11_shift_1 rfl rfl (Nat.le_of_ble_eq_true rfl) (Nat.le_of_ble_eq_true rfl) (fun x1 μ1 => ?_)
  refine E_if_eq C 14 dX11_shift_4 (by decide) ?_ ?_
  · refine E_iconst C (-1) dX11_shift_14 (by decide) ?_
    exact E_iret C dX11_shift_15
  · refine E_at (pc2 := 7) rfl ?_
    refine E_iload_n C dX11_shift_7 3 rfl ?_
    refine E_callSI (st := []) C [.int v3] (mX11_isTape v3 μ1) cal_X11_isTape st_X11_isTape lk_X11_335 dX11_shift_8 rfl rfl (Nat.le_of_ble_eq_true rfl) (Nat.le_of_ble_eq_true rfl) (fun x8 μ8 => ?_)
    refine E_if_ne C 16 dX11_shift_11 (by decide) ?_ ?_
    · refine E_aload_n C dX11_shift_16 0 rfl ?_
      refine E_getR C F_X11_53 dX11_shift_17 (fun x17 => ?_)
      refine E_iload_n C dX11_shift_20 1 rfl ?_
      refine E_iaload C dX11_shift_21 (fun x21 => ?_)
      refine E_if_lt C 34 dX11_shift_22 (by decide) ?_ ?_
      · refine E_bipush C (-11) dX11_shift_34 (by decide) ?_
        exact E_iret C dX11_shift_36
      · refine E_at (pc2 := 25) rfl ?_
        refine E_aload_n C dX11_shift_25 0 rfl ?_
        refine E_getR C F_X11_53 dX11_shift_26 (fun x26 => ?_)
        refine E_iload_n C dX11_shift_29 3 rfl ?_
        refine E_iaload C dX11_shift_30 (fun x30 => ?_)
        refine E_if_ge C 37 dX11_shift_31 (by decide) ?_ ?_
        · refine E_aload_n C dX11_shift_37 0 rfl ?_
          refine E_getR C F_X11_53 dX11_shift_38 (fun x38 => ?_)
          refine E_iload_n C dX11_shift_41 1 rfl ?_
          refine E_iaload C dX11_shift_42 (fun x42 => ?_)
          refine E_aload_n C dX11_shift_43 0 rfl ?_
          refine E_getR C F_X11_53 dX11_shift_44 (fun x44 => ?_)
          refine E_iload_n C dX11_shift_47 3 rfl ?_
          refine E_iaload C dX11_shift_48 (fun x48 => ?_)
          refine E_icmp_eq C 55 dX11_shift_49 (by decide) ?_ ?_
          · refine E_iload C dX11_shift_55 5 rfl ?_
            refine E_if_lt C 104 dX11_shift_57 (by decide) ?_ ?_
            · refine E_bipush C (-13) dX11_shift_104 (by decide) ?_
              exact E_iret C dX11_shift_106
            · refine E_at (pc2 := 60) rfl ?_
              refine E_iload_n C dX11_shift_60 2 rfl ?_
              refine E_if_lt C 104 dX11_shift_61 (by decide) ?_ ?_
              · refine E_bipush C (-13) dX11_shift_104 (by decide) ?_
                exact E_iret C dX11_shift_106
              · refine E_at (pc2 := 64) rfl ?_
                refine E_iload C dX11_shift_64 4 rfl ?_
                refine E_if_lt C 104 dX11_shift_66 (by decide) ?_ ?_
                · refine E_bipush C (-13) dX11_shift_104 (by decide) ?_
                  exact E_iret C dX11_shift_106
                · refine E_at (pc2 := 69) rfl ?_
                  refine E_iload_n C dX11_shift_69 2 rfl ?_
                  refine E_i2l C dX11_shift_70 ?_
                  refine E_iload C dX11_shift_71 5 rfl ?_
                  refine E_i2l C dX11_shift_73 ?_
                  refine E_ladd C dX11_shift_74 ?_
                  refine E_aload_n C dX11_shift_75 0 rfl ?_
                  refine E_getR C F_X11_56 dX11_shift_76 (fun x76 => ?_)
                  refine E_iload_n C dX11_shift_79 1 rfl ?_
                  refine E_iaload C dX11_shift_80 (fun x80 => ?_)
                  refine E_i2l C dX11_shift_81 ?_
                  refine E_lcmp C dX11_shift_82 ?_
                  refine E_if_gt C 104 dX11_shift_83 (by decide) ?_ ?_
                  · refine E_bipush C (-13) dX11_shift_104 (by decide) ?_
                    exact E_iret C dX11_shift_106
                  · refine E_at (pc2 := 86) rfl ?_
                    refine E_iload C dX11_shift_86 4 rfl ?_
                    refine E_i2l C dX11_shift_88 ?_
                    refine E_iload C dX11_shift_89 5 rfl ?_
                    refine E_i2l C dX11_shift_91 ?_
                    refine E_ladd C dX11_shift_92 ?_
                    refine E_aload_n C dX11_shift_93 0 rfl ?_
                    refine E_getR C F_X11_56 dX11_shift_94 (fun x94 => ?_)
                    refine E_iload_n C dX11_shift_97 3 rfl ?_
                    refine E_iaload C dX11_shift_98 (fun x98 => ?_)
                    refine E_i2l C dX11_shift_99 ?_
                    refine E_lcmp C dX11_shift_100 ?_
                    refine E_if_le C 107 dX11_shift_101 (by decide) ?_ ?_
                    · refine E_bipush C 60 dX11_shift_107 (by decide) ?_
                      refine E_iload_n C dX11_shift_109 1 rfl ?_
                      refine E_imul C dX11_shift_110 ?_
                      refine E_iload_n C dX11_shift_111 2 rfl ?_
                      refine E_iadd C dX11_shift_112 ?_
                      refine E_istore (lv' := [(6, .int ((((60 : Int32) * v1) + v2))), (0, .ref v0), (1, .int v1), (2, .int v2), (3, .int v3), (4, .int v4), (5, .int v5)]) C dX11_shift_113 (by decide) rfl ?_
                      refine E_bipush C 60 dX11_shift_115 (by decide) ?_
                      refine E_iload_n C dX11_shift_117 4 rfl ?_
                      refine E_imul C dX11_shift_118 ?_
                      refine E_iload C dX11_shift_119 5 rfl ?_
                      refine E_iadd C dX11_shift_121 ?_
                      refine E_istore (lv' := [(7, .int ((((60 : Int32) * v3) + v4))), (6, .int ((((60 : Int32) * v1) + v2))), (0, .ref v0), (1, .int v1), (2, .int v2), (3, .int v3), (4, .int v4), (5, .int v5)]) C dX11_shift_122 (by decide) rfl ?_
                      refine E_iconst C 0 dX11_shift_124 (by decide) ?_
                      refine E_istore (lv' := [(8, .int ((0 : Int32))), (7, .int ((((60 : Int32) * v3) + v4))), (6, .int ((((60 : Int32) * v1) + v2))), (0, .ref v0), (1, .int v1), (2, .int v2), (3, .int v3), (4, .int v4), (5, .int v5)]) C dX11_shift_125 (by decide) rfl ?_
                      refine E_at (pc2 := 127) rfl ?_
                      refine E_pick (lv' := [(0, .ref v0), (5, .int v5), (6, .int ((((60 : Int32) * v1) + v2))), (7, .int ((((60 : Int32) * v3) + v4))), (8, .int ((0 : Int32)))]) [3, 8, 2, 1, 0] rfl ?_
                      refine X11_shift_L127_ok C v0 v5 ((((60 : Int32) * v1) + v2)) ((((60 : Int32) * v3) + v4)) (fun μ_181 => ?_) FU ((0 : Int32)) μ8
                      refine E_iload C dX11_shift_181 0 rfl ?_
                      exact E_iret C dX11_shift_183
                    · refine E_at (pc2 := 104) rfl ?_
                      refine E_bipush C (-13) dX11_shift_104 (by decide) ?_
                      exact E_iret C dX11_shift_106
          · refine E_at (pc2 := 52) rfl ?_
            refine E_bipush C (-12) dX11_shift_52 (by decide) ?_
            exact E_iret C dX11_shift_54
        · refine E_at (pc2 := 34) rfl ?_
          refine E_bipush C (-11) dX11_shift_34 (by decide) ?_
          exact E_iret C dX11_shift_36
    · refine E_at (pc2 := 14) rfl ?_
      refine E_iconst C (-1) dX11_shift_14 (by decide) ?_
      exact E_iret C dX11_shift_15
