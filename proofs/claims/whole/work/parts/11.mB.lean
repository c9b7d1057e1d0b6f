def fX10_forgetFound (v0 : Nat) (μ : Mem) : Option (Unit × Mem) :=
  (pZ μ v0 10 6 ((0 : Int32))).bind fun μ2 => (pZ μ2 v0 10 7 ((0 : Int32))).bind fun μ7 => some ((), μ7)
set_option maxHeartbeats 4000000 in
set_option maxRecDepth 100000 in
theorem mX10_forgetFound (v0 : Nat) (μ : Mem) : Meth wU yX10_forgetFound cX10_forgetFound 1 none 0 [.ref v0] μ (fX10_forgetFound v0 μ) := by
  refine Meth.of (by decide) [(0, .ref v0)] rfl (Nat.le_of_ble_eq_true rfl) ?_
  intro p l e R s m args below meth c D ca ad A X C
  have C : CX p R s m args meth c D ca ad A X cX10_forgetFound RX10 1 none 0 := C
  unfold fX10_forgetFound
  refine E_aload_n C dX10_forgetFound_0 0 rfl ?_
  refine E_iconst C 0 dX10_forgetFound_1 (by decide) ?_
  refine E_putZ C P_X10_42 dX10_forgetFound_2 (fun μ2 => ?_)
  refine E_aload_n C dX10_forgetFound_5 0 rfl ?_
  refine E_iconst C 0 dX10_forgetFound_6 (by decide) ?_
  refine E_putZ C P_X10_45 dX10_forgetFound_7 (fun μ7 => ?_)
  exact E_ret C dX10_forgetFound_10
def fX10_put (v0 : Nat) (v1 : Int32) (v2 : Int32) (μ : Mem) : Option (Int32 × Mem) :=
  (isC μ v0 10).bind fun _ => bd (fX10_forgetFound v0 μ) fun _ μ1 => (gR μ1 v0 10 0).bind fun x5 => (gR μ1 x5 8 0).bind fun x8 => (isC μ1 x8 0).bind fun _ => bd (fX0_changeSetting x8 v1 v2 μ1) fun x13 μ13 => some (x13, μ13)
set_option maxHeartbeats 4000000 in
set_option maxRecDepth 100000 in
theorem mX10_put (v0 : Nat) (v1 : Int32) (v2 : Int32) (μ : Mem) : Meth wI yX10_put cX10_put 3 (some .int) 2 [.ref v0, .int v1, .int v2] μ (fX10_put v0 v1 v2 μ) := by
  refine Meth.of (by decide) [(0, .ref v0), (1, .int v1), (2, .int v2)] rfl (Nat.le_of_ble_eq_true rfl) ?_
  intro p l e R s m args below meth c D ca ad A X C
  have C : CX p R s m args meth c D ca ad A X cX10_put RX10 3 (some .int) 2 := C
  unfold fX10_put
  refine E_aload_n C dX10_put_0 0 rfl ?_
  refine E_callVU (st := []) C [] (mX10_forgetFound v0 μ) cal_X10_forgetFound vir_X10_forgetFound lk_X10_103 dX10_put_1 rfl rfl (Nat.le_of_ble_eq_true rfl) (Nat.le_of_ble_eq_true rfl) (fun _ μ1 => ?_)
  refine E_aload_n C dX10_put_4 0 rfl ?_
  refine E_getR C F_X10_14 dX10_put_5 (fun x5 => ?_)
  refine E_getR C F_X10_106 dX10_put_8 (fun x8 => ?_)
  refine E_iload_n C dX10_put_11 1 rfl ?_
  refine E_iload_n C dX10_put_12 2 rfl ?_
  refine E_callVI (st := []) C [.int v1, .int v2] (mX0_changeSetting x8 v1 v2 μ1) cal_X0_changeSetting vir_X0_changeSetting lk_X10_109 dX10_put_13 rfl rfl (Nat.le_of_ble_eq_true rfl) (Nat.le_of_ble_eq_true rfl) (fun x13 μ13 => ?_)
  exact E_iret C dX10_put_16
def fX10_inflow (v0 : Nat) (v1 : Int32) (v2 : Int32) (v3 : Int32) (μ : Mem) : Option (Int32 × Mem) :=
  (isC μ v0 10).bind fun _ => bd (fX10_forgetFound v0 μ) fun _ μ1 => (gR μ1 v0 10 0).bind fun x5 => (gR μ1 x5 8 0).bind fun x8 => (isC μ1 x8 0).bind fun _ => bd (fX0_changeInflow x8 v1 v2 v3 μ1) fun x14 μ14 => some (x14, μ14)
set_option maxHeartbeats 4000000 in
set_option maxRecDepth 100000 in
theorem mX10_inflow (v0 : Nat) (v1 : Int32) (v2 : Int32) (v3 : Int32) (μ : Mem) : Meth wI yX10_inflow cX10_inflow 4 (some .int) 3 [.ref v0, .int v1, .int v2, .int v3] μ (fX10_inflow v0 v1 v2 v3 μ) := by
  refine Meth.of (by decide) [(0, .ref v0), (1, .int v1), (2, .int v2), (3, .int v3)] rfl (Nat.le_of_ble_eq_true rfl) ?_
  intro p l e R s m args below meth c D ca ad A X C
  have C : CX p R s m args meth c D ca ad A X cX10_inflow RX10 4 (some .int) 3 := C
  unfold fX10_inflow
  refine E_aload_n C dX10_inflow_0 0 rfl ?_
  refine E_callVU (st := []) C [] (mX10_forgetFound v0 μ) cal_X10_forgetFound vir_X10_forgetFound lk_X10_103 dX10_inflow_1 rfl rfl (Nat.le_of_ble_eq_true rfl) (Nat.le_of_ble_eq_true rfl) (fun _ μ1 => ?_)
  refine E_aload_n C dX10_inflow_4 0 rfl ?_
  refine E_getR C F_X10_14 dX10_inflow_5 (fun x5 => ?_)
  refine E_getR C F_X10_106 dX10_inflow_8 (fun x8 => ?_)
  refine E_iload_n C dX10_inflow_11 1 rfl ?_
  refine E_iload_n C dX10_inflow_12 2 rfl ?_
  refine E_iload_n C dX10_inflow_13 3 rfl ?_
  refine E_callVI (st := []) C [.int v1, .int v2, .int v3] (mX0_changeInflow x8 v1 v2 v3 μ1) cal_X0_changeInflow vir_X0_changeInflow lk_X10_113 dX10_inflow_14 rfl rfl (Nat.le_of_ble_eq_true rfl) (Nat.le_of_ble_eq_true rfl) (fun x14 μ14 => ?_)
  exact E_iret C dX10_inflow_17
def fX10_part (v0 : Nat) (v1 : Int32) (v2 : Int32) (v3 : Int32) (μ : Mem) : Option (Int32 × Mem) :=
  (isC μ v0 10).bind fun _ => bd (fX10_forgetFound v0 μ) fun _ μ1 => (gR μ1 v0 10 0).bind fun x5 => (gR μ1 x5 8 0).bind fun x8 => (isC μ1 x8 0).bind fun _ => bd (fX0_changePart x8 v1 v2 v3 μ1) fun x14 μ14 => some (x14, μ14)
set_option maxHeartbeats 4000000 in
set_option maxRecDepth 100000 in
theorem mX10_part (v0 : Nat) (v1 : Int32) (v2 : Int32) (v3 : Int32) (μ : Mem) : Meth wI yX10_part cX10_part 4 (some .int) 3 [.ref v0, .int v1, .int v2, .int v3] μ (fX10_part v0 v1 v2 v3 μ) := by
  refine Meth.of (by decide) [(0, .ref v0), (1, .int v1), (2, .int v2), (3, .int v3)] rfl (Nat.le_of_ble_eq_true rfl) ?_
  intro p l e R s m args below meth c D ca ad A X C
  have C : CX p R s m args meth c D ca ad A X cX10_part RX10 4 (some .int) 3 := C
  unfold fX10_part
  refine E_aload_n C dX10_part_0 0 rfl ?_
  refine E_callVU (st := []) C [] (mX10_forgetFound v0 μ) cal_X10_forgetFound vir_X10_forgetFound lk_X10_103 dX10_part_1 rfl rfl (Nat.le_of_ble_eq_true rfl) (Nat.le_of_ble_eq_true rfl) (fun _ μ1 => ?_)
  refine E_aload_n C dX10_part_4 0 rfl ?_
  refine E_getR C F_X10_14 dX10_part_5 (fun x5 => ?_)
  refine E_getR C F_X10_106 dX10_part_8 (fun x8 => ?_)
  refine E_iload_n C dX10_part_11 1 rfl ?_
  refine E_iload_n C dX10_part_12 2 rfl ?_
  refine E_iload_n C dX10_part_13 3 rfl ?_
  refine E_callVI (st := []) C [.int v1, .int v2, .int v3] (mX0_changePart x8 v1 v2 v3 μ1) cal_X0_changePart vir_X0_changePart lk_X10_117 dX10_part_14 rfl rfl (Nat.le_of_ble_eq_true rfl) (Nat.le_of_ble_eq_true rfl) (fun x14 μ14 => ?_)
  exact E_iret C dX10_part_17
def fX10_month (v0 : Nat) (v1 : Int32) (v2 : Int32) (v3 : Int32) (μ : Mem) : Option (Int32 × Mem) :=
  (isC μ v0 10).bind fun _ => bd (fX10_forgetFound v0 μ) fun _ μ1 => (gR μ1 v0 10 0).bind fun x5 => (gR μ1 x5 8 0).bind fun x8 => (isC μ1 x8 0).bind fun _ => bd (fX0_changeMonth x8 v1 v2 v3 μ1) fun x14 μ14 => some (x14, μ14)
set_option maxHeartbeats 4000000 in
set_option maxRecDepth 100000 in
theorem mX10_month (v0 : Nat) (v1 : Int32) (v2 : Int32) (v3 : Int32) (μ : Mem) : Meth wI yX10_month cX10_month 4 (some .int) 2 [.ref v0, .int v1, .int v2, .int v3] μ (fX10_month v0 v1 v2 v3 μ) := by
  refine Meth.of (by decide) [(0, .ref v0), (1, .int v1), (2, .int v2), (3, .int v3)] rfl (Nat.le_of_ble_eq_true rfl) ?_
  intro p l e R s m args below meth c D ca ad A X C
  have C : CX p R s m args meth c D ca ad A X cX10_month RX10 4 (some .int) 2 := C
  unfold fX10_month
  refine E_aload_n C dX10_month_0 0 rfl ?_
  refine E_callVU (st := []) C [] (mX10_forgetFound v0 μ) cal_X10_forgetFound vir_X10_forgetFound lk_X10_103 dX10_month_1 rfl rfl (Nat.le_of_ble_eq_true rfl) (Nat.le_of_ble_eq_true rfl) (fun _ μ1 => ?_)
  refine E_aload_n C dX10_month_4 0 rfl ?_
  refine E_getR C F_X10_14 dX10_month_5 (fun x5 => ?_)
  refine E_getR C F_X10_106 dX10_month_8 (fun x8 => ?_)
  refine E_iload_n C dX10_month_11 1 rfl ?_
  refine E_iload_n C dX10_month_12 2 rfl ?_
  refine E_iload_n C dX10_month_13 3 rfl ?_
  refine E_callVI (st := []) C [.int v1, .int v2, .int v3] (mX0_changeMonth x8 v1 v2 v3 μ1) cal_X0_changeMonth vir_X0_changeMonth lk_X10_120 dX10_month_14 rfl rfl (Nat.le_of_ble_eq_true rfl) (Nat.le_of_ble_eq_true rfl) (fun x14 μ14 => ?_)
  exact E_iret C dX10_month_17
def fX10_demand (v0 : Nat) (v1 : Int32) (v2 : Int32) (v3 : Int32) (v4 : Int32) (v5 : Int32) (v6 : Int32) (μ : Mem) : Option (Int32 × Mem) :=
  (isC μ v0 10).bind fun _ => bd (fX10_forgetFound v0 μ) fun _ μ1 => (gR μ1 v0 10 0).bind fun x5 => (gR μ1 x5 8 0).bind fun x8 => (isC μ1 x8 0).bind fun _ => bd (fX0_addDemand x8 v1 v2 v3 v4 v5 v6 μ1) fun x20 μ20 => some (x20, μ20)
set_option maxHeartbeats 4000000 in
set_option maxRecDepth 100000 in
theorem mX10_demand (v0 : Nat) (v1 : Int32) (v2 : Int32) (v3 : Int32) (v4 : Int32) (v5 : Int32) (v6 : Int32) (μ : Mem) : Meth wI yX10_demand cX10_demand 7 (some .int) 3 [.ref v0, .int v1, .int v2, .int v3, .int v4, .int v5, .int v6] μ (fX10_demand v0 v1 v2 v3 v4 v5 v6 μ) := by
  refine Meth.of (by decide) [(0, .ref v0), (1, .int v1), (2, .int v2), (3, .int v3), (4, .int v4), (5, .int v5), (6, .int v6)] rfl (Nat.le_of_ble_eq_true rfl) ?_
  intro p l e R s m args below meth c D ca ad A X C
  have C : CX p R s m args meth c D ca ad A X cX10_demand RX10 7 (some .int) 3 := C
  unfold fX10_demand
  refine E_aload_n C dX10_demand_0 0 rfl ?_
  refine E_callVU (st := []) C [] (mX10_forgetFound v0 μ) cal_X10_forgetFound vir_X10_forgetFound lk_X10_103 dX10_demand_1 rfl rfl (Nat.le_of_ble_eq_true rfl) (Nat.le_of_ble_eq_true rfl) (fun _ μ1 => ?_)
  refine E_aload_n C dX10_demand_4 0 rfl ?_
  refine E_getR C F_X10_14 dX10_demand_5 (fun x5 => ?_)
  refine E_getR C F_X10_106 dX10_demand_8 (fun x8 => ?_)
  refine E_iload_n C dX10_demand_11 1 rfl ?_
  refine E_iload_n C dX10_demand_12 2 rfl ?_
  refine E_iload_n C dX10_demand_13 3 rfl ?_
  refine E_iload C dX10_demand_14 4 rfl ?_
  refine E_iload C dX10_demand_16 5 rfl ?_
  refine E_iload C dX10_demand_18 6 rfl ?_
  refine E_callVI (st := []) C [.int v1, .int v2, .int v3, .int v4, .int v5, .int v6] (mX0_addDemand x8 v1 v2 v3 v4 v5 v6 μ1) cal_X0_addDemand vir_X0_addDemand lk_X10_123 dX10_demand_20 rfl rfl (Nat.le_of_ble_eq_true rfl) (Nat.le_of_ble_eq_true rfl) (fun x20 μ20 => ?_)
  exact E_iret C dX10_demand_23
def fX10_renew (v0 : Nat) (v1 : Int32) (v2 : Int32) (v3 : Int32) (μ : Mem) : Option (Int32 × Mem) :=
  (isC μ v0 10).bind fun _ => bd (fX10_forgetFound v0 μ) fun _ μ1 => (gR μ1 v0 10 0).bind fun x5 => (gR μ1 x5 8 0).bind fun x8 => (isC μ1 x8 0).bind fun _ => bd (fX0_changeDemand x8 v1 v2 v3 μ1) fun x14 μ14 => some (x14, μ14)
set_option maxHeartbeats 4000000 in
set_option maxRecDepth 100000 in
theorem mX10_renew (v0 : Nat) (v1 : Int32) (v2 : Int32) (v3 : Int32) (μ : Mem) : Meth wI yX10_renew cX10_renew 4 (some .int) 3 [.ref v0, .int v1, .int v2, .int v3] μ (fX10_renew v0 v1 v2 v3 μ) := by
  refine Meth.of (by decide) [(0, .ref v0), (1, .int v1), (2, .int v2), (3, .int v3)] rfl (Nat.le_of_ble_eq_true rfl) ?_
  intro p l e R s m args below meth c D ca ad A X C
  have C : CX p R s m args meth c D ca ad A X cX10_renew RX10 4 (some .int) 3 := C
  unfold fX10_renew
  refine E_aload_n C dX10_renew_0 0 rfl ?_
  refine E_callVU (st := []) C [] (mX10_forgetFound v0 μ) cal_X10_forgetFound vir_X10_forgetFound lk_X10_103 dX10_renew_1 rfl rfl (Nat.le_of_ble_eq_true rfl) (Nat.le_of_ble_eq_true rfl) (fun _ μ1 => ?_)
  refine E_aload_n C dX10_renew_4 0 rfl ?_
  refine E_getR C F_X10_14 dX10_renew_5 (fun x5 => ?_)
  refine E_getR C F_X10_106 dX10_renew_8 (fun x8 => ?_)
  refine E_iload_n C dX10_renew_11 1 rfl ?_
  refine E_iload_n C dX10_renew_12 2 rfl ?_
  refine E_iload_n C dX10_renew_13 3 rfl ?_
  refine E_callVI (st := []) C [.int v1, .int v2, .int v3] (mX0_changeDemand x8 v1 v2 v3 μ1) cal_X0_changeDemand vir_X0_changeDemand lk_X10_127 dX10_renew_14 rfl rfl (Nat.le_of_ble_eq_true rfl) (Nat.le_of_ble_eq_true rfl) (fun x14 μ14 => ?_)
  exact E_iret C dX10_renew_17
def fX10_drop (v0 : Nat) (v1 : Int32) (μ : Mem) : Option (Int32 × Mem) :=
  (isC μ v0 10).bind fun _ => bd (fX10_forgetFound v0 μ) fun _ μ1 => (gR μ1 v0 10 0).bind fun x5 => (gR μ1 x5 8 0).bind fun x8 => (isC μ1 x8 0).bind fun _ => bd (fX0_removeDemand x8 v1 μ1) fun x12 μ12 => some (x12, μ12)
set_option maxHeartbeats 4000000 in
set_option maxRecDepth 100000 in
theorem mX10_drop (v0 : Nat) (v1 : Int32) (μ : Mem) : Meth wI yX10_drop cX10_drop 2 (some .int) 3 [.ref v0, .int v1] μ (fX10_drop v0 v1 μ) := by
  refine Meth.of (by decide) [(0, .ref v0), (1, .int v1)] rfl (Nat.le_of_ble_eq_true rfl) ?_
  intro p l e R s m args below meth c D ca ad A X C
  have C : CX p R s m args meth c D ca ad A X cX10_drop RX10 2 (some .int) 3 := C
  unfold fX10_drop
  refine E_aload_n C dX10_drop_0 0 rfl ?_
  refine E_callVU (st := []) C [] (mX10_forgetFound v0 μ) cal_X10_forgetFound vir_X10_forgetFound lk_X10_103 dX10_drop_1 rfl rfl (Nat.le_of_ble_eq_true rfl) (Nat.le_of_ble_eq_true rfl) (fun _ μ1 => ?_)
  refine E_aload_n C dX10_drop_4 0 rfl ?_
  refine E_getR C F_X10_14 dX10_drop_5 (fun x5 => ?_)
  refine E_getR C F_X10_106 dX10_drop_8 (fun x8 => ?_)
  refine E_iload_n C dX10_drop_11 1 rfl ?_
  refine E_callVI (st := []) C [.int v1] (mX0_removeDemand x8 v1 μ1) cal_X0_removeDemand vir_X0_removeDemand lk_X10_130 dX10_drop_12 rfl rfl (Nat.le_of_ble_eq_true rfl) (Nat.le_of_ble_eq_true rfl) (fun x12 μ12 => ?_)
  exact E_iret C dX10_drop_15
def fX10_feed (v0 : Nat) (v1 : Int32) (μ : Mem) : Option (Int32 × Mem) :=
  bd (fX10_within v1 ((0 : Int32)) ((127 : Int32)) μ) fun x4 μ4 => if x4 = 0 then (some ((-2 : Int32), μ4)) else ((gR μ4 v0 10 14).bind fun x14 => (isC μ4 x14 6).bind fun _ => bd (fX6_add x14 v1 μ4) fun x18 μ18 => some (x18, μ18))
set_option maxHeartbeats 4000000 in
set_option maxRecDepth 100000 in
theorem mX10_feed (v0 : Nat) (v1 : Int32) (μ : Mem) : Meth wI yX10_feed cX10_feed 2 (some .int) 3 [.ref v0, .int v1] μ (fX10_feed v0 v1 μ) := by
  refine Meth.of (by decide) [(0, .ref v0), (1, .int v1)] rfl (Nat.le_of_ble_eq_true rfl) ?_
  intro p l e R s m args below meth c D ca ad A X C
  have C : CX p R s m args meth c D ca ad A X cX10_feed RX10 2 (some .int) 3 := C
  unfold fX10_feed
  refine E_iload_n C dX10_feed_0 1 rfl ?_
  refine E_iconst C 0 dX10_feed_1 (by decide) ?_
  refine E_bipush C 127 dX10_feed_2 (by decide) ?_
  refine E_callSI (st := []) C [.int v1, .int ((0 : Int32)), .int ((127 : Int32))] (mX10_within v1 ((0 : Int32)) ((127 : Int32)) μ) cal_X10_within st_X10_within lk_X10_134 dX10_feed_4 rfl rfl (Nat.le_of_ble_eq_true rfl) (Nat.le_of_ble_eq_true rfl) (fun x4 μ4 => ?_)
  refine E_if_ne C 13 dX10_feed_7 (by decide) ?_ ?_
  · refine E_aload_n C dX10_feed_13 0 rfl ?_
    refine E_getR C F_X10_85 dX10_feed_14 (fun x14 => ?_)
    refine E_iload_n C dX10_feed_17 1 rfl ?_
    refine E_callVI (st := []) C [.int v1] (mX6_add x14 v1 μ4) cal_X6_add vir_X6_add lk_X10_138 dX10_feed_18 rfl rfl (Nat.le_of_ble_eq_true rfl) (Nat.le_of_ble_eq_true rfl) (fun x18 μ18 => ?_)
    exact E_iret C dX10_feed_21
  · refine E_at (pc2 := 10) rfl ?_
    refine E_bipush C (-2) dX10_feed_10 (by decide) ?_
    exact E_iret C dX10_feed_12
def fX10_read (v0 : Nat) (μ : Mem) : Option (Int32 × Mem) :=
  (isC μ v0 10).bind fun _ => bd (fX10_forgetFound v0 μ) fun _ μ1 => (gR μ1 v0 10 15).bind fun x5 => (gR μ1 v0 10 14).bind fun x9 => (isC μ1 x5 3).bind fun _ => bd (fX3_takeAll x5 x9 μ1) fun x12 μ12 => (gR μ12 v0 10 14).bind fun x17 => (isC μ12 x17 6).bind fun _ => bd (fX6_clear x17 μ12) fun x20 μ20 => if x12 = (-5 : Int32) then ((gR μ20 v0 10 15).bind fun x31 => (gR μ20 v0 10 0).bind fun x35 => (gR μ20 x35 8 0).bind fun x38 => (isC μ20 x31 3).bind fun _ => bd (fX3_doAll x31 x38 μ20) fun x41 μ41 => some (x41, μ41)) else (some (((-10 : Int32) - x12), μ20))
set_option maxHeartbeats 4000000 in
set_option maxRecDepth 100000 in
theorem mX10_read (v0 : Nat) (μ : Mem) : Meth wI yX10_read cX10_read 2 (some .int) 6 [.ref v0] μ (fX10_read v0 μ) := by
  refine Meth.of (by decide) [(0, .ref v0)] rfl (Nat.le_of_ble_eq_true rfl) ?_
  intro p l e R s m args below meth c D ca ad A X C
  have C : CX p R s m args meth c D ca ad A X cX10_read RX10 2 (some .int) 6 := C
  unfold fX10_read
  refine E_aload_n C dX10_read_0 0 rfl ?_
  refine E_callVU (st := []) C [] (mX10_forgetFound v0 μ) cal_X10_forgetFound vir_X10_forgetFound lk_X10_103 dX10_read_1 rfl rfl (Nat.le_of_ble_eq_true rfl) (Nat.le_of_ble_eq_true rfl) (fun _ μ1 => ?_)
  refine E_aload_n C dX10_read_4 0 rfl ?_
  refine E_getR C F_X10_92 dX10_read_5 (fun x5 => ?_)
  refine E_aload_n C dX10_read_8 0 rfl ?_
  refine E_getR C F_X10_85 dX10_read_9 (fun x9 => ?_)
  refine E_callVI (st := []) C [.ref x9] (mX3_takeAll x5 x9 μ1) cal_X3_takeAll vir_X3_takeAll lk_X10_141 dX10_read_12 rfl rfl (Nat.le_of_ble_eq_true rfl) (Nat.le_of_ble_eq_true rfl) (fun x12 μ12 => ?_)
  refine E_istore_n (lv' := [(1, .int x12), (0, .ref v0)]) C dX10_read_15 (by decide) rfl ?_
  refine E_aload_n C dX10_read_16 1 rfl ?_
  refine E_getR C F_X10_85 dX10_read_17 (fun x17 => ?_)
  refine E_callVI (st := []) C [] (mX6_clear x17 μ12) cal_X6_clear vir_X6_clear lk_X10_145 dX10_read_20 rfl rfl (Nat.le_of_ble_eq_true rfl) (Nat.le_of_ble_eq_true rfl) (fun x20 μ20 => ?_)
  refine E_pop_i C dX10_read_23 ?_
  refine E_iload_n C dX10_read_24 0 rfl ?_
  refine E_bipush C (-5) dX10_read_25 (by decide) ?_
  refine E_icmp_ne C 47 dX10_read_27 (by decide) ?_ ?_
  · refine E_bipush C (-10) dX10_read_47 (by decide) ?_
    refine E_iload_n C dX10_read_49 0 rfl ?_
    refine E_isub C dX10_read_50 ?_
    exact E_iret C dX10_read_51
  · refine E_at (pc2 := 30) rfl ?_
    refine E_aload_n C dX10_read_30 1 rfl ?_
    refine E_getR C F_X10_92 dX10_read_31 (fun x31 => ?_)
    refine E_aload_n C dX10_read_34 1 rfl ?_
    refine E_getR C F_X10_14 dX10_read_35 (fun x35 => ?_)
    refine E_getR C F_X10_106 dX10_read_38 (fun x38 => ?_)
    refine E_callVI (st := []) C [.ref x38] (mX3_doAll x31 x38 μ20) cal_X3_doAll vir_X3_doAll lk_X10_149 dX10_read_41 rfl rfl (Nat.le_of_ble_eq_true rfl) (Nat.le_of_ble_eq_true rfl) (fun x41 μ41 => ?_)
    refine E_goto C 51 dX10_read_44 (by decide) ?_
    exact E_iret C dX10_read_51
def fX10_told (v0 : Nat) (v1 : Int32) (μ : Mem) : Option (Int32 × Mem) :=
  if v1 = (4 : Int32) then ((gR μ v0 10 0).bind fun x6 => (gR μ x6 8 0).bind fun x9 => (gI μ x9 0 10).bind fun x12 => some (x12, μ)) else ((gR μ v0 10 0).bind fun x19 => (gR μ x19 8 0).bind fun x22 => (isC μ x22 0).bind fun _ => bd (fX0_settingOf x22 v1 μ) fun x26 μ26 => some (x26, μ26))
set_option maxHeartbeats 4000000 in
set_option maxRecDepth 100000 in
theorem mX10_told (v0 : Nat) (v1 : Int32) (μ : Mem) : Meth wI yX10_told cX10_told 2 (some .int) 1 [.ref v0, .int v1] μ (fX10_told v0 v1 μ) := by
  refine Meth.of (by decide) [(0, .ref v0), (1, .int v1)] rfl (Nat.le_of_ble_eq_true rfl) ?_
  intro p l e R s m args below meth c D ca ad A X C
  have C : CX p R s m args meth c D ca ad A X cX10_told RX10 2 (some .int) 1 := C
  unfold fX10_told
  refine E_iload_n C dX10_told_0 1 rfl ?_
  refine E_iconst C 4 dX10_told_1 (by decide) ?_
  refine E_icmp_ne C 18 dX10_told_2 (by decide) ?_ ?_
  · refine E_aload_n C dX10_told_18 0 rfl ?_
    refine E_getR C F_X10_14 dX10_told_19 (fun x19 => ?_)
    refine E_getR C F_X10_106 dX10_told_22 (fun x22 => ?_)
    refine E_iload_n C dX10_told_25 1 rfl ?_
    refine E_callVI (st := []) C [.int v1] (mX0_settingOf x22 v1 μ) cal_X0_settingOf vir_X0_settingOf lk_X10_156 dX10_told_26 rfl rfl (Nat.le_of_ble_eq_true rfl) (Nat.le_of_ble_eq_true rfl) (fun x26 μ26 => ?_)
    exact E_iret C dX10_told_29
  · refine E_at (pc2 := 5) rfl ?_
    refine E_aload_n C dX10_told_5 0 rfl ?_
    refine E_getR C F_X10_14 dX10_told_6 (fun x6 => ?_)
    refine E_getR C F_X10_106 dX10_told_9 (fun x9 => ?_)
    refine E_getI C F_X10_153 dX10_told_12 (fun x12 => ?_)
    refine E_goto C 29 dX10_told_15 (by decide) ?_
    exact E_iret C dX10_told_29
def fX10_monthOf (v0 : Nat) (v1 : Int32) (v2 : Int32) (μ : Mem) : Option (Int32 × Mem) :=
  bd (fX10_within v1 ((0 : Int32)) ((11 : Int32)) μ) fun x4 μ4 => if x4 = 0 then (some ((-1 : Int32), μ4)) else (if v2 = 0 then ((gR μ4 v0 10 0).bind fun x53 => (gR μ4 x53 8 0).bind fun x56 => (isC μ4 x56 0).bind fun _ => bd (fX0_inflowIn x56 v1 v2 μ4) fun x61 μ61 => some (x61, μ61)) else if v2 = 1 then ((gR μ4 v0 10 0).bind fun x53 => (gR μ4 x53 8 0).bind fun x56 => (isC μ4 x56 0).bind fun _ => bd (fX0_inflowIn x56 v1 v2 μ4) fun x61 μ61 => some (x61, μ61)) else if v2 = 2 then ((gR μ4 v0 10 0).bind fun x53 => (gR μ4 x53 8 0).bind fun x56 => (isC μ4 x56 0).bind fun _ => bd (fX0_inflowIn x56 v1 v2 μ4) fun x61 μ61 => some (x61, μ61)) else if v2 = 3 then ((gR μ4 v0 10 0).bind fun x66 => (gR μ4 x66 8 0).bind fun x69 => (gR μ4 x69 0 6).bind fun x72 => (aI μ4 0 x72 v1).bind fun x76 => some (x76, μ4)) else if v2 = 4 then ((gR μ4 v0 10 0).bind fun x79 => (gR μ4 x79 8 0).bind fun x82 => (gR μ4 x82 0 7).bind fun x85 => (aI μ4 0 x85 v1).bind fun x89 => some (x89, μ4)) else if v2 = 5 then ((gR μ4 v0 10 0).bind fun x92 => (gR μ4 x92 8 0).bind fun x95 => (isC μ4 x95 0).bind fun _ => bd (fX0_topOf x95 v1 μ4) fun x99 μ99 => some (x99, μ99)) else (some ((-1 : Int32), μ4)))
set_option maxHeartbeats 4000000 in
set_option maxRecDepth 100000 in
theorem mX10_monthOf (v0 : Nat) (v1 : Int32) (v2 : Int32) (μ : Mem) : Meth wI yX10_monthOf cX10_monthOf 3 (some .int) 1 [.ref v0, .int v1, .int v2] μ (fX10_monthOf v0 v1 v2 μ) := by
  refine Meth.of (by decide) [(0, .ref v0), (1, .int v1), (2, .int v2)] rfl (Nat.le_of_ble_eq_true rfl) ?_
  intro p l e R s m args below meth c D ca ad A X C
  have C : CX p R s m args meth c D ca ad A X cX10_monthOf RX10 3 (some .int) 1 := C
  unfold fX10_monthOf
  refine E_iload_n C dX10_monthOf_0 1 rfl ?_
  refine E_iconst C 0 dX10_monthOf_1 (by decide) ?_
  refine E_bipush C 11 dX10_monthOf_2 (by decide) ?_
  refine E_callSI (st := []) C [.int v1, .int ((0 : Int32)), .int ((11 : Int32))] (mX10_within v1 ((0 : Int32)) ((11 : Int32)) μ) cal_X10_within st_X10_within lk_X10_134 dX10_monthOf_4 rfl rfl (Nat.le_of_ble_eq_true rfl) (Nat.le_of_ble_eq_true rfl) (fun x4 μ4 => ?_)
  refine E_if_ne C 12 dX10_monthOf_7 (by decide) ?_ ?_
  · refine E_iload_n C dX10_monthOf_12 2 rfl ?_
    refine E_ite (fun h13_0 => ?_) (fun h13_0 => ?_)
    · refine E_tabIn (kx := 0) (off := 39) C 52 h13_0 dX10_monthOf_13 (by decide +kernel) (by decide) ?_
      refine E_aload_n C dX10_monthOf_52 0 rfl ?_
      refine E_getR C F_X10_14 dX10_monthOf_53 (fun x53 => ?_)
      refine E_getR C F_X10_106 dX10_monthOf_56 (fun x56 => ?_)
      refine E_iload_n C dX10_monthOf_59 1 rfl ?_
      refine E_iload_n C dX10_monthOf_60 2 rfl ?_
      refine E_callVI (st := []) C [.int v1, .int v2] (mX0_inflowIn x56 v1 v2 μ4) cal_X0_inflowIn vir_X0_inflowIn lk_X10_159 dX10_monthOf_61 rfl rfl (Nat.le_of_ble_eq_true rfl) (Nat.le_of_ble_eq_true rfl) (fun x61 μ61 => ?_)
      exact E_iret C dX10_monthOf_64
    · refine E_ite (fun h13_1 => ?_) (fun h13_1 => ?_)
      · refine E_tabIn (kx := 1) (off := 39) C 52 h13_1 dX10_monthOf_13 (by decide +kernel) (by decide) ?_
        refine E_aload_n C dX10_monthOf_52 0 rfl ?_
        refine E_getR C F_X10_14 dX10_monthOf_53 (fun x53 => ?_)
        refine E_getR C F_X10_106 dX10_monthOf_56 (fun x56 => ?_)
        refine E_iload_n C dX10_monthOf_59 1 rfl ?_
        refine E_iload_n C dX10_monthOf_60 2 rfl ?_
        refine E_callVI (st := []) C [.int v1, .int v2] (mX0_inflowIn x56 v1 v2 μ4) cal_X0_inflowIn vir_X0_inflowIn lk_X10_159 dX10_monthOf_61 rfl rfl (Nat.le_of_ble_eq_true rfl) (Nat.le_of_ble_eq_true rfl) (fun x61 μ61 => ?_)
        exact E_iret C dX10_monthOf_64
      · refine E_ite (fun h13_2 => ?_) (fun h13_2 => ?_)
        · refine E_tabIn (kx := 2) (off := 39) C 52 h13_2 dX10_monthOf_13 (by decide +kernel) (by decide) ?_
          refine E_aload_n C dX10_monthOf_52 0 rfl ?_
          refine E_getR C F_X10_14 dX10_monthOf_53 (fun x53 => ?_)
          refine E_getR C F_X10_106 dX10_monthOf_56 (fun x56 => ?_)
          refine E_iload_n C dX10_monthOf_59 1 rfl ?_
          refine E_iload_n C dX10_monthOf_60 2 rfl ?_
          refine E_callVI (st := []) C [.int v1, .int v2] (mX0_inflowIn x56 v1 v2 μ4) cal_X0_inflowIn vir_X0_inflowIn lk_X10_159 dX10_monthOf_61 rfl rfl (Nat.le_of_ble_eq_true rfl) (Nat.le_of_ble_eq_true rfl) (fun x61 μ61 => ?_)
          exact E_iret C dX10_monthOf_64
        · refine E_ite (fun h13_3 => ?_) (fun h13_3 => ?_)
          · refine E_tabIn (kx := 3) (off := 52) C 65 h13_3 dX10_monthOf_13 (by decide +kernel) (by decide) ?_
            refine E_aload_n C dX10_monthOf_65 0 rfl ?_
            refine E_getR C F_X10_14 dX10_monthOf_66 (fun x66 => ?_)
            refine E_getR C F_X10_106 dX10_monthOf_69 (fun x69 => ?_)
            refine E_getR C F_X10_162 dX10_monthOf_72 (fun x72 => ?_)
            refine E_iload_n C dX10_monthOf_75 1 rfl ?_
            refine E_iaload C dX10_monthOf_76 (fun x76 => ?_)
            exact E_iret C dX10_monthOf_77
          · refine E_ite (fun h13_4 => ?_) (fun h13_4 => ?_)
            · refine E_tabIn (kx := 4) (off := 65) C 78 h13_4 dX10_monthOf_13 (by decide +kernel) (by decide) ?_
              refine E_aload_n C dX10_monthOf_78 0 rfl ?_
              refine E_getR C F_X10_14 dX10_monthOf_79 (fun x79 => ?_)
              refine E_getR C F_X10_106 dX10_monthOf_82 (fun x82 => ?_)
              refine E_getR C F_X10_166 dX10_monthOf_85 (fun x85 => ?_)
              refine E_iload_n C dX10_monthOf_88 1 rfl ?_
              refine E_iaload C dX10_monthOf_89 (fun x89 => ?_)
              exact E_iret C dX10_monthOf_90
            · refine E_ite (fun h13_5 => ?_) (fun h13_5 => ?_)
              · refine E_tabIn (kx := 5) (off := 78) C 91 h13_5 dX10_monthOf_13 (by decide +kernel) (by decide) ?_
                refine E_aload_n C dX10_monthOf_91 0 rfl ?_
                refine E_getR C F_X10_14 dX10_monthOf_92 (fun x92 => ?_)
                refine E_getR C F_X10_106 dX10_monthOf_95 (fun x95 => ?_)
                refine E_iload_n C dX10_monthOf_98 1 rfl ?_
                refine E_callVI (st := []) C [.int v1] (mX0_topOf x95 v1 μ4) cal_X0_topOf vir_X0_topOf lk_X10_169 dX10_monthOf_99 rfl rfl (Nat.le_of_ble_eq_true rfl) (Nat.le_of_ble_eq_true rfl) (fun x99 μ99 => ?_)
                exact E_iret C dX10_monthOf_102
              · refine E_tabOut C 103 dX10_monthOf_13 (by have q0 := i32_ne h13_0 (n := 0) rfl; have q1 := i32_ne h13_1 (n := 1) rfl; have q2 := i32_ne h13_2 (n := 2) rfl; have q3 := i32_ne h13_3 (n := 3) rfl; have q4 := i32_ne h13_4 (n := 4) rfl; have q5 := i32_ne h13_5 (n := 5) rfl; omega) (by decide) ?_
                refine E_iconst C (-1) dX10_monthOf_103 (by decide) ?_
                exact E_iret C dX10_monthOf_104
  · refine E_at (pc2 := 10) rfl ?_
    refine E_iconst C (-1) dX10_monthOf_10 (by decide) ?_
    exact E_iret C dX10_monthOf_11
def fX10_partOf (v0 : Nat) (v1 : Int32) (v2 : Int32) (μ : Mem) : Option (Int32 × Mem) :=
  bd (fX10_isState v1 μ) fun x1 μ1 => if x1 = 0 then (some ((-1 : Int32), μ1)) else (bd (fX10_within v2 ((0 : Int32)) ((3 : Int32)) μ1) fun x10 μ10 => if x10 = 0 then (some ((-1 : Int32), μ10)) else (if v2 = (3 : Int32) then ((gR μ10 v0 10 0).bind fun x24 => (gR μ10 x24 8 0).bind fun x27 => (isC μ10 x27 0).bind fun _ => bd (fX0_allPartsFrom x27 v1 μ10) fun x31 μ31 => some (x31, μ31)) else ((gR μ10 v0 10 0).bind fun x38 => (gR μ10 x38 8 0).bind fun x41 => (gR μ10 x41 0 5).bind fun x44 => (aI μ10 0 x44 (((v1 * (3 : Int32)) + v2))).bind fun x52 => some (x52, μ10))))
set_option maxHeartbeats 4000000 in
set_option maxRecDepth 100000 in
theorem mX10_partOf (v0 : Nat) (v1 : Int32) (v2 : Int32) (μ : Mem) : Meth wI yX10_partOf cX10_partOf 3 (some .int) 2 [.ref v0, .int v1, .int v2] μ (fX10_partOf v0 v1 v2 μ) := by
  refine Meth.of (by decide) [(0, .ref v0), (1, .int v1), (2, .int v2)] rfl (Nat.le_of_ble_eq_true rfl) ?_
  intro p l e R s m args below meth c D ca ad A X C
  have C : CX p R s m args meth c D ca ad A X cX10_partOf RX10 3 (some .int) 2 := C
  unfold fX10_partOf
  refine E_iload_n C dX10_partOf_0 1 rfl ?_
  refine E_callSI (st := []) C [.int v1] (mX10_isState v1 μ) cal_X10_isState st_X10_isState lk_X10_172 dX10_partOf_1 rfl rfl (Nat.le_of_ble_eq_true rfl) (Nat.le_of_ble_eq_true rfl) (fun x1 μ1 => ?_)
  refine E_if_eq C 16 dX10_partOf_4 (by decide) ?_ ?_
  · refine E_iconst C (-1) dX10_partOf_16 (by decide) ?_
    exact E_iret C dX10_partOf_17
  · refine E_at (pc2 := 7) rfl ?_
    refine E_iload_n C dX10_partOf_7 2 rfl ?_
    refine E_iconst C 0 dX10_partOf_8 (by decide) ?_
    refine E_iconst C 3 dX10_partOf_9 (by decide) ?_
    refine E_callSI (st := []) C [.int v2, .int ((0 : Int32)), .int ((3 : Int32))] (mX10_within v2 ((0 : Int32)) ((3 : Int32)) μ1) cal_X10_within st_X10_within lk_X10_134 dX10_partOf_10 rfl rfl (Nat.le_of_ble_eq_true rfl) (Nat.le_of_ble_eq_true rfl) (fun x10 μ10 => ?_)
    refine E_if_ne C 18 dX10_partOf_13 (by decide) ?_ ?_
    · refine E_iload_n C dX10_partOf_18 2 rfl ?_
      refine E_iconst C 3 dX10_partOf_19 (by decide) ?_
      refine E_icmp_ne C 37 dX10_partOf_20 (by decide) ?_ ?_
      · refine E_aload_n C dX10_partOf_37 0 rfl ?_
        refine E_getR C F_X10_14 dX10_partOf_38 (fun x38 => ?_)
        refine E_getR C F_X10_106 dX10_partOf_41 (fun x41 => ?_)
        refine E_getR C F_X10_179 dX10_partOf_44 (fun x44 => ?_)
        refine E_iload_n C dX10_partOf_47 1 rfl ?_
        refine E_iconst C 3 dX10_partOf_48 (by decide) ?_
        refine E_imul C dX10_partOf_49 ?_
        refine E_iload_n C dX10_partOf_50 2 rfl ?_
        refine E_iadd C dX10_partOf_51 ?_
        refine E_iaload C dX10_partOf_52 (fun x52 => ?_)
        exact E_iret C dX10_partOf_53
      · refine E_at (pc2 := 23) rfl ?_
        refine E_aload_n C dX10_partOf_23 0 rfl ?_
        refine E_getR C F_X10_14 dX10_partOf_24 (fun x24 => ?_)
        refine E_getR C F_X10_106 dX10_partOf_27 (fun x27 => ?_)
        refine E_iload_n C dX10_partOf_30 1 rfl ?_
        refine E_callVI (st := []) C [.int v1] (mX0_allPartsFrom x27 v1 μ10) cal_X0_allPartsFrom vir_X0_allPartsFrom lk_X10_176 dX10_partOf_31 rfl rfl (Nat.le_of_ble_eq_true rfl) (Nat.le_of_ble_eq_true rfl) (fun x31 μ31 => ?_)
        refine E_goto C 53 dX10_partOf_34 (by decide) ?_
        exact E_iret C dX10_partOf_53
    · refine E_at (pc2 := 16) rfl ?_
      refine E_iconst C (-1) dX10_partOf_16 (by decide) ?_
      exact E_iret C dX10_partOf_17
def fX10_demandOf (v0 : Nat) (v1 : Int32) (v2 : Int32) (μ : Mem) : Option (Int32 × Mem) :=
  (gR μ v0 10 0).bind fun x1 => (gR μ x1 8 0).bind fun x4 => (isC μ x4 0).bind fun _ => bd (fX0_hasDemand x4 v1 μ) fun x8 μ8 => if x8 = 0 then (some ((-1 : Int32), μ8)) else (if v2 = (6 : Int32) then ((gR μ8 v0 10 0).bind fun x23 => (gR μ8 x23 8 0).bind fun x26 => (isC μ8 x26 0).bind fun _ => bd (fX0_placeByRank x26 v1 μ8) fun x30 μ30 => some (x30, μ30)) else ((gR μ8 v0 10 0).bind fun x37 => (gR μ8 x37 8 0).bind fun x40 => (gR μ8 x40 0 8).bind fun x43 => (aR μ8 4 x43 v1).bind fun x47 => (isC μ8 x47 5).bind fun _ => bd (fX5_tell x47 v2 μ8) fun x49 μ49 => some (x49, μ49)))
set_option maxHeartbeats 4000000 in
set_option maxRecDepth 100000 in
theorem mX10_demandOf (v0 : Nat) (v1 : Int32) (v2 : Int32) (μ : Mem) : Meth wI yX10_demandOf cX10_demandOf 3 (some .int) 2 [.ref v0, .int v1, .int v2] μ (fX10_demandOf v0 v1 v2 μ) := by
  refine Meth.of (by decide) [(0, .ref v0), (1, .int v1), (2, .int v2)] rfl (Nat.le_of_ble_eq_true rfl) ?_
  intro p l e R s m args below meth c D ca ad A X C
  have C : CX p R s m args meth c D ca ad A X cX10_demandOf RX10 3 (some .int) 2 := C
  unfold fX10_demandOf
  refine E_aload_n C dX10_demandOf_0 0 rfl ?_
  refine E_getR C F_X10_14 dX10_demandOf_1 (fun x1 => ?_)
  refine E_getR C F_X10_106 dX10_demandOf_4 (fun x4 => ?_)
  refine E_iload_n C dX10_demandOf_7 1 rfl ?_
  refine E_callVI (st := []) C [.int v1] (mX0_hasDemand x4 v1 μ) cal_X0_hasDemand vir_X0_hasDemand lk_X10_182 dX10_demandOf_8 rfl rfl (Nat.le_of_ble_eq_true rfl) (Nat.le_of_ble_eq_true rfl) (fun x8 μ8 => ?_)
  refine E_if_ne C 16 dX10_demandOf_11 (by decide) ?_ ?_
  · refine E_iload_n C dX10_demandOf_16 2 rfl ?_
    refine E_bipush C 6 dX10_demandOf_17 (by decide) ?_
    refine E_icmp_ne C 36 dX10_demandOf_19 (by decide) ?_ ?_
    · refine E_aload_n C dX10_demandOf_36 0 rfl ?_
      refine E_getR C F_X10_14 dX10_demandOf_37 (fun x37 => ?_)
      refine E_getR C F_X10_106 dX10_demandOf_40 (fun x40 => ?_)
      refine E_getR C F_X10_188 dX10_demandOf_43 (fun x43 => ?_)
      refine E_iload_n C dX10_demandOf_46 1 rfl ?_
      refine E_aaload C rfl dX10_demandOf_47 (fun x47 => ?_)
      refine E_iload_n C dX10_demandOf_48 2 rfl ?_
      refine E_callVI (st := []) C [.int v2] (mX5_tell x47 v2 μ8) cal_X5_tell vir_X5_tell lk_X10_192 dX10_demandOf_49 rfl rfl (Nat.le_of_ble_eq_true rfl) (Nat.le_of_ble_eq_true rfl) (fun x49 μ49 => ?_)
      exact E_iret C dX10_demandOf_52
    · refine E_at (pc2 := 22) rfl ?_
      refine E_aload_n C dX10_demandOf_22 0 rfl ?_
      refine E_getR C F_X10_14 dX10_demandOf_23 (fun x23 => ?_)
      refine E_getR C F_X10_106 dX10_demandOf_26 (fun x26 => ?_)
      refine E_iload_n C dX10_demandOf_29 1 rfl ?_
      refine E_callVI (st := []) C [.int v1] (mX0_placeByRank x26 v1 μ8) cal_X0_placeByRank vir_X0_placeByRank lk_X10_185 dX10_demandOf_30 rfl rfl (Nat.le_of_ble_eq_true rfl) (Nat.le_of_ble_eq_true rfl) (fun x30 μ30 => ?_)
      refine E_goto C 52 dX10_demandOf_33 (by decide) ?_
      exact E_iret C dX10_demandOf_52
  · refine E_at (pc2 := 14) rfl ?_
    refine E_iconst C (-1) dX10_demandOf_14 (by decide) ?_
    exact E_iret C dX10_demandOf_15
def X10_isUnder_L4 (G : Mem → Option (Int32 × Mem)) (v1 : Int32) : Nat → Int32 → Int32 → Mem → Option (Int32 × Mem)
  | 0, _, _, _ => none
  | n + 1, v2, v3, μ => if (5 : Int32) ≤ v3 then (G μ) else (bd (fX10_within v2 ((0 : Int32)) ((4 : Int32)) μ) fun x15 μ15 => if x15 = 0 then (G μ15) else (if v2 = v1 then ((zz ((1 : Int32))).bind fun z => some (z, μ15)) else ((kI [-1, 0, 0, 1, 0] v2).bind fun x32 => X10_isUnder_L4 G v1 n x32 ((v3 + 1)) μ15)))
set_option maxHeartbeats 4000000 in
set_option maxRecDepth 100000 in
theorem X10_isUnder_L4_ok {p : Program} {l : Launch} {e : Env} {R : Room} {s : State} {m : MethodId} {args : Array Value} {below : List Frame} {meth : Method} {c : Code} {D : va_G} {ca : Nat → ClassId} {ad : Nat → Nat} {A : Nat → Prop} {X : State → Prop} (C : CX p R s m args meth c D ca ad A X cX10_isUnder RX10 4 (some .boolean) 1) {G : Mem → Option (Int32 × Mem)} (v1 : Int32) (hG : ∀  (μx : Mem), Sm p l e R s m args below meth c D ca ad A 4 0 0 wI (KQ below args s D ca ad A) 40 [] [] μx (G  μx)) : ∀ (n : Nat) (v2 : Int32) (v3 : Int32) (μ : Mem), Sm p l e R s m args below meth c D ca ad A 4 0 0 wI (KQ below args s D ca ad A) 4 [(1, .int v1), (2, .int v2), (3, .int v3)] [] μ (X10_isUnder_L4 G v1 n v2 v3 μ) := by
  intro n
  induction n with
  | zero =>
    intro v2 v3 μ
    rw [X10_isUnder_L4]
    exact E_none
  | succ n ih =>
    intro v2 v3 μ
    rw [X10_isUnder_L4]
    refine E_iload_n C dX10_isUnder_4 2 rfl ?_
    refine E_gets C (j := 0) rfl gs_X10_374 dX10_isUnder_5 ?_
    refine E_klen (q := ("KIND_ABOVE", [-1, 0, 0, 1, 0])) C rfl 5 (by decide) dX10_isUnder_8 ?_
    refine E_icmp_ge C 40 dX10_isUnder_9 (by decide) ?_ ?_
    · exact E_pick [] rfl (hG μ)
    · refine E_at (pc2 := 12) rfl ?_
      refine E_iload_n C dX10_isUnder_12 1 rfl ?_
      refine E_iconst C 0 dX10_isUnder_13 (by decide) ?_
      refine E_iconst C 4 dX10_isUnder_14 (by decide) ?_
      refine E_callSI (st := []) C [.int v2, .int ((0 : Int32)), .int ((4 : Int32))] (mX10_within v2 ((0 : Int32)) ((4 : Int32)) μ) cal_X10_within st_X10_within lk_X10_134 dX10_isUnder_15 rfl rfl (Nat.le_of_ble_eq_true rfl) (Nat.le_of_ble_eq_true rfl) (fun x15 μ15 => ?_)
      refine E_if_eq C 40 dX10_isUnder_18 (by decide) ?_ ?_
      · exact E_pick [] rfl (hG μ15)
      · refine E_at (pc2 := 21) rfl ?_
        refine E_iload_n C dX10_isUnder_21 1 rfl ?_
        refine E_iload_n C dX10_isUnder_22 0 rfl ?_
        refine E_icmp_ne C 28 dX10_isUnder_23 (by decide) ?_ ?_
        · refine E_gets C (j := 0) rfl gs_X10_374 dX10_isUnder_28 ?_
          refine E_iload_n C dX10_isUnder_31 1 rfl ?_
          refine E_kald (q := ("KIND_ABOVE", [-1, 0, 0, 1, 0])) C rfl dX10_isUnder_32 (fun x32 => ?_)
          refine E_istore_n (lv' := [(2, .int x32), (1, .int v1), (3, .int v3)]) C dX10_isUnder_33 (by decide) rfl ?_
          refine E_iinc (lv' := [(3, .int ((v3 + 1))), (2, .int x32), (1, .int v1)]) C (v3 + 1) dX10_isUnder_34 2 rfl rfl (by decide) rfl ?_
          refine E_goto C 4 dX10_isUnder_37 (by decide) ?_
          exact E_pick [2, 1, 0] rfl (ih x32 ((v3 + 1)) μ15)
        · refine E_at (pc2 := 26) rfl ?_
          refine E_iconst C 1 dX10_isUnder_26 (by decide) ?_
          exact E_zret C dX10_isUnder_27
def fX10_isUnder (v0 : Int32) (v1 : Int32) (μ : Mem) : Option (Int32 × Mem) :=
  X10_isUnder_L4 (fun μ_40 => (zz ((0 : Int32))).bind fun z => some (z, μ_40)) v1 FU v0 ((0 : Int32)) μ
set_option maxHeartbeats 4000000 in
set_option maxRecDepth 100000 in
theorem mX10_isUnder (v0 : Int32) (v1 : Int32) (μ : Mem) : Meth wI yX10_isUnder cX10_isUnder 4 (some .boolean) 1 [.int v0, .int v1] μ (fX10_isUnder v0 v1 μ) := by
  refine Meth.of (by decide) [(0, .int v0), (1, .int v1)] rfl (Nat.le_of_ble_eq_true rfl) ?_
  intro p l e R s m args below meth c D ca ad A X C
  have C : CX p R s m args meth c D ca ad A X cX10_isUnder RX10 4 (some .boolean) 1 := C
  unfold fX10_isUnder
  refine E_iload_n C dX10_isUnder_0 0 rfl ?_
  refine E_istore_n (lv' := [(2, .int v0), (0, .int v0), (1, .int v1)]) C dX10_isUnder_1 (by decide) rfl ?_
  refine E_iconst C 0 dX10_isUnder_2 (by decide) ?_
  refine E_istore_n (lv' := [(3, .int ((0 : Int32))), (2, .int v0), (0, .int v0), (1, .int v1)]) C dX10_isUnder_3 (by decide) rfl ?_
  refine E_at (pc2 := 4) rfl ?_
  refine E_pick (lv' := [(1, .int v1), (2, .int v0), (3, .int ((0 : Int32)))]) [3, 1, 0] rfl ?_
  refine X10_isUnder_L4_ok C v1 (fun μ_40 => ?_) FU v0 ((0 : Int32)) μ
  refine E_iconst C 0 dX10_isUnder_40 (by decide) ?_
  exact E_zret C dX10_isUnder_41
def fX10_taken (v0 : Nat) (v1 : Int32) (v2 : Int32) (μ : Mem) : Option (Int32 × Mem) :=
  (gR μ v0 10 0).bind fun x1 => (gR μ x1 8 0).bind fun x4 => (isC μ x4 0).bind fun _ => bd (fX0_hasDemand x4 v1 μ) fun x8 μ8 => if x8 = 0 then (some ((-1 : Int32), μ8)) else (bd (fX10_within v2 ((0 : Int32)) ((4 : Int32)) μ8) fun x19 μ19 => if x19 = 0 then (some ((-2 : Int32), μ19)) else ((gR μ19 v0 10 0).bind fun x29 => (gR μ19 x29 8 0).bind fun x32 => (gR μ19 x32 0 8).bind fun x35 => (aR μ19 4 x35 v1).bind fun x39 => (gI μ19 x39 5 0).bind fun x40 => bd (fX10_isUnder x40 v2 μ19) fun x46 μ46 => if x46 = 0 then (some ((-12 : Int32), μ46)) else (some (x40, μ46))))
set_option maxHeartbeats 4000000 in
set_option maxRecDepth 100000 in
theorem mX10_taken (v0 : Nat) (v1 : Int32) (v2 : Int32) (μ : Mem) : Meth wI yX10_taken cX10_taken 4 (some .int) 2 [.ref v0, .int v1, .int v2] μ (fX10_taken v0 v1 v2 μ) := by
  refine Meth.of (by decide) [(0, .ref v0), (1, .int v1), (2, .int v2)] rfl (Nat.le_of_ble_eq_true rfl) ?_
  intro p l e R s m args below meth c D ca ad A X C
  have C : CX p R s m args meth c D ca ad A X cX10_taken RX10 4 (some .int) 2 := C
  unfold fX10_taken
  refine E_aload_n C dX10_taken_0 0 rfl ?_
  refine E_getR C F_X10_14 dX10_taken_1 (fun x1 => ?_)
  refine E_getR C F_X10_106 dX10_taken_4 (fun x4 => ?_)
  refine E_iload_n C dX10_taken_7 1 rfl ?_
  refine E_callVI (st := []) C [.int v1] (mX0_hasDemand x4 v1 μ) cal_X0_hasDemand vir_X0_hasDemand lk_X10_182 dX10_taken_8 rfl rfl (Nat.le_of_ble_eq_true rfl) (Nat.le_of_ble_eq_true rfl) (fun x8 μ8 => ?_)
  refine E_if_ne C 16 dX10_taken_11 (by decide) ?_ ?_
  · refine E_iload_n C dX10_taken_16 2 rfl ?_
    refine E_iconst C 0 dX10_taken_17 (by decide) ?_
    refine E_iconst C 4 dX10_taken_18 (by decide) ?_
    refine E_callSI (st := []) C [.int v2, .int ((0 : Int32)), .int ((4 : Int32))] (mX10_within v2 ((0 : Int32)) ((4 : Int32)) μ8) cal_X10_within st_X10_within lk_X10_134 dX10_taken_19 rfl rfl (Nat.le_of_ble_eq_true rfl) (Nat.le_of_ble_eq_true rfl) (fun x19 μ19 => ?_)
    refine E_if_ne C 28 dX10_taken_22 (by decide) ?_ ?_
    · refine E_aload_n C dX10_taken_28 0 rfl ?_
      refine E_getR C F_X10_14 dX10_taken_29 (fun x29 => ?_)
      refine E_getR C F_X10_106 dX10_taken_32 (fun x32 => ?_)
      refine E_getR C F_X10_188 dX10_taken_35 (fun x35 => ?_)
      refine E_iload_n C dX10_taken_38 1 rfl ?_
      refine E_aaload C rfl dX10_taken_39 (fun x39 => ?_)
      refine E_getI C F_X10_197 dX10_taken_40 (fun x40 => ?_)
      refine E_istore_n (lv' := [(3, .int x40), (0, .ref v0), (1, .int v1), (2, .int v2)]) C dX10_taken_43 (by decide) rfl ?_
      refine E_iload_n C dX10_taken_44 0 rfl ?_
      refine E_iload_n C dX10_taken_45 3 rfl ?_
      refine E_callSI (st := []) C [.int x40, .int v2] (mX10_isUnder x40 v2 μ19) cal_X10_isUnder st_X10_isUnder lk_X10_200 dX10_taken_46 rfl rfl (Nat.le_of_ble_eq_true rfl) (Nat.le_of_ble_eq_true rfl) (fun x46 μ46 => ?_)
      refine E_if_eq C 56 dX10_taken_49 (by decide) ?_ ?_
      · refine E_bipush C (-12) dX10_taken_56 (by decide) ?_
        exact E_iret C dX10_taken_58
      · refine E_at (pc2 := 52) rfl ?_
        refine E_iload_n C dX10_taken_52 0 rfl ?_
        refine E_goto C 58 dX10_taken_53 (by decide) ?_
        exact E_iret C dX10_taken_58
    · refine E_at (pc2 := 25) rfl ?_
      refine E_bipush C (-2) dX10_taken_25 (by decide) ?_
      exact E_iret C dX10_taken_27
  · refine E_at (pc2 := 14) rfl ?_
    refine E_iconst C (-1) dX10_taken_14 (by decide) ?_
    exact E_iret C dX10_taken_15
def fX10_wanted (v0 : Nat) (v1 : Int32) (v2 : Int32) (μ : Mem) : Option (Int32 × Mem) :=
  (gR μ v0 10 0).bind fun x1 => (gR μ x1 8 0).bind fun x4 => (isC μ x4 0).bind fun _ => bd (fX0_hasDemand x4 v1 μ) fun x8 μ8 => if x8 = 0 then (some ((-1 : Int32), μ8)) else (bd (fX10_within v2 ((0 : Int32)) ((11 : Int32)) μ8) fun x18 μ18 => if x18 = 0 then (some ((-1 : Int32), μ18)) else ((gR μ18 v0 10 0).bind fun x27 => (gR μ18 x27 8 0).bind fun x30 => (gR μ18 x30 0 8).bind fun x33 => (aR μ18 4 x33 v1).bind fun x37 => (isC μ18 x37 5).bind fun _ => bd (fX5_wantedIn x37 v2 μ18) fun x39 μ39 => some (x39, μ39)))
set_option maxHeartbeats 4000000 in
set_option maxRecDepth 100000 in
theorem mX10_wanted (v0 : Nat) (v1 : Int32) (v2 : Int32) (μ : Mem) : Meth wI yX10_wanted cX10_wanted 3 (some .int) 2 [.ref v0, .int v1, .int v2] μ (fX10_wanted v0 v1 v2 μ) := by
  refine Meth.of (by decide) [(0, .ref v0), (1, .int v1), (2, .int v2)] rfl (Nat.le_of_ble_eq_true rfl) ?_
  intro p l e R s m args below meth c D ca ad A X C
  have C : CX p R s m args meth c D ca ad A X cX10_wanted RX10 3 (some .int) 2 := C
  unfold fX10_wanted
  refine E_aload_n C dX10_wanted_0 0 rfl ?_
  refine E_getR C F_X10_14 dX10_wanted_1 (fun x1 => ?_)
  refine E_getR C F_X10_106 dX10_wanted_4 (fun x4 => ?_)
  refine E_iload_n C dX10_wanted_7 1 rfl ?_
  refine E_callVI (st := []) C [.int v1] (mX0_hasDemand x4 v1 μ) cal_X0_hasDemand vir_X0_hasDemand lk_X10_182 dX10_wanted_8 rfl rfl (Nat.le_of_ble_eq_true rfl) (Nat.le_of_ble_eq_true rfl) (fun x8 μ8 => ?_)
  refine E_if_eq C 24 dX10_wanted_11 (by decide) ?_ ?_
  · refine E_iconst C (-1) dX10_wanted_24 (by decide) ?_
    exact E_iret C dX10_wanted_25
  · refine E_at (pc2 := 14) rfl ?_
    refine E_iload_n C dX10_wanted_14 2 rfl ?_
    refine E_iconst C 0 dX10_wanted_15 (by decide) ?_
    refine E_bipush C 11 dX10_wanted_16 (by decide) ?_
    refine E_callSI (st := []) C [.int v2, .int ((0 : Int32)), .int ((11 : Int32))] (mX10_within v2 ((0 : Int32)) ((11 : Int32)) μ8) cal_X10_within st_X10_within lk_X10_134 dX10_wanted_18 rfl rfl (Nat.le_of_ble_eq_true rfl) (Nat.le_of_ble_eq_true rfl) (fun x18 μ18 => ?_)
    refine E_if_ne C 26 dX10_wanted_21 (by decide) ?_ ?_
    · refine E_aload_n C dX10_wanted_26 0 rfl ?_
      refine E_getR C F_X10_14 dX10_wanted_27 (fun x27 => ?_)
      refine E_getR C F_X10_106 dX10_wanted_30 (fun x30 => ?_)
      refine E_getR C F_X10_188 dX10_wanted_33 (fun x33 => ?_)
      refine E_iload_n C dX10_wanted_36 1 rfl ?_
      refine E_aaload C rfl dX10_wanted_37 (fun x37 => ?_)
      refine E_iload_n C dX10_wanted_38 2 rfl ?_
      refine E_callVI (st := []) C [.int v2] (mX5_wantedIn x37 v2 μ18) cal_X5_wantedIn vir_X5_wantedIn lk_X10_204 dX10_wanted_39 rfl rfl (Nat.le_of_ble_eq_true rfl) (Nat.le_of_ble_eq_true rfl) (fun x39 μ39 => ?_)
      exact E_iret C dX10_wanted_42
    · refine E_at (pc2 := 24) rfl ?_
      refine E_iconst C (-1) dX10_wanted_24 (by decide) ?_
      exact E_iret C dX10_wanted_25
def fX10_served (v0 : Nat) (v1 : Int32) (v2 : Int32) (v3 : Int32) (v4 : Int32) (μ : Mem) : Option (Int64 × Mem) :=
  (gR μ v0 10 0).bind fun x1 => (gR μ x1 8 0).bind fun x4 => (isC μ x4 0).bind fun _ => bd (fX0_hasDemand x4 v1 μ) fun x8 μ8 => if x8 = 0 then (some ((-9223372036854775808 : Int64), μ8)) else (bd (fX10_within v2 ((0 : Int32)) ((11 : Int32)) μ8) fun x18 μ18 => if x18 = 0 then (some ((-9223372036854775808 : Int64), μ18)) else (if v3 < 0 then (some ((-9223372036854775808 : Int64), μ18)) else (bd (fX10_within v4 ((0 : Int32)) ((1 : Int32)) μ18) fun x32 μ32 => if x32 = 0 then (some ((-9223372036854775808 : Int64), μ32)) else ((gR μ32 v0 10 0).bind fun x43 => (gR μ32 x43 8 0).bind fun x46 => (isC μ32 x46 0).bind fun _ => bd (fX0_gotBy x46 v1 v2 v3 μ32) fun x52 μ52 => if v4 = 0 then (some (x52.toInt64, μ52)) else ((gR μ52 v0 10 0).bind fun x69 => (gR μ52 x69 8 0).bind fun x72 => (gR μ52 x72 0 8).bind fun x75 => (aR μ52 4 x75 v1).bind fun x79 => (gR μ52 v0 10 0).bind fun x83 => (gR μ52 x83 8 0).bind fun x86 => (gR μ52 x86 0 8).bind fun x89 => (aR μ52 4 x89 v1).bind fun x93 => (isC μ52 x93 5).bind fun _ => bd (fX5_wantedIn x93 v2 μ52) fun x95 μ95 => (isC μ95 x79 5).bind fun _ => bd (fX5_gainOf x79 x52 x95 μ95) fun x98 μ98 => some (x98.toInt64, μ98))))))
set_option maxHeartbeats 4000000 in
set_option maxRecDepth 100000 in
theorem mX10_served (v0 : Nat) (v1 : Int32) (v2 : Int32) (v3 : Int32) (v4 : Int32) (μ : Mem) : Meth wJ yX10_served cX10_served 6 (some .long) 3 [.ref v0, .int v1, .int v2, .int v3, .int v4] μ (fX10_served v0 v1 v2 v3 v4 μ) := by
  refine Meth.of (by decide) [(0, .ref v0), (1, .int v1), (2, .int v2), (3, .int v3), (4, .int v4)] rfl (Nat.le_of_ble_eq_true rfl) ?_
  intro p l e R s m args below meth c D ca ad A X C
  have C : CX p R s m args meth c D ca ad A X cX10_served RX10 6 (some .long) 3 := C
  unfold fX10_served
  refine E_aload_n C dX10_served_0 0 rfl ?_
  refine E_getR C F_X10_14 dX10_served_1 (fun x1 => ?_)
  refine E_getR C F_X10_106 dX10_served_4 (fun x4 => ?_)
  refine E_iload_n C dX10_served_7 1 rfl ?_
  refine E_callVI (st := []) C [.int v1] (mX0_hasDemand x4 v1 μ) cal_X0_hasDemand vir_X0_hasDemand lk_X10_182 dX10_served_8 rfl rfl (Nat.le_of_ble_eq_true rfl) (Nat.le_of_ble_eq_true rfl) (fun x8 μ8 => ?_)
  refine E_if_eq C 38 dX10_served_11 (by decide) ?_ ?_
  · refine E_ldc2 C dX10_served_38 k_X10_207 ?_
    exact E_lret C dX10_served_41
  · refine E_at (pc2 := 14) rfl ?_
    refine E_iload_n C dX10_served_14 2 rfl ?_
    refine E_iconst C 0 dX10_served_15 (by decide) ?_
    refine E_bipush C 11 dX10_served_16 (by decide) ?_
    refine E_callSI (st := []) C [.int v2, .int ((0 : Int32)), .int ((11 : Int32))] (mX10_within v2 ((0 : Int32)) ((11 : Int32)) μ8) cal_X10_within st_X10_within lk_X10_134 dX10_served_18 rfl rfl (Nat.le_of_ble_eq_true rfl) (Nat.le_of_ble_eq_true rfl) (fun x18 μ18 => ?_)
    refine E_if_eq C 38 dX10_served_21 (by decide) ?_ ?_
    · refine E_ldc2 C dX10_served_38 k_X10_207 ?_
      exact E_lret C dX10_served_41
    · refine E_at (pc2 := 24) rfl ?_
      refine E_iload_n C dX10_served_24 3 rfl ?_
      refine E_if_lt C 38 dX10_served_25 (by decide) ?_ ?_
      · refine E_ldc2 C dX10_served_38 k_X10_207 ?_
        exact E_lret C dX10_served_41
      · refine E_at (pc2 := 28) rfl ?_
        refine E_iload C dX10_served_28 4 rfl ?_
        refine E_iconst C 0 dX10_served_30 (by decide) ?_
        refine E_iconst C 1 dX10_served_31 (by decide) ?_
        refine E_callSI (st := []) C [.int v4, .int ((0 : Int32)), .int ((1 : Int32))] (mX10_within v4 ((0 : Int32)) ((1 : Int32)) μ18) cal_X10_within st_X10_within lk_X10_134 dX10_served_32 rfl rfl (Nat.le_of_ble_eq_true rfl) (Nat.le_of_ble_eq_true rfl) (fun x32 μ32 => ?_)
        refine E_if_ne C 42 dX10_served_35 (by decide) ?_ ?_
        · refine E_aload_n C dX10_served_42 0 rfl ?_
          refine E_getR C F_X10_14 dX10_served_43 (fun x43 => ?_)
          refine E_getR C F_X10_106 dX10_served_46 (fun x46 => ?_)
          refine E_iload_n C dX10_served_49 1 rfl ?_
          refine E_iload_n C dX10_served_50 2 rfl ?_
          refine E_iload_n C dX10_served_51 3 rfl ?_
          refine E_callVI (st := []) C [.int v1, .int v2, .int v3] (mX0_gotBy x46 v1 v2 v3 μ32) cal_X0_gotBy vir_X0_gotBy lk_X10_209 dX10_served_52 rfl rfl (Nat.le_of_ble_eq_true rfl) (Nat.le_of_ble_eq_true rfl) (fun x52 μ52 => ?_)
          refine E_istore (lv' := [(5, .int x52), (0, .ref v0), (1, .int v1), (2, .int v2), (3, .int v3), (4, .int v4)]) C dX10_served_55 (by decide) rfl ?_
          refine E_iload C dX10_served_57 5 rfl ?_
          refine E_if_ne C 68 dX10_served_59 (by decide) ?_ ?_
          · refine E_aload_n C dX10_served_68 1 rfl ?_
            refine E_getR C F_X10_14 dX10_served_69 (fun x69 => ?_)
            refine E_getR C F_X10_106 dX10_served_72 (fun x72 => ?_)
            refine E_getR C F_X10_188 dX10_served_75 (fun x75 => ?_)
            refine E_iload_n C dX10_served_78 2 rfl ?_
            refine E_aaload C rfl dX10_served_79 (fun x79 => ?_)
            refine E_iload C dX10_served_80 0 rfl ?_
            refine E_aload_n C dX10_served_82 1 rfl ?_
            refine E_getR C F_X10_14 dX10_served_83 (fun x83 => ?_)
            refine E_getR C F_X10_106 dX10_served_86 (fun x86 => ?_)
            refine E_getR C F_X10_188 dX10_served_89 (fun x89 => ?_)
            refine E_iload_n C dX10_served_92 2 rfl ?_
            refine E_aaload C rfl dX10_served_93 (fun x93 => ?_)
            refine E_iload_n C dX10_served_94 3 rfl ?_
            refine E_callVI (st := [.int x52, .ref x79]) C [.int v2] (mX5_wantedIn x93 v2 μ52) cal_X5_wantedIn vir_X5_wantedIn lk_X10_204 dX10_served_95 rfl rfl (Nat.le_of_ble_eq_true rfl) (Nat.le_of_ble_eq_true rfl) (fun x95 μ95 => ?_)
            refine E_callVI (st := []) C [.int x52, .int x95] (mX5_gainOf x79 x52 x95 μ95) cal_X5_gainOf vir_X5_gainOf lk_X10_212 dX10_served_98 rfl rfl (Nat.le_of_ble_eq_true rfl) (Nat.le_of_ble_eq_true rfl) (fun x98 μ98 => ?_)
            refine E_i2l C dX10_served_101 ?_
            exact E_lret C dX10_served_102
          · refine E_at (pc2 := 62) rfl ?_
            refine E_iload C dX10_served_62 0 rfl ?_
            refine E_i2l C dX10_served_64 ?_
            refine E_goto C 102 dX10_served_65 (by decide) ?_
            exact E_lret C dX10_served_102
        · refine E_at (pc2 := 38) rfl ?_
          refine E_ldc2 C dX10_served_38 k_X10_207 ?_
          exact E_lret C dX10_served_41
def fX10_isStore (v0 : Nat) (v1 : Int32) (μ : Mem) : Option (Int32 × Mem) :=
  (gR μ v0 10 0).bind fun x3 => (gR μ x3 8 0).bind fun x6 => (gI μ x6 0 0).bind fun x9 => bd (fX10_within v1 ((0 : Int32)) x9 μ) fun x12 μ12 => (zz x12).bind fun z => some (z, μ12)
set_option maxHeartbeats 4000000 in
set_option maxRecDepth 100000 in
theorem mX10_isStore (v0 : Nat) (v1 : Int32) (μ : Mem) : Meth wI yX10_isStore cX10_isStore 2 (some .boolean) 1 [.ref v0, .int v1] μ (fX10_isStore v0 v1 μ) := by
  refine Meth.of (by decide) [(0, .ref v0), (1, .int v1)] rfl (Nat.le_of_ble_eq_true rfl) ?_
  intro p l e R s m args below meth c D ca ad A X C
  have C : CX p R s m args meth c D ca ad A X cX10_isStore RX10 2 (some .boolean) 1 := C
  unfold fX10_isStore
  refine E_iload_n C dX10_isStore_0 1 rfl ?_
  refine E_iconst C 0 dX10_isStore_1 (by decide) ?_
  refine E_aload_n C dX10_isStore_2 0 rfl ?_
  refine E_getR C F_X10_14 dX10_isStore_3 (fun x3 => ?_)
  refine E_getR C F_X10_106 dX10_isStore_6 (fun x6 => ?_)
  refine E_getI C F_X10_276 dX10_isStore_9 (fun x9 => ?_)
  refine E_callSI (st := []) C [.int v1, .int ((0 : Int32)), .int x9] (mX10_within v1 ((0 : Int32)) x9 μ) cal_X10_within st_X10_within lk_X10_134 dX10_isStore_12 rfl rfl (Nat.le_of_ble_eq_true rfl) (Nat.le_of_ble_eq_true rfl) (fun x12 μ12 => ?_)
  exact E_zret C dX10_isStore_15
def fX10_step (v0 : Nat) (v1 : Int32) (v2 : Int32) (v3 : Int32) (v4 : Int32) (v5 : Int32) (μ : Mem) : Option (Int64 × Mem) :=
  bd (fX10_within v1 ((0 : Int32)) ((11 : Int32)) μ) fun x4 μ4 => if x4 = 0 then (some ((-9223372036854775808 : Int64), μ4)) else (bd (fX10_within v5 ((0 : Int32)) ((5 : Int32)) μ4) fun x14 μ14 => if x14 = 0 then (some ((-9223372036854775808 : Int64), μ14)) else ((isC μ14 v0 10).bind fun _ => bd (fX10_isStore v0 v2 μ14) fun x22 μ22 => if x22 = 0 then (some ((-9223372036854775808 : Int64), μ22)) else (bd (fX10_within v3 ((0 : Int32)) ((99 : Int32)) μ22) fun x32 μ32 => if x32 = 0 then (some ((-9223372036854775808 : Int64), μ32)) else (if 0 ≤ v4 then ((gR μ32 v0 10 11).bind fun x48 => (gR μ32 v0 10 0).bind fun x52 => (gR μ32 x52 8 0).bind fun x55 => (isC μ32 x48 7).bind fun _ => bd (fX7_go x48 x55 v1 v2 v3 v4 μ32) fun _ μ63 => (gR μ63 v0 10 11).bind fun x67 => (isC μ63 x67 7).bind fun _ => bd (fX7_tell x67 v5 μ63) fun x72 μ72 => some (x72, μ72)) else (some ((-9223372036854775808 : Int64), μ32))))))
set_option maxHeartbeats 4000000 in
set_option maxRecDepth 100000 in
theorem mX10_step (v0 : Nat) (v1 : Int32) (v2 : Int32) (v3 : Int32) (v4 : Int32) (v5 : Int32) (μ : Mem) : Meth wJ yX10_step cX10_step 6 (some .long) 4 [.ref v0, .int v1, .int v2, .int v3, .int v4, .int v5] μ (fX10_step v0 v1 v2 v3 v4 v5 μ) := by
  refine Meth.of (by decide) [(0, .ref v0), (1, .int v1), (2, .int v2), (3, .int v3), (4, .int v4), (5, .int v5)] rfl (Nat.le_of_ble_eq_true rfl) ?_
  intro p l e R s m args below meth c D ca ad A X C
  have C : CX p R s m args meth c D ca ad A X cX10_step RX10 6 (some .long) 4 := C
  unfold fX10_step
  refine E_iload_n C dX10_step_0 1 rfl ?_
  refine E_iconst C 0 dX10_step_1 (by decide) ?_
  refine E_bipush C 11 dX10_step_2 (by decide) ?_
  refine E_callSI (st := []) C [.int v1, .int ((0 : Int32)), .int ((11 : Int32))] (mX10_within v1 ((0 : Int32)) ((11 : Int32)) μ) cal_X10_within st_X10_within lk_X10_134 dX10_step_4 rfl rfl (Nat.le_of_ble_eq_true rfl) (Nat.le_of_ble_eq_true rfl) (fun x4 μ4 => ?_)
  refine E_if_eq C 43 dX10_step_7 (by decide) ?_ ?_
  · refine E_ldc2 C dX10_step_43 k_X10_207 ?_
    exact E_lret C dX10_step_46
  · refine E_at (pc2 := 10) rfl ?_
    refine E_iload C dX10_step_10 5 rfl ?_
    refine E_iconst C 0 dX10_step_12 (by decide) ?_
    refine E_iconst C 5 dX10_step_13 (by decide) ?_
    refine E_callSI (st := []) C [.int v5, .int ((0 : Int32)), .int ((5 : Int32))] (mX10_within v5 ((0 : Int32)) ((5 : Int32)) μ4) cal_X10_within st_X10_within lk_X10_134 dX10_step_14 rfl rfl (Nat.le_of_ble_eq_true rfl) (Nat.le_of_ble_eq_true rfl) (fun x14 μ14 => ?_)
    refine E_if_eq C 43 dX10_step_17 (by decide) ?_ ?_
    · refine E_ldc2 C dX10_step_43 k_X10_207 ?_
      exact E_lret C dX10_step_46
    · refine E_at (pc2 := 20) rfl ?_
      refine E_aload_n C dX10_step_20 0 rfl ?_
      refine E_iload_n C dX10_step_21 2 rfl ?_
      refine E_callVI (st := []) C [.int v2] (mX10_isStore v0 v2 μ14) cal_X10_isStore vir_X10_isStore lk_X10_215 dX10_step_22 rfl rfl (Nat.le_of_ble_eq_true rfl) (Nat.le_of_ble_eq_true rfl) (fun x22 μ22 => ?_)
      refine E_if_eq C 43 dX10_step_25 (by decide) ?_ ?_
      · refine E_ldc2 C dX10_step_43 k_X10_207 ?_
        exact E_lret C dX10_step_46
      · refine E_at (pc2 := 28) rfl ?_
        refine E_iload_n C dX10_step_28 3 rfl ?_
        refine E_iconst C 0 dX10_step_29 (by decide) ?_
        refine E_bipush C 99 dX10_step_30 (by decide) ?_
        refine E_callSI (st := []) C [.int v3, .int ((0 : Int32)), .int ((99 : Int32))] (mX10_within v3 ((0 : Int32)) ((99 : Int32)) μ22) cal_X10_within st_X10_within lk_X10_134 dX10_step_32 rfl rfl (Nat.le_of_ble_eq_true rfl) (Nat.le_of_ble_eq_true rfl) (fun x32 μ32 => ?_)
        refine E_if_eq C 43 dX10_step_35 (by decide) ?_ ?_
        · refine E_ldc2 C dX10_step_43 k_X10_207 ?_
          exact E_lret C dX10_step_46
        · refine E_at (pc2 := 38) rfl ?_
          refine E_iload C dX10_step_38 4 rfl ?_
          refine E_if_ge C 47 dX10_step_40 (by decide) ?_ ?_
          · refine E_aload_n C dX10_step_47 0 rfl ?_
            refine E_getR C F_X10_65 dX10_step_48 (fun x48 => ?_)
            refine E_aload_n C dX10_step_51 0 rfl ?_
            refine E_getR C F_X10_14 dX10_step_52 (fun x52 => ?_)
            refine E_getR C F_X10_106 dX10_step_55 (fun x55 => ?_)
            refine E_iload_n C dX10_step_58 1 rfl ?_
            refine E_iload_n C dX10_step_59 2 rfl ?_
            refine E_iload_n C dX10_step_60 3 rfl ?_
            refine E_iload C dX10_step_61 4 rfl ?_
            refine E_callVU (st := []) C [.ref x55, .int v1, .int v2, .int v3, .int v4] (mX7_go x48 x55 v1 v2 v3 v4 μ32) cal_X7_go vir_X7_go lk_X10_218 dX10_step_63 rfl rfl (Nat.le_of_ble_eq_true rfl) (Nat.le_of_ble_eq_true rfl) (fun _ μ63 => ?_)
            refine E_aload_n C dX10_step_66 0 rfl ?_
            refine E_getR C F_X10_65 dX10_step_67 (fun x67 => ?_)
            refine E_iload C dX10_step_70 5 rfl ?_
            refine E_callVJ (st := []) C [.int v5] (mX7_tell x67 v5 μ63) cal_X7_tell vir_X7_tell lk_X10_222 dX10_step_72 rfl rfl (Nat.le_of_ble_eq_true rfl) (Nat.le_of_ble_eq_true rfl) (fun x72 μ72 => ?_)
            exact E_lret C dX10_step_75
          · refine E_at (pc2 := 43) rfl ?_
            refine E_ldc2 C dX10_step_43 k_X10_207 ?_
            exact E_lret C dX10_step_46
def fX10_solveNow (v0 : Nat) (μ : Mem) : Option (Unit × Mem) :=
  (gI μ v0 10 6).bind fun x1 => if x1 = 0 then ((gR μ v0 10 4).bind fun x8 => (gR μ v0 10 0).bind fun x12 => (gR μ x12 8 0).bind fun x15 => (isC μ x8 1).bind fun _ => bd (fX1_fillGains x8 x15 ((0 : Int32)) μ) fun _ μ19 => (gR μ19 v0 10 4).bind fun x23 => (gR μ19 v0 10 0).bind fun x27 => (gR μ19 x27 8 0).bind fun x30 => (isC μ19 x23 1).bind fun _ => bd (fX1_sweep x23 x30 ((0 : Int32)) μ19) fun _ μ34 => (pZ μ34 v0 10 6 ((1 : Int32))).bind fun μ39 => some ((), μ39)) else (some ((), μ))
set_option maxHeartbeats 4000000 in
set_option maxRecDepth 100000 in
theorem mX10_solveNow (v0 : Nat) (μ : Mem) : Meth wU yX10_solveNow cX10_solveNow 1 none 4 [.ref v0] μ (fX10_solveNow v0 μ) := by
  refine Meth.of (by decide) [(0, .ref v0)] rfl (Nat.le_of_ble_eq_true rfl) ?_
  intro p l e R s m args below meth c D ca ad A X C
  have C : CX p R s m args meth c D ca ad A X cX10_solveNow RX10 1 none 4 := C
  unfold fX10_solveNow
  refine E_aload_n C dX10_solveNow_0 0 rfl ?_
  refine E_getI C F_X10_42 dX10_solveNow_1 (fun x1 => ?_)
  refine E_if_ne C 42 dX10_solveNow_4 (by decide) ?_ ?_
  · exact E_ret C dX10_solveNow_42
  · refine E_at (pc2 := 7) rfl ?_
    refine E_aload_n C dX10_solveNow_7 0 rfl ?_
    refine E_getR C F_X10_35 dX10_solveNow_8 (fun x8 => ?_)
    refine E_aload_n C dX10_solveNow_11 0 rfl ?_
    refine E_getR C F_X10_14 dX10_solveNow_12 (fun x12 => ?_)
    refine E_getR C F_X10_106 dX10_solveNow_15 (fun x15 => ?_)
    refine E_iconst C 0 dX10_solveNow_18 (by decide) ?_
    refine E_callVU (st := []) C [.ref x15, .int ((0 : Int32))] (mX1_fillGains x8 x15 ((0 : Int32)) μ) cal_X1_fillGains vir_X1_fillGains lk_X10_377 dX10_solveNow_19 rfl rfl (Nat.le_of_ble_eq_true rfl) (Nat.le_of_ble_eq_true rfl) (fun _ μ19 => ?_)
    refine E_aload_n C dX10_solveNow_22 0 rfl ?_
    refine E_getR C F_X10_35 dX10_solveNow_23 (fun x23 => ?_)
    refine E_aload_n C dX10_solveNow_26 0 rfl ?_
    refine E_getR C F_X10_14 dX10_solveNow_27 (fun x27 => ?_)
    refine E_getR C F_X10_106 dX10_solveNow_30 (fun x30 => ?_)
    refine E_iconst C 0 dX10_solveNow_33 (by decide) ?_
    refine E_callVU (st := []) C [.ref x30, .int ((0 : Int32))] (mX1_sweep x23 x30 ((0 : Int32)) μ19) cal_X1_sweep vir_X1_sweep lk_X10_381 dX10_solveNow_34 rfl rfl (Nat.le_of_ble_eq_true rfl) (Nat.le_of_ble_eq_true rfl) (fun _ μ34 => ?_)
    refine E_aload_n C dX10_solveNow_37 0 rfl ?_
    refine E_iconst C 1 dX10_solveNow_38 (by decide) ?_
    refine E_putZ C P_X10_42 dX10_solveNow_39 (fun μ39 => ?_)
    exact E_ret C dX10_solveNow_42
def X10_bitsOf_L24 (G : UInt32 → Int32 → Mem → Option (Int32 × Mem)) (v0 : UInt32) : Nat → UInt32 → Int32 → Mem → Option (Int32 × Mem)
  | 0, _, _, _ => none
  | n + 1, v1, v2, μ => if (Op.cmpValue (FP.fcmp v1 FP.fconst2) .l) < 0 then (G v1 v2 μ) else (if (254 : Int32) ≤ v2 then (G v1 v2 μ) else ((nn (FP.fdiv v1 FP.fconst2)).bind fun x39 => X10_bitsOf_L24 G v0 n x39 ((v2 + 1)) μ))
set_option maxHeartbeats 4000000 in
set_option maxRecDepth 100000 in
theorem X10_bitsOf_L24_ok {p : Program} {l : Launch} {e : Env} {R : Room} {s : State} {m : MethodId} {args : Array Value} {below : List Frame} {meth : Method} {c : Code} {D : va_G} {ca : Nat → ClassId} {ad : Nat → Nat} {A : Nat → Prop} {X : State → Prop} (C : CX p R s m args meth c D ca ad A X cX10_bitsOf RX10 4 (some .int) 0) {G : UInt32 → Int32 → Mem → Option (Int32 × Mem)} (v0 : UInt32) (hG : ∀ (v1x : UInt32) (v2x : Int32) (μx : Mem), Sm p l e R s m args below meth c D ca ad A 4 0 0 wI (KQ below args s D ca ad A) 47 [(0, .float v0), (1, .float v1x), (2, .int v2x)] [] μx (G v1x v2x μx)) : ∀ (n : Nat) (v1 : UInt32) (v2 : Int32) (μ : Mem), Sm p l e R s m args below meth c D ca ad A 4 0 0 wI (KQ below args s D ca ad A) 24 [(0, .float v0), (1, .float v1), (2, .int v2)] [] μ (X10_bitsOf_L24 G v0 n v1 v2 μ) := by
  intro n
  induction n with
  | zero =>
    intro v1 v2 μ
    rw [X10_bitsOf_L24]
    exact E_none
  | succ n ih =>
    intro v1 v2 μ
    rw [X10_bitsOf_L24]
    refine E_fload_n C dX10_bitsOf_24 1 rfl ?_
    refine E_fconst2 C dX10_bitsOf_25 ?_
    refine E_fcmp C dX10_bitsOf_26 ?_
    refine E_if_lt C 47 dX10_bitsOf_27 (by decide) ?_ ?_
    · exact E_pick [0, 1, 2] rfl (hG v1 v2 μ)
    · refine E_at (pc2 := 30) rfl ?_
      refine E_iload_n C dX10_bitsOf_30 2 rfl ?_
      refine E_sipush C 254 dX10_bitsOf_31 (by decide) ?_
      refine E_icmp_ge C 47 dX10_bitsOf_34 (by decide) ?_ ?_
      · exact E_pick [0, 1, 2] rfl (hG v1 v2 μ)
      · refine E_at (pc2 := 37) rfl ?_
        refine E_fload_n C dX10_bitsOf_37 1 rfl ?_
        refine E_fconst2 C dX10_bitsOf_38 ?_
        refine E_fdiv C dX10_bitsOf_39 (fun x39 => ?_)
        refine E_fstore_n (lv' := [(1, .float x39), (0, .float v0), (2, .int v2)]) C dX10_bitsOf_40 (by decide) rfl ?_
        refine E_iinc (lv' := [(2, .int ((v2 + 1))), (1, .float x39), (0, .float v0)]) C (v2 + 1) dX10_bitsOf_41 2 rfl rfl (by decide) rfl ?_
        refine E_goto C 24 dX10_bitsOf_44 (by decide) ?_
        exact E_pick [2, 1, 0] rfl (ih x39 ((v2 + 1)) μ)
def X10_bitsOf_L47 (G : UInt32 → Int32 → Mem → Option (Int32 × Mem)) (v0 : UInt32) : Nat → UInt32 → Int32 → Mem → Option (Int32 × Mem)
  | 0, _, _, _ => none
  | n + 1, v1, v2, μ => if 0 ≤ (Op.cmpValue (FP.fcmp v1 FP.fconst1) .g) then (G v1 v2 μ) else (if v2 ≤ (1 : Int32) then (G v1 v2 μ) else ((nn (FP.fmul v1 FP.fconst2)).bind fun x60 => X10_bitsOf_L47 G v0 n x60 ((v2 + -1)) μ))
set_option maxHeartbeats 4000000 in
set_option maxRecDepth 100000 in
theorem X10_bitsOf_L47_ok {p : Program} {l : Launch} {e : Env} {R : Room} {s : State} {m : MethodId} {args : Array Value} {below : List Frame} {meth : Method} {c : Code} {D : va_G} {ca : Nat → ClassId} {ad : Nat → Nat} {A : Nat → Prop} {X : State → Prop} (C : CX p R s m args meth c D ca ad A X cX10_bitsOf RX10 4 (some .int) 0) {G : UInt32 → Int32 → Mem → Option (Int32 × Mem)} (v0 : UInt32) (hG : ∀ (v1x : UInt32) (v2x : Int32) (μx : Mem), Sm p l e R s m args below meth c D ca ad A 4 0 0 wI (KQ below args s D ca ad A) 68 [(0, .float v0), (1, .float v1x), (2, .int v2x)] [] μx (G v1x v2x μx)) : ∀ (n : Nat) (v1 : UInt32) (v2 : Int32) (μ : Mem), Sm p l e R s m args below meth c D ca ad A 4 0 0 wI (KQ below args s D ca ad A) 47 [(0, .float v0), (1, .float v1), (2, .int v2)] [] μ (X10_bitsOf_L47 G v0 n v1 v2 μ) := by
  intro n
  induction n with
  | zero =>
    intro v1 v2 μ
    rw [X10_bitsOf_L47]
    exact E_none
  | succ n ih =>
    intro v1 v2 μ
    rw [X10_bitsOf_L47]
    refine E_fload_n C dX10_bitsOf_47 1 rfl ?_
    refine E_fconst1 C dX10_bitsOf_48 ?_
    refine E_fcmp C dX10_bitsOf_49 ?_
    refine E_if_ge C 68 dX10_bitsOf_50 (by decide) ?_ ?_
    · exact E_pick [0, 1, 2] rfl (hG v1 v2 μ)
    · refine E_at (pc2 := 53) rfl ?_
      refine E_iload_n C dX10_bitsOf_53 2 rfl ?_
      refine E_iconst C 1 dX10_bitsOf_54 (by decide) ?_
      refine E_icmp_le C 68 dX10_bitsOf_55 (by decide) ?_ ?_
      · exact E_pick [0, 1, 2] rfl (hG v1 v2 μ)
      · refine E_at (pc2 := 58) rfl ?_
        refine E_fload_n C dX10_bitsOf_58 1 rfl ?_
        refine E_fconst2 C dX10_bitsOf_59 ?_
        refine E_fmul C dX10_bitsOf_60 (fun x60 => ?_)
        refine E_fstore_n (lv' := [(1, .float x60), (0, .float v0), (2, .int v2)]) C dX10_bitsOf_61 (by decide) rfl ?_
        refine E_iinc (lv' := [(2, .int ((v2 + -1))), (1, .float x60), (0, .float v0)]) C (v2 + -1) dX10_bitsOf_62 2 rfl rfl (by decide) rfl ?_
        refine E_goto C 47 dX10_bitsOf_65 (by decide) ?_
        exact E_pick [2, 1, 0] rfl (ih x60 ((v2 + -1)) μ)
def fX10_bitsOf (v0 : UInt32) (μ : Mem) : Option (Int32 × Mem) :=
  if (Op.cmpValue (FP.fcmp v0 FP.fconst0) .l) = 0 then (some ((0 : Int32), μ)) else (jn (fun (s0_20 : UInt32) (μ_20 : Mem) => X10_bitsOf_L24 (fun v1_47 v2_47 μ_47 => X10_bitsOf_L47 (fun v1_68 v2_68 μ_68 => (nn (FP.fmul v1_68 ((1258291200 : UInt32)))).bind fun x72 => jn (fun (s0_92 : Int32) (μ_92 : Mem) => some (((s0_92 + (v2_68 <<< ((23 : Int32) &&& 31))) + ((FP.f2i x72) - (8388608 : Int32))), μ_92)) (fun j92 => if 0 ≤ (Op.cmpValue (FP.fcmp v0 FP.fconst0) .g) then (j92 ((0 : Int32)) μ_68) else (j92 ((-2147483648 : Int32)) μ_68))) v0 FU v1_47 v2_47 μ_47) v0 FU s0_20 ((127 : Int32)) μ_20) (fun j20 => if 0 ≤ (Op.cmpValue (FP.fcmp v0 FP.fconst0) .g) then (j20 v0 μ) else (j20 ((FP.fneg v0)) μ)))
set_option maxHeartbeats 4000000 in
set_option maxRecDepth 100000 in
theorem mX10_bitsOf (v0 : UInt32) (μ : Mem) : Meth wI yX10_bitsOf cX10_bitsOf 4 (some .int) 0 [.float v0] μ (fX10_bitsOf v0 μ) := by
  refine Meth.of (by decide) [(0, .float v0)] rfl (Nat.le_of_ble_eq_true rfl) ?_
  intro p l e R s m args below meth c D ca ad A X C
  have C : CX p R s m args meth c D ca ad A X cX10_bitsOf RX10 4 (some .int) 0 := C
  unfold fX10_bitsOf
  refine E_fload_n C dX10_bitsOf_0 0 rfl ?_
  refine E_fconst0 C dX10_bitsOf_1 ?_
  refine E_fcmp C dX10_bitsOf_2 ?_
  refine E_if_ne C 8 dX10_bitsOf_3 (by decide) ?_ ?_
  · refine E_fload_n C dX10_bitsOf_8 0 rfl ?_
    refine E_fconst0 C dX10_bitsOf_9 ?_
    refine E_fcmp C dX10_bitsOf_10 ?_
    refine E_jn (fun j20 => ∀ (s0_20 : UInt32) (μ_20 : Mem), Sm p l e R s m args below meth c D ca ad A 4 0 0 wI (KQ below args s D ca ad A) 20 [(0, .float v0)] [.float s0_20] μ_20 (j20 s0_20 μ_20)) ?_ (fun j20 hj20 => ?_)
    · intro s0_20 μ_20
      refine E_fstore_n (lv' := [(1, .float s0_20), (0, .float v0)]) C dX10_bitsOf_20 (by decide) rfl ?_
      refine E_bipush C 127 dX10_bitsOf_21 (by decide) ?_
      refine E_istore_n (lv' := [(2, .int ((127 : Int32))), (1, .float s0_20), (0, .float v0)]) C dX10_bitsOf_23 (by decide) rfl ?_
      refine E_at (pc2 := 24) rfl ?_
      refine E_pick (lv' := [(0, .float v0), (1, .float s0_20), (2, .int ((127 : Int32)))]) [2, 1, 0] rfl ?_
      refine X10_bitsOf_L24_ok C v0 (fun v1_47 v2_47 μ_47 => ?_) FU s0_20 ((127 : Int32)) μ_20
      refine E_pick (lv' := [(0, .float v0), (1, .float v1_47), (2, .int v2_47)]) [0, 1, 2] rfl ?_
      refine X10_bitsOf_L47_ok C v0 (fun v1_68 v2_68 μ_68 => ?_) FU v1_47 v2_47 μ_47
      refine E_fload_n C dX10_bitsOf_68 1 rfl ?_
      refine E_ldcwF C dX10_bitsOf_69 k_X10_394 ?_
      refine E_fmul C dX10_bitsOf_72 (fun x72 => ?_)
      refine E_f2i C dX10_bitsOf_73 ?_
      refine E_ldcwI C dX10_bitsOf_74 k_X10_395 ?_
      refine E_isub C dX10_bitsOf_77 ?_
      refine E_istore_n (lv' := [(3, .int (((FP.f2i x72) - (8388608 : Int32)))), (0, .float v0), (1, .float v1_68), (2, .int v2_68)]) C dX10_bitsOf_78 (by decide) rfl ?_
      refine E_fload_n C dX10_bitsOf_79 1 rfl ?_
      refine E_fconst0 C dX10_bitsOf_80 ?_
      refine E_fcmp C dX10_bitsOf_81 ?_
      refine E_jn (fun j92 => ∀ (s0_92 : Int32) (μ_92 : Mem), Sm p l e R s m args below meth c D ca ad A 4 0 0 wI (KQ below args s D ca ad A) 92 [(2, .int v2_68), (3, .int (((FP.f2i x72) - (8388608 : Int32))))] [.int s0_92] μ_92 (j92 s0_92 μ_92)) ?_ (fun j92 hj92 => ?_)
      · intro s0_92 μ_92
        refine E_iload_n C dX10_bitsOf_92 0 rfl ?_
        refine E_bipush C 23 dX10_bitsOf_93 (by decide) ?_
        refine E_ishl C dX10_bitsOf_95 ?_
        refine E_iadd C dX10_bitsOf_96 ?_
        refine E_iload_n C dX10_bitsOf_97 1 rfl ?_
        refine E_iadd C dX10_bitsOf_98 ?_
        exact E_iret C dX10_bitsOf_99
      · refine E_if_ge C 91 dX10_bitsOf_82 (by decide) ?_ ?_
        · refine E_iconst C 0 dX10_bitsOf_91 (by decide) ?_
          exact E_pick [3, 0] rfl (hj92 ((0 : Int32)) μ_68)
        · refine E_at (pc2 := 85) rfl ?_
          refine E_ldcwI C dX10_bitsOf_85 k_X10_396 ?_
          refine E_goto C 92 dX10_bitsOf_88 (by decide) ?_
          exact E_pick [3, 0] rfl (hj92 ((-2147483648 : Int32)) μ_68)
    · refine E_if_ge C 19 dX10_bitsOf_11 (by decide) ?_ ?_
      · refine E_fload_n C dX10_bitsOf_19 0 rfl ?_
        exact E_pick [0] rfl (hj20 v0 μ)
      · refine E_at (pc2 := 14) rfl ?_
        refine E_fload_n C dX10_bitsOf_14 0 rfl ?_
        refine E_fneg C dX10_bitsOf_15 ?_
        refine E_goto C 20 dX10_bitsOf_16 (by decide) ?_
        exact E_pick [0] rfl (hj20 ((FP.fneg v0)) μ)
  · refine E_at (pc2 := 6) rfl ?_
    refine E_iconst C 0 dX10_bitsOf_6 (by decide) ?_
    exact E_iret C dX10_bitsOf_7
def fX10_best (v0 : Nat) (v1 : Int32) (v2 : Int32) (v3 : Int32) (μ : Mem) : Option (Int64 × Mem) :=
  (gR μ v0 10 0).bind fun x3 => (gR μ x3 8 0).bind fun x6 => (gI μ x6 0 1).bind fun x9 => bd (fX10_within v1 ((0 : Int32)) x9 μ) fun x12 μ12 => if x12 = 0 then (some ((-9223372036854775808 : Int64), μ12)) else ((isC μ12 v0 10).bind fun _ => bd (fX10_isStore v0 v2 μ12) fun x20 μ20 => if x20 = 0 then (some ((-9223372036854775808 : Int64), μ20)) else (bd (fX10_isState v3 μ20) fun x27 μ27 => if x27 = 0 then (some ((-9223372036854775808 : Int64), μ27)) else ((isC μ27 v0 10).bind fun _ => bd (fX10_solveNow v0 μ27) fun _ μ38 => (gR μ38 v0 10 4).bind fun x42 => (isC μ38 x42 1).bind fun _ => bd (fX1_bestAt x42 v1 v2 v3 μ38) fun x48 μ48 => bd (fX10_bitsOf x48 μ48) fun x51 μ51 => some (x51.toInt64, μ51))))
set_option maxHeartbeats 4000000 in
set_option maxRecDepth 100000 in
theorem mX10_best (v0 : Nat) (v1 : Int32) (v2 : Int32) (v3 : Int32) (μ : Mem) : Meth wJ yX10_best cX10_best 4 (some .long) 5 [.ref v0, .int v1, .int v2, .int v3] μ (fX10_best v0 v1 v2 v3 μ) := by
  refine Meth.of (by decide) [(0, .ref v0), (1, .int v1), (2, .int v2), (3, .int v3)] rfl (Nat.le_of_ble_eq_true rfl) ?_
  intro p l e R s m args below meth c D ca ad A X C
  have C : CX p R s m args meth c D ca ad A X cX10_best RX10 4 (some .long) 5 := C
  unfold fX10_best
  refine E_iload_n C dX10_best_0 1 rfl ?_
  refine E_iconst C 0 dX10_best_1 (by decide) ?_
  refine E_aload_n C dX10_best_2 0 rfl ?_
  refine E_getR C F_X10_14 dX10_best_3 (fun x3 => ?_)
  refine E_getR C F_X10_106 dX10_best_6 (fun x6 => ?_)
  refine E_getI C F_X10_225 dX10_best_9 (fun x9 => ?_)
  refine E_callSI (st := []) C [.int v1, .int ((0 : Int32)), .int x9] (mX10_within v1 ((0 : Int32)) x9 μ) cal_X10_within st_X10_within lk_X10_134 dX10_best_12 rfl rfl (Nat.le_of_ble_eq_true rfl) (Nat.le_of_ble_eq_true rfl) (fun x12 μ12 => ?_)
  refine E_if_eq C 33 dX10_best_15 (by decide) ?_ ?_
  · refine E_ldc2 C dX10_best_33 k_X10_207 ?_
    exact E_lret C dX10_best_36
  · refine E_at (pc2 := 18) rfl ?_
    refine E_aload_n C dX10_best_18 0 rfl ?_
    refine E_iload_n C dX10_best_19 2 rfl ?_
    refine E_callVI (st := []) C [.int v2] (mX10_isStore v0 v2 μ12) cal_X10_isStore vir_X10_isStore lk_X10_215 dX10_best_20 rfl rfl (Nat.le_of_ble_eq_true rfl) (Nat.le_of_ble_eq_true rfl) (fun x20 μ20 => ?_)
    refine E_if_eq C 33 dX10_best_23 (by decide) ?_ ?_
    · refine E_ldc2 C dX10_best_33 k_X10_207 ?_
      exact E_lret C dX10_best_36
    · refine E_at (pc2 := 26) rfl ?_
      refine E_iload_n C dX10_best_26 3 rfl ?_
      refine E_callSI (st := []) C [.int v3] (mX10_isState v3 μ20) cal_X10_isState st_X10_isState lk_X10_172 dX10_best_27 rfl rfl (Nat.le_of_ble_eq_true rfl) (Nat.le_of_ble_eq_true rfl) (fun x27 μ27 => ?_)
      refine E_if_ne C 37 dX10_best_30 (by decide) ?_ ?_
      · refine E_aload_n C dX10_best_37 0 rfl ?_
        refine E_callVU (st := []) C [] (mX10_solveNow v0 μ27) cal_X10_solveNow vir_X10_solveNow lk_X10_228 dX10_best_38 rfl rfl (Nat.le_of_ble_eq_true rfl) (Nat.le_of_ble_eq_true rfl) (fun _ μ38 => ?_)
        refine E_aload_n C dX10_best_41 0 rfl ?_
        refine E_getR C F_X10_35 dX10_best_42 (fun x42 => ?_)
        refine E_iload_n C dX10_best_45 1 rfl ?_
        refine E_iload_n C dX10_best_46 2 rfl ?_
        refine E_iload_n C dX10_best_47 3 rfl ?_
        refine E_callVF (st := []) C [.int v1, .int v2, .int v3] (mX1_bestAt x42 v1 v2 v3 μ38) cal_X1_bestAt vir_X1_bestAt lk_X10_231 dX10_best_48 rfl rfl (Nat.le_of_ble_eq_true rfl) (Nat.le_of_ble_eq_true rfl) (fun x48 μ48 => ?_)
        refine E_callSI (st := []) C [.float x48] (mX10_bitsOf x48 μ48) cal_X10_bitsOf st_X10_bitsOf lk_X10_235 dX10_best_51 rfl rfl (Nat.le_of_ble_eq_true rfl) (Nat.le_of_ble_eq_true rfl) (fun x51 μ51 => ?_)
        refine E_i2l C dX10_best_54 ?_
        exact E_lret C dX10_best_55
      · refine E_at (pc2 := 33) rfl ?_
        refine E_ldc2 C dX10_best_33 k_X10_207 ?_
        exact E_lret C dX10_best_36
def fX10_release (v0 : Nat) (v1 : Int32) (v2 : Int32) (v3 : Int32) (μ : Mem) : Option (Int32 × Mem) :=
  (gR μ v0 10 0).bind fun x1 => (gR μ x1 8 0).bind fun x4 => (isC μ x4 0).bind fun _ => bd (fX0_isAhead x4 v1 v2 μ) fun x9 μ9 => if x9 = 0 then (some ((-1 : Int32), μ9)) else (bd (fX10_isState v3 μ9) fun x16 μ16 => if x16 = 0 then (some ((-1 : Int32), μ16)) else ((isC μ16 v0 10).bind fun _ => bd (fX10_solveNow v0 μ16) fun _ μ25 => (gR μ25 v0 10 4).bind fun x29 => (isC μ25 x29 1).bind fun _ => bd (fX1_releaseAt x29 v1 v2 v3 μ25) fun x35 μ35 => some (x35, μ35)))
set_option maxHeartbeats 4000000 in
set_option maxRecDepth 100000 in
theorem mX10_release (v0 : Nat) (v1 : Int32) (v2 : Int32) (v3 : Int32) (μ : Mem) : Meth wI yX10_release cX10_release 4 (some .int) 5 [.ref v0, .int v1, .int v2, .int v3] μ (fX10_release v0 v1 v2 v3 μ) := by
  refine Meth.of (by decide) [(0, .ref v0), (1, .int v1), (2, .int v2), (3, .int v3)] rfl (Nat.le_of_ble_eq_true rfl) ?_
  intro p l e R s m args below meth c D ca ad A X C
  have C : CX p R s m args meth c D ca ad A X cX10_release RX10 4 (some .int) 5 := C
  unfold fX10_release
  refine E_aload_n C dX10_release_0 0 rfl ?_
  refine E_getR C F_X10_14 dX10_release_1 (fun x1 => ?_)
  refine E_getR C F_X10_106 dX10_release_4 (fun x4 => ?_)
  refine E_iload_n C dX10_release_7 1 rfl ?_
  refine E_iload_n C dX10_release_8 2 rfl ?_
  refine E_callVI (st := []) C [.int v1, .int v2] (mX0_isAhead x4 v1 v2 μ) cal_X0_isAhead vir_X0_isAhead lk_X10_239 dX10_release_9 rfl rfl (Nat.le_of_ble_eq_true rfl) (Nat.le_of_ble_eq_true rfl) (fun x9 μ9 => ?_)
  refine E_if_eq C 22 dX10_release_12 (by decide) ?_ ?_
  · refine E_iconst C (-1) dX10_release_22 (by decide) ?_
    exact E_iret C dX10_release_23
  · refine E_at (pc2 := 15) rfl ?_
    refine E_iload_n C dX10_release_15 3 rfl ?_
    refine E_callSI (st := []) C [.int v3] (mX10_isState v3 μ9) cal_X10_isState st_X10_isState lk_X10_172 dX10_release_16 rfl rfl (Nat.le_of_ble_eq_true rfl) (Nat.le_of_ble_eq_true rfl) (fun x16 μ16 => ?_)
    refine E_if_ne C 24 dX10_release_19 (by decide) ?_ ?_
    · refine E_aload_n C dX10_release_24 0 rfl ?_
      refine E_callVU (st := []) C [] (mX10_solveNow v0 μ16) cal_X10_solveNow vir_X10_solveNow lk_X10_228 dX10_release_25 rfl rfl (Nat.le_of_ble_eq_true rfl) (Nat.le_of_ble_eq_true rfl) (fun _ μ25 => ?_)
      refine E_aload_n C dX10_release_28 0 rfl ?_
      refine E_getR C F_X10_35 dX10_release_29 (fun x29 => ?_)
      refine E_iload_n C dX10_release_32 1 rfl ?_
      refine E_iload_n C dX10_release_33 2 rfl ?_
      refine E_iload_n C dX10_release_34 3 rfl ?_
      refine E_callVI (st := []) C [.int v1, .int v2, .int v3] (mX1_releaseAt x29 v1 v2 v3 μ25) cal_X1_releaseAt vir_X1_releaseAt lk_X10_242 dX10_release_35 rfl rfl (Nat.le_of_ble_eq_true rfl) (Nat.le_of_ble_eq_true rfl) (fun x35 μ35 => ?_)
      exact E_iret C dX10_release_38
    · refine E_at (pc2 := 22) rfl ?_
      refine E_iconst C (-1) dX10_release_22 (by decide) ?_
      exact E_iret C dX10_release_23
def fX10_would (v0 : Nat) (v1 : Int32) (v2 : Int32) (v3 : Int32) (v4 : Int32) (μ : Mem) : Option (Int64 × Mem) :=
  (gR μ v0 10 0).bind fun x1 => (gR μ x1 8 0).bind fun x4 => (isC μ x4 0).bind fun _ => bd (fX0_isAhead x4 v1 v2 μ) fun x9 μ9 => if x9 = 0 then (some ((-9223372036854775808 : Int64), μ9)) else (bd (fX10_isState v3 μ9) fun x16 μ16 => if x16 = 0 then (some ((-9223372036854775808 : Int64), μ16)) else (bd (fX10_within v4 ((0 : Int32)) ((20 : Int32)) μ16) fun x27 μ27 => if x27 = 0 then (some ((-9223372036854775808 : Int64), μ27)) else ((isC μ27 v0 10).bind fun _ => bd (fX10_solveNow v0 μ27) fun _ μ38 => (gR μ38 v0 10 4).bind fun x42 => (gR μ38 v0 10 0).bind fun x46 => (gR μ38 x46 8 0).bind fun x49 => (isC μ38 x42 1).bind fun _ => bd (fX1_comesTo x42 x49 v1 v2 v3 v4 μ38) fun x57 μ57 => bd (fX10_bitsOf x57 μ57) fun x60 μ60 => some (x60.toInt64, μ60))))
set_option maxHeartbeats 4000000 in
set_option maxRecDepth 100000 in
theorem mX10_would (v0 : Nat) (v1 : Int32) (v2 : Int32) (v3 : Int32) (v4 : Int32) (μ : Mem) : Meth wJ yX10_would cX10_would 5 (some .long) 5 [.ref v0, .int v1, .int v2, .int v3, .int v4] μ (fX10_would v0 v1 v2 v3 v4 μ) := by
  refine Meth.of (by decide) [(0, .ref v0), (1, .int v1), (2, .int v2), (3, .int v3), (4, .int v4)] rfl (Nat.le_of_ble_eq_true rfl) ?_
  intro p l e R s m args below meth c D ca ad A X C
  have C : CX p R s m args meth c D ca ad A X cX10_would RX10 5 (some .long) 5 := C
  unfold fX10_would
  refine E_aload_n C dX10_would_0 0 rfl ?_
  refine E_getR C F_X10_14 dX10_would_1 (fun x1 => ?_)
  refine E_getR C F_X10_106 dX10_would_4 (fun x4 => ?_)
  refine E_iload_n C dX10_would_7 1 rfl ?_
  refine E_iload_n C dX10_would_8 2 rfl ?_
  refine E_callVI (st := []) C [.int v1, .int v2] (mX0_isAhead x4 v1 v2 μ) cal_X0_isAhead vir_X0_isAhead lk_X10_239 dX10_would_9 rfl rfl (Nat.le_of_ble_eq_true rfl) (Nat.le_of_ble_eq_true rfl) (fun x9 μ9 => ?_)
  refine E_if_eq C 33 dX10_would_12 (by decide) ?_ ?_
  · refine E_ldc2 C dX10_would_33 k_X10_207 ?_
    exact E_lret C dX10_would_36
  · refine E_at (pc2 := 15) rfl ?_
    refine E_iload_n C dX10_would_15 3 rfl ?_
    refine E_callSI (st := []) C [.int v3] (mX10_isState v3 μ9) cal_X10_isState st_X10_isState lk_X10_172 dX10_would_16 rfl rfl (Nat.le_of_ble_eq_true rfl) (Nat.le_of_ble_eq_true rfl) (fun x16 μ16 => ?_)
    refine E_if_eq C 33 dX10_would_19 (by decide) ?_ ?_
    · refine E_ldc2 C dX10_would_33 k_X10_207 ?_
      exact E_lret C dX10_would_36
    · refine E_at (pc2 := 22) rfl ?_
      refine E_iload C dX10_would_22 4 rfl ?_
      refine E_iconst C 0 dX10_would_24 (by decide) ?_
      refine E_bipush C 20 dX10_would_25 (by decide) ?_
      refine E_callSI (st := []) C [.int v4, .int ((0 : Int32)), .int ((20 : Int32))] (mX10_within v4 ((0 : Int32)) ((20 : Int32)) μ16) cal_X10_within st_X10_within lk_X10_134 dX10_would_27 rfl rfl (Nat.le_of_ble_eq_true rfl) (Nat.le_of_ble_eq_true rfl) (fun x27 μ27 => ?_)
      refine E_if_ne C 37 dX10_would_30 (by decide) ?_ ?_
      · refine E_aload_n C dX10_would_37 0 rfl ?_
        refine E_callVU (st := []) C [] (mX10_solveNow v0 μ27) cal_X10_solveNow vir_X10_solveNow lk_X10_228 dX10_would_38 rfl rfl (Nat.le_of_ble_eq_true rfl) (Nat.le_of_ble_eq_true rfl) (fun _ μ38 => ?_)
        refine E_aload_n C dX10_would_41 0 rfl ?_
        refine E_getR C F_X10_35 dX10_would_42 (fun x42 => ?_)
        refine E_aload_n C dX10_would_45 0 rfl ?_
        refine E_getR C F_X10_14 dX10_would_46 (fun x46 => ?_)
        refine E_getR C F_X10_106 dX10_would_49 (fun x49 => ?_)
        refine E_iload_n C dX10_would_52 1 rfl ?_
        refine E_iload_n C dX10_would_53 2 rfl ?_
        refine E_iload_n C dX10_would_54 3 rfl ?_
        refine E_iload C dX10_would_55 4 rfl ?_
        refine E_callVF (st := []) C [.ref x49, .int v1, .int v2, .int v3, .int v4] (mX1_comesTo x42 x49 v1 v2 v3 v4 μ38) cal_X1_comesTo vir_X1_comesTo lk_X10_245 dX10_would_57 rfl rfl (Nat.le_of_ble_eq_true rfl) (Nat.le_of_ble_eq_true rfl) (fun x57 μ57 => ?_)
        refine E_callSI (st := []) C [.float x57] (mX10_bitsOf x57 μ57) cal_X10_bitsOf st_X10_bitsOf lk_X10_235 dX10_would_60 rfl rfl (Nat.le_of_ble_eq_true rfl) (Nat.le_of_ble_eq_true rfl) (fun x60 μ60 => ?_)
        refine E_i2l C dX10_would_63 ?_
        exact E_lret C dX10_would_64
      · refine E_at (pc2 := 33) rfl ?_
        refine E_ldc2 C dX10_would_33 k_X10_207 ?_
        exact E_lret C dX10_would_36
def fX10_after (v0 : Nat) (v1 : Int32) (v2 : Int32) (v3 : Int32) (μ : Mem) : Option (Int64 × Mem) :=
  bd (fX10_isState v2 μ) fun x1 μ1 => if x1 = 0 then (some ((-9223372036854775808 : Int64), μ1)) else (bd (fX10_isState v3 μ1) fun x8 μ8 => if x8 = 0 then (some ((-9223372036854775808 : Int64), μ8)) else (bd (fX10_within v1 ((0 : Int32)) ((12 : Int32)) μ8) fun x18 μ18 => if x18 = 0 then (some ((-9223372036854775808 : Int64), μ18)) else ((gR μ18 v0 10 10).bind fun x29 => (gR μ18 v0 10 0).bind fun x33 => (gR μ18 x33 8 0).bind fun x36 => (isC μ18 x29 2).bind fun _ => bd (fX2_load x29 x36 μ18) fun _ μ39 => (gR μ39 v0 10 10).bind fun x43 => (isC μ39 x43 2).bind fun _ => bd (fX2_oddsAfter x43 v1 v2 v3 μ39) fun x49 μ49 => bd (fX10_bitsOf x49 μ49) fun x52 μ52 => some (x52.toInt64, μ52))))
set_option maxHeartbeats 4000000 in
set_option maxRecDepth 100000 in
theorem mX10_after (v0 : Nat) (v1 : Int32) (v2 : Int32) (v3 : Int32) (μ : Mem) : Meth wJ yX10_after cX10_after 4 (some .long) 2 [.ref v0, .int v1, .int v2, .int v3] μ (fX10_after v0 v1 v2 v3 μ) := by
  refine Meth.of (by decide) [(0, .ref v0), (1, .int v1), (2, .int v2), (3, .int v3)] rfl (Nat.le_of_ble_eq_true rfl) ?_
  intro p l e R s m args below meth c D ca ad A X C
  have C : CX p R s m args meth c D ca ad A X cX10_after RX10 4 (some .long) 2 := C
  unfold fX10_after
  refine E_iload_n C dX10_after_0 2 rfl ?_
  refine E_callSI (st := []) C [.int v2] (mX10_isState v2 μ) cal_X10_isState st_X10_isState lk_X10_172 dX10_after_1 rfl rfl (Nat.le_of_ble_eq_true rfl) (Nat.le_of_ble_eq_true rfl) (fun x1 μ1 => ?_)
  refine E_if_eq C 24 dX10_after_4 (by decide) ?_ ?_
  · refine E_ldc2 C dX10_after_24 k_X10_207 ?_
    exact E_lret C dX10_after_27
  · refine E_at (pc2 := 7) rfl ?_
    refine E_iload_n C dX10_after_7 3 rfl ?_
    refine E_callSI (st := []) C [.int v3] (mX10_isState v3 μ1) cal_X10_isState st_X10_isState lk_X10_172 dX10_after_8 rfl rfl (Nat.le_of_ble_eq_true rfl) (Nat.le_of_ble_eq_true rfl) (fun x8 μ8 => ?_)
    refine E_if_eq C 24 dX10_after_11 (by decide) ?_ ?_
    · refine E_ldc2 C dX10_after_24 k_X10_207 ?_
      exact E_lret C dX10_after_27
    · refine E_at (pc2 := 14) rfl ?_
      refine E_iload_n C dX10_after_14 1 rfl ?_
      refine E_iconst C 0 dX10_after_15 (by decide) ?_
      refine E_bipush C 12 dX10_after_16 (by decide) ?_
      refine E_callSI (st := []) C [.int v1, .int ((0 : Int32)), .int ((12 : Int32))] (mX10_within v1 ((0 : Int32)) ((12 : Int32)) μ8) cal_X10_within st_X10_within lk_X10_134 dX10_after_18 rfl rfl (Nat.le_of_ble_eq_true rfl) (Nat.le_of_ble_eq_true rfl) (fun x18 μ18 => ?_)
      refine E_if_ne C 28 dX10_after_21 (by decide) ?_ ?_
      · refine E_aload_n C dX10_after_28 0 rfl ?_
        refine E_getR C F_X10_58 dX10_after_29 (fun x29 => ?_)
        refine E_aload_n C dX10_after_32 0 rfl ?_
        refine E_getR C F_X10_14 dX10_after_33 (fun x33 => ?_)
        refine E_getR C F_X10_106 dX10_after_36 (fun x36 => ?_)
        refine E_callVU (st := []) C [.ref x36] (mX2_load x29 x36 μ18) cal_X2_load vir_X2_load lk_X10_249 dX10_after_39 rfl rfl (Nat.le_of_ble_eq_true rfl) (Nat.le_of_ble_eq_true rfl) (fun _ μ39 => ?_)
        refine E_aload_n C dX10_after_42 0 rfl ?_
        refine E_getR C F_X10_58 dX10_after_43 (fun x43 => ?_)
        refine E_iload_n C dX10_after_46 1 rfl ?_
        refine E_iload_n C dX10_after_47 2 rfl ?_
        refine E_iload_n C dX10_after_48 3 rfl ?_
        refine E_callVF (st := []) C [.int v1, .int v2, .int v3] (mX2_oddsAfter x43 v1 v2 v3 μ39) cal_X2_oddsAfter vir_X2_oddsAfter lk_X10_253 dX10_after_49 rfl rfl (Nat.le_of_ble_eq_true rfl) (Nat.le_of_ble_eq_true rfl) (fun x49 μ49 => ?_)
        refine E_callSI (st := []) C [.float x49] (mX10_bitsOf x49 μ49) cal_X10_bitsOf st_X10_bitsOf lk_X10_235 dX10_after_52 rfl rfl (Nat.le_of_ble_eq_true rfl) (Nat.le_of_ble_eq_true rfl) (fun x52 μ52 => ?_)
        refine E_i2l C dX10_after_55 ?_
        exact E_lret C dX10_after_56
      · refine E_at (pc2 := 24) rfl ?_
        refine E_ldc2 C dX10_after_24 k_X10_207 ?_
        exact E_lret C dX10_after_27
def fX10_way (v0 : Nat) (v1 : Int32) (v2 : Int32) (v3 : Int32) (μ : Mem) : Option (Int32 × Mem) :=
  bd (fX10_isState v1 μ) fun x1 μ1 => if x1 = 0 then (some ((-1 : Int32), μ1)) else (bd (fX10_within v2 ((1 : Int32)) ((8 : Int32)) μ1) fun x11 μ11 => if x11 = 0 then (some ((-1 : Int32), μ11)) else (bd (fX10_within v3 ((0 : Int32)) ((v2 - (1 : Int32))) μ11) fun x22 μ22 => if x22 = 0 then (some ((-1 : Int32), μ22)) else ((gR μ22 v0 10 10).bind fun x31 => (gR μ22 v0 10 0).bind fun x35 => (gR μ22 x35 8 0).bind fun x38 => (isC μ22 x31 2).bind fun _ => bd (fX2_load x31 x38 μ22) fun _ μ41 => (gR μ41 v0 10 10).bind fun x45 => (isC μ41 x45 2).bind fun _ => bd (fX2_findLikeliest x45 v1 v2 μ41) fun _ μ50 => (gR μ50 v0 10 10).bind fun x54 => (gR μ50 x54 2 5).bind fun x57 => (aI μ50 0 x57 v3).bind fun x61 => some (x61, μ50))))
set_option maxHeartbeats 4000000 in
set_option maxRecDepth 100000 in
theorem mX10_way (v0 : Nat) (v1 : Int32) (v2 : Int32) (v3 : Int32) (μ : Mem) : Meth wI yX10_way cX10_way 4 (some .int) 2 [.ref v0, .int v1, .int v2, .int v3] μ (fX10_way v0 v1 v2 v3 μ) := by
  refine Meth.of (by decide) [(0, .ref v0), (1, .int v1), (2, .int v2), (3, .int v3)] rfl (Nat.le_of_ble_eq_true rfl) ?_
  intro p l e R s m args below meth c D ca ad A X C
  have C : CX p R s m args meth c D ca ad A X cX10_way RX10 4 (some .int) 2 := C
  unfold fX10_way
  refine E_iload_n C dX10_way_0 1 rfl ?_
  refine E_callSI (st := []) C [.int v1] (mX10_isState v1 μ) cal_X10_isState st_X10_isState lk_X10_172 dX10_way_1 rfl rfl (Nat.le_of_ble_eq_true rfl) (Nat.le_of_ble_eq_true rfl) (fun x1 μ1 => ?_)
  refine E_if_eq C 28 dX10_way_4 (by decide) ?_ ?_
  · refine E_iconst C (-1) dX10_way_28 (by decide) ?_
    exact E_iret C dX10_way_29
  · refine E_at (pc2 := 7) rfl ?_
    refine E_iload_n C dX10_way_7 2 rfl ?_
    refine E_iconst C 1 dX10_way_8 (by decide) ?_
    refine E_bipush C 8 dX10_way_9 (by decide) ?_
    refine E_callSI (st := []) C [.int v2, .int ((1 : Int32)), .int ((8 : Int32))] (mX10_within v2 ((1 : Int32)) ((8 : Int32)) μ1) cal_X10_within st_X10_within lk_X10_134 dX10_way_11 rfl rfl (Nat.le_of_ble_eq_true rfl) (Nat.le_of_ble_eq_true rfl) (fun x11 μ11 => ?_)
    refine E_if_eq C 28 dX10_way_14 (by decide) ?_ ?_
    · refine E_iconst C (-1) dX10_way_28 (by decide) ?_
      exact E_iret C dX10_way_29
    · refine E_at (pc2 := 17) rfl ?_
      refine E_iload_n C dX10_way_17 3 rfl ?_
      refine E_iconst C 0 dX10_way_18 (by decide) ?_
      refine E_iload_n C dX10_way_19 2 rfl ?_
      refine E_iconst C 1 dX10_way_20 (by decide) ?_
      refine E_isub C dX10_way_21 ?_
      refine E_callSI (st := []) C [.int v3, .int ((0 : Int32)), .int ((v2 - (1 : Int32)))] (mX10_within v3 ((0 : Int32)) ((v2 - (1 : Int32))) μ11) cal_X10_within st_X10_within lk_X10_134 dX10_way_22 rfl rfl (Nat.le_of_ble_eq_true rfl) (Nat.le_of_ble_eq_true rfl) (fun x22 μ22 => ?_)
      refine E_if_ne C 30 dX10_way_25 (by decide) ?_ ?_
      · refine E_aload_n C dX10_way_30 0 rfl ?_
        refine E_getR C F_X10_58 dX10_way_31 (fun x31 => ?_)
        refine E_aload_n C dX10_way_34 0 rfl ?_
        refine E_getR C F_X10_14 dX10_way_35 (fun x35 => ?_)
        refine E_getR C F_X10_106 dX10_way_38 (fun x38 => ?_)
        refine E_callVU (st := []) C [.ref x38] (mX2_load x31 x38 μ22) cal_X2_load vir_X2_load lk_X10_249 dX10_way_41 rfl rfl (Nat.le_of_ble_eq_true rfl) (Nat.le_of_ble_eq_true rfl) (fun _ μ41 => ?_)
        refine E_aload_n C dX10_way_44 0 rfl ?_
        refine E_getR C F_X10_58 dX10_way_45 (fun x45 => ?_)
        refine E_iload_n C dX10_way_48 1 rfl ?_
        refine E_iload_n C dX10_way_49 2 rfl ?_
        refine E_callVU (st := []) C [.int v1, .int v2] (mX2_findLikeliest x45 v1 v2 μ41) cal_X2_findLikeliest vir_X2_findLikeliest lk_X10_256 dX10_way_50 rfl rfl (Nat.le_of_ble_eq_true rfl) (Nat.le_of_ble_eq_true rfl) (fun _ μ50 => ?_)
        refine E_aload_n C dX10_way_53 0 rfl ?_
        refine E_getR C F_X10_58 dX10_way_54 (fun x54 => ?_)
        refine E_getR C F_X10_259 dX10_way_57 (fun x57 => ?_)
        refine E_iload_n C dX10_way_60 3 rfl ?_
        refine E_iaload C dX10_way_61 (fun x61 => ?_)
        exact E_iret C dX10_way_62
      · refine E_at (pc2 := 28) rfl ?_
        refine E_iconst C (-1) dX10_way_28 (by decide) ?_
        exact E_iret C dX10_way_29
def fX10_chance (v0 : Nat) (v1 : Int32) (v2 : Int32) (μ : Mem) : Option (Int64 × Mem) :=
  bd (fX10_isState v1 μ) fun x1 μ1 => if x1 = 0 then (some ((-9223372036854775808 : Int64), μ1)) else (bd (fX10_within v2 ((1 : Int32)) ((8 : Int32)) μ1) fun x11 μ11 => if x11 = 0 then (some ((-9223372036854775808 : Int64), μ11)) else ((gR μ11 v0 10 10).bind fun x22 => (gR μ11 v0 10 0).bind fun x26 => (gR μ11 x26 8 0).bind fun x29 => (isC μ11 x22 2).bind fun _ => bd (fX2_load x22 x29 μ11) fun _ μ32 => (gR μ32 v0 10 10).bind fun x36 => (isC μ32 x36 2).bind fun _ => bd (fX2_findLikeliest x36 v1 v2 μ32) fun _ μ41 => (gR μ41 v0 10 10).bind fun x45 => (gF μ41 x45 2 6).bind fun x48 => bd (fX10_bitsOf x48 μ41) fun x51 μ51 => some (x51.toInt64, μ51)))
set_option maxHeartbeats 4000000 in
set_option maxRecDepth 100000 in
theorem mX10_chance (v0 : Nat) (v1 : Int32) (v2 : Int32) (μ : Mem) : Meth wJ yX10_chance cX10_chance 3 (some .long) 2 [.ref v0, .int v1, .int v2] μ (fX10_chance v0 v1 v2 μ) := by
  refine Meth.of (by decide) [(0, .ref v0), (1, .int v1), (2, .int v2)] rfl (Nat.le_of_ble_eq_true rfl) ?_
  intro p l e R s m args below meth c D ca ad A X C
  have C : CX p R s m args meth c D ca ad A X cX10_chance RX10 3 (some .long) 2 := C
  unfold fX10_chance
  refine E_iload_n C dX10_chance_0 1 rfl ?_
  refine E_callSI (st := []) C [.int v1] (mX10_isState v1 μ) cal_X10_isState st_X10_isState lk_X10_172 dX10_chance_1 rfl rfl (Nat.le_of_ble_eq_true rfl) (Nat.le_of_ble_eq_true rfl) (fun x1 μ1 => ?_)
  refine E_if_eq C 17 dX10_chance_4 (by decide) ?_ ?_
  · refine E_ldc2 C dX10_chance_17 k_X10_207 ?_
    exact E_lret C dX10_chance_20
  · refine E_at (pc2 := 7) rfl ?_
    refine E_iload_n C dX10_chance_7 2 rfl ?_
    refine E_iconst C 1 dX10_chance_8 (by decide) ?_
    refine E_bipush C 8 dX10_chance_9 (by decide) ?_
    refine E_callSI (st := []) C [.int v2, .int ((1 : Int32)), .int ((8 : Int32))] (mX10_within v2 ((1 : Int32)) ((8 : Int32)) μ1) cal_X10_within st_X10_within lk_X10_134 dX10_chance_11 rfl rfl (Nat.le_of_ble_eq_true rfl) (Nat.le_of_ble_eq_true rfl) (fun x11 μ11 => ?_)
    refine E_if_ne C 21 dX10_chance_14 (by decide) ?_ ?_
    · refine E_aload_n C dX10_chance_21 0 rfl ?_
      refine E_getR C F_X10_58 dX10_chance_22 (fun x22 => ?_)
      refine E_aload_n C dX10_chance_25 0 rfl ?_
      refine E_getR C F_X10_14 dX10_chance_26 (fun x26 => ?_)
      refine E_getR C F_X10_106 dX10_chance_29 (fun x29 => ?_)
      refine E_callVU (st := []) C [.ref x29] (mX2_load x22 x29 μ11) cal_X2_load vir_X2_load lk_X10_249 dX10_chance_32 rfl rfl (Nat.le_of_ble_eq_true rfl) (Nat.le_of_ble_eq_true rfl) (fun _ μ32 => ?_)
      refine E_aload_n C dX10_chance_35 0 rfl ?_
      refine E_getR C F_X10_58 dX10_chance_36 (fun x36 => ?_)
      refine E_iload_n C dX10_chance_39 1 rfl ?_
      refine E_iload_n C dX10_chance_40 2 rfl ?_
      refine E_callVU (st := []) C [.int v1, .int v2] (mX2_findLikeliest x36 v1 v2 μ32) cal_X2_findLikeliest vir_X2_findLikeliest lk_X10_256 dX10_chance_41 rfl rfl (Nat.le_of_ble_eq_true rfl) (Nat.le_of_ble_eq_true rfl) (fun _ μ41 => ?_)
      refine E_aload_n C dX10_chance_44 0 rfl ?_
      refine E_getR C F_X10_58 dX10_chance_45 (fun x45 => ?_)
      refine E_getF C F_X10_262 dX10_chance_48 (fun x48 => ?_)
      refine E_callSI (st := []) C [.float x48] (mX10_bitsOf x48 μ41) cal_X10_bitsOf st_X10_bitsOf lk_X10_235 dX10_chance_51 rfl rfl (Nat.le_of_ble_eq_true rfl) (Nat.le_of_ble_eq_true rfl) (fun x51 μ51 => ?_)
      refine E_i2l C dX10_chance_54 ?_
      exact E_lret C dX10_chance_55
    · refine E_at (pc2 := 17) rfl ?_
      refine E_ldc2 C dX10_chance_17 k_X10_207 ?_
      exact E_lret C dX10_chance_20
def fX10_canBeWorth (v0 : Nat) (v1 : Int32) (v2 : Int32) (μ : Mem) : Option (Int32 × Mem) :=
  if v1 = 0 then ((gR μ v0 10 0).bind fun x29 => (gR μ x29 8 0).bind fun x32 => (isC μ x32 0).bind fun _ => bd (fX0_hasDemand x32 v2 μ) fun x36 μ36 => (zz x36).bind fun z => some (z, μ36)) else if v1 = 1 then ((zz ((1 : Int32))).bind fun z => some (z, μ)) else if v1 = 2 then (bd (fX10_within v2 ((0 : Int32)) ((11 : Int32)) μ) fun x46 μ46 => (zz x46).bind fun z => some (z, μ46)) else ((zz ((0 : Int32))).bind fun z => some (z, μ))
set_option maxHeartbeats 4000000 in
set_option maxRecDepth 100000 in
theorem mX10_canBeWorth (v0 : Nat) (v1 : Int32) (v2 : Int32) (μ : Mem) : Meth wI yX10_canBeWorth cX10_canBeWorth 3 (some .boolean) 2 [.ref v0, .int v1, .int v2] μ (fX10_canBeWorth v0 v1 v2 μ) := by
  refine Meth.of (by decide) [(0, .ref v0), (1, .int v1), (2, .int v2)] rfl (Nat.le_of_ble_eq_true rfl) ?_
  intro p l e R s m args below meth c D ca ad A X C
  have C : CX p R s m args meth c D ca ad A X cX10_canBeWorth RX10 3 (some .boolean) 2 := C
  unfold fX10_canBeWorth
  refine E_iload_n C dX10_canBeWorth_0 1 rfl ?_
  refine E_ite (fun h1_0 => ?_) (fun h1_0 => ?_)
  · refine E_tabIn (kx := 0) (off := 27) C 28 h1_0 dX10_canBeWorth_1 (by decide +kernel) (by decide) ?_
    refine E_aload_n C dX10_canBeWorth_28 0 rfl ?_
    refine E_getR C F_X10_14 dX10_canBeWorth_29 (fun x29 => ?_)
    refine E_getR C F_X10_106 dX10_canBeWorth_32 (fun x32 => ?_)
    refine E_iload_n C dX10_canBeWorth_35 2 rfl ?_
    refine E_callVI (st := []) C [.int v2] (mX0_hasDemand x32 v2 μ) cal_X0_hasDemand vir_X0_hasDemand lk_X10_182 dX10_canBeWorth_36 rfl rfl (Nat.le_of_ble_eq_true rfl) (Nat.le_of_ble_eq_true rfl) (fun x36 μ36 => ?_)
    exact E_zret C dX10_canBeWorth_39
  · refine E_ite (fun h1_1 => ?_) (fun h1_1 => ?_)
    · refine E_tabIn (kx := 1) (off := 39) C 40 h1_1 dX10_canBeWorth_1 (by decide +kernel) (by decide) ?_
      refine E_iconst C 1 dX10_canBeWorth_40 (by decide) ?_
      exact E_zret C dX10_canBeWorth_41
    · refine E_ite (fun h1_2 => ?_) (fun h1_2 => ?_)
      · refine E_tabIn (kx := 2) (off := 41) C 42 h1_2 dX10_canBeWorth_1 (by decide +kernel) (by decide) ?_
        refine E_iload_n C dX10_canBeWorth_42 2 rfl ?_
        refine E_iconst C 0 dX10_canBeWorth_43 (by decide) ?_
        refine E_bipush C 11 dX10_canBeWorth_44 (by decide) ?_
        refine E_callSI (st := []) C [.int v2, .int ((0 : Int32)), .int ((11 : Int32))] (mX10_within v2 ((0 : Int32)) ((11 : Int32)) μ) cal_X10_within st_X10_within lk_X10_134 dX10_canBeWorth_46 rfl rfl (Nat.le_of_ble_eq_true rfl) (Nat.le_of_ble_eq_true rfl) (fun x46 μ46 => ?_)
        exact E_zret C dX10_canBeWorth_49
      · refine E_tabOut C 50 dX10_canBeWorth_1 (by have q0 := i32_ne h1_0 (n := 0) rfl; have q1 := i32_ne h1_1 (n := 1) rfl; have q2 := i32_ne h1_2 (n := 2) rfl; omega) (by decide) ?_
        refine E_iconst C 0 dX10_canBeWorth_50 (by decide) ?_
        exact E_zret C dX10_canBeWorth_51
def fX10_solveThought (v0 : Nat) (μ : Mem) : Option (Unit × Mem) :=
  (gR μ v0 10 5).bind fun x1 => (gR μ v0 10 3).bind fun x5 => (isC μ x1 1).bind fun _ => bd (fX1_fillGains x1 x5 ((0 : Int32)) μ) fun _ μ9 => (gR μ9 v0 10 5).bind fun x13 => (gR μ9 v0 10 3).bind fun x17 => (isC μ9 x13 1).bind fun _ => bd (fX1_sweep x13 x17 ((0 : Int32)) μ9) fun _ μ21 => some ((), μ21)
set_option maxHeartbeats 4000000 in
set_option maxRecDepth 100000 in
theorem mX10_solveThought (v0 : Nat) (μ : Mem) : Meth wU yX10_solveThought cX10_solveThought 1 none 4 [.ref v0] μ (fX10_solveThought v0 μ) := by
  refine Meth.of (by decide) [(0, .ref v0)] rfl (Nat.le_of_ble_eq_true rfl) ?_
  intro p l e R s m args below meth c D ca ad A X C
  have C : CX p R s m args meth c D ca ad A X cX10_solveThought RX10 1 none 4 := C
  unfold fX10_solveThought
  refine E_aload_n C dX10_solveThought_0 0 rfl ?_
  refine E_getR C F_X10_39 dX10_solveThought_1 (fun x1 => ?_)
  refine E_aload_n C dX10_solveThought_4 0 rfl ?_
  refine E_getR C F_X10_28 dX10_solveThought_5 (fun x5 => ?_)
  refine E_iconst C 0 dX10_solveThought_8 (by decide) ?_
  refine E_callVU (st := []) C [.ref x5, .int ((0 : Int32))] (mX1_fillGains x1 x5 ((0 : Int32)) μ) cal_X1_fillGains vir_X1_fillGains lk_X10_377 dX10_solveThought_9 rfl rfl (Nat.le_of_ble_eq_true rfl) (Nat.le_of_ble_eq_true rfl) (fun _ μ9 => ?_)
  refine E_aload_n C dX10_solveThought_12 0 rfl ?_
  refine E_getR C F_X10_39 dX10_solveThought_13 (fun x13 => ?_)
  refine E_aload_n C dX10_solveThought_16 0 rfl ?_
  refine E_getR C F_X10_28 dX10_solveThought_17 (fun x17 => ?_)
  refine E_iconst C 0 dX10_solveThought_20 (by decide) ?_
  refine E_callVU (st := []) C [.ref x17, .int ((0 : Int32))] (mX1_sweep x13 x17 ((0 : Int32)) μ9) cal_X1_sweep vir_X1_sweep lk_X10_381 dX10_solveThought_21 rfl rfl (Nat.le_of_ble_eq_true rfl) (Nat.le_of_ble_eq_true rfl) (fun _ μ21 => ?_)
  exact E_ret C dX10_solveThought_24
def fX10_worth (v0 : Nat) (v1 : Int32) (v2 : Int32) (v3 : Int32) (v4 : Int32) (μ : Mem) : Option (Int64 × Mem) :=
  (isC μ v0 10).bind fun _ => bd (fX10_canBeWorth v0 v1 v2 μ) fun x3 μ3 => if x3 = 0 then (some ((-9223372036854775808 : Int64), μ3)) else ((isC μ3 v0 10).bind fun _ => bd (fX10_isStore v0 v3 μ3) fun x11 μ11 => if x11 = 0 then (some ((-9223372036854775808 : Int64), μ11)) else (bd (fX10_isState v4 μ11) fun x19 μ19 => if x19 = 0 then (some ((-9223372036854775808 : Int64), μ19)) else ((gR μ19 v0 10 3).bind fun x30 => (gR μ19 v0 10 0).bind fun x34 => (gR μ19 x34 8 0).bind fun x37 => (isC μ19 x30 0).bind fun _ => bd (fX0_copyFrom x30 x37 μ19) fun _ μ40 => jn (fun  (μ_92 : Mem) => (isC μ_92 v0 10).bind fun _ => bd (fX10_solveNow v0 μ_92) fun _ μ93 => (isC μ93 v0 10).bind fun _ => bd (fX10_solveThought v0 μ93) fun _ μ97 => (gR μ97 v0 10 4).bind fun x101 => (isC μ97 x101 1).bind fun _ => bd (fX1_bestAt x101 ((0 : Int32)) v3 v4 μ97) fun x108 μ108 => (gR μ108 v0 10 5).bind fun x114 => (isC μ108 x114 1).bind fun _ => bd (fX1_bestAt x114 ((0 : Int32)) v3 v4 μ108) fun x121 μ121 => jn (fun (s0_144 : UInt32) (μ_144 : Mem) => bd (fX10_bitsOf s0_144 μ_144) fun x144 μ144 => some (x144.toInt64, μ144)) (fun j144 => if v1 = (1 : Int32) then ((nn (FP.fsub x121 x108)).bind fun x135 => j144 x135 μ121) else ((nn (FP.fsub x108 x121)).bind fun x143 => j144 x143 μ121))) (fun j92 => if v1 = 0 then ((gR μ40 v0 10 3).bind fun x48 => (isC μ40 x48 0).bind fun _ => bd (fX0_silence x48 v2 μ40) fun _ μ52 => j92 μ52) else (if v1 = (1 : Int32) then ((gR μ40 v0 10 3).bind fun x64 => (gI μ40 x64 0 0).bind fun x68 => (pV μ40 x64 0 0 (.int ((x68 + (1 : Int32))))).bind fun μ73 => j92 μ73) else ((gR μ40 v0 10 3).bind fun x80 => (gR μ40 x80 0 7).bind fun x83 => (aI μ40 0 x83 v2).bind fun x88 => (sI μ40 x83 v2 ((x88 + (1 : Int32)))).bind fun μ91 => j92 μ91))))))
set_option maxHeartbeats 4000000 in
set_option maxRecDepth 100000 in
theorem mX10_worth (v0 : Nat) (v1 : Int32) (v2 : Int32) (v3 : Int32) (v4 : Int32) (μ : Mem) : Meth wJ yX10_worth cX10_worth 7 (some .long) 5 [.ref v0, .int v1, .int v2, .int v3, .int v4] μ (fX10_worth v0 v1 v2 v3 v4 μ) := by
  refine Meth.of (by decide) [(0, .ref v0), (1, .int v1), (2, .int v2), (3, .int v3), (4, .int v4)] rfl (Nat.le_of_ble_eq_true rfl) ?_
  intro p l e R s m args below meth c D ca ad A X C
  have C : CX p R s m args meth c D ca ad A X cX10_worth RX10 7 (some .long) 5 := C
  unfold fX10_worth
  refine E_aload_n C dX10_worth_0 0 rfl ?_
  refine E_iload_n C dX10_worth_1 1 rfl ?_
  refine E_iload_n C dX10_worth_2 2 rfl ?_
  refine E_callVI (st := []) C [.int v1, .int v2] (mX10_canBeWorth v0 v1 v2 μ) cal_X10_canBeWorth vir_X10_canBeWorth lk_X10_266 dX10_worth_3 rfl rfl (Nat.le_of_ble_eq_true rfl) (Nat.le_of_ble_eq_true rfl) (fun x3 μ3 => ?_)
  refine E_if_eq C 25 dX10_worth_6 (by decide) ?_ ?_
  · refine E_ldc2 C dX10_worth_25 k_X10_207 ?_
    exact E_lret C dX10_worth_28
  · refine E_at (pc2 := 9) rfl ?_
    refine E_aload_n C dX10_worth_9 0 rfl ?_
    refine E_iload_n C dX10_worth_10 3 rfl ?_
    refine E_callVI (st := []) C [.int v3] (mX10_isStore v0 v3 μ3) cal_X10_isStore vir_X10_isStore lk_X10_215 dX10_worth_11 rfl rfl (Nat.le_of_ble_eq_true rfl) (Nat.le_of_ble_eq_true rfl) (fun x11 μ11 => ?_)
    refine E_if_eq C 25 dX10_worth_14 (by decide) ?_ ?_
    · refine E_ldc2 C dX10_worth_25 k_X10_207 ?_
      exact E_lret C dX10_worth_28
    · refine E_at (pc2 := 17) rfl ?_
      refine E_iload C dX10_worth_17 4 rfl ?_
      refine E_callSI (st := []) C [.int v4] (mX10_isState v4 μ11) cal_X10_isState st_X10_isState lk_X10_172 dX10_worth_19 rfl rfl (Nat.le_of_ble_eq_true rfl) (Nat.le_of_ble_eq_true rfl) (fun x19 μ19 => ?_)
      refine E_if_ne C 29 dX10_worth_22 (by decide) ?_ ?_
      · refine E_aload_n C dX10_worth_29 0 rfl ?_
        refine E_getR C F_X10_28 dX10_worth_30 (fun x30 => ?_)
        refine E_aload_n C dX10_worth_33 0 rfl ?_
        refine E_getR C F_X10_14 dX10_worth_34 (fun x34 => ?_)
        refine E_getR C F_X10_106 dX10_worth_37 (fun x37 => ?_)
        refine E_callVU (st := []) C [.ref x37] (mX0_copyFrom x30 x37 μ19) cal_X0_copyFrom vir_X0_copyFrom lk_X10_269 dX10_worth_40 rfl rfl (Nat.le_of_ble_eq_true rfl) (Nat.le_of_ble_eq_true rfl) (fun _ μ40 => ?_)
        refine E_iload_n C dX10_worth_43 1 rfl ?_
        refine E_jn (fun j92 => ∀  (μ_92 : Mem), Sm p l e R s m args below meth c D ca ad A 7 0 0 wJ (KQ below args s D ca ad A) 92 [(0, .ref v0), (1, .int v1), (3, .int v3), (4, .int v4)] [] μ_92 (j92  μ_92)) ?_ (fun j92 hj92 => ?_)
        · intro  μ_92
          refine E_aload_n C dX10_worth_92 0 rfl ?_
          refine E_callVU (st := []) C [] (mX10_solveNow v0 μ_92) cal_X10_solveNow vir_X10_solveNow lk_X10_228 dX10_worth_93 rfl rfl (Nat.le_of_ble_eq_true rfl) (Nat.le_of_ble_eq_true rfl) (fun _ μ93 => ?_)
          refine E_aload_n C dX10_worth_96 0 rfl ?_
          refine E_callVU (st := []) C [] (mX10_solveThought v0 μ93) cal_X10_solveThought vir_X10_solveThought lk_X10_279 dX10_worth_97 rfl rfl (Nat.le_of_ble_eq_true rfl) (Nat.le_of_ble_eq_true rfl) (fun _ μ97 => ?_)
          refine E_aload_n C dX10_worth_100 0 rfl ?_
          refine E_getR C F_X10_35 dX10_worth_101 (fun x101 => ?_)
          refine E_iconst C 0 dX10_worth_104 (by decide) ?_
          refine E_iload_n C dX10_worth_105 2 rfl ?_
          refine E_iload C dX10_worth_106 3 rfl ?_
          refine E_callVF (st := []) C [.int ((0 : Int32)), .int v3, .int v4] (mX1_bestAt x101 ((0 : Int32)) v3 v4 μ97) cal_X1_bestAt vir_X1_bestAt lk_X10_231 dX10_worth_108 rfl rfl (Nat.le_of_ble_eq_true rfl) (Nat.le_of_ble_eq_true rfl) (fun x108 μ108 => ?_)
          refine E_fstore (lv' := [(5, .float x108), (0, .ref v0), (1, .int v1), (3, .int v3), (4, .int v4)]) C dX10_worth_111 (by decide) rfl ?_
          refine E_aload_n C dX10_worth_113 1 rfl ?_
          refine E_getR C F_X10_39 dX10_worth_114 (fun x114 => ?_)
          refine E_iconst C 0 dX10_worth_117 (by decide) ?_
          refine E_iload_n C dX10_worth_118 3 rfl ?_
          refine E_iload C dX10_worth_119 4 rfl ?_
          refine E_callVF (st := []) C [.int ((0 : Int32)), .int v3, .int v4] (mX1_bestAt x114 ((0 : Int32)) v3 v4 μ108) cal_X1_bestAt vir_X1_bestAt lk_X10_231 dX10_worth_121 rfl rfl (Nat.le_of_ble_eq_true rfl) (Nat.le_of_ble_eq_true rfl) (fun x121 μ121 => ?_)
          refine E_fstore (lv' := [(6, .float x121), (5, .float x108), (0, .ref v0), (1, .int v1), (3, .int v3), (4, .int v4)]) C dX10_worth_124 (by decide) rfl ?_
          refine E_iload_n C dX10_worth_126 3 rfl ?_
          refine E_iconst C 1 dX10_worth_127 (by decide) ?_
          refine E_jn (fun j144 => ∀ (s0_144 : UInt32) (μ_144 : Mem), Sm p l e R s m args below meth c D ca ad A 7 0 0 wJ (KQ below args s D ca ad A) 144 [] [.float s0_144] μ_144 (j144 s0_144 μ_144)) ?_ (fun j144 hj144 => ?_)
          · intro s0_144 μ_144
            refine E_callSI (st := []) C [.float s0_144] (mX10_bitsOf s0_144 μ_144) cal_X10_bitsOf st_X10_bitsOf lk_X10_235 dX10_worth_144 rfl rfl (Nat.le_of_ble_eq_true rfl) (Nat.le_of_ble_eq_true rfl) (fun x144 μ144 => ?_)
            refine E_i2l C dX10_worth_147 ?_
            exact E_lret C dX10_worth_148
          · refine E_icmp_ne C 139 dX10_worth_128 (by decide) ?_ ?_
            · refine E_fload C dX10_worth_139 1 rfl ?_
              refine E_fload C dX10_worth_141 0 rfl ?_
              refine E_fsub C dX10_worth_143 (fun x143 => ?_)
              exact E_pick [] rfl (hj144 x143 μ121)
            · refine E_at (pc2 := 131) rfl ?_
              refine E_fload C dX10_worth_131 0 rfl ?_
              refine E_fload C dX10_worth_133 1 rfl ?_
              refine E_fsub C dX10_worth_135 (fun x135 => ?_)
              refine E_goto C 144 dX10_worth_136 (by decide) ?_
              exact E_pick [] rfl (hj144 x135 μ121)
        · refine E_if_ne C 58 dX10_worth_44 (by decide) ?_ ?_
          · refine E_iload_n C dX10_worth_58 1 rfl ?_
            refine E_iconst C 1 dX10_worth_59 (by decide) ?_
            refine E_icmp_ne C 79 dX10_worth_60 (by decide) ?_ ?_
            · refine E_aload_n C dX10_worth_79 0 rfl ?_
              refine E_getR C F_X10_28 dX10_worth_80 (fun x80 => ?_)
              refine E_getR C F_X10_166 dX10_worth_83 (fun x83 => ?_)
              refine E_iload_n C dX10_worth_86 2 rfl ?_
              refine E_dup2_ir C dX10_worth_87 ?_
              refine E_iaload C dX10_worth_88 (fun x88 => ?_)
              refine E_iconst C 1 dX10_worth_89 (by decide) ?_
              refine E_iadd C dX10_worth_90 ?_
              refine E_iastore C dX10_worth_91 (fun μ91 => ?_)
              exact E_pick [0, 1, 3, 4] rfl (hj92 μ91)
            · refine E_at (pc2 := 63) rfl ?_
              refine E_aload_n C dX10_worth_63 0 rfl ?_
              refine E_getR C F_X10_28 dX10_worth_64 (fun x64 => ?_)
              refine E_dup_r C dX10_worth_67 ?_
              refine E_getI C F_X10_276 dX10_worth_68 (fun x68 => ?_)
              refine E_iconst C 1 dX10_worth_71 (by decide) ?_
              refine E_iadd C dX10_worth_72 ?_
              refine E_putI C P_X10_276 dX10_worth_73 (fun μ73 => ?_)
              refine E_goto C 92 dX10_worth_76 (by decide) ?_
              exact E_pick [0, 1, 3, 4] rfl (hj92 μ73)
          · refine E_at (pc2 := 47) rfl ?_
            refine E_aload_n C dX10_worth_47 0 rfl ?_
            refine E_getR C F_X10_28 dX10_worth_48 (fun x48 => ?_)
            refine E_iload_n C dX10_worth_51 2 rfl ?_
            refine E_callVU (st := []) C [.int v2] (mX0_silence x48 v2 μ40) cal_X0_silence vir_X0_silence lk_X10_272 dX10_worth_52 rfl rfl (Nat.le_of_ble_eq_true rfl) (Nat.le_of_ble_eq_true rfl) (fun _ μ52 => ?_)
            refine E_goto C 92 dX10_worth_55 (by decide) ?_
            exact E_pick [0, 1, 3, 4] rfl (hj92 μ52)
      · refine E_at (pc2 := 25) rfl ?_
        refine E_ldc2 C dX10_worth_25 k_X10_207 ?_
        exact E_lret C dX10_worth_28
def fX10_record (v0 : Nat) (v1 : Int32) (v2 : Int32) (μ : Mem) : Option (Int32 × Mem) :=
  bd (fX10_within v1 ((0 : Int32)) ((3 : Int32)) μ) fun x3 μ3 => if x3 = 0 then (some ((-1 : Int32), μ3)) else (if v2 = (-1 : Int32) then ((gR μ3 v0 10 13).bind fun x17 => (aR μ3 5 x17 v1).bind fun x21 => (isC μ3 x21 6).bind fun _ => bd (fX6_clear x21 μ3) fun x22 μ22 => some (x22, μ22)) else (bd (fX10_within v2 ((0 : Int32)) ((9 : Int32)) μ3) fun x30 μ30 => if x30 = 0 then (some ((-2 : Int32), μ30)) else ((gR μ30 v0 10 13).bind fun x40 => (aR μ30 5 x40 v1).bind fun x44 => (isC μ30 x44 6).bind fun _ => bd (fX6_add x44 v2 μ30) fun x46 μ46 => some (x46, μ46))))
set_option maxHeartbeats 4000000 in
set_option maxRecDepth 100000 in
theorem mX10_record (v0 : Nat) (v1 : Int32) (v2 : Int32) (μ : Mem) : Meth wI yX10_record cX10_record 3 (some .int) 3 [.ref v0, .int v1, .int v2] μ (fX10_record v0 v1 v2 μ) := by
  refine Meth.of (by decide) [(0, .ref v0), (1, .int v1), (2, .int v2)] rfl (Nat.le_of_ble_eq_true rfl) ?_
  intro p l e R s m args below meth c D ca ad A X C
  have C : CX p R s m args meth c D ca ad A X cX10_record RX10 3 (some .int) 3 := C
  unfold fX10_record
  refine E_iload_n C dX10_record_0 1 rfl ?_
  refine E_iconst C 0 dX10_record_1 (by decide) ?_
  refine E_iconst C 3 dX10_record_2 (by decide) ?_
  refine E_callSI (st := []) C [.int v1, .int ((0 : Int32)), .int ((3 : Int32))] (mX10_within v1 ((0 : Int32)) ((3 : Int32)) μ) cal_X10_within st_X10_within lk_X10_134 dX10_record_3 rfl rfl (Nat.le_of_ble_eq_true rfl) (Nat.le_of_ble_eq_true rfl) (fun x3 μ3 => ?_)
  refine E_if_ne C 11 dX10_record_6 (by decide) ?_ ?_
  · refine E_iload_n C dX10_record_11 2 rfl ?_
    refine E_iconst C (-1) dX10_record_12 (by decide) ?_
    refine E_icmp_ne C 26 dX10_record_13 (by decide) ?_ ?_
    · refine E_iload_n C dX10_record_26 2 rfl ?_
      refine E_iconst C 0 dX10_record_27 (by decide) ?_
      refine E_bipush C 9 dX10_record_28 (by decide) ?_
      refine E_callSI (st := []) C [.int v2, .int ((0 : Int32)), .int ((9 : Int32))] (mX10_within v2 ((0 : Int32)) ((9 : Int32)) μ3) cal_X10_within st_X10_within lk_X10_134 dX10_record_30 rfl rfl (Nat.le_of_ble_eq_true rfl) (Nat.le_of_ble_eq_true rfl) (fun x30 μ30 => ?_)
      refine E_if_ne C 39 dX10_record_33 (by decide) ?_ ?_
      · refine E_aload_n C dX10_record_39 0 rfl ?_
        refine E_getR C F_X10_78 dX10_record_40 (fun x40 => ?_)
        refine E_iload_n C dX10_record_43 1 rfl ?_
        refine E_aaload C rfl dX10_record_44 (fun x44 => ?_)
        refine E_iload_n C dX10_record_45 2 rfl ?_
        refine E_callVI (st := []) C [.int v2] (mX6_add x44 v2 μ30) cal_X6_add vir_X6_add lk_X10_138 dX10_record_46 rfl rfl (Nat.le_of_ble_eq_true rfl) (Nat.le_of_ble_eq_true rfl) (fun x46 μ46 => ?_)
        exact E_iret C dX10_record_49
      · refine E_at (pc2 := 36) rfl ?_
        refine E_bipush C (-2) dX10_record_36 (by decide) ?_
        exact E_iret C dX10_record_38
    · refine E_at (pc2 := 16) rfl ?_
      refine E_aload_n C dX10_record_16 0 rfl ?_
      refine E_getR C F_X10_78 dX10_record_17 (fun x17 => ?_)
      refine E_iload_n C dX10_record_20 1 rfl ?_
      refine E_aaload C rfl dX10_record_21 (fun x21 => ?_)
      refine E_callVI (st := []) C [] (mX6_clear x21 μ3) cal_X6_clear vir_X6_clear lk_X10_145 dX10_record_22 rfl rfl (Nat.le_of_ble_eq_true rfl) (Nat.le_of_ble_eq_true rfl) (fun x22 μ22 => ?_)
      exact E_iret C dX10_record_25
  · refine E_at (pc2 := 9) rfl ?_
    refine E_iconst C (-1) dX10_record_9 (by decide) ?_
    exact E_iret C dX10_record_10
def fX10_canReplay (v0 : Nat) (v1 : Int32) (v2 : Int32) (v3 : Int32) (μ : Mem) : Option (Int32 × Mem) :=
  bd (fX10_within v1 ((0 : Int32)) ((3 : Int32)) μ) fun x3 μ3 => if x3 = 0 then ((zz ((0 : Int32))).bind fun z => some (z, μ3)) else ((isC μ3 v0 10).bind fun _ => bd (fX10_isStore v0 v2 μ3) fun x11 μ11 => if x11 = 0 then ((zz ((0 : Int32))).bind fun z => some (z, μ11)) else (bd (fX10_within v3 ((0 : Int32)) ((20 : Int32)) μ11) fun x21 μ21 => if x21 = 0 then ((zz ((0 : Int32))).bind fun z => some (z, μ21)) else ((zz ((1 : Int32))).bind fun z => some (z, μ21))))
set_option maxHeartbeats 4000000 in
set_option maxRecDepth 100000 in
theorem mX10_canReplay (v0 : Nat) (v1 : Int32) (v2 : Int32) (v3 : Int32) (μ : Mem) : Meth wI yX10_canReplay cX10_canReplay 4 (some .boolean) 2 [.ref v0, .int v1, .int v2, .int v3] μ (fX10_canReplay v0 v1 v2 v3 μ) := by
  refine Meth.of (by decide) [(0, .ref v0), (1, .int v1), (2, .int v2), (3, .int v3)] rfl (Nat.le_of_ble_eq_true rfl) ?_
  intro p l e R s m args below meth c D ca ad A X C
  have C : CX p R s m args meth c D ca ad A X cX10_canReplay RX10 4 (some .boolean) 2 := C
  unfold fX10_canReplay
  refine E_iload_n C dX10_canReplay_0 1 rfl ?_
  refine E_iconst C 0 dX10_canReplay_1 (by decide) ?_
  refine E_iconst C 3 dX10_canReplay_2 (by decide) ?_
  refine E_callSI (st := []) C [.int v1, .int ((0 : Int32)), .int ((3 : Int32))] (mX10_within v1 ((0 : Int32)) ((3 : Int32)) μ) cal_X10_within st_X10_within lk_X10_134 dX10_canReplay_3 rfl rfl (Nat.le_of_ble_eq_true rfl) (Nat.le_of_ble_eq_true rfl) (fun x3 μ3 => ?_)
  refine E_if_eq C 31 dX10_canReplay_6 (by decide) ?_ ?_
  · refine E_iconst C 0 dX10_canReplay_31 (by decide) ?_
    exact E_zret C dX10_canReplay_32
  · refine E_at (pc2 := 9) rfl ?_
    refine E_aload_n C dX10_canReplay_9 0 rfl ?_
    refine E_iload_n C dX10_canReplay_10 2 rfl ?_
    refine E_callVI (st := []) C [.int v2] (mX10_isStore v0 v2 μ3) cal_X10_isStore vir_X10_isStore lk_X10_215 dX10_canReplay_11 rfl rfl (Nat.le_of_ble_eq_true rfl) (Nat.le_of_ble_eq_true rfl) (fun x11 μ11 => ?_)
    refine E_if_eq C 31 dX10_canReplay_14 (by decide) ?_ ?_
    · refine E_iconst C 0 dX10_canReplay_31 (by decide) ?_
      exact E_zret C dX10_canReplay_32
    · refine E_at (pc2 := 17) rfl ?_
      refine E_iload_n C dX10_canReplay_17 3 rfl ?_
      refine E_iconst C 0 dX10_canReplay_18 (by decide) ?_
      refine E_bipush C 20 dX10_canReplay_19 (by decide) ?_
      refine E_callSI (st := []) C [.int v3, .int ((0 : Int32)), .int ((20 : Int32))] (mX10_within v3 ((0 : Int32)) ((20 : Int32)) μ11) cal_X10_within st_X10_within lk_X10_134 dX10_canReplay_21 rfl rfl (Nat.le_of_ble_eq_true rfl) (Nat.le_of_ble_eq_true rfl) (fun x21 μ21 => ?_)
      refine E_if_eq C 31 dX10_canReplay_24 (by decide) ?_ ?_
      · refine E_iconst C 0 dX10_canReplay_31 (by decide) ?_
        exact E_zret C dX10_canReplay_32
      · refine E_at (pc2 := 27) rfl ?_
        refine E_iconst C 1 dX10_canReplay_27 (by decide) ?_
        refine E_goto C 32 dX10_canReplay_28 (by decide) ?_
        exact E_zret C dX10_canReplay_32
def fX10_goThrough (v0 : Nat) (v1 : Int32) (v2 : Int32) (v3 : Int32) (v4 : Int32) (μ : Mem) : Option (Unit × Mem) :=
  jn (fun  (μ_8 : Mem) => (gR μ_8 v0 10 12).bind fun x9 => (gR μ_8 v0 10 0).bind fun x13 => (gR μ_8 x13 8 0).bind fun x16 => (gR μ_8 v0 10 4).bind fun x20 => (gR μ_8 v0 10 13).bind fun x24 => (aR μ_8 5 x24 v1).bind fun x28 => (isC μ_8 x9 4).bind fun _ => bd (fX4_go x9 x16 x20 x28 v2 v3 v4 μ_8) fun _ μ33 => some ((), μ33)) (fun j8 => if v3 = 0 then ((isC μ v0 10).bind fun _ => bd (fX10_solveNow v0 μ) fun _ μ5 => j8 μ5) else (j8 μ))
set_option maxHeartbeats 4000000 in
set_option maxRecDepth 100000 in
theorem mX10_goThrough (v0 : Nat) (v1 : Int32) (v2 : Int32) (v3 : Int32) (v4 : Int32) (μ : Mem) : Meth wU yX10_goThrough cX10_goThrough 5 none 5 [.ref v0, .int v1, .int v2, .int v3, .int v4] μ (fX10_goThrough v0 v1 v2 v3 v4 μ) := by
  refine Meth.of (by decide) [(0, .ref v0), (1, .int v1), (2, .int v2), (3, .int v3), (4, .int v4)] rfl (Nat.le_of_ble_eq_true rfl) ?_
  intro p l e R s m args below meth c D ca ad A X C
  have C : CX p R s m args meth c D ca ad A X cX10_goThrough RX10 5 none 5 := C
  unfold fX10_goThrough
  refine E_iload_n C dX10_goThrough_0 3 rfl ?_
  refine E_jn (fun j8 => ∀  (μ_8 : Mem), Sm p l e R s m args below meth c D ca ad A 5 0 0 wU (KQ below args s D ca ad A) 8 [(0, .ref v0), (1, .int v1), (2, .int v2), (3, .int v3), (4, .int v4)] [] μ_8 (j8  μ_8)) ?_ (fun j8 hj8 => ?_)
  · intro  μ_8
    refine E_aload_n C dX10_goThrough_8 0 rfl ?_
    refine E_getR C F_X10_72 dX10_goThrough_9 (fun x9 => ?_)
    refine E_aload_n C dX10_goThrough_12 0 rfl ?_
    refine E_getR C F_X10_14 dX10_goThrough_13 (fun x13 => ?_)
    refine E_getR C F_X10_106 dX10_goThrough_16 (fun x16 => ?_)
    refine E_aload_n C dX10_goThrough_19 0 rfl ?_
    refine E_getR C F_X10_35 dX10_goThrough_20 (fun x20 => ?_)
    refine E_aload_n C dX10_goThrough_23 0 rfl ?_
    refine E_getR C F_X10_78 dX10_goThrough_24 (fun x24 => ?_)
    refine E_iload_n C dX10_goThrough_27 1 rfl ?_
    refine E_aaload C rfl dX10_goThrough_28 (fun x28 => ?_)
    refine E_iload_n C dX10_goThrough_29 2 rfl ?_
    refine E_iload_n C dX10_goThrough_30 3 rfl ?_
    refine E_iload C dX10_goThrough_31 4 rfl ?_
    refine E_callVU (st := []) C [.ref x16, .ref x20, .ref x28, .int v2, .int v3, .int v4] (mX4_go x9 x16 x20 x28 v2 v3 v4 μ_8) cal_X4_go vir_X4_go lk_X10_384 dX10_goThrough_33 rfl rfl (Nat.le_of_ble_eq_true rfl) (Nat.le_of_ble_eq_true rfl) (fun _ μ33 => ?_)
    exact E_ret C dX10_goThrough_36
  · refine E_if_ne C 8 dX10_goThrough_1 (by decide) ?_ ?_
    · exact E_pick [0, 1, 2, 3, 4] rfl (hj8 μ)
    · refine E_at (pc2 := 4) rfl ?_
      refine E_aload_n C dX10_goThrough_4 0 rfl ?_
      refine E_callVU (st := []) C [] (mX10_solveNow v0 μ) cal_X10_solveNow vir_X10_solveNow lk_X10_228 dX10_goThrough_5 rfl rfl (Nat.le_of_ble_eq_true rfl) (Nat.le_of_ble_eq_true rfl) (fun _ μ5 => ?_)
      exact E_pick [0, 1, 2, 3, 4] rfl (hj8 μ5)
def fX10_replay (v0 : Nat) (v1 : Int32) (v2 : Int32) (v3 : Int32) (v4 : Int32) (v5 : Int32) (μ : Mem) : Option (Int64 × Mem) :=
  (isC μ v0 10).bind fun _ => bd (fX10_canReplay v0 v1 v2 v3 μ) fun x4 μ4 => if x4 = 0 then (some ((-9223372036854775808 : Int64), μ4)) else ((gR μ4 v0 10 13).bind fun x14 => (aR μ4 5 x14 v1).bind fun x18 => (gI μ4 x18 6 3).bind fun x19 => bd (fX10_within v4 ((0 : Int32)) x19 μ4) fun x22 μ22 => if x22 = 0 then (some ((-9223372036854775808 : Int64), μ22)) else (bd (fX10_within v5 ((0 : Int32)) ((5 : Int32)) μ22) fun x32 μ32 => if x32 = 0 then (some ((-9223372036854775808 : Int64), μ32)) else ((isC μ32 v0 10).bind fun _ => bd (fX10_goThrough v0 v1 v2 v3 v4 μ32) fun _ μ48 => (gR μ48 v0 10 12).bind fun x52 => (isC μ48 x52 4).bind fun _ => bd (fX4_tell x52 v5 μ48) fun x57 μ57 => some (x57, μ57))))
set_option maxHeartbeats 4000000 in
set_option maxRecDepth 100000 in
theorem mX10_replay (v0 : Nat) (v1 : Int32) (v2 : Int32) (v3 : Int32) (v4 : Int32) (v5 : Int32) (μ : Mem) : Meth wJ yX10_replay cX10_replay 6 (some .long) 6 [.ref v0, .int v1, .int v2, .int v3, .int v4, .int v5] μ (fX10_replay v0 v1 v2 v3 v4 v5 μ) := by
  refine Meth.of (by decide) [(0, .ref v0), (1, .int v1), (2, .int v2), (3, .int v3), (4, .int v4), (5, .int v5)] rfl (Nat.le_of_ble_eq_true rfl) ?_
  intro p l e R s m args below meth c D ca ad A X C
  have C : CX p R s m args meth c D ca ad A X cX10_replay RX10 6 (some .long) 6 := C
  unfold fX10_replay
  refine E_aload_n C dX10_replay_0 0 rfl ?_
  refine E_iload_n C dX10_replay_1 1 rfl ?_
  refine E_iload_n C dX10_replay_2 2 rfl ?_
  refine E_iload_n C dX10_replay_3 3 rfl ?_
  refine E_callVI (st := []) C [.int v1, .int v2, .int v3] (mX10_canReplay v0 v1 v2 v3 μ) cal_X10_canReplay vir_X10_canReplay lk_X10_282 dX10_replay_4 rfl rfl (Nat.le_of_ble_eq_true rfl) (Nat.le_of_ble_eq_true rfl) (fun x4 μ4 => ?_)
  refine E_if_eq C 38 dX10_replay_7 (by decide) ?_ ?_
  · refine E_ldc2 C dX10_replay_38 k_X10_207 ?_
    exact E_lret C dX10_replay_41
  · refine E_at (pc2 := 10) rfl ?_
    refine E_iload C dX10_replay_10 4 rfl ?_
    refine E_iconst C 0 dX10_replay_12 (by decide) ?_
    refine E_aload_n C dX10_replay_13 0 rfl ?_
    refine E_getR C F_X10_78 dX10_replay_14 (fun x14 => ?_)
    refine E_iload_n C dX10_replay_17 1 rfl ?_
    refine E_aaload C rfl dX10_replay_18 (fun x18 => ?_)
    refine E_getI C F_X10_285 dX10_replay_19 (fun x19 => ?_)
    refine E_callSI (st := []) C [.int v4, .int ((0 : Int32)), .int x19] (mX10_within v4 ((0 : Int32)) x19 μ4) cal_X10_within st_X10_within lk_X10_134 dX10_replay_22 rfl rfl (Nat.le_of_ble_eq_true rfl) (Nat.le_of_ble_eq_true rfl) (fun x22 μ22 => ?_)
    refine E_if_eq C 38 dX10_replay_25 (by decide) ?_ ?_
    · refine E_ldc2 C dX10_replay_38 k_X10_207 ?_
      exact E_lret C dX10_replay_41
    · refine E_at (pc2 := 28) rfl ?_
      refine E_iload C dX10_replay_28 5 rfl ?_
      refine E_iconst C 0 dX10_replay_30 (by decide) ?_
      refine E_iconst C 5 dX10_replay_31 (by decide) ?_
      refine E_callSI (st := []) C [.int v5, .int ((0 : Int32)), .int ((5 : Int32))] (mX10_within v5 ((0 : Int32)) ((5 : Int32)) μ22) cal_X10_within st_X10_within lk_X10_134 dX10_replay_32 rfl rfl (Nat.le_of_ble_eq_true rfl) (Nat.le_of_ble_eq_true rfl) (fun x32 μ32 => ?_)
      refine E_if_ne C 42 dX10_replay_35 (by decide) ?_ ?_
      · refine E_aload_n C dX10_replay_42 0 rfl ?_
        refine E_iload_n C dX10_replay_43 1 rfl ?_
        refine E_iload_n C dX10_replay_44 2 rfl ?_
        refine E_iload_n C dX10_replay_45 3 rfl ?_
        refine E_iload C dX10_replay_46 4 rfl ?_
        refine E_callVU (st := []) C [.int v1, .int v2, .int v3, .int v4] (mX10_goThrough v0 v1 v2 v3 v4 μ32) cal_X10_goThrough vir_X10_goThrough lk_X10_286 dX10_replay_48 rfl rfl (Nat.le_of_ble_eq_true rfl) (Nat.le_of_ble_eq_true rfl) (fun _ μ48 => ?_)
        refine E_aload_n C dX10_replay_51 0 rfl ?_
        refine E_getR C F_X10_72 dX10_replay_52 (fun x52 => ?_)
        refine E_iload C dX10_replay_55 5 rfl ?_
        refine E_callVJ (st := []) C [.int v5] (mX4_tell x52 v5 μ48) cal_X4_tell vir_X4_tell lk_X10_290 dX10_replay_57 rfl rfl (Nat.le_of_ble_eq_true rfl) (Nat.le_of_ble_eq_true rfl) (fun x57 μ57 => ?_)
        exact E_lret C dX10_replay_60
      · refine E_at (pc2 := 38) rfl ?_
        refine E_ldc2 C dX10_replay_38 k_X10_207 ?_
        exact E_lret C dX10_replay_41
def X10_commonDivisor_L4 (G : Int32 → Mem → Option (Int32 × Mem)) (v0 : Int32) (v1 : Int32) : Nat → Int32 → Int32 → Mem → Option (Int32 × Mem)
  | 0, _, _, _ => none
  | n + 1, v2, v3, μ => if v0 < v3 then (G v2 μ) else ((rmI v0 v3).bind fun x11 => if x11 = 0 then ((rmI v1 v3).bind fun x17 => if x17 = 0 then (X10_commonDivisor_L4 G v0 v1 n v3 ((v3 + 1)) μ) else (X10_commonDivisor_L4 G v0 v1 n v2 ((v3 + 1)) μ)) else (X10_commonDivisor_L4 G v0 v1 n v2 ((v3 + 1)) μ))
set_option maxHeartbeats 4000000 in
set_option maxRecDepth 100000 in
theorem X10_commonDivisor_L4_ok {p : Program} {l : Launch} {e : Env} {R : Room} {s : State} {m : MethodId} {args : Array Value} {below : List Frame} {meth : Method} {c : Code} {D : va_G} {ca : Nat → ClassId} {ad : Nat → Nat} {A : Nat → Prop} {X : State → Prop} (C : CX p R s m args meth c D ca ad A X cX10_commonDivisor RX10 4 (some .int) 0) {G : Int32 → Mem → Option (Int32 × Mem)} (v0 : Int32) (v1 : Int32) (hG : ∀ (v2x : Int32) (μx : Mem), Sm p l e R s m args below meth c D ca ad A 4 0 0 wI (KQ below args s D ca ad A) 29 [(2, .int v2x)] [] μx (G v2x μx)) : ∀ (n : Nat) (v2 : Int32) (v3 : Int32) (μ : Mem), Sm p l e R s m args below meth c D ca ad A 4 0 0 wI (KQ below args s D ca ad A) 4 [(0, .int v0), (1, .int v1), (2, .int v2), (3, .int v3)] [] μ (X10_commonDivisor_L4 G v0 v1 n v2 v3 μ) := by
  intro n
  induction n with
  | zero =>
    intro v2 v3 μ
    rw [X10_commonDivisor_L4]
    exact E_none
  | succ n ih =>
    intro v2 v3 μ
    rw [X10_commonDivisor_L4]
    refine E_iload_n C dX10_commonDivisor_4 3 rfl ?_
    refine E_iload_n C dX10_commonDivisor_5 0 rfl ?_
    refine E_icmp_gt C 29 dX10_commonDivisor_6 (by decide) ?_ ?_
    · exact E_pick [2] rfl (hG v2 μ)
    · refine E_at (pc2 := 9) rfl ?_
      refine E_iload_n C dX10_commonDivisor_9 0 rfl ?_
      refine E_iload_n C dX10_commonDivisor_10 3 rfl ?_
      refine E_irem C dX10_commonDivisor_11 (fun x11 => ?_)
      refine E_if_ne C 23 dX10_commonDivisor_12 (by decide) ?_ ?_
      · refine E_iinc (lv' := [(3, .int ((v3 + 1))), (0, .int v0), (1, .int v1), (2, .int v2)]) C (v3 + 1) dX10_commonDivisor_23 3 rfl rfl (by decide) rfl ?_
        refine E_goto C 4 dX10_commonDivisor_26 (by decide) ?_
        exact E_pick [1, 2, 3, 0] rfl (ih v2 ((v3 + 1)) μ)
      · refine E_at (pc2 := 15) rfl ?_
        refine E_iload_n C dX10_commonDivisor_15 1 rfl ?_
        refine E_iload_n C dX10_commonDivisor_16 3 rfl ?_
        refine E_irem C dX10_commonDivisor_17 (fun x17 => ?_)
        refine E_if_ne C 23 dX10_commonDivisor_18 (by decide) ?_ ?_
        · refine E_iinc (lv' := [(3, .int ((v3 + 1))), (0, .int v0), (1, .int v1), (2, .int v2)]) C (v3 + 1) dX10_commonDivisor_23 3 rfl rfl (by decide) rfl ?_
          refine E_goto C 4 dX10_commonDivisor_26 (by decide) ?_
          exact E_pick [1, 2, 3, 0] rfl (ih v2 ((v3 + 1)) μ)
        · refine E_at (pc2 := 21) rfl ?_
          refine E_iload_n C dX10_commonDivisor_21 3 rfl ?_
          refine E_istore_n (lv' := [(2, .int v3), (0, .int v0), (1, .int v1), (3, .int v3)]) C dX10_commonDivisor_22 (by decide) rfl ?_
          refine E_at (pc2 := 23) rfl ?_
          refine E_iinc (lv' := [(3, .int ((v3 + 1))), (2, .int v3), (0, .int v0), (1, .int v1)]) C (v3 + 1) dX10_commonDivisor_23 3 rfl rfl (by decide) rfl ?_
          refine E_goto C 4 dX10_commonDivisor_26 (by decide) ?_
          exact E_pick [2, 3, 1, 0] rfl (ih v3 ((v3 + 1)) μ)
def fX10_commonDivisor (v0 : Int32) (v1 : Int32) (μ : Mem) : Option (Int32 × Mem) :=
  X10_commonDivisor_L4 (fun v2_29 μ_29 => some (v2_29, μ_29)) v0 v1 FU ((1 : Int32)) ((2 : Int32)) μ
set_option maxHeartbeats 4000000 in
set_option maxRecDepth 100000 in
theorem mX10_commonDivisor (v0 : Int32) (v1 : Int32) (μ : Mem) : Meth wI yX10_commonDivisor cX10_commonDivisor 4 (some .int) 0 [.int v0, .int v1] μ (fX10_commonDivisor v0 v1 μ) := by
  refine Meth.of (by decide) [(0, .int v0), (1, .int v1)] rfl (Nat.le_of_ble_eq_true rfl) ?_
  intro p l e R s m args below meth c D ca ad A X C
  have C : CX p R s m args meth c D ca ad A X cX10_commonDivisor RX10 4 (some .int) 0 := C
  unfold fX10_commonDivisor
  refine E_iconst C 1 dX10_commonDivisor_0 (by decide) ?_
  refine E_istore_n (lv' := [(2, .int ((1 : Int32))), (0, .int v0), (1, .int v1)]) C dX10_commonDivisor_1 (by decide) rfl ?_
  refine E_iconst C 2 dX10_commonDivisor_2 (by decide) ?_
  refine E_istore_n (lv' := [(3, .int ((2 : Int32))), (2, .int ((1 : Int32))), (0, .int v0), (1, .int v1)]) C dX10_commonDivisor_3 (by decide) rfl ?_
  refine E_at (pc2 := 4) rfl ?_
  refine E_pick (lv' := [(0, .int v0), (1, .int v1), (2, .int ((1 : Int32))), (3, .int ((2 : Int32)))]) [2, 3, 1, 0] rfl ?_
  refine X10_commonDivisor_L4_ok C v0 v1 (fun v2_29 μ_29 => ?_) FU ((1 : Int32)) ((2 : Int32)) μ
  refine E_iload_n C dX10_commonDivisor_29 0 rfl ?_
  exact E_iret C dX10_commonDivisor_30
def fX10_sure (v0 : Nat) (v1 : Int32) (v2 : Int32) (v3 : Int32) (v4 : Int32) (v5 : Int32) (μ : Mem) : Option (Int64 × Mem) :=
  (isC μ v0 10).bind fun _ => bd (fX10_canReplay v0 v1 v2 v3 μ) fun x4 μ4 => if x4 = 0 then (some ((-9223372036854775808 : Int64), μ4)) else ((gR μ4 v0 10 0).bind fun x11 => (gR μ4 x11 8 0).bind fun x14 => (isC μ4 x14 0).bind fun _ => bd (fX0_hasDemand x14 v4 μ4) fun x19 μ19 => if x19 = 0 then (some ((-9223372036854775808 : Int64), μ19)) else (bd (fX10_within v5 ((0 : Int32)) ((1 : Int32)) μ19) fun x29 μ29 => if x29 = 0 then (some ((-9223372036854775808 : Int64), μ29)) else ((gR μ29 v0 10 13).bind fun x44 => (aR μ29 5 x44 v1).bind fun x48 => (gI μ29 x48 6 3).bind fun x49 => (isC μ29 v0 10).bind fun _ => bd (fX10_goThrough v0 v1 v2 v3 x49 μ29) fun _ μ52 => (gR μ52 v0 10 12).bind fun x56 => (gR μ52 v0 10 0).bind fun x60 => (gR μ52 x60 8 0).bind fun x63 => (isC μ52 x56 4).bind fun _ => bd (fX4_monthsWanting x56 x63 v4 μ52) fun x68 μ68 => (gR μ68 v0 10 12).bind fun x74 => (gR μ68 v0 10 0).bind fun x78 => (gR μ68 x78 8 0).bind fun x81 => (isC μ68 x74 4).bind fun _ => bd (fX4_monthsMet x74 x81 v4 μ68) fun x86 μ86 => if 0 < x68 then (bd (fX10_commonDivisor x68 x86 μ86) fun x104 μ104 => if v5 = 0 then ((dvI x86 x104).bind fun x118 => some (x118.toInt64, μ104)) else ((dvI x68 x104).bind fun x127 => some (x127.toInt64, μ104))) else (some ((-9223372036854775808 : Int64), μ86)))))
set_option maxHeartbeats 4000000 in
set_option maxRecDepth 100000 in
theorem mX10_sure (v0 : Nat) (v1 : Int32) (v2 : Int32) (v3 : Int32) (v4 : Int32) (v5 : Int32) (μ : Mem) : Meth wJ yX10_sure cX10_sure 9 (some .long) 6 [.ref v0, .int v1, .int v2, .int v3, .int v4, .int v5] μ (fX10_sure v0 v1 v2 v3 v4 v5 μ) := by
  refine Meth.of (by decide) [(0, .ref v0), (1, .int v1), (2, .int v2), (3, .int v3), (4, .int v4), (5, .int v5)] rfl (Nat.le_of_ble_eq_true rfl) ?_
  intro p l e R s m args below meth c D ca ad A X C
  have C : CX p R s m args meth c D ca ad A X cX10_sure RX10 9 (some .long) 6 := C
  unfold fX10_sure
  refine E_aload_n C dX10_sure_0 0 rfl ?_
  refine E_iload_n C dX10_sure_1 1 rfl ?_
  refine E_iload_n C dX10_sure_2 2 rfl ?_
  refine E_iload_n C dX10_sure_3 3 rfl ?_
  refine E_callVI (st := []) C [.int v1, .int v2, .int v3] (mX10_canReplay v0 v1 v2 v3 μ) cal_X10_canReplay vir_X10_canReplay lk_X10_282 dX10_sure_4 rfl rfl (Nat.le_of_ble_eq_true rfl) (Nat.le_of_ble_eq_true rfl) (fun x4 μ4 => ?_)
  refine E_if_eq C 35 dX10_sure_7 (by decide) ?_ ?_
  · refine E_ldc2 C dX10_sure_35 k_X10_207 ?_
    exact E_lret C dX10_sure_38
  · refine E_at (pc2 := 10) rfl ?_
    refine E_aload_n C dX10_sure_10 0 rfl ?_
    refine E_getR C F_X10_14 dX10_sure_11 (fun x11 => ?_)
    refine E_getR C F_X10_106 dX10_sure_14 (fun x14 => ?_)
    refine E_iload C dX10_sure_17 4 rfl ?_
    refine E_callVI (st := []) C [.int v4] (mX0_hasDemand x14 v4 μ4) cal_X0_hasDemand vir_X0_hasDemand lk_X10_182 dX10_sure_19 rfl rfl (Nat.le_of_ble_eq_true rfl) (Nat.le_of_ble_eq_true rfl) (fun x19 μ19 => ?_)
    refine E_if_eq C 35 dX10_sure_22 (by decide) ?_ ?_
    · refine E_ldc2 C dX10_sure_35 k_X10_207 ?_
      exact E_lret C dX10_sure_38
    · refine E_at (pc2 := 25) rfl ?_
      refine E_iload C dX10_sure_25 5 rfl ?_
      refine E_iconst C 0 dX10_sure_27 (by decide) ?_
      refine E_iconst C 1 dX10_sure_28 (by decide) ?_
      refine E_callSI (st := []) C [.int v5, .int ((0 : Int32)), .int ((1 : Int32))] (mX10_within v5 ((0 : Int32)) ((1 : Int32)) μ19) cal_X10_within st_X10_within lk_X10_134 dX10_sure_29 rfl rfl (Nat.le_of_ble_eq_true rfl) (Nat.le_of_ble_eq_true rfl) (fun x29 μ29 => ?_)
      refine E_if_ne C 39 dX10_sure_32 (by decide) ?_ ?_
      · refine E_aload_n C dX10_sure_39 0 rfl ?_
        refine E_iload_n C dX10_sure_40 1 rfl ?_
        refine E_iload_n C dX10_sure_41 2 rfl ?_
        refine E_iload_n C dX10_sure_42 3 rfl ?_
        refine E_aload_n C dX10_sure_43 0 rfl ?_
        refine E_getR C F_X10_78 dX10_sure_44 (fun x44 => ?_)
        refine E_iload_n C dX10_sure_47 1 rfl ?_
        refine E_aaload C rfl dX10_sure_48 (fun x48 => ?_)
        refine E_getI C F_X10_285 dX10_sure_49 (fun x49 => ?_)
        refine E_callVU (st := []) C [.int v1, .int v2, .int v3, .int x49] (mX10_goThrough v0 v1 v2 v3 x49 μ29) cal_X10_goThrough vir_X10_goThrough lk_X10_286 dX10_sure_52 rfl rfl (Nat.le_of_ble_eq_true rfl) (Nat.le_of_ble_eq_true rfl) (fun _ μ52 => ?_)
        refine E_aload_n C dX10_sure_55 0 rfl ?_
        refine E_getR C F_X10_72 dX10_sure_56 (fun x56 => ?_)
        refine E_aload_n C dX10_sure_59 0 rfl ?_
        refine E_getR C F_X10_14 dX10_sure_60 (fun x60 => ?_)
        refine E_getR C F_X10_106 dX10_sure_63 (fun x63 => ?_)
        refine E_iload C dX10_sure_66 4 rfl ?_
        refine E_callVI (st := []) C [.ref x63, .int v4] (mX4_monthsWanting x56 x63 v4 μ52) cal_X4_monthsWanting vir_X4_monthsWanting lk_X10_291 dX10_sure_68 rfl rfl (Nat.le_of_ble_eq_true rfl) (Nat.le_of_ble_eq_true rfl) (fun x68 μ68 => ?_)
        refine E_istore (lv' := [(6, .int x68), (0, .ref v0), (1, .int v1), (2, .int v2), (3, .int v3), (4, .int v4), (5, .int v5)]) C dX10_sure_71 (by decide) rfl ?_
        refine E_aload_n C dX10_sure_73 1 rfl ?_
        refine E_getR C F_X10_72 dX10_sure_74 (fun x74 => ?_)
        refine E_aload_n C dX10_sure_77 1 rfl ?_
        refine E_getR C F_X10_14 dX10_sure_78 (fun x78 => ?_)
        refine E_getR C F_X10_106 dX10_sure_81 (fun x81 => ?_)
        refine E_iload C dX10_sure_84 5 rfl ?_
        refine E_callVI (st := []) C [.ref x81, .int v4] (mX4_monthsMet x74 x81 v4 μ68) cal_X4_monthsMet vir_X4_monthsMet lk_X10_295 dX10_sure_86 rfl rfl (Nat.le_of_ble_eq_true rfl) (Nat.le_of_ble_eq_true rfl) (fun x86 μ86 => ?_)
        refine E_istore (lv' := [(7, .int x86), (6, .int x68), (0, .ref v0), (1, .int v1), (2, .int v2), (3, .int v3), (4, .int v4), (5, .int v5)]) C dX10_sure_89 (by decide) rfl ?_
        refine E_iload C dX10_sure_91 1 rfl ?_
        refine E_if_gt C 100 dX10_sure_93 (by decide) ?_ ?_
        · refine E_iload C dX10_sure_100 1 rfl ?_
          refine E_iload C dX10_sure_102 0 rfl ?_
          refine E_callSI (st := []) C [.int x68, .int x86] (mX10_commonDivisor x68 x86 μ86) cal_X10_commonDivisor st_X10_commonDivisor lk_X10_298 dX10_sure_104 rfl rfl (Nat.le_of_ble_eq_true rfl) (Nat.le_of_ble_eq_true rfl) (fun x104 μ104 => ?_)
          refine E_istore (lv' := [(8, .int x104), (7, .int x86), (6, .int x68), (0, .ref v0), (1, .int v1), (2, .int v2), (3, .int v3), (4, .int v4), (5, .int v5)]) C dX10_sure_107 (by decide) rfl ?_
          refine E_iload C dX10_sure_109 8 rfl ?_
          refine E_if_ne C 123 dX10_sure_111 (by decide) ?_ ?_
          · refine E_iload C dX10_sure_123 2 rfl ?_
            refine E_iload C dX10_sure_125 0 rfl ?_
            refine E_idiv C dX10_sure_127 (fun x127 => ?_)
            refine E_i2l C dX10_sure_128 ?_
            exact E_lret C dX10_sure_129
          · refine E_at (pc2 := 114) rfl ?_
            refine E_iload C dX10_sure_114 1 rfl ?_
            refine E_iload C dX10_sure_116 0 rfl ?_
            refine E_idiv C dX10_sure_118 (fun x118 => ?_)
            refine E_i2l C dX10_sure_119 ?_
            refine E_goto C 129 dX10_sure_120 (by decide) ?_
            exact E_lret C dX10_sure_129
        · refine E_at (pc2 := 96) rfl ?_
          refine E_ldc2 C dX10_sure_96 k_X10_207 ?_
          exact E_lret C dX10_sure_99
      · refine E_at (pc2 := 35) rfl ?_
        refine E_ldc2 C dX10_sure_35 k_X10_207 ?_
        exact E_lret C dX10_sure_38
def fX10_learn (v0 : Nat) (v1 : Int32) (μ : Mem) : Option (Int32 × Mem) :=
  bd (fX10_within v1 ((0 : Int32)) ((3 : Int32)) μ) fun x3 μ3 => if x3 = 0 then (some ((-1 : Int32), μ3)) else ((gR μ3 v0 10 13).bind fun x12 => (aR μ3 5 x12 v1).bind fun x16 => (gI μ3 x16 6 3).bind fun x17 => if (2 : Int32) ≤ x17 then ((isC μ3 v0 10).bind fun _ => bd (fX10_forgetFound v0 μ3) fun _ μ28 => (gR μ28 v0 10 0).bind fun x32 => (gR μ28 x32 8 0).bind fun x35 => (gR μ28 v0 10 13).bind fun x39 => (aR μ28 5 x39 v1).bind fun x43 => (isC μ28 x35 0).bind fun _ => bd (fX0_learnParts x35 x43 μ28) fun _ μ44 => (gR μ44 v0 10 13).bind fun x48 => (aR μ44 5 x48 v1).bind fun x52 => (gI μ44 x52 6 3).bind fun x53 => some (x53, μ44)) else (some ((-3 : Int32), μ3)))
set_option maxHeartbeats 4000000 in
set_option maxRecDepth 100000 in
theorem mX10_learn (v0 : Nat) (v1 : Int32) (μ : Mem) : Meth wI yX10_learn cX10_learn 2 (some .int) 3 [.ref v0, .int v1] μ (fX10_learn v0 v1 μ) := by
  refine Meth.of (by decide) [(0, .ref v0), (1, .int v1)] rfl (Nat.le_of_ble_eq_true rfl) ?_
  intro p l e R s m args below meth c D ca ad A X C
  have C : CX p R s m args meth c D ca ad A X cX10_learn RX10 2 (some .int) 3 := C
  unfold fX10_learn
  refine E_iload_n C dX10_learn_0 1 rfl ?_
  refine E_iconst C 0 dX10_learn_1 (by decide) ?_
  refine E_iconst C 3 dX10_learn_2 (by decide) ?_
  refine E_callSI (st := []) C [.int v1, .int ((0 : Int32)), .int ((3 : Int32))] (mX10_within v1 ((0 : Int32)) ((3 : Int32)) μ) cal_X10_within st_X10_within lk_X10_134 dX10_learn_3 rfl rfl (Nat.le_of_ble_eq_true rfl) (Nat.le_of_ble_eq_true rfl) (fun x3 μ3 => ?_)
  refine E_if_ne C 11 dX10_learn_6 (by decide) ?_ ?_
  · refine E_aload_n C dX10_learn_11 0 rfl ?_
    refine E_getR C F_X10_78 dX10_learn_12 (fun x12 => ?_)
    refine E_iload_n C dX10_learn_15 1 rfl ?_
    refine E_aaload C rfl dX10_learn_16 (fun x16 => ?_)
    refine E_getI C F_X10_285 dX10_learn_17 (fun x17 => ?_)
    refine E_iconst C 2 dX10_learn_20 (by decide) ?_
    refine E_icmp_ge C 27 dX10_learn_21 (by decide) ?_ ?_
    · refine E_aload_n C dX10_learn_27 0 rfl ?_
      refine E_callVU (st := []) C [] (mX10_forgetFound v0 μ3) cal_X10_forgetFound vir_X10_forgetFound lk_X10_103 dX10_learn_28 rfl rfl (Nat.le_of_ble_eq_true rfl) (Nat.le_of_ble_eq_true rfl) (fun _ μ28 => ?_)
      refine E_aload_n C dX10_learn_31 0 rfl ?_
      refine E_getR C F_X10_14 dX10_learn_32 (fun x32 => ?_)
      refine E_getR C F_X10_106 dX10_learn_35 (fun x35 => ?_)
      refine E_aload_n C dX10_learn_38 0 rfl ?_
      refine E_getR C F_X10_78 dX10_learn_39 (fun x39 => ?_)
      refine E_iload_n C dX10_learn_42 1 rfl ?_
      refine E_aaload C rfl dX10_learn_43 (fun x43 => ?_)
      refine E_callVU (st := []) C [.ref x43] (mX0_learnParts x35 x43 μ28) cal_X0_learnParts vir_X0_learnParts lk_X10_301 dX10_learn_44 rfl rfl (Nat.le_of_ble_eq_true rfl) (Nat.le_of_ble_eq_true rfl) (fun _ μ44 => ?_)
      refine E_aload_n C dX10_learn_47 0 rfl ?_
      refine E_getR C F_X10_78 dX10_learn_48 (fun x48 => ?_)
      refine E_iload_n C dX10_learn_51 1 rfl ?_
      refine E_aaload C rfl dX10_learn_52 (fun x52 => ?_)
      refine E_getI C F_X10_285 dX10_learn_53 (fun x53 => ?_)
      exact E_iret C dX10_learn_56
    · refine E_at (pc2 := 24) rfl ?_
      refine E_bipush C (-3) dX10_learn_24 (by decide) ?_
      exact E_iret C dX10_learn_26
  · refine E_at (pc2 := 9) rfl ?_
    refine E_iconst C (-1) dX10_learn_9 (by decide) ?_
    exact E_iret C dX10_learn_10
def fX10_see (v0 : Nat) (v1 : Int32) (v2 : Int32) (v3 : Int32) (v4 : Int32) (μ : Mem) : Option (Int32 × Mem) :=
  (pZ μ v0 10 7 ((0 : Int32))).bind fun μ2 => if v1 = (-1 : Int32) then ((gR μ2 v0 10 0).bind fun x11 => (gR μ2 x11 8 1).bind fun x14 => (isC μ2 x14 6).bind fun _ => bd (fX6_clear x14 μ2) fun x17 μ17 => some (x17, μ17)) else ((gR μ2 v0 10 0).bind fun x22 => (gR μ2 x22 8 0).bind fun x25 => (isC μ2 x25 0).bind fun _ => bd (fX0_isAhead x25 v1 v2 μ2) fun x30 μ30 => if x30 = 0 then (some ((-1 : Int32), μ30)) else (bd (fX10_isState v3 μ30) fun x37 μ37 => if x37 = 0 then (some ((-1 : Int32), μ37)) else (bd (fX10_within v4 ((0 : Int32)) ((20 : Int32)) μ37) fun x50 μ50 => if x50 = 0 then (some ((-2 : Int32), μ50)) else ((gR μ50 v0 10 0).bind fun x60 => (gR μ50 x60 8 1).bind fun x63 => (isC μ50 x63 6).bind fun _ => bd (fX6_add___ x63 v1 v2 v3 v4 μ50) fun x71 μ71 => some (x71, μ71)))))
set_option maxHeartbeats 4000000 in
set_option maxRecDepth 100000 in
theorem mX10_see (v0 : Nat) (v1 : Int32) (v2 : Int32) (v3 : Int32) (v4 : Int32) (μ : Mem) : Meth wI yX10_see cX10_see 5 (some .int) 2 [.ref v0, .int v1, .int v2, .int v3, .int v4] μ (fX10_see v0 v1 v2 v3 v4 μ) := by
  refine Meth.of (by decide) [(0, .ref v0), (1, .int v1), (2, .int v2), (3, .int v3), (4, .int v4)] rfl (Nat.le_of_ble_eq_true rfl) ?_
  intro p l e R s m args below meth c D ca ad A X C
  have C : CX p R s m args meth c D ca ad A X cX10_see RX10 5 (some .int) 2 := C
  unfold fX10_see
  refine E_aload_n C dX10_see_0 0 rfl ?_
  refine E_iconst C 0 dX10_see_1 (by decide) ?_
  refine E_putZ C P_X10_45 dX10_see_2 (fun μ2 => ?_)
  refine E_iload_n C dX10_see_5 1 rfl ?_
  refine E_iconst C (-1) dX10_see_6 (by decide) ?_
  refine E_icmp_ne C 21 dX10_see_7 (by decide) ?_ ?_
  · refine E_aload_n C dX10_see_21 0 rfl ?_
    refine E_getR C F_X10_14 dX10_see_22 (fun x22 => ?_)
    refine E_getR C F_X10_106 dX10_see_25 (fun x25 => ?_)
    refine E_iload_n C dX10_see_28 1 rfl ?_
    refine E_iload_n C dX10_see_29 2 rfl ?_
    refine E_callVI (st := []) C [.int v1, .int v2] (mX0_isAhead x25 v1 v2 μ2) cal_X0_isAhead vir_X0_isAhead lk_X10_239 dX10_see_30 rfl rfl (Nat.le_of_ble_eq_true rfl) (Nat.le_of_ble_eq_true rfl) (fun x30 μ30 => ?_)
    refine E_if_eq C 43 dX10_see_33 (by decide) ?_ ?_
    · refine E_iconst C (-1) dX10_see_43 (by decide) ?_
      exact E_iret C dX10_see_44
    · refine E_at (pc2 := 36) rfl ?_
      refine E_iload_n C dX10_see_36 3 rfl ?_
      refine E_callSI (st := []) C [.int v3] (mX10_isState v3 μ30) cal_X10_isState st_X10_isState lk_X10_172 dX10_see_37 rfl rfl (Nat.le_of_ble_eq_true rfl) (Nat.le_of_ble_eq_true rfl) (fun x37 μ37 => ?_)
      refine E_if_ne C 45 dX10_see_40 (by decide) ?_ ?_
      · refine E_iload C dX10_see_45 4 rfl ?_
        refine E_iconst C 0 dX10_see_47 (by decide) ?_
        refine E_bipush C 20 dX10_see_48 (by decide) ?_
        refine E_callSI (st := []) C [.int v4, .int ((0 : Int32)), .int ((20 : Int32))] (mX10_within v4 ((0 : Int32)) ((20 : Int32)) μ37) cal_X10_within st_X10_within lk_X10_134 dX10_see_50 rfl rfl (Nat.le_of_ble_eq_true rfl) (Nat.le_of_ble_eq_true rfl) (fun x50 μ50 => ?_)
        refine E_if_ne C 59 dX10_see_53 (by decide) ?_ ?_
        · refine E_aload_n C dX10_see_59 0 rfl ?_
          refine E_getR C F_X10_14 dX10_see_60 (fun x60 => ?_)
          refine E_getR C F_X10_305 dX10_see_63 (fun x63 => ?_)
          refine E_iload_n C dX10_see_66 1 rfl ?_
          refine E_iload_n C dX10_see_67 2 rfl ?_
          refine E_iload_n C dX10_see_68 3 rfl ?_
          refine E_iload C dX10_see_69 4 rfl ?_
          refine E_callVI (st := []) C [.int v1, .int v2, .int v3, .int v4] (mX6_add___ x63 v1 v2 v3 v4 μ50) cal_X6_add___ vir_X6_add___ lk_X10_308 dX10_see_71 rfl rfl (Nat.le_of_ble_eq_true rfl) (Nat.le_of_ble_eq_true rfl) (fun x71 μ71 => ?_)
          exact E_iret C dX10_see_74
        · refine E_at (pc2 := 56) rfl ?_
          refine E_bipush C (-2) dX10_see_56 (by decide) ?_
          exact E_iret C dX10_see_58
      · refine E_at (pc2 := 43) rfl ?_
        refine E_iconst C (-1) dX10_see_43 (by decide) ?_
        exact E_iret C dX10_see_44
  · refine E_at (pc2 := 10) rfl ?_
    refine E_aload_n C dX10_see_10 0 rfl ?_
    refine E_getR C F_X10_14 dX10_see_11 (fun x11 => ?_)
    refine E_getR C F_X10_305 dX10_see_14 (fun x14 => ?_)
    refine E_callVI (st := []) C [] (mX6_clear x14 μ2) cal_X6_clear vir_X6_clear lk_X10_145 dX10_see_17 rfl rfl (Nat.le_of_ble_eq_true rfl) (Nat.le_of_ble_eq_true rfl) (fun x17 μ17 => ?_)
    exact E_iret C dX10_see_20
def X10_goesAsSeen_L10 (G : Mem → Option (Int32 × Mem)) (v1 : Nat) (v2 : Nat) : Nat → Int32 → Mem → Option (Int32 × Mem)
  | 0, _, _ => none
  | n + 1, v3, μ => (gI μ v2 6 3).bind fun x12 => if x12 ≤ v3 then (G μ) else ((isC μ v2 6).bind fun _ => bd (fX6_at v2 v3 ((0 : Int32)) μ) fun x22 μ22 => (isC μ22 v2 6).bind fun _ => bd (fX6_at v2 v3 ((1 : Int32)) μ22) fun x28 μ28 => (isC μ28 v2 6).bind fun _ => bd (fX6_at v2 v3 ((2 : Int32)) μ28) fun x34 μ34 => (isC μ34 v1 1).bind fun _ => bd (fX1_releaseAt v1 x22 x28 x34 μ34) fun x37 μ37 => (isC μ37 v2 6).bind fun _ => bd (fX6_at v2 v3 ((3 : Int32)) μ37) fun x43 μ43 => if x37 = x43 then (X10_goesAsSeen_L10 G v1 v2 n ((v3 + 1)) μ43) else ((zz ((0 : Int32))).bind fun z => some (z, μ43)))
set_option maxHeartbeats 4000000 in
set_option maxRecDepth 100000 in
theorem X10_goesAsSeen_L10_ok {p : Program} {l : Launch} {e : Env} {R : Room} {s : State} {m : MethodId} {args : Array Value} {below : List Frame} {meth : Method} {c : Code} {D : va_G} {ca : Nat → ClassId} {ad : Nat → Nat} {A : Nat → Prop} {X : State → Prop} (C : CX p R s m args meth c D ca ad A X cX10_goesAsSeen RX10 4 (some .boolean) 2) {G : Mem → Option (Int32 × Mem)} (v1 : Nat) (v2 : Nat) (hG : ∀  (μx : Mem), Sm p l e R s m args below meth c D ca ad A 4 0 0 wI (KQ below args s D ca ad A) 57 [] [] μx (G  μx)) : ∀ (n : Nat) (v3 : Int32) (μ : Mem), Sm p l e R s m args below meth c D ca ad A 4 0 0 wI (KQ below args s D ca ad A) 10 [(1, .ref v1), (2, .ref v2), (3, .int v3)] [] μ (X10_goesAsSeen_L10 G v1 v2 n v3 μ) := by
  intro n
  induction n with
  | zero =>
    intro v3 μ
    rw [X10_goesAsSeen_L10]
    exact E_none
  | succ n ih =>
    intro v3 μ
    rw [X10_goesAsSeen_L10]
    refine E_iload_n C dX10_goesAsSeen_10 2 rfl ?_
    refine E_aload_n C dX10_goesAsSeen_11 1 rfl ?_
    refine E_getI C F_X10_285 dX10_goesAsSeen_12 (fun x12 => ?_)
    refine E_icmp_ge C 57 dX10_goesAsSeen_15 (by decide) ?_ ?_
    · exact E_pick [] rfl (hG μ)
    · refine E_at (pc2 := 18) rfl ?_
      refine E_aload_n C dX10_goesAsSeen_18 0 rfl ?_
      refine E_aload_n C dX10_goesAsSeen_19 1 rfl ?_
      refine E_iload_n C dX10_goesAsSeen_20 2 rfl ?_
      refine E_iconst C 0 dX10_goesAsSeen_21 (by decide) ?_
      refine E_callVI (st := [.ref v1]) C [.int v3, .int ((0 : Int32))] (mX6_at v2 v3 ((0 : Int32)) μ) cal_X6_at vir_X6_at lk_X10_319 dX10_goesAsSeen_22 rfl rfl (Nat.le_of_ble_eq_true rfl) (Nat.le_of_ble_eq_true rfl) (fun x22 μ22 => ?_)
      refine E_aload_n C dX10_goesAsSeen_25 1 rfl ?_
      refine E_iload_n C dX10_goesAsSeen_26 2 rfl ?_
      refine E_iconst C 1 dX10_goesAsSeen_27 (by decide) ?_
      refine E_callVI (st := [.int x22, .ref v1]) C [.int v3, .int ((1 : Int32))] (mX6_at v2 v3 ((1 : Int32)) μ22) cal_X6_at vir_X6_at lk_X10_319 dX10_goesAsSeen_28 rfl rfl (Nat.le_of_ble_eq_true rfl) (Nat.le_of_ble_eq_true rfl) (fun x28 μ28 => ?_)
      refine E_aload_n C dX10_goesAsSeen_31 1 rfl ?_
      refine E_iload_n C dX10_goesAsSeen_32 2 rfl ?_
      refine E_iconst C 2 dX10_goesAsSeen_33 (by decide) ?_
      refine E_callVI (st := [.int x28, .int x22, .ref v1]) C [.int v3, .int ((2 : Int32))] (mX6_at v2 v3 ((2 : Int32)) μ28) cal_X6_at vir_X6_at lk_X10_319 dX10_goesAsSeen_34 rfl rfl (Nat.le_of_ble_eq_true rfl) (Nat.le_of_ble_eq_true rfl) (fun x34 μ34 => ?_)
      refine E_callVI (st := []) C [.int x22, .int x28, .int x34] (mX1_releaseAt v1 x22 x28 x34 μ34) cal_X1_releaseAt vir_X1_releaseAt lk_X10_242 dX10_goesAsSeen_37 rfl rfl (Nat.le_of_ble_eq_true rfl) (Nat.le_of_ble_eq_true rfl) (fun x37 μ37 => ?_)
      refine E_aload_n C dX10_goesAsSeen_40 1 rfl ?_
      refine E_iload_n C dX10_goesAsSeen_41 2 rfl ?_
      refine E_iconst C 3 dX10_goesAsSeen_42 (by decide) ?_
      refine E_callVI (st := [.int x37]) C [.int v3, .int ((3 : Int32))] (mX6_at v2 v3 ((3 : Int32)) μ37) cal_X6_at vir_X6_at lk_X10_319 dX10_goesAsSeen_43 rfl rfl (Nat.le_of_ble_eq_true rfl) (Nat.le_of_ble_eq_true rfl) (fun x43 μ43 => ?_)
      refine E_icmp_eq C 51 dX10_goesAsSeen_46 (by decide) ?_ ?_
      · refine E_iinc (lv' := [(3, .int ((v3 + 1))), (1, .ref v1), (2, .ref v2)]) C (v3 + 1) dX10_goesAsSeen_51 2 rfl rfl (by decide) rfl ?_
        refine E_goto C 10 dX10_goesAsSeen_54 (by decide) ?_
        exact E_pick [1, 2, 0] rfl (ih ((v3 + 1)) μ43)
      · refine E_at (pc2 := 49) rfl ?_
        refine E_iconst C 0 dX10_goesAsSeen_49 (by decide) ?_
        exact E_zret C dX10_goesAsSeen_50
def fX10_goesAsSeen (v0 : Nat) (v1 : Nat) (μ : Mem) : Option (Int32 × Mem) :=
  (gR μ v0 10 0).bind fun x1 => (gR μ x1 8 1).bind fun x4 => X10_goesAsSeen_L10 (fun μ_57 => (zz ((1 : Int32))).bind fun z => some (z, μ_57)) v1 x4 FU ((0 : Int32)) μ
set_option maxHeartbeats 4000000 in
set_option maxRecDepth 100000 in
theorem mX10_goesAsSeen (v0 : Nat) (v1 : Nat) (μ : Mem) : Meth wI yX10_goesAsSeen cX10_goesAsSeen 4 (some .boolean) 2 [.ref v0, .ref v1] μ (fX10_goesAsSeen v0 v1 μ) := by
  refine Meth.of (by decide) [(0, .ref v0), (1, .ref v1)] rfl (Nat.le_of_ble_eq_true rfl) ?_
  intro p l e R s m args below meth c D ca ad A X C
  have C : CX p R s m args meth c D ca ad A X cX10_goesAsSeen RX10 4 (some .boolean) 2 := C
  unfold fX10_goesAsSeen
  refine E_aload_n C dX10_goesAsSeen_0 0 rfl ?_
  refine E_getR C F_X10_14 dX10_goesAsSeen_1 (fun x1 => ?_)
  refine E_getR C F_X10_305 dX10_goesAsSeen_4 (fun x4 => ?_)
  refine E_astore_n (lv' := [(2, .ref x4), (0, .ref v0), (1, .ref v1)]) C dX10_goesAsSeen_7 (by decide) rfl ?_
  refine E_iconst C 0 dX10_goesAsSeen_8 (by decide) ?_
  refine E_istore_n (lv' := [(3, .int ((0 : Int32))), (2, .ref x4), (0, .ref v0), (1, .ref v1)]) C dX10_goesAsSeen_9 (by decide) rfl ?_
  refine E_at (pc2 := 10) rfl ?_
  refine E_pick (lv' := [(1, .ref v1), (2, .ref x4), (3, .int ((0 : Int32)))]) [3, 1, 0] rfl ?_
  refine X10_goesAsSeen_L10_ok C v1 x4 (fun μ_57 => ?_) FU ((0 : Int32)) μ
  refine E_iconst C 1 dX10_goesAsSeen_57 (by decide) ?_
  exact E_zret C dX10_goesAsSeen_58
def X10_findFits_L37 (G : Int32 → Mem → Option (Unit × Mem)) (v0 : Nat) : Nat → Int32 → Int32 → Mem → Option (Unit × Mem)
  | 0, _, _, _ => none
  | n + 1, v1, v2, μ => (gR μ v0 10 0).bind fun x39 => (gR μ x39 8 1).bind fun x42 => (gI μ x42 6 3).bind fun x45 => if x45 ≤ v2 then (G v1 μ) else ((gR μ v0 10 0).bind fun x52 => (gR μ x52 8 0).bind fun x55 => (gR μ v0 10 0).bind fun x59 => (gR μ x59 8 1).bind fun x62 => (isC μ x62 6).bind fun _ => bd (fX6_at x62 v2 ((0 : Int32)) μ) fun x67 μ67 => (gR μ67 v0 10 0).bind fun x71 => (gR μ67 x71 8 1).bind fun x74 => (isC μ67 x74 6).bind fun _ => bd (fX6_at x74 v2 ((1 : Int32)) μ67) fun x79 μ79 => (isC μ79 x55 0).bind fun _ => bd (fX0_isAhead x55 x67 x79 μ79) fun x82 μ82 => if x82 = 0 then (some ((), μ82)) else ((gR μ82 v0 10 0).bind fun x91 => (gR μ82 x91 8 1).bind fun x94 => (isC μ82 x94 6).bind fun _ => bd (fX6_at x94 v2 ((0 : Int32)) μ82) fun x99 μ99 => X10_findFits_L37 G v0 n ((mnI v1 x99)) ((v2 + 1)) μ99))
set_option maxHeartbeats 4000000 in
set_option maxRecDepth 100000 in
theorem X10_findFits_L37_ok {p : Program} {l : Launch} {e : Env} {R : Room} {s : State} {m : MethodId} {args : Array Value} {below : List Frame} {meth : Method} {c : Code} {D : va_G} {ca : Nat → ClassId} {ad : Nat → Nat} {A : Nat → Prop} {X : State → Prop} (C : CX p R s m args meth c D ca ad A X cX10_findFits RX10 3 none 4) {G : Int32 → Mem → Option (Unit × Mem)} (v0 : Nat) (hG : ∀ (v1x : Int32) (μx : Mem), Sm p l e R s m args below meth c D ca ad A 3 0 0 wU (KQ below args s D ca ad A) 112 [(0, .ref v0), (1, .int v1x)] [] μx (G v1x μx)) : ∀ (n : Nat) (v1 : Int32) (v2 : Int32) (μ : Mem), Sm p l e R s m args below meth c D ca ad A 3 0 0 wU (KQ below args s D ca ad A) 37 [(0, .ref v0), (1, .int v1), (2, .int v2)] [] μ (X10_findFits_L37 G v0 n v1 v2 μ) := by
  intro n
  induction n with
  | zero =>
    intro v1 v2 μ
    rw [X10_findFits_L37]
    exact E_none
  | succ n ih =>
    intro v1 v2 μ
    rw [X10_findFits_L37]
    refine E_iload_n C dX10_findFits_37 2 rfl ?_
    refine E_aload_n C dX10_findFits_38 0 rfl ?_
    refine E_getR C F_X10_14 dX10_findFits_39 (fun x39 => ?_)
    refine E_getR C F_X10_305 dX10_findFits_42 (fun x42 => ?_)
    refine E_getI C F_X10_285 dX10_findFits_45 (fun x45 => ?_)
    refine E_icmp_ge C 112 dX10_findFits_48 (by decide) ?_ ?_
    · exact E_pick [0, 1] rfl (hG v1 μ)
    · refine E_at (pc2 := 51) rfl ?_
      refine E_aload_n C dX10_findFits_51 0 rfl ?_
      refine E_getR C F_X10_14 dX10_findFits_52 (fun x52 => ?_)
      refine E_getR C F_X10_106 dX10_findFits_55 (fun x55 => ?_)
      refine E_aload_n C dX10_findFits_58 0 rfl ?_
      refine E_getR C F_X10_14 dX10_findFits_59 (fun x59 => ?_)
      refine E_getR C F_X10_305 dX10_findFits_62 (fun x62 => ?_)
      refine E_iload_n C dX10_findFits_65 2 rfl ?_
      refine E_iconst C 0 dX10_findFits_66 (by decide) ?_
      refine E_callVI (st := [.ref x55]) C [.int v2, .int ((0 : Int32))] (mX6_at x62 v2 ((0 : Int32)) μ) cal_X6_at vir_X6_at lk_X10_319 dX10_findFits_67 rfl rfl (Nat.le_of_ble_eq_true rfl) (Nat.le_of_ble_eq_true rfl) (fun x67 μ67 => ?_)
      refine E_aload_n C dX10_findFits_70 0 rfl ?_
      refine E_getR C F_X10_14 dX10_findFits_71 (fun x71 => ?_)
      refine E_getR C F_X10_305 dX10_findFits_74 (fun x74 => ?_)
      refine E_iload_n C dX10_findFits_77 2 rfl ?_
      refine E_iconst C 1 dX10_findFits_78 (by decide) ?_
      refine E_callVI (st := [.int x67, .ref x55]) C [.int v2, .int ((1 : Int32))] (mX6_at x74 v2 ((1 : Int32)) μ67) cal_X6_at vir_X6_at lk_X10_319 dX10_findFits_79 rfl rfl (Nat.le_of_ble_eq_true rfl) (Nat.le_of_ble_eq_true rfl) (fun x79 μ79 => ?_)
      refine E_callVI (st := []) C [.int x67, .int x79] (mX0_isAhead x55 x67 x79 μ79) cal_X0_isAhead vir_X0_isAhead lk_X10_239 dX10_findFits_82 rfl rfl (Nat.le_of_ble_eq_true rfl) (Nat.le_of_ble_eq_true rfl) (fun x82 μ82 => ?_)
      refine E_if_ne C 89 dX10_findFits_85 (by decide) ?_ ?_
      · refine E_iload_n C dX10_findFits_89 1 rfl ?_
        refine E_aload_n C dX10_findFits_90 0 rfl ?_
        refine E_getR C F_X10_14 dX10_findFits_91 (fun x91 => ?_)
        refine E_getR C F_X10_305 dX10_findFits_94 (fun x94 => ?_)
        refine E_iload_n C dX10_findFits_97 2 rfl ?_
        refine E_iconst C 0 dX10_findFits_98 (by decide) ?_
        refine E_callVI (st := [.int v1]) C [.int v2, .int ((0 : Int32))] (mX6_at x94 v2 ((0 : Int32)) μ82) cal_X6_at vir_X6_at lk_X10_319 dX10_findFits_99 rfl rfl (Nat.le_of_ble_eq_true rfl) (Nat.le_of_ble_eq_true rfl) (fun x99 μ99 => ?_)
        refine E_mmin C lk_X10_325 st_Math_min in_Math co_Math_min dX10_findFits_102 (Nat.le_of_ble_eq_true rfl) (Nat.le_of_ble_eq_true rfl) ?_
        refine E_istore_n (lv' := [(1, .int ((mnI v1 x99))), (0, .ref v0), (2, .int v2)]) C dX10_findFits_105 (by decide) rfl ?_
        refine E_iinc (lv' := [(2, .int ((v2 + 1))), (1, .int ((mnI v1 x99))), (0, .ref v0)]) C (v2 + 1) dX10_findFits_106 2 rfl rfl (by decide) rfl ?_
        refine E_goto C 37 dX10_findFits_109 (by decide) ?_
        exact E_pick [2, 1, 0] rfl (ih ((mnI v1 x99)) ((v2 + 1)) μ99)
      · exact E_ret C dX10_findFits_88
def X10_findFits_L141 (G : Mem → Option (Unit × Mem)) (v0 : Nat) (v1 : Int32) : Nat → Int32 → Mem → Option (Unit × Mem)
  | 0, _, _ => none
  | n + 1, v2, μ => if v2 < 0 then (G μ) else ((gR μ v0 10 3).bind fun x146 => (pV μ x146 0 3 (.int v2)).bind fun μ150 => (gR μ150 v0 10 5).bind fun x154 => (gR μ150 v0 10 3).bind fun x158 => (isC μ150 x154 1).bind fun _ => bd (fX1_sweep x154 x158 v1 μ150) fun _ μ162 => (gR μ162 v0 10 5).bind fun x167 => (isC μ162 v0 10).bind fun _ => bd (fX10_goesAsSeen v0 x167 μ162) fun x170 μ170 => if x170 = 0 then (X10_findFits_L141 G v0 v1 n ((v2 + -1)) μ170) else ((gI μ170 v0 10 8).bind fun x178 => (pV μ170 v0 10 8 (.int ((x178 + (1 : Int32))))).bind fun μ183 => (pV μ183 v0 10 9 (.int v2)).bind fun μ188 => X10_findFits_L141 G v0 v1 n ((v2 + -1)) μ188))
set_option maxHeartbeats 4000000 in
set_option maxRecDepth 100000 in
theorem X10_findFits_L141_ok {p : Program} {l : Launch} {e : Env} {R : Room} {s : State} {m : MethodId} {args : Array Value} {below : List Frame} {meth : Method} {c : Code} {D : va_G} {ca : Nat → ClassId} {ad : Nat → Nat} {A : Nat → Prop} {X : State → Prop} (C : CX p R s m args meth c D ca ad A X cX10_findFits RX10 3 none 4) {G : Mem → Option (Unit × Mem)} (v0 : Nat) (v1 : Int32) (hG : ∀  (μx : Mem), Sm p l e R s m args below meth c D ca ad A 3 0 0 wU (KQ below args s D ca ad A) 197 [] [] μx (G  μx)) : ∀ (n : Nat) (v2 : Int32) (μ : Mem), Sm p l e R s m args below meth c D ca ad A 3 0 0 wU (KQ below args s D ca ad A) 141 [(0, .ref v0), (1, .int v1), (2, .int v2)] [] μ (X10_findFits_L141 G v0 v1 n v2 μ) := by
  intro n
  induction n with
  | zero =>
    intro v2 μ
    rw [X10_findFits_L141]
    exact E_none
  | succ n ih =>
    intro v2 μ
    rw [X10_findFits_L141]
    refine E_iload_n C dX10_findFits_141 2 rfl ?_
    refine E_if_lt C 197 dX10_findFits_142 (by decide) ?_ ?_
    · exact E_pick [] rfl (hG μ)
    · refine E_at (pc2 := 145) rfl ?_
      refine E_aload_n C dX10_findFits_145 0 rfl ?_
      refine E_getR C F_X10_28 dX10_findFits_146 (fun x146 => ?_)
      refine E_iload_n C dX10_findFits_149 2 rfl ?_
      refine E_putI C P_X10_387 dX10_findFits_150 (fun μ150 => ?_)
      refine E_aload_n C dX10_findFits_153 0 rfl ?_
      refine E_getR C F_X10_39 dX10_findFits_154 (fun x154 => ?_)
      refine E_aload_n C dX10_findFits_157 0 rfl ?_
      refine E_getR C F_X10_28 dX10_findFits_158 (fun x158 => ?_)
      refine E_iload_n C dX10_findFits_161 1 rfl ?_
      refine E_callVU (st := []) C [.ref x158, .int v1] (mX1_sweep x154 x158 v1 μ150) cal_X1_sweep vir_X1_sweep lk_X10_381 dX10_findFits_162 rfl rfl (Nat.le_of_ble_eq_true rfl) (Nat.le_of_ble_eq_true rfl) (fun _ μ162 => ?_)
      refine E_aload_n C dX10_findFits_165 0 rfl ?_
      refine E_aload_n C dX10_findFits_166 0 rfl ?_
      refine E_getR C F_X10_39 dX10_findFits_167 (fun x167 => ?_)
      refine E_callVI (st := []) C [.ref x167] (mX10_goesAsSeen v0 x167 μ162) cal_X10_goesAsSeen vir_X10_goesAsSeen lk_X10_390 dX10_findFits_170 rfl rfl (Nat.le_of_ble_eq_true rfl) (Nat.le_of_ble_eq_true rfl) (fun x170 μ170 => ?_)
      refine E_if_eq C 191 dX10_findFits_173 (by decide) ?_ ?_
      · refine E_iinc (lv' := [(2, .int ((v2 + -1))), (0, .ref v0), (1, .int v1)]) C (v2 + -1) dX10_findFits_191 2 rfl rfl (by decide) rfl ?_
        refine E_goto C 141 dX10_findFits_194 (by decide) ?_
        exact E_pick [1, 2, 0] rfl (ih ((v2 + -1)) μ170)
      · refine E_at (pc2 := 176) rfl ?_
        refine E_aload_n C dX10_findFits_176 0 rfl ?_
        refine E_dup_r C dX10_findFits_177 ?_
        refine E_getI C F_X10_48 dX10_findFits_178 (fun x178 => ?_)
        refine E_iconst C 1 dX10_findFits_181 (by decide) ?_
        refine E_iadd C dX10_findFits_182 ?_
        refine E_putI C P_X10_48 dX10_findFits_183 (fun μ183 => ?_)
        refine E_aload_n C dX10_findFits_186 0 rfl ?_
        refine E_iload_n C dX10_findFits_187 2 rfl ?_
        refine E_putI C P_X10_52 dX10_findFits_188 (fun μ188 => ?_)
        refine E_at (pc2 := 191) rfl ?_
        refine E_iinc (lv' := [(2, .int ((v2 + -1))), (0, .ref v0), (1, .int v1)]) C (v2 + -1) dX10_findFits_191 2 rfl rfl (by decide) rfl ?_
        refine E_goto C 141 dX10_findFits_194 (by decide) ?_
        exact E_pick [1, 2, 0] rfl (ih ((v2 + -1)) μ188)
def fX10_findFits (v0 : Nat) (μ : Mem) : Option (Unit × Mem) :=
  (gI μ v0 10 7).bind fun x1 => if x1 = 0 then ((pZ μ v0 10 7 ((1 : Int32))).bind fun μ10 => (pV μ10 v0 10 8 (.int ((0 : Int32)))).bind fun μ15 => (pV μ15 v0 10 9 (.int ((-5 : Int32)))).bind fun μ21 => (gR μ21 v0 10 0).bind fun x25 => (gR μ21 x25 8 0).bind fun x28 => (gI μ21 x28 0 1).bind fun x31 => X10_findFits_L37 (fun v1_112 μ_112 => (gR μ_112 v0 10 3).bind fun x113 => (gR μ_112 v0 10 0).bind fun x117 => (gR μ_112 x117 8 0).bind fun x120 => (isC μ_112 x113 0).bind fun _ => bd (fX0_copyFrom x113 x120 μ_112) fun _ μ123 => (gR μ123 v0 10 5).bind fun x127 => (gR μ123 v0 10 3).bind fun x131 => (isC μ123 x127 1).bind fun _ => bd (fX1_fillGains x127 x131 v1_112 μ123) fun _ μ135 => X10_findFits_L141 (fun μ_197 => some ((), μ_197)) v0 v1_112 FU ((20 : Int32)) μ135) v0 FU x31 ((0 : Int32)) μ21) else (some ((), μ))
set_option maxHeartbeats 4000000 in
set_option maxRecDepth 100000 in
theorem mX10_findFits (v0 : Nat) (μ : Mem) : Meth wU yX10_findFits cX10_findFits 3 none 4 [.ref v0] μ (fX10_findFits v0 μ) := by
  refine Meth.of (by decide) [(0, .ref v0)] rfl (Nat.le_of_ble_eq_true rfl) ?_
  intro p l e R s m args below meth c D ca ad A X C
  have C : CX p R s m args meth c D ca ad A X cX10_findFits RX10 3 none 4 := C
  unfold fX10_findFits
  refine E_aload_n C dX10_findFits_0 0 rfl ?_
  refine E_getI C F_X10_45 dX10_findFits_1 (fun x1 => ?_)
  refine E_if_eq C 8 dX10_findFits_4 (by decide) ?_ ?_
  · refine E_aload_n C dX10_findFits_8 0 rfl ?_
    refine E_iconst C 1 dX10_findFits_9 (by decide) ?_
    refine E_putZ C P_X10_45 dX10_findFits_10 (fun μ10 => ?_)
    refine E_aload_n C dX10_findFits_13 0 rfl ?_
    refine E_iconst C 0 dX10_findFits_14 (by decide) ?_
    refine E_putI C P_X10_48 dX10_findFits_15 (fun μ15 => ?_)
    refine E_aload_n C dX10_findFits_18 0 rfl ?_
    refine E_bipush C (-5) dX10_findFits_19 (by decide) ?_
    refine E_putI C P_X10_52 dX10_findFits_21 (fun μ21 => ?_)
    refine E_aload_n C dX10_findFits_24 0 rfl ?_
    refine E_getR C F_X10_14 dX10_findFits_25 (fun x25 => ?_)
    refine E_getR C F_X10_106 dX10_findFits_28 (fun x28 => ?_)
    refine E_getI C F_X10_225 dX10_findFits_31 (fun x31 => ?_)
    refine E_istore_n (lv' := [(1, .int x31), (0, .ref v0)]) C dX10_findFits_34 (by decide) rfl ?_
    refine E_iconst C 0 dX10_findFits_35 (by decide) ?_
    refine E_istore_n (lv' := [(2, .int ((0 : Int32))), (1, .int x31), (0, .ref v0)]) C dX10_findFits_36 (by decide) rfl ?_
    refine E_at (pc2 := 37) rfl ?_
    refine E_pick (lv' := [(0, .ref v0), (1, .int x31), (2, .int ((0 : Int32)))]) [2, 1, 0] rfl ?_
    refine X10_findFits_L37_ok C v0 (fun v1_112 μ_112 => ?_) FU x31 ((0 : Int32)) μ21
    refine E_aload_n C dX10_findFits_112 0 rfl ?_
    refine E_getR C F_X10_28 dX10_findFits_113 (fun x113 => ?_)
    refine E_aload_n C dX10_findFits_116 0 rfl ?_
    refine E_getR C F_X10_14 dX10_findFits_117 (fun x117 => ?_)
    refine E_getR C F_X10_106 dX10_findFits_120 (fun x120 => ?_)
    refine E_callVU (st := []) C [.ref x120] (mX0_copyFrom x113 x120 μ_112) cal_X0_copyFrom vir_X0_copyFrom lk_X10_269 dX10_findFits_123 rfl rfl (Nat.le_of_ble_eq_true rfl) (Nat.le_of_ble_eq_true rfl) (fun _ μ123 => ?_)
    refine E_aload_n C dX10_findFits_126 0 rfl ?_
    refine E_getR C F_X10_39 dX10_findFits_127 (fun x127 => ?_)
    refine E_aload_n C dX10_findFits_130 0 rfl ?_
    refine E_getR C F_X10_28 dX10_findFits_131 (fun x131 => ?_)
    refine E_iload_n C dX10_findFits_134 1 rfl ?_
    refine E_callVU (st := []) C [.ref x131, .int v1_112] (mX1_fillGains x127 x131 v1_112 μ123) cal_X1_fillGains vir_X1_fillGains lk_X10_377 dX10_findFits_135 rfl rfl (Nat.le_of_ble_eq_true rfl) (Nat.le_of_ble_eq_true rfl) (fun _ μ135 => ?_)
    refine E_bipush C 20 dX10_findFits_138 (by decide) ?_
    refine E_istore_n (lv' := [(2, .int ((20 : Int32))), (0, .ref v0), (1, .int v1_112)]) C dX10_findFits_140 (by decide) rfl ?_
    refine E_at (pc2 := 141) rfl ?_
    refine E_pick (lv' := [(0, .ref v0), (1, .int v1_112), (2, .int ((20 : Int32)))]) [1, 2, 0] rfl ?_
    refine X10_findFits_L141_ok C v0 v1_112 (fun μ_197 => ?_) FU ((20 : Int32)) μ135
    exact E_ret C dX10_findFits_197
  · exact E_ret C dX10_findFits_7
def fX10_fits (v0 : Nat) (v1 : Int32) (μ : Mem) : Option (Int32 × Mem) :=
  bd (fX10_within v1 ((0 : Int32)) ((1 : Int32)) μ) fun x3 μ3 => if x3 = 0 then (some ((-1 : Int32), μ3)) else ((isC μ3 v0 10).bind fun _ => bd (fX10_findFits v0 μ3) fun _ μ12 => if v1 = 0 then ((gI μ12 v0 10 8).bind fun x20 => some (x20, μ12)) else ((gI μ12 v0 10 9).bind fun x27 => some (x27, μ12)))
set_option maxHeartbeats 4000000 in
set_option maxRecDepth 100000 in
theorem mX10_fits (v0 : Nat) (v1 : Int32) (μ : Mem) : Meth wI yX10_fits cX10_fits 2 (some .int) 5 [.ref v0, .int v1] μ (fX10_fits v0 v1 μ) := by
  refine Meth.of (by decide) [(0, .ref v0), (1, .int v1)] rfl (Nat.le_of_ble_eq_true rfl) ?_
  intro p l e R s m args below meth c D ca ad A X C
  have C : CX p R s m args meth c D ca ad A X cX10_fits RX10 2 (some .int) 5 := C
  unfold fX10_fits
  refine E_iload_n C dX10_fits_0 1 rfl ?_
  refine E_iconst C 0 dX10_fits_1 (by decide) ?_
  refine E_iconst C 1 dX10_fits_2 (by decide) ?_
  refine E_callSI (st := []) C [.int v1, .int ((0 : Int32)), .int ((1 : Int32))] (mX10_within v1 ((0 : Int32)) ((1 : Int32)) μ) cal_X10_within st_X10_within lk_X10_134 dX10_fits_3 rfl rfl (Nat.le_of_ble_eq_true rfl) (Nat.le_of_ble_eq_true rfl) (fun x3 μ3 => ?_)
  refine E_if_ne C 11 dX10_fits_6 (by decide) ?_ ?_
  · refine E_aload_n C dX10_fits_11 0 rfl ?_
    refine E_callVU (st := []) C [] (mX10_findFits v0 μ3) cal_X10_findFits vir_X10_findFits lk_X10_311 dX10_fits_12 rfl rfl (Nat.le_of_ble_eq_true rfl) (Nat.le_of_ble_eq_true rfl) (fun _ μ12 => ?_)
    refine E_iload_n C dX10_fits_15 1 rfl ?_
    refine E_if_ne C 26 dX10_fits_16 (by decide) ?_ ?_
    · refine E_aload_n C dX10_fits_26 0 rfl ?_
      refine E_getI C F_X10_52 dX10_fits_27 (fun x27 => ?_)
      exact E_iret C dX10_fits_30
    · refine E_at (pc2 := 19) rfl ?_
      refine E_aload_n C dX10_fits_19 0 rfl ?_
      refine E_getI C F_X10_48 dX10_fits_20 (fun x20 => ?_)
      refine E_goto C 30 dX10_fits_23 (by decide) ?_
      exact E_iret C dX10_fits_30
  · refine E_at (pc2 := 9) rfl ?_
    refine E_iconst C (-1) dX10_fits_9 (by decide) ?_
    exact E_iret C dX10_fits_10
def fX10_plan (v0 : Nat) (v1 : Int32) (v2 : Int32) (μ : Mem) : Option (Int32 × Mem) :=
  if v1 = (-1 : Int32) then ((gR μ v0 10 0).bind fun x6 => (gR μ x6 8 2).bind fun x9 => (isC μ x9 6).bind fun _ => bd (fX6_clear x9 μ) fun x12 μ12 => some (x12, μ12)) else (bd (fX10_within v1 ((0 : Int32)) ((3 : Int32)) μ) fun x19 μ19 => if x19 = 0 then (some ((-1 : Int32), μ19)) else (jn (fun  (μ_46 : Mem) => jn (fun  (μ_63 : Mem) => jn (fun  (μ_86 : Mem) => (gR μ_86 v0 10 0).bind fun x87 => (gR μ_86 x87 8 2).bind fun x90 => (isC μ_86 x90 6).bind fun _ => bd (fX6_add_ x90 v1 v2 μ_86) fun x95 μ95 => some (x95, μ95)) (fun j86 => jn (fun  (μ_73 : Mem) => bd (fX10_within v2 ((0 : Int32)) ((9 : Int32)) μ_73) fun x77 μ77 => if x77 = 0 then (some ((-2 : Int32), μ77)) else (j86 μ77)) (fun j73 => if v1 = (1 : Int32) then (j73 μ_63) else (if v1 = (2 : Int32) then (j73 μ_63) else (j86 μ_63))))) (fun j63 => if v1 = 0 then (bd (fX10_within v2 ((1 : Int32)) ((12 : Int32)) μ_46) fun x54 μ54 => if x54 = 0 then (some ((-2 : Int32), μ54)) else (j63 μ54)) else (j63 μ_46))) (fun j46 => if v1 = (3 : Int32) then ((gR μ19 v0 10 0).bind fun x31 => (gR μ19 x31 8 0).bind fun x34 => (isC μ19 x34 0).bind fun _ => bd (fX0_hasDemand x34 v2 μ19) fun x38 μ38 => if x38 = 0 then (some ((-1 : Int32), μ38)) else (j46 μ38)) else (j46 μ19))))
set_option maxHeartbeats 4000000 in
set_option maxRecDepth 100000 in
theorem mX10_plan (v0 : Nat) (v1 : Int32) (v2 : Int32) (μ : Mem) : Meth wI yX10_plan cX10_plan 3 (some .int) 3 [.ref v0, .int v1, .int v2] μ (fX10_plan v0 v1 v2 μ) := by
  refine Meth.of (by decide) [(0, .ref v0), (1, .int v1), (2, .int v2)] rfl (Nat.le_of_ble_eq_true rfl) ?_
  intro p l e R s m args below meth c D ca ad A X C
  have C : CX p R s m args meth c D ca ad A X cX10_plan RX10 3 (some .int) 3 := C
  unfold fX10_plan
  refine E_iload_n C dX10_plan_0 1 rfl ?_
  refine E_iconst C (-1) dX10_plan_1 (by decide) ?_
  refine E_icmp_ne C 16 dX10_plan_2 (by decide) ?_ ?_
  · refine E_iload_n C dX10_plan_16 1 rfl ?_
    refine E_iconst C 0 dX10_plan_17 (by decide) ?_
    refine E_iconst C 3 dX10_plan_18 (by decide) ?_
    refine E_callSI (st := []) C [.int v1, .int ((0 : Int32)), .int ((3 : Int32))] (mX10_within v1 ((0 : Int32)) ((3 : Int32)) μ) cal_X10_within st_X10_within lk_X10_134 dX10_plan_19 rfl rfl (Nat.le_of_ble_eq_true rfl) (Nat.le_of_ble_eq_true rfl) (fun x19 μ19 => ?_)
    refine E_if_eq C 44 dX10_plan_22 (by decide) ?_ ?_
    · refine E_iconst C (-1) dX10_plan_44 (by decide) ?_
      exact E_iret C dX10_plan_45
    · refine E_at (pc2 := 25) rfl ?_
      refine E_iload_n C dX10_plan_25 1 rfl ?_
      refine E_iconst C 3 dX10_plan_26 (by decide) ?_
      refine E_jn (fun j46 => ∀  (μ_46 : Mem), Sm p l e R s m args below meth c D ca ad A 3 0 0 wI (KQ below args s D ca ad A) 46 [(0, .ref v0), (1, .int v1), (2, .int v2)] [] μ_46 (j46  μ_46)) ?_ (fun j46 hj46 => ?_)
      · intro  μ_46
        refine E_iload_n C dX10_plan_46 1 rfl ?_
        refine E_jn (fun j63 => ∀  (μ_63 : Mem), Sm p l e R s m args below meth c D ca ad A 3 0 0 wI (KQ below args s D ca ad A) 63 [(0, .ref v0), (1, .int v1), (2, .int v2)] [] μ_63 (j63  μ_63)) ?_ (fun j63 hj63 => ?_)
        · intro  μ_63
          refine E_iload_n C dX10_plan_63 1 rfl ?_
          refine E_iconst C 1 dX10_plan_64 (by decide) ?_
          refine E_jn (fun j86 => ∀  (μ_86 : Mem), Sm p l e R s m args below meth c D ca ad A 3 0 0 wI (KQ below args s D ca ad A) 86 [(0, .ref v0), (1, .int v1), (2, .int v2)] [] μ_86 (j86  μ_86)) ?_ (fun j86 hj86 => ?_)
          · intro  μ_86
            refine E_aload_n C dX10_plan_86 0 rfl ?_
            refine E_getR C F_X10_14 dX10_plan_87 (fun x87 => ?_)
            refine E_getR C F_X10_314 dX10_plan_90 (fun x90 => ?_)
            refine E_iload_n C dX10_plan_93 1 rfl ?_
            refine E_iload_n C dX10_plan_94 2 rfl ?_
            refine E_callVI (st := []) C [.int v1, .int v2] (mX6_add_ x90 v1 v2 μ_86) cal_X6_add_ vir_X6_add_ lk_X10_317 dX10_plan_95 rfl rfl (Nat.le_of_ble_eq_true rfl) (Nat.le_of_ble_eq_true rfl) (fun x95 μ95 => ?_)
            exact E_iret C dX10_plan_98
          · refine E_jn (fun j73 => ∀  (μ_73 : Mem), Sm p l e R s m args below meth c D ca ad A 3 0 0 wI (KQ below args s D ca ad A) 73 [(0, .ref v0), (1, .int v1), (2, .int v2)] [] μ_73 (j73  μ_73)) ?_ (fun j73 hj73 => ?_)
            · intro  μ_73
              refine E_iload_n C dX10_plan_73 2 rfl ?_
              refine E_iconst C 0 dX10_plan_74 (by decide) ?_
              refine E_bipush C 9 dX10_plan_75 (by decide) ?_
              refine E_callSI (st := []) C [.int v2, .int ((0 : Int32)), .int ((9 : Int32))] (mX10_within v2 ((0 : Int32)) ((9 : Int32)) μ_73) cal_X10_within st_X10_within lk_X10_134 dX10_plan_77 rfl rfl (Nat.le_of_ble_eq_true rfl) (Nat.le_of_ble_eq_true rfl) (fun x77 μ77 => ?_)
              refine E_if_ne C 86 dX10_plan_80 (by decide) ?_ ?_
              · exact E_pick [0, 1, 2] rfl (hj86 μ77)
              · refine E_at (pc2 := 83) rfl ?_
                refine E_bipush C (-2) dX10_plan_83 (by decide) ?_
                exact E_iret C dX10_plan_85
            · refine E_icmp_eq C 73 dX10_plan_65 (by decide) ?_ ?_
              · exact E_pick [0, 1, 2] rfl (hj73 μ_63)
              · refine E_at (pc2 := 68) rfl ?_
                refine E_iload_n C dX10_plan_68 1 rfl ?_
                refine E_iconst C 2 dX10_plan_69 (by decide) ?_
                refine E_icmp_ne C 86 dX10_plan_70 (by decide) ?_ ?_
                · exact E_pick [0, 1, 2] rfl (hj86 μ_63)
                · exact E_pick [0, 1, 2] rfl (hj73 μ_63)
        · refine E_if_ne C 63 dX10_plan_47 (by decide) ?_ ?_
          · exact E_pick [0, 1, 2] rfl (hj63 μ_46)
          · refine E_at (pc2 := 50) rfl ?_
            refine E_iload_n C dX10_plan_50 2 rfl ?_
            refine E_iconst C 1 dX10_plan_51 (by decide) ?_
            refine E_bipush C 12 dX10_plan_52 (by decide) ?_
            refine E_callSI (st := []) C [.int v2, .int ((1 : Int32)), .int ((12 : Int32))] (mX10_within v2 ((1 : Int32)) ((12 : Int32)) μ_46) cal_X10_within st_X10_within lk_X10_134 dX10_plan_54 rfl rfl (Nat.le_of_ble_eq_true rfl) (Nat.le_of_ble_eq_true rfl) (fun x54 μ54 => ?_)
            refine E_if_ne C 63 dX10_plan_57 (by decide) ?_ ?_
            · exact E_pick [0, 1, 2] rfl (hj63 μ54)
            · refine E_at (pc2 := 60) rfl ?_
              refine E_bipush C (-2) dX10_plan_60 (by decide) ?_
              exact E_iret C dX10_plan_62
      · refine E_icmp_ne C 46 dX10_plan_27 (by decide) ?_ ?_
        · exact E_pick [0, 1, 2] rfl (hj46 μ19)
        · refine E_at (pc2 := 30) rfl ?_
          refine E_aload_n C dX10_plan_30 0 rfl ?_
          refine E_getR C F_X10_14 dX10_plan_31 (fun x31 => ?_)
          refine E_getR C F_X10_106 dX10_plan_34 (fun x34 => ?_)
          refine E_iload_n C dX10_plan_37 2 rfl ?_
          refine E_callVI (st := []) C [.int v2] (mX0_hasDemand x34 v2 μ19) cal_X0_hasDemand vir_X0_hasDemand lk_X10_182 dX10_plan_38 rfl rfl (Nat.le_of_ble_eq_true rfl) (Nat.le_of_ble_eq_true rfl) (fun x38 μ38 => ?_)
          refine E_if_ne C 46 dX10_plan_41 (by decide) ?_ ?_
          · exact E_pick [0, 1, 2] rfl (hj46 μ38)
          · refine E_at (pc2 := 44) rfl ?_
            refine E_iconst C (-1) dX10_plan_44 (by decide) ?_
            exact E_iret C dX10_plan_45
  · refine E_at (pc2 := 5) rfl ?_
    refine E_aload_n C dX10_plan_5 0 rfl ?_
    refine E_getR C F_X10_14 dX10_plan_6 (fun x6 => ?_)
    refine E_getR C F_X10_314 dX10_plan_9 (fun x9 => ?_)
    refine E_callVI (st := []) C [] (mX6_clear x9 μ) cal_X6_clear vir_X6_clear lk_X10_145 dX10_plan_12 rfl rfl (Nat.le_of_ble_eq_true rfl) (Nat.le_of_ble_eq_true rfl) (fun x12 μ12 => ?_)
    exact E_iret C dX10_plan_15
def X10_ends_L35 (G : Mem → Option (Int64 × Mem)) (v0 : Nat) (v1 : Int32) (v2 : Int32) : Nat → Int32 → Mem → Option (Int64 × Mem)
  | 0, _, _ => none
  | n + 1, v3, μ => (gR μ v0 10 0).bind fun x37 => (gR μ x37 8 2).bind fun x40 => (gI μ x40 6 3).bind fun x43 => if x43 ≤ v3 then (G μ) else ((gR μ v0 10 3).bind fun x50 => (gR μ v0 10 0).bind fun x54 => (gR μ x54 8 2).bind fun x57 => (isC μ x57 6).bind fun _ => bd (fX6_at x57 v3 ((0 : Int32)) μ) fun x62 μ62 => (gR μ62 v0 10 0).bind fun x66 => (gR μ62 x66 8 2).bind fun x69 => (isC μ62 x69 6).bind fun _ => bd (fX6_at x69 v3 ((1 : Int32)) μ62) fun x74 μ74 => (isC μ74 x50 0).bind fun _ => bd (fX0_goByPlan x50 x62 x74 μ74) fun _ μ77 => X10_ends_L35 G v0 v1 v2 n ((v3 + 1)) μ77)
set_option maxHeartbeats 4000000 in
set_option maxRecDepth 100000 in
theorem X10_ends_L35_ok {p : Program} {l : Launch} {e : Env} {R : Room} {s : State} {m : MethodId} {args : Array Value} {below : List Frame} {meth : Method} {c : Code} {D : va_G} {ca : Nat → ClassId} {ad : Nat → Nat} {A : Nat → Prop} {X : State → Prop} (C : CX p R s m args meth c D ca ad A X cX10_ends RX10 4 (some .long) 5) {G : Mem → Option (Int64 × Mem)} (v0 : Nat) (v1 : Int32) (v2 : Int32) (hG : ∀  (μx : Mem), Sm p l e R s m args below meth c D ca ad A 4 0 0 wJ (KQ below args s D ca ad A) 86 [(0, .ref v0), (1, .int v1), (2, .int v2)] [] μx (G  μx)) : ∀ (n : Nat) (v3 : Int32) (μ : Mem), Sm p l e R s m args below meth c D ca ad A 4 0 0 wJ (KQ below args s D ca ad A) 35 [(0, .ref v0), (1, .int v1), (2, .int v2), (3, .int v3)] [] μ (X10_ends_L35 G v0 v1 v2 n v3 μ) := by
  intro n
  induction n with
  | zero =>
    intro v3 μ
    rw [X10_ends_L35]
    exact E_none
  | succ n ih =>
    intro v3 μ
    rw [X10_ends_L35]
    refine E_iload_n C dX10_ends_35 3 rfl ?_
    refine E_aload_n C dX10_ends_36 0 rfl ?_
    refine E_getR C F_X10_14 dX10_ends_37 (fun x37 => ?_)
    refine E_getR C F_X10_314 dX10_ends_40 (fun x40 => ?_)
    refine E_getI C F_X10_285 dX10_ends_43 (fun x43 => ?_)
    refine E_icmp_ge C 86 dX10_ends_46 (by decide) ?_ ?_
    · exact E_pick [0, 1, 2] rfl (hG μ)
    · refine E_at (pc2 := 49) rfl ?_
      refine E_aload_n C dX10_ends_49 0 rfl ?_
      refine E_getR C F_X10_28 dX10_ends_50 (fun x50 => ?_)
      refine E_aload_n C dX10_ends_53 0 rfl ?_
      refine E_getR C F_X10_14 dX10_ends_54 (fun x54 => ?_)
      refine E_getR C F_X10_314 dX10_ends_57 (fun x57 => ?_)
      refine E_iload_n C dX10_ends_60 3 rfl ?_
      refine E_iconst C 0 dX10_ends_61 (by decide) ?_
      refine E_callVI (st := [.ref x50]) C [.int v3, .int ((0 : Int32))] (mX6_at x57 v3 ((0 : Int32)) μ) cal_X6_at vir_X6_at lk_X10_319 dX10_ends_62 rfl rfl (Nat.le_of_ble_eq_true rfl) (Nat.le_of_ble_eq_true rfl) (fun x62 μ62 => ?_)
      refine E_aload_n C dX10_ends_65 0 rfl ?_
      refine E_getR C F_X10_14 dX10_ends_66 (fun x66 => ?_)
      refine E_getR C F_X10_314 dX10_ends_69 (fun x69 => ?_)
      refine E_iload_n C dX10_ends_72 3 rfl ?_
      refine E_iconst C 1 dX10_ends_73 (by decide) ?_
      refine E_callVI (st := [.int x62, .ref x50]) C [.int v3, .int ((1 : Int32))] (mX6_at x69 v3 ((1 : Int32)) μ62) cal_X6_at vir_X6_at lk_X10_319 dX10_ends_74 rfl rfl (Nat.le_of_ble_eq_true rfl) (Nat.le_of_ble_eq_true rfl) (fun x74 μ74 => ?_)
      refine E_callVU (st := []) C [.int x62, .int x74] (mX0_goByPlan x50 x62 x74 μ74) cal_X0_goByPlan vir_X0_goByPlan lk_X10_322 dX10_ends_77 rfl rfl (Nat.le_of_ble_eq_true rfl) (Nat.le_of_ble_eq_true rfl) (fun _ μ77 => ?_)
      refine E_iinc (lv' := [(3, .int ((v3 + 1))), (0, .ref v0), (1, .int v1), (2, .int v2)]) C (v3 + 1) dX10_ends_80 3 rfl rfl (by decide) rfl ?_
      refine E_goto C 35 dX10_ends_83 (by decide) ?_
      exact E_pick [1, 2, 3, 0] rfl (ih ((v3 + 1)) μ77)
def fX10_ends (v0 : Nat) (v1 : Int32) (v2 : Int32) (μ : Mem) : Option (Int64 × Mem) :=
  (isC μ v0 10).bind fun _ => bd (fX10_isStore v0 v1 μ) fun x2 μ2 => if x2 = 0 then (some ((-9223372036854775808 : Int64), μ2)) else (bd (fX10_isState v2 μ2) fun x9 μ9 => if x9 = 0 then (some ((-9223372036854775808 : Int64), μ9)) else ((gR μ9 v0 10 3).bind fun x20 => (gR μ9 v0 10 0).bind fun x24 => (gR μ9 x24 8 0).bind fun x27 => (isC μ9 x20 0).bind fun _ => bd (fX0_copyFrom x20 x27 μ9) fun _ μ30 => X10_ends_L35 (fun μ_86 => (isC μ_86 v0 10).bind fun _ => bd (fX10_solveThought v0 μ_86) fun _ μ87 => (gR μ87 v0 10 5).bind fun x91 => (gR μ87 v0 10 3).bind fun x97 => (gI μ87 x97 0 0).bind fun x100 => (isC μ87 x91 1).bind fun _ => bd (fX1_bestAt x91 ((0 : Int32)) ((mnI v1 x100)) v2 μ87) fun x107 μ107 => bd (fX10_bitsOf x107 μ107) fun x110 μ110 => some (x110.toInt64, μ110)) v0 v1 v2 FU ((0 : Int32)) μ30))
set_option maxHeartbeats 4000000 in
set_option maxRecDepth 100000 in
theorem mX10_ends (v0 : Nat) (v1 : Int32) (v2 : Int32) (μ : Mem) : Meth wJ yX10_ends cX10_ends 4 (some .long) 5 [.ref v0, .int v1, .int v2] μ (fX10_ends v0 v1 v2 μ) := by
  refine Meth.of (by decide) [(0, .ref v0), (1, .int v1), (2, .int v2)] rfl (Nat.le_of_ble_eq_true rfl) ?_
  intro p l e R s m args below meth c D ca ad A X C
  have C : CX p R s m args meth c D ca ad A X cX10_ends RX10 4 (some .long) 5 := C
  unfold fX10_ends
  refine E_aload_n C dX10_ends_0 0 rfl ?_
  refine E_iload_n C dX10_ends_1 1 rfl ?_
  refine E_callVI (st := []) C [.int v1] (mX10_isStore v0 v1 μ) cal_X10_isStore vir_X10_isStore lk_X10_215 dX10_ends_2 rfl rfl (Nat.le_of_ble_eq_true rfl) (Nat.le_of_ble_eq_true rfl) (fun x2 μ2 => ?_)
  refine E_if_eq C 15 dX10_ends_5 (by decide) ?_ ?_
  · refine E_ldc2 C dX10_ends_15 k_X10_207 ?_
    exact E_lret C dX10_ends_18
  · refine E_at (pc2 := 8) rfl ?_
    refine E_iload_n C dX10_ends_8 2 rfl ?_
    refine E_callSI (st := []) C [.int v2] (mX10_isState v2 μ2) cal_X10_isState st_X10_isState lk_X10_172 dX10_ends_9 rfl rfl (Nat.le_of_ble_eq_true rfl) (Nat.le_of_ble_eq_true rfl) (fun x9 μ9 => ?_)
    refine E_if_ne C 19 dX10_ends_12 (by decide) ?_ ?_
    · refine E_aload_n C dX10_ends_19 0 rfl ?_
      refine E_getR C F_X10_28 dX10_ends_20 (fun x20 => ?_)
      refine E_aload_n C dX10_ends_23 0 rfl ?_
      refine E_getR C F_X10_14 dX10_ends_24 (fun x24 => ?_)
      refine E_getR C F_X10_106 dX10_ends_27 (fun x27 => ?_)
      refine E_callVU (st := []) C [.ref x27] (mX0_copyFrom x20 x27 μ9) cal_X0_copyFrom vir_X0_copyFrom lk_X10_269 dX10_ends_30 rfl rfl (Nat.le_of_ble_eq_true rfl) (Nat.le_of_ble_eq_true rfl) (fun _ μ30 => ?_)
      refine E_iconst C 0 dX10_ends_33 (by decide) ?_
      refine E_istore_n (lv' := [(3, .int ((0 : Int32))), (0, .ref v0), (1, .int v1), (2, .int v2)]) C dX10_ends_34 (by decide) rfl ?_
      refine E_at (pc2 := 35) rfl ?_
      refine E_pick (lv' := [(0, .ref v0), (1, .int v1), (2, .int v2), (3, .int ((0 : Int32)))]) [1, 2, 3, 0] rfl ?_
      refine X10_ends_L35_ok C v0 v1 v2 (fun μ_86 => ?_) FU ((0 : Int32)) μ30
      refine E_aload_n C dX10_ends_86 0 rfl ?_
      refine E_callVU (st := []) C [] (mX10_solveThought v0 μ_86) cal_X10_solveThought vir_X10_solveThought lk_X10_279 dX10_ends_87 rfl rfl (Nat.le_of_ble_eq_true rfl) (Nat.le_of_ble_eq_true rfl) (fun _ μ87 => ?_)
      refine E_aload_n C dX10_ends_90 0 rfl ?_
      refine E_getR C F_X10_39 dX10_ends_91 (fun x91 => ?_)
      refine E_iconst C 0 dX10_ends_94 (by decide) ?_
      refine E_iload_n C dX10_ends_95 1 rfl ?_
      refine E_aload_n C dX10_ends_96 0 rfl ?_
      refine E_getR C F_X10_28 dX10_ends_97 (fun x97 => ?_)
      refine E_getI C F_X10_276 dX10_ends_100 (fun x100 => ?_)
      refine E_mmin C lk_X10_325 st_Math_min in_Math co_Math_min dX10_ends_103 (Nat.le_of_ble_eq_true rfl) (Nat.le_of_ble_eq_true rfl) ?_
      refine E_iload_n C dX10_ends_106 2 rfl ?_
      refine E_callVF (st := []) C [.int ((0 : Int32)), .int ((mnI v1 x100)), .int v2] (mX1_bestAt x91 ((0 : Int32)) ((mnI v1 x100)) v2 μ87) cal_X1_bestAt vir_X1_bestAt lk_X10_231 dX10_ends_107 rfl rfl (Nat.le_of_ble_eq_true rfl) (Nat.le_of_ble_eq_true rfl) (fun x107 μ107 => ?_)
      refine E_callSI (st := []) C [.float x107] (mX10_bitsOf x107 μ107) cal_X10_bitsOf st_X10_bitsOf lk_X10_235 dX10_ends_110 rfl rfl (Nat.le_of_ble_eq_true rfl) (Nat.le_of_ble_eq_true rfl) (fun x110 μ110 => ?_)
      refine E_i2l C dX10_ends_113 ?_
      exact E_lret C dX10_ends_114
    · refine E_at (pc2 := 15) rfl ?_
      refine E_ldc2 C dX10_ends_15 k_X10_207 ?_
      exact E_lret C dX10_ends_18
def fX10_book (v0 : Nat) (v1 : Int32) (v2 : Int32) (v3 : Int32) (μ : Mem) : Option (Int32 × Mem) :=
  if v1 = (-1 : Int32) then ((gR μ v0 10 0).bind fun x6 => (gR μ x6 8 3).bind fun x9 => (isC μ x9 6).bind fun _ => bd (fX6_clear x9 μ) fun x12 μ12 => some (x12, μ12)) else (bd (fX10_within v1 ((0 : Int32)) ((11 : Int32)) μ) fun x20 μ20 => if x20 = 0 then (some ((-1 : Int32), μ20)) else (bd (fX10_within v2 ((0 : Int32)) ((12 : Int32)) μ20) fun x32 μ32 => if x32 = 0 then (some ((-2 : Int32), μ32)) else (bd (fX10_within v3 ((0 : Int32)) ((20 : Int32)) μ32) fun x42 μ42 => if x42 = 0 then (some ((-2 : Int32), μ42)) else ((gR μ42 v0 10 0).bind fun x52 => (gR μ42 x52 8 3).bind fun x55 => (isC μ42 x55 6).bind fun _ => bd (fX6_add__ x55 v1 v2 v3 μ42) fun x61 μ61 => some (x61, μ61)))))
set_option maxHeartbeats 4000000 in
set_option maxRecDepth 100000 in
theorem mX10_book (v0 : Nat) (v1 : Int32) (v2 : Int32) (v3 : Int32) (μ : Mem) : Meth wI yX10_book cX10_book 4 (some .int) 3 [.ref v0, .int v1, .int v2, .int v3] μ (fX10_book v0 v1 v2 v3 μ) := by
  refine Meth.of (by decide) [(0, .ref v0), (1, .int v1), (2, .int v2), (3, .int v3)] rfl (Nat.le_of_ble_eq_true rfl) ?_
  intro p l e R s m args below meth c D ca ad A X C
  have C : CX p R s m args meth c D ca ad A X cX10_book RX10 4 (some .int) 3 := C
  unfold fX10_book
  refine E_iload_n C dX10_book_0 1 rfl ?_
  refine E_iconst C (-1) dX10_book_1 (by decide) ?_
  refine E_icmp_ne C 16 dX10_book_2 (by decide) ?_ ?_
  · refine E_iload_n C dX10_book_16 1 rfl ?_
    refine E_iconst C 0 dX10_book_17 (by decide) ?_
    refine E_bipush C 11 dX10_book_18 (by decide) ?_
    refine E_callSI (st := []) C [.int v1, .int ((0 : Int32)), .int ((11 : Int32))] (mX10_within v1 ((0 : Int32)) ((11 : Int32)) μ) cal_X10_within st_X10_within lk_X10_134 dX10_book_20 rfl rfl (Nat.le_of_ble_eq_true rfl) (Nat.le_of_ble_eq_true rfl) (fun x20 μ20 => ?_)
    refine E_if_ne C 28 dX10_book_23 (by decide) ?_ ?_
    · refine E_iload_n C dX10_book_28 2 rfl ?_
      refine E_iconst C 0 dX10_book_29 (by decide) ?_
      refine E_bipush C 12 dX10_book_30 (by decide) ?_
      refine E_callSI (st := []) C [.int v2, .int ((0 : Int32)), .int ((12 : Int32))] (mX10_within v2 ((0 : Int32)) ((12 : Int32)) μ20) cal_X10_within st_X10_within lk_X10_134 dX10_book_32 rfl rfl (Nat.le_of_ble_eq_true rfl) (Nat.le_of_ble_eq_true rfl) (fun x32 μ32 => ?_)
      refine E_if_eq C 48 dX10_book_35 (by decide) ?_ ?_
      · refine E_bipush C (-2) dX10_book_48 (by decide) ?_
        exact E_iret C dX10_book_50
      · refine E_at (pc2 := 38) rfl ?_
        refine E_iload_n C dX10_book_38 3 rfl ?_
        refine E_iconst C 0 dX10_book_39 (by decide) ?_
        refine E_bipush C 20 dX10_book_40 (by decide) ?_
        refine E_callSI (st := []) C [.int v3, .int ((0 : Int32)), .int ((20 : Int32))] (mX10_within v3 ((0 : Int32)) ((20 : Int32)) μ32) cal_X10_within st_X10_within lk_X10_134 dX10_book_42 rfl rfl (Nat.le_of_ble_eq_true rfl) (Nat.le_of_ble_eq_true rfl) (fun x42 μ42 => ?_)
        refine E_if_ne C 51 dX10_book_45 (by decide) ?_ ?_
        · refine E_aload_n C dX10_book_51 0 rfl ?_
          refine E_getR C F_X10_14 dX10_book_52 (fun x52 => ?_)
          refine E_getR C F_X10_330 dX10_book_55 (fun x55 => ?_)
          refine E_iload_n C dX10_book_58 1 rfl ?_
          refine E_iload_n C dX10_book_59 2 rfl ?_
          refine E_iload_n C dX10_book_60 3 rfl ?_
          refine E_callVI (st := []) C [.int v1, .int v2, .int v3] (mX6_add__ x55 v1 v2 v3 μ42) cal_X6_add__ vir_X6_add__ lk_X10_333 dX10_book_61 rfl rfl (Nat.le_of_ble_eq_true rfl) (Nat.le_of_ble_eq_true rfl) (fun x61 μ61 => ?_)
          exact E_iret C dX10_book_64
        · refine E_at (pc2 := 48) rfl ?_
          refine E_bipush C (-2) dX10_book_48 (by decide) ?_
          exact E_iret C dX10_book_50
    · refine E_at (pc2 := 26) rfl ?_
      refine E_iconst C (-1) dX10_book_26 (by decide) ?_
      exact E_iret C dX10_book_27
  · refine E_at (pc2 := 5) rfl ?_
    refine E_aload_n C dX10_book_5 0 rfl ?_
    refine E_getR C F_X10_14 dX10_book_6 (fun x6 => ?_)
    refine E_getR C F_X10_330 dX10_book_9 (fun x9 => ?_)
    refine E_callVI (st := []) C [] (mX6_clear x9 μ) cal_X6_clear vir_X6_clear lk_X10_145 dX10_book_12 rfl rfl (Nat.le_of_ble_eq_true rfl) (Nat.le_of_ble_eq_true rfl) (fun x12 μ12 => ?_)
    exact E_iret C dX10_book_15
def X10_looked_L19 (G : Mem → Option (Int32 × Mem)) (v0 : Nat) : Nat → Int32 → Mem → Option (Int32 × Mem)
  | 0, _, _ => none
  | n + 1, v1, μ => (gR μ v0 10 0).bind fun x21 => (gR μ x21 8 3).bind fun x24 => (gI μ x24 6 3).bind fun x27 => if x27 ≤ v1 then (G μ) else ((gR μ v0 10 0).bind fun x34 => (gR μ x34 8 3).bind fun x37 => (isC μ x37 6).bind fun _ => bd (fX6_at x37 v1 ((0 : Int32)) μ) fun x42 μ42 => (gR μ42 v0 10 0).bind fun x47 => (gR μ42 x47 8 3).bind fun x50 => (isC μ42 x50 6).bind fun _ => bd (fX6_at x50 v1 ((1 : Int32)) μ42) fun x55 μ55 => (gR μ55 v0 10 0).bind fun x60 => (gR μ55 x60 8 0).bind fun x63 => (isC μ55 x63 0).bind fun _ => bd (fX0_isAhead x63 x42 x55 μ55) fun x68 μ68 => if x68 = 0 then (some (v1, μ68)) else ((gR μ68 v0 10 4).bind fun x75 => (isC μ68 x75 1).bind fun _ => bd (fX1_releaseAt x75 x42 x55 ((1 : Int32)) μ68) fun x81 μ81 => (gR μ81 v0 10 0).bind fun x85 => (gR μ81 x85 8 3).bind fun x88 => (isC μ81 x88 6).bind fun _ => bd (fX6_at x88 v1 ((2 : Int32)) μ81) fun x93 μ93 => if x81 = x93 then (X10_looked_L19 G v0 n ((v1 + 1)) μ93) else (some (v1, μ93))))
set_option maxHeartbeats 4000000 in
set_option maxRecDepth 100000 in
theorem X10_looked_L19_ok {p : Program} {l : Launch} {e : Env} {R : Room} {s : State} {m : MethodId} {args : Array Value} {below : List Frame} {meth : Method} {c : Code} {D : va_G} {ca : Nat → ClassId} {ad : Nat → Nat} {A : Nat → Prop} {X : State → Prop} (C : CX p R s m args meth c D ca ad A X cX10_looked RX10 4 (some .int) 5) {G : Mem → Option (Int32 × Mem)} (v0 : Nat) (hG : ∀  (μx : Mem), Sm p l e R s m args below meth c D ca ad A 4 0 0 wI (KQ below args s D ca ad A) 107 [] [] μx (G  μx)) : ∀ (n : Nat) (v1 : Int32) (μ : Mem), Sm p l e R s m args below meth c D ca ad A 4 0 0 wI (KQ below args s D ca ad A) 19 [(0, .ref v0), (1, .int v1)] [] μ (X10_looked_L19 G v0 n v1 μ) := by
  intro n
  induction n with
  | zero =>
    intro v1 μ
    rw [X10_looked_L19]
    exact E_none
  | succ n ih =>
    intro v1 μ
    rw [X10_looked_L19]
    refine E_iload_n C dX10_looked_19 1 rfl ?_
    refine E_aload_n C dX10_looked_20 0 rfl ?_
    refine E_getR C F_X10_14 dX10_looked_21 (fun x21 => ?_)
    refine E_getR C F_X10_330 dX10_looked_24 (fun x24 => ?_)
    refine E_getI C F_X10_285 dX10_looked_27 (fun x27 => ?_)
    refine E_icmp_ge C 107 dX10_looked_30 (by decide) ?_ ?_
    · exact E_pick [] rfl (hG μ)
    · refine E_at (pc2 := 33) rfl ?_
      refine E_aload_n C dX10_looked_33 0 rfl ?_
      refine E_getR C F_X10_14 dX10_looked_34 (fun x34 => ?_)
      refine E_getR C F_X10_330 dX10_looked_37 (fun x37 => ?_)
      refine E_iload_n C dX10_looked_40 1 rfl ?_
      refine E_iconst C 0 dX10_looked_41 (by decide) ?_
      refine E_callVI (st := []) C [.int v1, .int ((0 : Int32))] (mX6_at x37 v1 ((0 : Int32)) μ) cal_X6_at vir_X6_at lk_X10_319 dX10_looked_42 rfl rfl (Nat.le_of_ble_eq_true rfl) (Nat.le_of_ble_eq_true rfl) (fun x42 μ42 => ?_)
      refine E_istore_n (lv' := [(2, .int x42), (0, .ref v0), (1, .int v1)]) C dX10_looked_45 (by decide) rfl ?_
      refine E_aload_n C dX10_looked_46 1 rfl ?_
      refine E_getR C F_X10_14 dX10_looked_47 (fun x47 => ?_)
      refine E_getR C F_X10_330 dX10_looked_50 (fun x50 => ?_)
      refine E_iload_n C dX10_looked_53 2 rfl ?_
      refine E_iconst C 1 dX10_looked_54 (by decide) ?_
      refine E_callVI (st := []) C [.int v1, .int ((1 : Int32))] (mX6_at x50 v1 ((1 : Int32)) μ42) cal_X6_at vir_X6_at lk_X10_319 dX10_looked_55 rfl rfl (Nat.le_of_ble_eq_true rfl) (Nat.le_of_ble_eq_true rfl) (fun x55 μ55 => ?_)
      refine E_istore_n (lv' := [(3, .int x55), (2, .int x42), (0, .ref v0), (1, .int v1)]) C dX10_looked_58 (by decide) rfl ?_
      refine E_aload_n C dX10_looked_59 2 rfl ?_
      refine E_getR C F_X10_14 dX10_looked_60 (fun x60 => ?_)
      refine E_getR C F_X10_106 dX10_looked_63 (fun x63 => ?_)
      refine E_iload_n C dX10_looked_66 1 rfl ?_
      refine E_iload_n C dX10_looked_67 0 rfl ?_
      refine E_callVI (st := []) C [.int x42, .int x55] (mX0_isAhead x63 x42 x55 μ55) cal_X0_isAhead vir_X0_isAhead lk_X10_239 dX10_looked_68 rfl rfl (Nat.le_of_ble_eq_true rfl) (Nat.le_of_ble_eq_true rfl) (fun x68 μ68 => ?_)
      refine E_if_eq C 99 dX10_looked_71 (by decide) ?_ ?_
      · refine E_iload_n C dX10_looked_99 3 rfl ?_
        exact E_iret C dX10_looked_100
      · refine E_at (pc2 := 74) rfl ?_
        refine E_aload_n C dX10_looked_74 2 rfl ?_
        refine E_getR C F_X10_35 dX10_looked_75 (fun x75 => ?_)
        refine E_iload_n C dX10_looked_78 1 rfl ?_
        refine E_iload_n C dX10_looked_79 0 rfl ?_
        refine E_iconst C 1 dX10_looked_80 (by decide) ?_
        refine E_callVI (st := []) C [.int x42, .int x55, .int ((1 : Int32))] (mX1_releaseAt x75 x42 x55 ((1 : Int32)) μ68) cal_X1_releaseAt vir_X1_releaseAt lk_X10_242 dX10_looked_81 rfl rfl (Nat.le_of_ble_eq_true rfl) (Nat.le_of_ble_eq_true rfl) (fun x81 μ81 => ?_)
        refine E_aload_n C dX10_looked_84 2 rfl ?_
        refine E_getR C F_X10_14 dX10_looked_85 (fun x85 => ?_)
        refine E_getR C F_X10_330 dX10_looked_88 (fun x88 => ?_)
        refine E_iload_n C dX10_looked_91 3 rfl ?_
        refine E_iconst C 2 dX10_looked_92 (by decide) ?_
        refine E_callVI (st := [.int x81]) C [.int v1, .int ((2 : Int32))] (mX6_at x88 v1 ((2 : Int32)) μ81) cal_X6_at vir_X6_at lk_X10_319 dX10_looked_93 rfl rfl (Nat.le_of_ble_eq_true rfl) (Nat.le_of_ble_eq_true rfl) (fun x93 μ93 => ?_)
        refine E_icmp_eq C 101 dX10_looked_96 (by decide) ?_ ?_
        · refine E_iinc (lv' := [(1, .int ((v1 + 1))), (3, .int x55), (2, .int x42), (0, .ref v0)]) C (v1 + 1) dX10_looked_101 3 rfl rfl (by decide) rfl ?_
          refine E_goto C 19 dX10_looked_104 (by decide) ?_
          exact E_pick [3, 0] rfl (ih ((v1 + 1)) μ93)
        · refine E_at (pc2 := 99) rfl ?_
          refine E_iload_n C dX10_looked_99 3 rfl ?_
          exact E_iret C dX10_looked_100
def fX10_looked (v0 : Nat) (μ : Mem) : Option (Int32 × Mem) :=
  (gR μ v0 10 0).bind fun x1 => (gR μ x1 8 3).bind fun x4 => (gI μ x4 6 3).bind fun x7 => jn (fun  (μ_17 : Mem) => X10_looked_L19 (fun μ_107 => some ((-5 : Int32), μ_107)) v0 FU ((0 : Int32)) μ_17) (fun j17 => if x7 ≤ 0 then (j17 μ) else ((isC μ v0 10).bind fun _ => bd (fX10_solveNow v0 μ) fun _ μ14 => j17 μ14))
set_option maxHeartbeats 4000000 in
set_option maxRecDepth 100000 in
theorem mX10_looked (v0 : Nat) (μ : Mem) : Meth wI yX10_looked cX10_looked 4 (some .int) 5 [.ref v0] μ (fX10_looked v0 μ) := by
  refine Meth.of (by decide) [(0, .ref v0)] rfl (Nat.le_of_ble_eq_true rfl) ?_
  intro p l e R s m args below meth c D ca ad A X C
  have C : CX p R s m args meth c D ca ad A X cX10_looked RX10 4 (some .int) 5 := C
  unfold fX10_looked
  refine E_aload_n C dX10_looked_0 0 rfl ?_
  refine E_getR C F_X10_14 dX10_looked_1 (fun x1 => ?_)
  refine E_getR C F_X10_330 dX10_looked_4 (fun x4 => ?_)
  refine E_getI C F_X10_285 dX10_looked_7 (fun x7 => ?_)
  refine E_jn (fun j17 => ∀  (μ_17 : Mem), Sm p l e R s m args below meth c D ca ad A 4 0 0 wI (KQ below args s D ca ad A) 17 [(0, .ref v0)] [] μ_17 (j17  μ_17)) ?_ (fun j17 hj17 => ?_)
  · intro  μ_17
    refine E_iconst C 0 dX10_looked_17 (by decide) ?_
    refine E_istore_n (lv' := [(1, .int ((0 : Int32))), (0, .ref v0)]) C dX10_looked_18 (by decide) rfl ?_
    refine E_at (pc2 := 19) rfl ?_
    refine E_pick (lv' := [(0, .ref v0), (1, .int ((0 : Int32)))]) [1, 0] rfl ?_
    refine X10_looked_L19_ok C v0 (fun μ_107 => ?_) FU ((0 : Int32)) μ_17
    refine E_bipush C (-5) dX10_looked_107 (by decide) ?_
    exact E_iret C dX10_looked_109
  · refine E_if_le C 17 dX10_looked_10 (by decide) ?_ ?_
    · exact E_pick [0] rfl (hj17 μ)
    · refine E_at (pc2 := 13) rfl ?_
      refine E_aload_n C dX10_looked_13 0 rfl ?_
      refine E_callVU (st := []) C [] (mX10_solveNow v0 μ) cal_X10_solveNow vir_X10_solveNow lk_X10_228 dX10_looked_14 rfl rfl (Nat.le_of_ble_eq_true rfl) (Nat.le_of_ble_eq_true rfl) (fun _ μ14 => ?_)
      exact E_pick [0] rfl (hj17 μ14)
def fX10_isTape (v0 : Int32) (μ : Mem) : Option (Int32 × Mem) :=
  bd (fX10_within v0 ((0 : Int32)) ((5 : Int32)) μ) fun x3 μ3 => (zz x3).bind fun z => some (z, μ3)
set_option maxHeartbeats 4000000 in
set_option maxRecDepth 100000 in
theorem mX10_isTape (v0 : Int32) (μ : Mem) : Meth wI yX10_isTape cX10_isTape 1 (some .boolean) 1 [.int v0] μ (fX10_isTape v0 μ) := by
  refine Meth.of (by decide) [(0, .int v0)] rfl (Nat.le_of_ble_eq_true rfl) ?_
  intro p l e R s m args below meth c D ca ad A X C
  have C : CX p R s m args meth c D ca ad A X cX10_isTape RX10 1 (some .boolean) 1 := C
  unfold fX10_isTape
  refine E_iload_n C dX10_isTape_0 0 rfl ?_
  refine E_iconst C 0 dX10_isTape_1 (by decide) ?_
  refine E_iconst C 5 dX10_isTape_2 (by decide) ?_
  refine E_callSI (st := []) C [.int v0, .int ((0 : Int32)), .int ((5 : Int32))] (mX10_within v0 ((0 : Int32)) ((5 : Int32)) μ) cal_X10_within st_X10_within lk_X10_134 dX10_isTape_3 rfl rfl (Nat.le_of_ble_eq_true rfl) (Nat.le_of_ble_eq_true rfl) (fun x3 μ3 => ?_)
  exact E_zret C dX10_isTape_6
def X10_judge_L86 (G : Mem → Option (Int32 × Mem)) (v0 : Nat) (v5 : Int32) (v6 : Nat) : Nat → Int32 → Mem → Option (Int32 × Mem)
  | 0, _, _ => none
  | n + 1, v7, μ => (gR μ v0 10 12).bind fun x89 => (gI μ x89 4 3).bind fun x92 => if x92 < v7 then (G μ) else ((gI μ v6 9 1).bind fun x102 => if v7 < (x102 - v5) then ((gR μ v6 9 2).bind fun x119 => (aJ μ x119 ((v5 + v7))).bind fun x127 => (gR μ v0 10 12).bind fun x129 => (gR μ x129 4 1).bind fun x132 => (aI μ 0 x132 v7).bind fun x137 => if (lg_cmp x127 x137.toInt64) = 0 then (X10_judge_L86 G v0 v5 v6 n ((v7 + 1)) μ) else (some (v7, μ))) else (some (((100 : Int32) + v7), μ)))
set_option maxHeartbeats 4000000 in
set_option maxRecDepth 100000 in
theorem X10_judge_L86_ok {p : Program} {l : Launch} {e : Env} {R : Room} {s : State} {m : MethodId} {args : Array Value} {below : List Frame} {meth : Method} {c : Code} {D : va_G} {ca : Nat → ClassId} {ad : Nat → Nat} {A : Nat → Prop} {X : State → Prop} (C : CX p R s m args meth c D ca ad A X cX10_judge RX10 8 (some .int) 6) {G : Mem → Option (Int32 × Mem)} (v0 : Nat) (v5 : Int32) (v6 : Nat) (hG : ∀  (μx : Mem), Sm p l e R s m args below meth c D ca ad A 8 0 0 wI (KQ below args s D ca ad A) 152 [] [] μx (G  μx)) : ∀ (n : Nat) (v7 : Int32) (μ : Mem), Sm p l e R s m args below meth c D ca ad A 8 0 0 wI (KQ below args s D ca ad A) 86 [(0, .ref v0), (5, .int v5), (6, .ref v6), (7, .int v7)] [] μ (X10_judge_L86 G v0 v5 v6 n v7 μ) := by
  intro n
  induction n with
  | zero =>
    intro v7 μ
    rw [X10_judge_L86]
    exact E_none
  | succ n ih =>
    intro v7 μ
    rw [X10_judge_L86]
    refine E_iload C dX10_judge_86 3 rfl ?_
    refine E_aload_n C dX10_judge_88 0 rfl ?_
    refine E_getR C F_X10_72 dX10_judge_89 (fun x89 => ?_)
    refine E_getI C F_X10_341 dX10_judge_92 (fun x92 => ?_)
    refine E_icmp_gt C 152 dX10_judge_95 (by decide) ?_ ?_
    · exact E_pick [] rfl (hG μ)
    · refine E_at (pc2 := 98) rfl ?_
      refine E_iload C dX10_judge_98 3 rfl ?_
      refine E_aload C dX10_judge_100 2 rfl ?_
      refine E_getI C F_X10_344 dX10_judge_102 (fun x102 => ?_)
      refine E_iload C dX10_judge_105 1 rfl ?_
      refine E_isub C dX10_judge_107 ?_
      refine E_icmp_lt C 117 dX10_judge_108 (by decide) ?_ ?_
      · refine E_aload C dX10_judge_117 2 rfl ?_
        refine E_getR C F_X10_345 dX10_judge_119 (fun x119 => ?_)
        refine E_iload C dX10_judge_122 1 rfl ?_
        refine E_iload C dX10_judge_124 3 rfl ?_
        refine E_iadd C dX10_judge_126 ?_
        refine E_laload C dX10_judge_127 (fun x127 => ?_)
        refine E_aload_n C dX10_judge_128 0 rfl ?_
        refine E_getR C F_X10_72 dX10_judge_129 (fun x129 => ?_)
        refine E_getR C F_X10_349 dX10_judge_132 (fun x132 => ?_)
        refine E_iload C dX10_judge_135 3 rfl ?_
        refine E_iaload C dX10_judge_137 (fun x137 => ?_)
        refine E_i2l C dX10_judge_138 ?_
        refine E_lcmp C dX10_judge_139 ?_
        refine E_if_eq C 146 dX10_judge_140 (by decide) ?_ ?_
        · refine E_iinc (lv' := [(7, .int ((v7 + 1))), (0, .ref v0), (5, .int v5), (6, .ref v6)]) C (v7 + 1) dX10_judge_146 3 rfl rfl (by decide) rfl ?_
          refine E_goto C 86 dX10_judge_149 (by decide) ?_
          exact E_pick [1, 2, 3, 0] rfl (ih ((v7 + 1)) μ)
        · refine E_at (pc2 := 143) rfl ?_
          refine E_iload C dX10_judge_143 3 rfl ?_
          exact E_iret C dX10_judge_145
      · refine E_at (pc2 := 111) rfl ?_
        refine E_bipush C 100 dX10_judge_111 (by decide) ?_
        refine E_iload C dX10_judge_113 3 rfl ?_
        refine E_iadd C dX10_judge_115 ?_
        exact E_iret C dX10_judge_116
def fX10_judge (v0 : Nat) (v1 : Int32) (v2 : Int32) (v3 : Int32) (v4 : Int32) (v5 : Int32) (μ : Mem) : Option (Int32 × Mem) :=
  (isC μ v0 10).bind fun _ => bd (fX10_canReplay v0 v1 v2 v3 μ) fun x4 μ4 => if x4 = 0 then (some ((-1 : Int32), μ4)) else (bd (fX10_isTape v4 μ4) fun x12 μ12 => if x12 = 0 then (some ((-1 : Int32), μ12)) else ((gR μ12 v0 10 16).bind fun x21 => (aR μ12 6 x21 v4).bind fun x26 => (gI μ12 x26 9 0).bind fun x31 => jn (fun  (μ_50 : Mem) => (gI μ_50 x26 9 0).bind fun x52 => if x52 = (-1 : Int32) then (some ((100 : Int32), μ_50)) else (if 0 ≤ v5 then ((gR μ_50 v0 10 13).bind fun x72 => (aR μ_50 5 x72 v1).bind fun x76 => (gI μ_50 x76 6 3).bind fun x77 => (isC μ_50 v0 10).bind fun _ => bd (fX10_goThrough v0 v1 v2 v3 x77 μ_50) fun _ μ80 => X10_judge_L86 (fun μ_152 => some ((-5 : Int32), μ_152)) v0 v5 x26 FU ((0 : Int32)) μ80) else (some ((100 : Int32), μ_50)))) (fun j50 => if x31 = (-1 : Int32) then (j50 μ12) else ((gI μ12 x26 9 0).bind fun x40 => if x40 = (3 : Int32) then (j50 μ12) else (some ((-12 : Int32), μ12))))))
set_option maxHeartbeats 4000000 in
set_option maxRecDepth 100000 in
theorem mX10_judge (v0 : Nat) (v1 : Int32) (v2 : Int32) (v3 : Int32) (v4 : Int32) (v5 : Int32) (μ : Mem) : Meth wI yX10_judge cX10_judge 8 (some .int) 6 [.ref v0, .int v1, .int v2, .int v3, .int v4, .int v5] μ (fX10_judge v0 v1 v2 v3 v4 v5 μ) := by
  refine Meth.of (by decide) [(0, .ref v0), (1, .int v1), (2, .int v2), (3, .int v3), (4, .int v4), (5, .int v5)] rfl (Nat.le_of_ble_eq_true rfl) ?_
  intro p l e R s m args below meth c D ca ad A X C
  have C : CX p R s m args meth c D ca ad A X cX10_judge RX10 8 (some .int) 6 := C
  unfold fX10_judge
  refine E_aload_n C dX10_judge_0 0 rfl ?_
  refine E_iload_n C dX10_judge_1 1 rfl ?_
  refine E_iload_n C dX10_judge_2 2 rfl ?_
  refine E_iload_n C dX10_judge_3 3 rfl ?_
  refine E_callVI (st := []) C [.int v1, .int v2, .int v3] (mX10_canReplay v0 v1 v2 v3 μ) cal_X10_canReplay vir_X10_canReplay lk_X10_282 dX10_judge_4 rfl rfl (Nat.le_of_ble_eq_true rfl) (Nat.le_of_ble_eq_true rfl) (fun x4 μ4 => ?_)
  refine E_if_eq C 18 dX10_judge_7 (by decide) ?_ ?_
  · refine E_iconst C (-1) dX10_judge_18 (by decide) ?_
    exact E_iret C dX10_judge_19
  · refine E_at (pc2 := 10) rfl ?_
    refine E_iload C dX10_judge_10 4 rfl ?_
    refine E_callSI (st := []) C [.int v4] (mX10_isTape v4 μ4) cal_X10_isTape st_X10_isTape lk_X10_335 dX10_judge_12 rfl rfl (Nat.le_of_ble_eq_true rfl) (Nat.le_of_ble_eq_true rfl) (fun x12 μ12 => ?_)
    refine E_if_ne C 20 dX10_judge_15 (by decide) ?_ ?_
    · refine E_aload_n C dX10_judge_20 0 rfl ?_
      refine E_getR C F_X10_98 dX10_judge_21 (fun x21 => ?_)
      refine E_iload C dX10_judge_24 4 rfl ?_
      refine E_aaload C rfl dX10_judge_26 (fun x26 => ?_)
      refine E_astore (lv' := [(6, .ref x26), (0, .ref v0), (1, .int v1), (2, .int v2), (3, .int v3), (4, .int v4), (5, .int v5)]) C dX10_judge_27 (by decide) rfl ?_
      refine E_aload C dX10_judge_29 0 rfl ?_
      refine E_getI C F_X10_338 dX10_judge_31 (fun x31 => ?_)
      refine E_iconst C (-1) dX10_judge_34 (by decide) ?_
      refine E_jn (fun j50 => ∀  (μ_50 : Mem), Sm p l e R s m args below meth c D ca ad A 8 0 0 wI (KQ below args s D ca ad A) 50 [(0, .ref v0), (1, .int v1), (2, .int v2), (3, .int v3), (5, .int v5), (6, .ref x26)] [] μ_50 (j50  μ_50)) ?_ (fun j50 hj50 => ?_)
      · intro  μ_50
        refine E_aload C dX10_judge_50 5 rfl ?_
        refine E_getI C F_X10_338 dX10_judge_52 (fun x52 => ?_)
        refine E_iconst C (-1) dX10_judge_55 (by decide) ?_
        refine E_icmp_eq C 64 dX10_judge_56 (by decide) ?_ ?_
        · refine E_bipush C 100 dX10_judge_64 (by decide) ?_
          exact E_iret C dX10_judge_66
        · refine E_at (pc2 := 59) rfl ?_
          refine E_iload C dX10_judge_59 4 rfl ?_
          refine E_if_ge C 67 dX10_judge_61 (by decide) ?_ ?_
          · refine E_aload_n C dX10_judge_67 0 rfl ?_
            refine E_iload_n C dX10_judge_68 1 rfl ?_
            refine E_iload_n C dX10_judge_69 2 rfl ?_
            refine E_iload_n C dX10_judge_70 3 rfl ?_
            refine E_aload_n C dX10_judge_71 0 rfl ?_
            refine E_getR C F_X10_78 dX10_judge_72 (fun x72 => ?_)
            refine E_iload_n C dX10_judge_75 1 rfl ?_
            refine E_aaload C rfl dX10_judge_76 (fun x76 => ?_)
            refine E_getI C F_X10_285 dX10_judge_77 (fun x77 => ?_)
            refine E_callVU (st := []) C [.int v1, .int v2, .int v3, .int x77] (mX10_goThrough v0 v1 v2 v3 x77 μ_50) cal_X10_goThrough vir_X10_goThrough lk_X10_286 dX10_judge_80 rfl rfl (Nat.le_of_ble_eq_true rfl) (Nat.le_of_ble_eq_true rfl) (fun _ μ80 => ?_)
            refine E_iconst C 0 dX10_judge_83 (by decide) ?_
            refine E_istore (lv' := [(7, .int ((0 : Int32))), (0, .ref v0), (1, .int v1), (2, .int v2), (3, .int v3), (5, .int v5), (6, .ref x26)]) C dX10_judge_84 (by decide) rfl ?_
            refine E_at (pc2 := 86) rfl ?_
            refine E_pick (lv' := [(0, .ref v0), (5, .int v5), (6, .ref x26), (7, .int ((0 : Int32)))]) [1, 5, 6, 0] rfl ?_
            refine X10_judge_L86_ok C v0 v5 x26 (fun μ_152 => ?_) FU ((0 : Int32)) μ80
            refine E_bipush C (-5) dX10_judge_152 (by decide) ?_
            exact E_iret C dX10_judge_154
          · refine E_at (pc2 := 64) rfl ?_
            refine E_bipush C 100 dX10_judge_64 (by decide) ?_
            exact E_iret C dX10_judge_66
      · refine E_icmp_eq C 50 dX10_judge_35 (by decide) ?_ ?_
        · exact E_pick [1, 2, 3, 4, 6, 0] rfl (hj50 μ12)
        · refine E_at (pc2 := 38) rfl ?_
          refine E_aload C dX10_judge_38 0 rfl ?_
          refine E_getI C F_X10_338 dX10_judge_40 (fun x40 => ?_)
          refine E_iconst C 3 dX10_judge_43 (by decide) ?_
          refine E_icmp_eq C 50 dX10_judge_44 (by decide) ?_ ?_
          · exact E_pick [1, 2, 3, 4, 6, 0] rfl (hj50 μ12)
          · refine E_at (pc2 := 47) rfl ?_
            refine E_bipush C (-12) dX10_judge_47 (by decide) ?_
            exact E_iret C dX10_judge_49
    · refine E_at (pc2 := 18) rfl ?_
      refine E_iconst C (-1) dX10_judge_18 (by decide) ?_
      exact E_iret C dX10_judge_19
def fX10_image (v0 : Nat) (μ : Mem) : Option (Int32 × Mem) :=
  (gR μ v0 10 1).bind fun x1 => (gR μ v0 10 0).bind fun x5 => (isC μ x1 8).bind fun _ => bd (fX8_copyFrom x1 x5 μ) fun _ μ8 => (pZ μ8 v0 10 2 ((1 : Int32))).bind fun μ13 => (gR μ13 v0 10 0).bind fun x17 => (gR μ13 x17 8 0).bind fun x20 => (gI μ13 x20 0 10).bind fun x23 => some (x23, μ13)
set_option maxHeartbeats 4000000 in
set_option maxRecDepth 100000 in
theorem mX10_image (v0 : Nat) (μ : Mem) : Meth wI yX10_image cX10_image 1 (some .int) 3 [.ref v0] μ (fX10_image v0 μ) := by
  refine Meth.of (by decide) [(0, .ref v0)] rfl (Nat.le_of_ble_eq_true rfl) ?_
  intro p l e R s m args below meth c D ca ad A X C
  have C : CX p R s m args meth c D ca ad A X cX10_image RX10 1 (some .int) 3 := C
  unfold fX10_image
  refine E_aload_n C dX10_image_0 0 rfl ?_
  refine E_getR C F_X10_18 dX10_image_1 (fun x1 => ?_)
  refine E_aload_n C dX10_image_4 0 rfl ?_
  refine E_getR C F_X10_14 dX10_image_5 (fun x5 => ?_)
  refine E_callVU (st := []) C [.ref x5] (mX8_copyFrom x1 x5 μ) cal_X8_copyFrom vir_X8_copyFrom lk_X10_352 dX10_image_8 rfl rfl (Nat.le_of_ble_eq_true rfl) (Nat.le_of_ble_eq_true rfl) (fun _ μ8 => ?_)
  refine E_aload_n C dX10_image_11 0 rfl ?_
  refine E_iconst C 1 dX10_image_12 (by decide) ?_
  refine E_putZ C P_X10_21 dX10_image_13 (fun μ13 => ?_)
  refine E_aload_n C dX10_image_16 0 rfl ?_
  refine E_getR C F_X10_14 dX10_image_17 (fun x17 => ?_)
  refine E_getR C F_X10_106 dX10_image_20 (fun x20 => ?_)
  refine E_getI C F_X10_153 dX10_image_23 (fun x23 => ?_)
  exact E_iret C dX10_image_26
def fX10_undo (v0 : Nat) (μ : Mem) : Option (Int32 × Mem) :=
  (gI μ v0 10 2).bind fun x1 => if x1 = 0 then (some ((-3 : Int32), μ)) else ((isC μ v0 10).bind fun _ => bd (fX10_forgetFound v0 μ) fun _ μ11 => (gR μ11 v0 10 0).bind fun x15 => (gR μ11 v0 10 1).bind fun x19 => (isC μ11 x15 8).bind fun _ => bd (fX8_copyFrom x15 x19 μ11) fun _ μ22 => (gR μ22 v0 10 0).bind fun x26 => (gR μ22 x26 8 0).bind fun x29 => (gI μ22 x29 0 10).bind fun x32 => some (x32, μ22))
set_option maxHeartbeats 4000000 in
set_option maxRecDepth 100000 in
theorem mX10_undo (v0 : Nat) (μ : Mem) : Meth wI yX10_undo cX10_undo 1 (some .int) 3 [.ref v0] μ (fX10_undo v0 μ) := by
  refine Meth.of (by decide) [(0, .ref v0)] rfl (Nat.le_of_ble_eq_true rfl) ?_
  intro p l e R s m args below meth c D ca ad A X C
  have C : CX p R s m args meth c D ca ad A X cX10_undo RX10 1 (some .int) 3 := C
  unfold fX10_undo
  refine E_aload_n C dX10_undo_0 0 rfl ?_
  refine E_getI C F_X10_21 dX10_undo_1 (fun x1 => ?_)
  refine E_if_ne C 10 dX10_undo_4 (by decide) ?_ ?_
  · refine E_aload_n C dX10_undo_10 0 rfl ?_
    refine E_callVU (st := []) C [] (mX10_forgetFound v0 μ) cal_X10_forgetFound vir_X10_forgetFound lk_X10_103 dX10_undo_11 rfl rfl (Nat.le_of_ble_eq_true rfl) (Nat.le_of_ble_eq_true rfl) (fun _ μ11 => ?_)
    refine E_aload_n C dX10_undo_14 0 rfl ?_
    refine E_getR C F_X10_14 dX10_undo_15 (fun x15 => ?_)
    refine E_aload_n C dX10_undo_18 0 rfl ?_
    refine E_getR C F_X10_18 dX10_undo_19 (fun x19 => ?_)
    refine E_callVU (st := []) C [.ref x19] (mX8_copyFrom x15 x19 μ11) cal_X8_copyFrom vir_X8_copyFrom lk_X10_352 dX10_undo_22 rfl rfl (Nat.le_of_ble_eq_true rfl) (Nat.le_of_ble_eq_true rfl) (fun _ μ22 => ?_)
    refine E_aload_n C dX10_undo_25 0 rfl ?_
    refine E_getR C F_X10_14 dX10_undo_26 (fun x26 => ?_)
    refine E_getR C F_X10_106 dX10_undo_29 (fun x29 => ?_)
    refine E_getI C F_X10_153 dX10_undo_32 (fun x32 => ?_)
    exact E_iret C dX10_undo_35
  · refine E_at (pc2 := 7) rfl ?_
    refine E_bipush C (-3) dX10_undo_7 (by decide) ?_
    exact E_iret C dX10_undo_9
def fX10_count (v0 : Nat) (v1 : Int32) (μ : Mem) : Option (Int32 × Mem) :=
  if v1 = 0 then ((gR μ v0 10 0).bind fun x37 => (gR μ x37 8 0).bind fun x40 => (gI μ x40 0 10).bind fun x43 => some (x43, μ)) else if v1 = 1 then ((gR μ v0 10 0).bind fun x48 => (gR μ x48 8 1).bind fun x51 => (gI μ x51 6 3).bind fun x54 => some (x54, μ)) else if v1 = 2 then ((gR μ v0 10 0).bind fun x59 => (gR μ x59 8 2).bind fun x62 => (gI μ x62 6 3).bind fun x65 => some (x65, μ)) else if v1 = 3 then ((gR μ v0 10 0).bind fun x70 => (gR μ x70 8 3).bind fun x73 => (gI μ x73 6 3).bind fun x76 => some (x76, μ)) else if v1 = 4 then ((gR μ v0 10 14).bind fun x81 => (gI μ x81 6 3).bind fun x84 => some (x84, μ)) else (bd (fX10_within v1 ((5 : Int32)) ((8 : Int32)) μ) fun x92 μ92 => if x92 = 0 then (some ((-2 : Int32), μ92)) else ((gR μ92 v0 10 13).bind fun x99 => (aR μ92 5 x99 ((v1 - (5 : Int32)))).bind fun x105 => (gI μ92 x105 6 3).bind fun x106 => some (x106, μ92)))
set_option maxHeartbeats 4000000 in
set_option maxRecDepth 100000 in
theorem mX10_count (v0 : Nat) (v1 : Int32) (μ : Mem) : Meth wI yX10_count cX10_count 2 (some .int) 1 [.ref v0, .int v1] μ (fX10_count v0 v1 μ) := by
  refine Meth.of (by decide) [(0, .ref v0), (1, .int v1)] rfl (Nat.le_of_ble_eq_true rfl) ?_
  intro p l e R s m args below meth c D ca ad A X C
  have C : CX p R s m args meth c D ca ad A X cX10_count RX10 2 (some .int) 1 := C
  unfold fX10_count
  refine E_iload_n C dX10_count_0 1 rfl ?_
  refine E_ite (fun h1_0 => ?_) (fun h1_0 => ?_)
  · refine E_tabIn (kx := 0) (off := 35) C 36 h1_0 dX10_count_1 (by decide +kernel) (by decide) ?_
    refine E_aload_n C dX10_count_36 0 rfl ?_
    refine E_getR C F_X10_14 dX10_count_37 (fun x37 => ?_)
    refine E_getR C F_X10_106 dX10_count_40 (fun x40 => ?_)
    refine E_getI C F_X10_153 dX10_count_43 (fun x43 => ?_)
    exact E_iret C dX10_count_46
  · refine E_ite (fun h1_1 => ?_) (fun h1_1 => ?_)
    · refine E_tabIn (kx := 1) (off := 46) C 47 h1_1 dX10_count_1 (by decide +kernel) (by decide) ?_
      refine E_aload_n C dX10_count_47 0 rfl ?_
      refine E_getR C F_X10_14 dX10_count_48 (fun x48 => ?_)
      refine E_getR C F_X10_305 dX10_count_51 (fun x51 => ?_)
      refine E_getI C F_X10_285 dX10_count_54 (fun x54 => ?_)
      exact E_iret C dX10_count_57
    · refine E_ite (fun h1_2 => ?_) (fun h1_2 => ?_)
      · refine E_tabIn (kx := 2) (off := 57) C 58 h1_2 dX10_count_1 (by decide +kernel) (by decide) ?_
        refine E_aload_n C dX10_count_58 0 rfl ?_
        refine E_getR C F_X10_14 dX10_count_59 (fun x59 => ?_)
        refine E_getR C F_X10_314 dX10_count_62 (fun x62 => ?_)
        refine E_getI C F_X10_285 dX10_count_65 (fun x65 => ?_)
        exact E_iret C dX10_count_68
      · refine E_ite (fun h1_3 => ?_) (fun h1_3 => ?_)
        · refine E_tabIn (kx := 3) (off := 68) C 69 h1_3 dX10_count_1 (by decide +kernel) (by decide) ?_
          refine E_aload_n C dX10_count_69 0 rfl ?_
          refine E_getR C F_X10_14 dX10_count_70 (fun x70 => ?_)
          refine E_getR C F_X10_330 dX10_count_73 (fun x73 => ?_)
          refine E_getI C F_X10_285 dX10_count_76 (fun x76 => ?_)
          exact E_iret C dX10_count_79
        · refine E_ite (fun h1_4 => ?_) (fun h1_4 => ?_)
          · refine E_tabIn (kx := 4) (off := 79) C 80 h1_4 dX10_count_1 (by decide +kernel) (by decide) ?_
            refine E_aload_n C dX10_count_80 0 rfl ?_
            refine E_getR C F_X10_85 dX10_count_81 (fun x81 => ?_)
            refine E_getI C F_X10_285 dX10_count_84 (fun x84 => ?_)
            exact E_iret C dX10_count_87
          · refine E_tabOut C 88 dX10_count_1 (by have q0 := i32_ne h1_0 (n := 0) rfl; have q1 := i32_ne h1_1 (n := 1) rfl; have q2 := i32_ne h1_2 (n := 2) rfl; have q3 := i32_ne h1_3 (n := 3) rfl; have q4 := i32_ne h1_4 (n := 4) rfl; omega) (by decide) ?_
            refine E_iload_n C dX10_count_88 1 rfl ?_
            refine E_iconst C 5 dX10_count_89 (by decide) ?_
            refine E_bipush C 8 dX10_count_90 (by decide) ?_
            refine E_callSI (st := []) C [.int v1, .int ((5 : Int32)), .int ((8 : Int32))] (mX10_within v1 ((5 : Int32)) ((8 : Int32)) μ) cal_X10_within st_X10_within lk_X10_134 dX10_count_92 rfl rfl (Nat.le_of_ble_eq_true rfl) (Nat.le_of_ble_eq_true rfl) (fun x92 μ92 => ?_)
            refine E_if_eq C 112 dX10_count_95 (by decide) ?_ ?_
            · refine E_bipush C (-2) dX10_count_112 (by decide) ?_
              exact E_iret C dX10_count_114
            · refine E_at (pc2 := 98) rfl ?_
              refine E_aload_n C dX10_count_98 0 rfl ?_
              refine E_getR C F_X10_78 dX10_count_99 (fun x99 => ?_)
              refine E_iload_n C dX10_count_102 1 rfl ?_
              refine E_iconst C 5 dX10_count_103 (by decide) ?_
              refine E_isub C dX10_count_104 ?_
              refine E_aaload C rfl dX10_count_105 (fun x105 => ?_)
              refine E_getI C F_X10_285 dX10_count_106 (fun x106 => ?_)
              refine E_goto C 114 dX10_count_109 (by decide) ?_
              exact E_iret C dX10_count_114
def fX10_tape (v0 : Nat) (v1 : Int32) (v2 : Int32) (v3 : Int32) (μ : Mem) : Option (Int32 × Mem) :=
  bd (fX10_isTape v1 μ) fun x1 μ1 => if x1 = 0 then (some ((-1 : Int32), μ1)) else (bd (fX10_within v2 ((-1 : Int32)) ((4 : Int32)) μ1) fun x12 μ12 => if x12 = 0 then (some ((-2 : Int32), μ12)) else (jn (fun  (μ_32 : Mem) => jn (fun  (μ_44 : Mem) => (gR μ_44 v0 10 16).bind fun x45 => (aR μ_44 6 x45 v1).bind fun x49 => jn (fun (s2_61 : Int32) (μ_61 : Mem) => (isC μ_61 x49 9).bind fun _ => bd (fX9_become x49 v2 s2_61 μ_61) fun _ μ61 => some ((1 : Int32), μ61)) (fun j61 => if v2 = (-1 : Int32) then (j61 ((0 : Int32)) μ_44) else (j61 v3 μ_44))) (fun j44 => if v2 = (-1 : Int32) then (j44 μ_32) else (if 0 ≤ v3 then (j44 μ_32) else (some ((-14 : Int32), μ_32))))) (fun j32 => if v2 = (-1 : Int32) then (j32 μ12) else (if v3 ≤ (60 : Int32) then (j32 μ12) else (some ((-2 : Int32), μ12))))))
set_option maxHeartbeats 4000000 in
set_option maxRecDepth 100000 in
theorem mX10_tape (v0 : Nat) (v1 : Int32) (v2 : Int32) (v3 : Int32) (μ : Mem) : Meth wI yX10_tape cX10_tape 4 (some .int) 2 [.ref v0, .int v1, .int v2, .int v3] μ (fX10_tape v0 v1 v2 v3 μ) := by
  refine Meth.of (by decide) [(0, .ref v0), (1, .int v1), (2, .int v2), (3, .int v3)] rfl (Nat.le_of_ble_eq_true rfl) ?_
  intro p l e R s m args below meth c D ca ad A X C
  have C : CX p R s m args meth c D ca ad A X cX10_tape RX10 4 (some .int) 2 := C
  unfold fX10_tape
  refine E_iload_n C dX10_tape_0 1 rfl ?_
  refine E_callSI (st := []) C [.int v1] (mX10_isTape v1 μ) cal_X10_isTape st_X10_isTape lk_X10_335 dX10_tape_1 rfl rfl (Nat.le_of_ble_eq_true rfl) (Nat.le_of_ble_eq_true rfl) (fun x1 μ1 => ?_)
  refine E_if_ne C 9 dX10_tape_4 (by decide) ?_ ?_
  · refine E_iload_n C dX10_tape_9 2 rfl ?_
    refine E_iconst C (-1) dX10_tape_10 (by decide) ?_
    refine E_iconst C 4 dX10_tape_11 (by decide) ?_
    refine E_callSI (st := []) C [.int v2, .int ((-1 : Int32)), .int ((4 : Int32))] (mX10_within v2 ((-1 : Int32)) ((4 : Int32)) μ1) cal_X10_within st_X10_within lk_X10_134 dX10_tape_12 rfl rfl (Nat.le_of_ble_eq_true rfl) (Nat.le_of_ble_eq_true rfl) (fun x12 μ12 => ?_)
    refine E_if_eq C 29 dX10_tape_15 (by decide) ?_ ?_
    · refine E_bipush C (-2) dX10_tape_29 (by decide) ?_
      exact E_iret C dX10_tape_31
    · refine E_at (pc2 := 18) rfl ?_
      refine E_iload_n C dX10_tape_18 2 rfl ?_
      refine E_iconst C (-1) dX10_tape_19 (by decide) ?_
      refine E_jn (fun j32 => ∀  (μ_32 : Mem), Sm p l e R s m args below meth c D ca ad A 4 0 0 wI (KQ below args s D ca ad A) 32 [(0, .ref v0), (1, .int v1), (2, .int v2), (3, .int v3)] [] μ_32 (j32  μ_32)) ?_ (fun j32 hj32 => ?_)
      · intro  μ_32
        refine E_iload_n C dX10_tape_32 2 rfl ?_
        refine E_iconst C (-1) dX10_tape_33 (by decide) ?_
        refine E_jn (fun j44 => ∀  (μ_44 : Mem), Sm p l e R s m args below meth c D ca ad A 4 0 0 wI (KQ below args s D ca ad A) 44 [(0, .ref v0), (1, .int v1), (2, .int v2), (3, .int v3)] [] μ_44 (j44  μ_44)) ?_ (fun j44 hj44 => ?_)
        · intro  μ_44
          refine E_aload_n C dX10_tape_44 0 rfl ?_
          refine E_getR C F_X10_98 dX10_tape_45 (fun x45 => ?_)
          refine E_iload_n C dX10_tape_48 1 rfl ?_
          refine E_aaload C rfl dX10_tape_49 (fun x49 => ?_)
          refine E_iload_n C dX10_tape_50 2 rfl ?_
          refine E_iload_n C dX10_tape_51 2 rfl ?_
          refine E_iconst C (-1) dX10_tape_52 (by decide) ?_
          refine E_jn (fun j61 => ∀ (s2_61 : Int32) (μ_61 : Mem), Sm p l e R s m args below meth c D ca ad A 4 0 0 wI (KQ below args s D ca ad A) 61 [] [.int s2_61, .int v2, .ref x49] μ_61 (j61 s2_61 μ_61)) ?_ (fun j61 hj61 => ?_)
          · intro s2_61 μ_61
            refine E_callVU (st := []) C [.int v2, .int s2_61] (mX9_become x49 v2 s2_61 μ_61) cal_X9_become vir_X9_become lk_X10_355 dX10_tape_61 rfl rfl (Nat.le_of_ble_eq_true rfl) (Nat.le_of_ble_eq_true rfl) (fun _ μ61 => ?_)
            refine E_iconst C 1 dX10_tape_64 (by decide) ?_
            exact E_iret C dX10_tape_65
          · refine E_icmp_ne C 60 dX10_tape_53 (by decide) ?_ ?_
            · refine E_iload_n C dX10_tape_60 3 rfl ?_
              exact E_pick [] rfl (hj61 v3 μ_44)
            · refine E_at (pc2 := 56) rfl ?_
              refine E_iconst C 0 dX10_tape_56 (by decide) ?_
              refine E_goto C 61 dX10_tape_57 (by decide) ?_
              exact E_pick [] rfl (hj61 ((0 : Int32)) μ_44)
        · refine E_icmp_eq C 44 dX10_tape_34 (by decide) ?_ ?_
          · exact E_pick [0, 1, 2, 3] rfl (hj44 μ_32)
          · refine E_at (pc2 := 37) rfl ?_
            refine E_iload_n C dX10_tape_37 3 rfl ?_
            refine E_if_ge C 44 dX10_tape_38 (by decide) ?_ ?_
            · exact E_pick [0, 1, 2, 3] rfl (hj44 μ_32)
            · refine E_at (pc2 := 41) rfl ?_
              refine E_bipush C (-14) dX10_tape_41 (by decide) ?_
              exact E_iret C dX10_tape_43
      · refine E_icmp_eq C 32 dX10_tape_20 (by decide) ?_ ?_
        · exact E_pick [0, 1, 2, 3] rfl (hj32 μ12)
        · refine E_at (pc2 := 23) rfl ?_
          refine E_iload_n C dX10_tape_23 3 rfl ?_
          refine E_bipush C 60 dX10_tape_24 (by decide) ?_
          refine E_icmp_le C 32 dX10_tape_26 (by decide) ?_ ?_
          · exact E_pick [0, 1, 2, 3] rfl (hj32 μ12)
          · refine E_at (pc2 := 29) rfl ?_
            refine E_bipush C (-2) dX10_tape_29 (by decide) ?_
            exact E_iret C dX10_tape_31
  · refine E_at (pc2 := 7) rfl ?_
    refine E_iconst C (-1) dX10_tape_7 (by decide) ?_
    exact E_iret C dX10_tape_8
def fX10_item (v0 : Nat) (v1 : Int32) (v2 : Int32) (v3 : Int64) (μ : Mem) : Option (Int32 × Mem) :=
  bd (fX10_isTape v1 μ) fun x1 μ1 => if x1 = 0 then (some ((-1 : Int32), μ1)) else ((gR μ1 v0 10 16).bind fun x10 => (aR μ1 6 x10 v1).bind fun x14 => (gI μ1 x14 9 0).bind fun x15 => if x15 = (-1 : Int32) then (some ((-11 : Int32), μ1)) else ((gR μ1 v0 10 16).bind fun x26 => (aR μ1 6 x26 v1).bind fun x30 => (isC μ1 x30 9).bind fun _ => bd (fX9_hasPlace x30 v2 μ1) fun x32 μ32 => if x32 = 0 then (some ((-13 : Int32), μ32)) else ((gR μ32 v0 10 16).bind fun x42 => (aR μ32 6 x42 v1).bind fun x46 => (gR μ32 x46 9 2).bind fun x47 => (gR μ32 v0 10 16).bind fun x52 => (aR μ32 6 x52 v1).bind fun x56 => (isC μ32 x56 9).bind fun _ => bd (fX9_asItem x56 v3 μ32) fun x58 μ58 => (sJ μ58 x47 v2 x58).bind fun μ61 => some ((1 : Int32), μ61))))
set_option maxHeartbeats 4000000 in
set_option maxRecDepth 100000 in
theorem mX10_item (v0 : Nat) (v1 : Int32) (v2 : Int32) (v3 : Int64) (μ : Mem) : Meth wI yX10_item cX10_item 5 (some .int) 2 [.ref v0, .int v1, .int v2, .long v3] μ (fX10_item v0 v1 v2 v3 μ) := by
  refine Meth.of (by decide) [(0, .ref v0), (1, .int v1), (2, .int v2), (3, .long v3)] rfl (Nat.le_of_ble_eq_true rfl) ?_
  intro p l e R s m args below meth c D ca ad A X C
  have C : CX p R s m args meth c D ca ad A X cX10_item RX10 5 (some .int) 2 := C
  unfold fX10_item
  refine E_iload_n C dX10_item_0 1 rfl ?_
  refine E_callSI (st := []) C [.int v1] (mX10_isTape v1 μ) cal_X10_isTape st_X10_isTape lk_X10_335 dX10_item_1 rfl rfl (Nat.le_of_ble_eq_true rfl) (Nat.le_of_ble_eq_true rfl) (fun x1 μ1 => ?_)
  refine E_if_ne C 9 dX10_item_4 (by decide) ?_ ?_
  · refine E_aload_n C dX10_item_9 0 rfl ?_
    refine E_getR C F_X10_98 dX10_item_10 (fun x10 => ?_)
    refine E_iload_n C dX10_item_13 1 rfl ?_
    refine E_aaload C rfl dX10_item_14 (fun x14 => ?_)
    refine E_getI C F_X10_338 dX10_item_15 (fun x15 => ?_)
    refine E_iconst C (-1) dX10_item_18 (by decide) ?_
    refine E_icmp_ne C 25 dX10_item_19 (by decide) ?_ ?_
    · refine E_aload_n C dX10_item_25 0 rfl ?_
      refine E_getR C F_X10_98 dX10_item_26 (fun x26 => ?_)
      refine E_iload_n C dX10_item_29 1 rfl ?_
      refine E_aaload C rfl dX10_item_30 (fun x30 => ?_)
      refine E_iload_n C dX10_item_31 2 rfl ?_
      refine E_callVI (st := []) C [.int v2] (mX9_hasPlace x30 v2 μ1) cal_X9_hasPlace vir_X9_hasPlace lk_X10_358 dX10_item_32 rfl rfl (Nat.le_of_ble_eq_true rfl) (Nat.le_of_ble_eq_true rfl) (fun x32 μ32 => ?_)
      refine E_if_ne C 41 dX10_item_35 (by decide) ?_ ?_
      · refine E_aload_n C dX10_item_41 0 rfl ?_
        refine E_getR C F_X10_98 dX10_item_42 (fun x42 => ?_)
        refine E_iload_n C dX10_item_45 1 rfl ?_
        refine E_aaload C rfl dX10_item_46 (fun x46 => ?_)
        refine E_getR C F_X10_345 dX10_item_47 (fun x47 => ?_)
        refine E_iload_n C dX10_item_50 2 rfl ?_
        refine E_aload_n C dX10_item_51 0 rfl ?_
        refine E_getR C F_X10_98 dX10_item_52 (fun x52 => ?_)
        refine E_iload_n C dX10_item_55 1 rfl ?_
        refine E_aaload C rfl dX10_item_56 (fun x56 => ?_)
        refine E_lload_n C dX10_item_57 3 rfl ?_
        refine E_callVJ (st := [.int v2, .ref x47]) C [.long v3] (mX9_asItem x56 v3 μ32) cal_X9_asItem vir_X9_asItem lk_X10_361 dX10_item_58 rfl rfl (Nat.le_of_ble_eq_true rfl) (Nat.le_of_ble_eq_true rfl) (fun x58 μ58 => ?_)
        refine E_lastore C dX10_item_61 (fun μ61 => ?_)
        refine E_iconst C 1 dX10_item_62 (by decide) ?_
        exact E_iret C dX10_item_63
      · refine E_at (pc2 := 38) rfl ?_
        refine E_bipush C (-13) dX10_item_38 (by decide) ?_
        exact E_iret C dX10_item_40
    · refine E_at (pc2 := 22) rfl ?_
      refine E_bipush C (-11) dX10_item_22 (by decide) ?_
      exact E_iret C dX10_item_24
  · refine E_at (pc2 := 7) rfl ?_
    refine E_iconst C (-1) dX10_item_7 (by decide) ?_
    exact E_iret C dX10_item_8
def fX10_peek (v0 : Nat) (v1 : Int32) (v2 : Int32) (μ : Mem) : Option (Int64 × Mem) :=
  bd (fX10_isTape v1 μ) fun x1 μ1 => if x1 = 0 then (some ((-9223372036854775808 : Int64), μ1)) else ((gR μ1 v0 10 16).bind fun x8 => (aR μ1 6 x8 v1).bind fun x12 => (isC μ1 x12 9).bind fun _ => bd (fX9_hasPlace x12 v2 μ1) fun x14 μ14 => if x14 = 0 then (some ((-9223372036854775808 : Int64), μ14)) else ((gR μ14 v0 10 16).bind fun x25 => (aR μ14 6 x25 v1).bind fun x29 => (gR μ14 x29 9 2).bind fun x30 => (aJ μ14 x30 v2).bind fun x34 => some (x34, μ14)))
set_option maxHeartbeats 4000000 in
set_option maxRecDepth 100000 in
theorem mX10_peek (v0 : Nat) (v1 : Int32) (v2 : Int32) (μ : Mem) : Meth wJ yX10_peek cX10_peek 3 (some .long) 2 [.ref v0, .int v1, .int v2] μ (fX10_peek v0 v1 v2 μ) := by
  refine Meth.of (by decide) [(0, .ref v0), (1, .int v1), (2, .int v2)] rfl (Nat.le_of_ble_eq_true rfl) ?_
  intro p l e R s m args below meth c D ca ad A X C
  have C : CX p R s m args meth c D ca ad A X cX10_peek RX10 3 (some .long) 2 := C
  unfold fX10_peek
  refine E_iload_n C dX10_peek_0 1 rfl ?_
  refine E_callSI (st := []) C [.int v1] (mX10_isTape v1 μ) cal_X10_isTape st_X10_isTape lk_X10_335 dX10_peek_1 rfl rfl (Nat.le_of_ble_eq_true rfl) (Nat.le_of_ble_eq_true rfl) (fun x1 μ1 => ?_)
  refine E_if_eq C 20 dX10_peek_4 (by decide) ?_ ?_
  · refine E_ldc2 C dX10_peek_20 k_X10_207 ?_
    exact E_lret C dX10_peek_23
  · refine E_at (pc2 := 7) rfl ?_
    refine E_aload_n C dX10_peek_7 0 rfl ?_
    refine E_getR C F_X10_98 dX10_peek_8 (fun x8 => ?_)
    refine E_iload_n C dX10_peek_11 1 rfl ?_
    refine E_aaload C rfl dX10_peek_12 (fun x12 => ?_)
    refine E_iload_n C dX10_peek_13 2 rfl ?_
    refine E_callVI (st := []) C [.int v2] (mX9_hasPlace x12 v2 μ1) cal_X9_hasPlace vir_X9_hasPlace lk_X10_358 dX10_peek_14 rfl rfl (Nat.le_of_ble_eq_true rfl) (Nat.le_of_ble_eq_true rfl) (fun x14 μ14 => ?_)
    refine E_if_ne C 24 dX10_peek_17 (by decide) ?_ ?_
    · refine E_aload_n C dX10_peek_24 0 rfl ?_
      refine E_getR C F_X10_98 dX10_peek_25 (fun x25 => ?_)
      refine E_iload_n C dX10_peek_28 1 rfl ?_
      refine E_aaload C rfl dX10_peek_29 (fun x29 => ?_)
      refine E_getR C F_X10_345 dX10_peek_30 (fun x30 => ?_)
      refine E_iload_n C dX10_peek_33 2 rfl ?_
      refine E_laload C dX10_peek_34 (fun x34 => ?_)
      exact E_lret C dX10_peek_35
    · refine E_at (pc2 := 20) rfl ?_
      refine E_ldc2 C dX10_peek_20 k_X10_207 ?_
      exact E_lret C dX10_peek_23
def fX10_shift (v0 : Nat) (v1 : Int32) (v2 : Int32) (v3 : Int32) (v4 : Int32) (v5 : Int32) (μ : Mem) : Option (Int32 × Mem) :=
  bd (fX10_isTape v1 μ) fun x1 μ1 => if x1 = 0 then (some ((-1 : Int32), μ1)) else (bd (fX10_isTape v3 μ1) fun x8 μ8 => if x8 = 0 then (some ((-1 : Int32), μ8)) else ((gR μ8 v0 10 16).bind fun x17 => (aR μ8 6 x17 v1).bind fun x21 => (gR μ8 v0 10 16).bind fun x25 => (aR μ8 6 x25 v3).bind fun x29 => (gI μ8 x21 9 0).bind fun x34 => if x34 = (-1 : Int32) then (some ((-11 : Int32), μ8)) else ((gI μ8 x29 9 0).bind fun x43 => if x43 = (-1 : Int32) then (some ((-11 : Int32), μ8)) else ((gI μ8 x21 9 0).bind fun x55 => (gI μ8 x29 9 0).bind fun x60 => if x55 = x60 then ((isC μ8 x21 9).bind fun _ => bd (fX9_hasRange x21 v2 v5 μ8) fun x74 μ74 => if x74 = 0 then (some ((-13 : Int32), μ74)) else ((isC μ74 x29 9).bind fun _ => bd (fX9_hasRange x29 v4 v5 μ74) fun x86 μ86 => if x86 = 0 then (some ((-13 : Int32), μ86)) else ((gR μ86 x21 9 2).bind fun x97 => (gR μ86 x29 9 2).bind fun x103 => (cpJ μ86 x97 v2 x103 v4 v5).bind fun μ110 => some (v5, μ110)))) else (some ((-12 : Int32), μ8))))))
set_option maxHeartbeats 4000000 in
set_option maxRecDepth 100000 in
theorem mX10_shift (v0 : Nat) (v1 : Int32) (v2 : Int32) (v3 : Int32) (v4 : Int32) (v5 : Int32) (μ : Mem) : Meth wI yX10_shift cX10_shift 8 (some .int) 2 [.ref v0, .int v1, .int v2, .int v3, .int v4, .int v5] μ (fX10_shift v0 v1 v2 v3 v4 v5 μ) := by
  refine Meth.of (by decide) [(0, .ref v0), (1, .int v1), (2, .int v2), (3, .int v3), (4, .int v4), (5, .int v5)] rfl (Nat.le_of_ble_eq_true rfl) ?_
  intro p l e R s m args below meth c D ca ad A X C
  have C : CX p R s m args meth c D ca ad A X cX10_shift RX10 8 (some .int) 2 := C
  unfold fX10_shift
  refine E_iload_n C dX10_shift_0 1 rfl ?_
  refine E_callSI (st := []) C [.int v1] (mX10_isTape v1 μ) cal_X10_isTape st_X10_isTape lk_X10_335 dX10_shift_1 rfl rfl (Nat.le_of_ble_eq_true rfl) (Nat.le_of_ble_eq_true rfl) (fun x1 μ1 => ?_)
  refine E_if_eq C 14 dX10_shift_4 (by decide) ?_ ?_
  · refine E_iconst C (-1) dX10_shift_14 (by decide) ?_
    exact E_iret C dX10_shift_15
  · refine E_at (pc2 := 7) rfl ?_
    refine E_iload_n C dX10_shift_7 3 rfl ?_
    refine E_callSI (st := []) C [.int v3] (mX10_isTape v3 μ1) cal_X10_isTape st_X10_isTape lk_X10_335 dX10_shift_8 rfl rfl (Nat.le_of_ble_eq_true rfl) (Nat.le_of_ble_eq_true rfl) (fun x8 μ8 => ?_)
    refine E_if_ne C 16 dX10_shift_11 (by decide) ?_ ?_
    · refine E_aload_n C dX10_shift_16 0 rfl ?_
      refine E_getR C F_X10_98 dX10_shift_17 (fun x17 => ?_)
      refine E_iload_n C dX10_shift_20 1 rfl ?_
      refine E_aaload C rfl dX10_shift_21 (fun x21 => ?_)
      refine E_astore (lv' := [(6, .ref x21), (0, .ref v0), (1, .int v1), (2, .int v2), (3, .int v3), (4, .int v4), (5, .int v5)]) C dX10_shift_22 (by decide) rfl ?_
      refine E_aload_n C dX10_shift_24 1 rfl ?_
      refine E_getR C F_X10_98 dX10_shift_25 (fun x25 => ?_)
      refine E_iload_n C dX10_shift_28 4 rfl ?_
      refine E_aaload C rfl dX10_shift_29 (fun x29 => ?_)
      refine E_astore (lv' := [(7, .ref x29), (6, .ref x21), (0, .ref v0), (1, .int v1), (2, .int v2), (3, .int v3), (4, .int v4), (5, .int v5)]) C dX10_shift_30 (by decide) rfl ?_
      refine E_aload C dX10_shift_32 1 rfl ?_
      refine E_getI C F_X10_338 dX10_shift_34 (fun x34 => ?_)
      refine E_iconst C (-1) dX10_shift_37 (by decide) ?_
      refine E_icmp_eq C 50 dX10_shift_38 (by decide) ?_ ?_
      · refine E_bipush C (-11) dX10_shift_50 (by decide) ?_
        exact E_iret C dX10_shift_52
      · refine E_at (pc2 := 41) rfl ?_
        refine E_aload C dX10_shift_41 0 rfl ?_
        refine E_getI C F_X10_338 dX10_shift_43 (fun x43 => ?_)
        refine E_iconst C (-1) dX10_shift_46 (by decide) ?_
        refine E_icmp_ne C 53 dX10_shift_47 (by decide) ?_ ?_
        · refine E_aload C dX10_shift_53 1 rfl ?_
          refine E_getI C F_X10_338 dX10_shift_55 (fun x55 => ?_)
          refine E_aload C dX10_shift_58 0 rfl ?_
          refine E_getI C F_X10_338 dX10_shift_60 (fun x60 => ?_)
          refine E_icmp_eq C 69 dX10_shift_63 (by decide) ?_ ?_
          · refine E_aload C dX10_shift_69 1 rfl ?_
            refine E_iload_n C dX10_shift_71 4 rfl ?_
            refine E_iload C dX10_shift_72 7 rfl ?_
            refine E_callVI (st := []) C [.int v2, .int v5] (mX9_hasRange x21 v2 v5 μ8) cal_X9_hasRange vir_X9_hasRange lk_X10_365 dX10_shift_74 rfl rfl (Nat.le_of_ble_eq_true rfl) (Nat.le_of_ble_eq_true rfl) (fun x74 μ74 => ?_)
            refine E_if_eq C 92 dX10_shift_77 (by decide) ?_ ?_
            · refine E_bipush C (-13) dX10_shift_92 (by decide) ?_
              exact E_iret C dX10_shift_94
            · refine E_at (pc2 := 80) rfl ?_
              refine E_aload C dX10_shift_80 0 rfl ?_
              refine E_iload C dX10_shift_82 6 rfl ?_
              refine E_iload C dX10_shift_84 7 rfl ?_
              refine E_callVI (st := []) C [.int v4, .int v5] (mX9_hasRange x29 v4 v5 μ74) cal_X9_hasRange vir_X9_hasRange lk_X10_365 dX10_shift_86 rfl rfl (Nat.le_of_ble_eq_true rfl) (Nat.le_of_ble_eq_true rfl) (fun x86 μ86 => ?_)
              refine E_if_ne C 95 dX10_shift_89 (by decide) ?_ ?_
              · refine E_aload C dX10_shift_95 1 rfl ?_
                refine E_getR C F_X10_345 dX10_shift_97 (fun x97 => ?_)
                refine E_iload_n C dX10_shift_100 4 rfl ?_
                refine E_aload C dX10_shift_101 0 rfl ?_
                refine E_getR C F_X10_345 dX10_shift_103 (fun x103 => ?_)
                refine E_iload C dX10_shift_106 6 rfl ?_
                refine E_iload C dX10_shift_108 7 rfl ?_
                refine E_cpJ C lk_X10_368 na_arraycopy st_arraycopy in_System dX10_shift_110 (Nat.le_of_ble_eq_true rfl) (Nat.le_of_ble_eq_true rfl) (fun μ110 => ?_)
                refine E_iload C dX10_shift_113 7 rfl ?_
                exact E_iret C dX10_shift_115
              · refine E_at (pc2 := 92) rfl ?_
                refine E_bipush C (-13) dX10_shift_92 (by decide) ?_
                exact E_iret C dX10_shift_94
          · refine E_at (pc2 := 66) rfl ?_
            refine E_bipush C (-12) dX10_shift_66 (by decide) ?_
            exact E_iret C dX10_shift_68
        · refine E_at (pc2 := 50) rfl ?_
          refine E_bipush C (-11) dX10_shift_50 (by decide) ?_
          exact E_iret C dX10_shift_52
    · refine E_at (pc2 := 14) rfl ?_
      refine E_iconst C (-1) dX10_shift_14 (by decide) ?_
      exact E_iret C dX10_shift_15
