def fX5_copyFrom (v0 : Nat) (v1 : Nat) (μ : Mem) : Option (Unit × Mem) :=
  (gI μ v1 5 0).bind fun x2 => (pV μ v0 5 0 (.int x2)).bind fun μ5 => (gI μ5 v1 5 1).bind fun x10 => (pV μ5 v0 5 1 (.int x10)).bind fun μ13 => (gI μ13 v1 5 2).bind fun x18 => (pV μ13 v0 5 2 (.int x18)).bind fun μ21 => (gI μ21 v1 5 3).bind fun x26 => (pV μ21 v0 5 3 (.int x26)).bind fun μ29 => (gI μ29 v1 5 4).bind fun x34 => (pV μ29 v0 5 4 (.int x34)).bind fun μ37 => (gI μ37 v1 5 5).bind fun x42 => (pV μ37 v0 5 5 (.int x42)).bind fun μ45 => some ((), μ45)
set_option maxHeartbeats 4000000 in
set_option maxRecDepth 100000 in
theorem mX5_copyFrom (v0 : Nat) (v1 : Nat) (μ : Mem) : Meth wU yX5_copyFrom cX5_copyFrom 2 none 0 [.ref v0, .ref v1] μ (fX5_copyFrom v0 v1 μ) := by
  refine Meth.of (by decide) [(0, .ref v0), (1, .ref v1)] rfl (Nat.le_of_ble_eq_true rfl) ?_
  intro p l e R s m args below meth c D ca ad A X C
  have C : CX p R s m args meth c D ca ad A X cX5_copyFrom RX5 2 none 0 := C
  unfold fX5_copyFrom
  refine E_aload_n C dX5_copyFrom_0 0 rfl ?_
  refine E_aload_n C dX5_copyFrom_1 1 rfl ?_
  refine E_getI C F_X5_9 dX5_copyFrom_2 (fun x2 => ?_)
  refine E_putI C P_X5_9 dX5_copyFrom_5 (fun μ5 => ?_)
  refine E_aload_n C dX5_copyFrom_8 0 rfl ?_
  refine E_aload_n C dX5_copyFrom_9 1 rfl ?_
  refine E_getI C F_X5_15 dX5_copyFrom_10 (fun x10 => ?_)
  refine E_putI C P_X5_15 dX5_copyFrom_13 (fun μ13 => ?_)
  refine E_aload_n C dX5_copyFrom_16 0 rfl ?_
  refine E_aload_n C dX5_copyFrom_17 1 rfl ?_
  refine E_getI C F_X5_18 dX5_copyFrom_18 (fun x18 => ?_)
  refine E_putI C P_X5_18 dX5_copyFrom_21 (fun μ21 => ?_)
  refine E_aload_n C dX5_copyFrom_24 0 rfl ?_
  refine E_aload_n C dX5_copyFrom_25 1 rfl ?_
  refine E_getI C F_X5_21 dX5_copyFrom_26 (fun x26 => ?_)
  refine E_putI C P_X5_21 dX5_copyFrom_29 (fun μ29 => ?_)
  refine E_aload_n C dX5_copyFrom_32 0 rfl ?_
  refine E_aload_n C dX5_copyFrom_33 1 rfl ?_
  refine E_getI C F_X5_24 dX5_copyFrom_34 (fun x34 => ?_)
  refine E_putI C P_X5_24 dX5_copyFrom_37 (fun μ37 => ?_)
  refine E_aload_n C dX5_copyFrom_40 0 rfl ?_
  refine E_aload_n C dX5_copyFrom_41 1 rfl ?_
  refine E_getI C F_X5_27 dX5_copyFrom_42 (fun x42 => ?_)
  refine E_putI C P_X5_27 dX5_copyFrom_45 (fun μ45 => ?_)
  exact E_ret C dX5_copyFrom_48
def X0_copyFrom_L117 (G : Mem → Option (Unit × Mem)) (v0 : Nat) (v1 : Nat) : Nat → Int32 → Mem → Option (Unit × Mem)
  | 0, _, _ => none
  | n + 1, v2, μ => if (6 : Int32) ≤ v2 then (G μ) else ((gR μ v0 0 8).bind fun x124 => (aR μ 4 x124 v2).bind fun x128 => (gR μ v1 0 8).bind fun x130 => (aR μ 4 x130 v2).bind fun x134 => (isC μ x128 5).bind fun _ => bd (fX5_copyFrom x128 x134 μ) fun _ μ135 => X0_copyFrom_L117 G v0 v1 n ((v2 + 1)) μ135)
set_option maxHeartbeats 4000000 in
set_option maxRecDepth 100000 in
theorem X0_copyFrom_L117_ok {p : Program} {l : Launch} {e : Env} {R : Room} {s : State} {m : MethodId} {args : Array Value} {below : List Frame} {meth : Method} {c : Code} {D : va_G} {ca : Nat → ClassId} {ad : Nat → Nat} {A : Nat → Prop} {X : State → Prop} (C : CX p R s m args meth c D ca ad A X cX0_copyFrom RX0 3 none 1) {G : Mem → Option (Unit × Mem)} (v0 : Nat) (v1 : Nat) (hG : ∀  (μx : Mem), Sm p l e R s m args below meth c D ca ad A 3 0 0 wU (KQ below args s D ca ad A) 144 [] [] μx (G  μx)) : ∀ (n : Nat) (v2 : Int32) (μ : Mem), Sm p l e R s m args below meth c D ca ad A 3 0 0 wU (KQ below args s D ca ad A) 117 [(0, .ref v0), (1, .ref v1), (2, .int v2)] [] μ (X0_copyFrom_L117 G v0 v1 n v2 μ) := by
  intro n
  induction n with
  | zero =>
    intro v2 μ
    rw [X0_copyFrom_L117]
    exact E_none
  | succ n ih =>
    intro v2 μ
    rw [X0_copyFrom_L117]
    refine E_iload_n C dX0_copyFrom_117 2 rfl ?_
    refine E_bipush C 6 dX0_copyFrom_118 (by decide) ?_
    refine E_icmp_ge C 144 dX0_copyFrom_120 (by decide) ?_ ?_
    · exact E_pick [] rfl (hG μ)
    · refine E_at (pc2 := 123) rfl ?_
      refine E_aload_n C dX0_copyFrom_123 0 rfl ?_
      refine E_getR C F_X0_39 dX0_copyFrom_124 (fun x124 => ?_)
      refine E_iload_n C dX0_copyFrom_127 2 rfl ?_
      refine E_aaload C rfl dX0_copyFrom_128 (fun x128 => ?_)
      refine E_aload_n C dX0_copyFrom_129 1 rfl ?_
      refine E_getR C F_X0_39 dX0_copyFrom_130 (fun x130 => ?_)
      refine E_iload_n C dX0_copyFrom_133 2 rfl ?_
      refine E_aaload C rfl dX0_copyFrom_134 (fun x134 => ?_)
      refine E_callVU (st := []) C [.ref x134] (mX5_copyFrom x128 x134 μ) cal_X5_copyFrom vir_X5_copyFrom lk_X0_56 dX0_copyFrom_135 rfl rfl (Nat.le_of_ble_eq_true rfl) (Nat.le_of_ble_eq_true rfl) (fun _ μ135 => ?_)
      refine E_iinc (lv' := [(2, .int ((v2 + 1))), (0, .ref v0), (1, .ref v1)]) C (v2 + 1) dX0_copyFrom_138 2 rfl rfl (by decide) rfl ?_
      refine E_goto C 117 dX0_copyFrom_141 (by decide) ?_
      exact E_pick [1, 2, 0] rfl (ih ((v2 + 1)) μ135)
def fX0_copyFrom (v0 : Nat) (v1 : Nat) (μ : Mem) : Option (Unit × Mem) :=
  (gI μ v1 0 0).bind fun x2 => (pV μ v0 0 0 (.int x2)).bind fun μ5 => (gI μ5 v1 0 1).bind fun x10 => (pV μ5 v0 0 1 (.int x10)).bind fun μ13 => (gI μ13 v1 0 2).bind fun x18 => (pV μ13 v0 0 2 (.int x18)).bind fun μ21 => (gI μ21 v1 0 3).bind fun x26 => (pV μ21 v0 0 3 (.int x26)).bind fun μ29 => (gR μ29 v1 0 4).bind fun x33 => (gR μ29 v0 0 4).bind fun x38 => (cpI μ29 x33 ((0 : Int32)) x38 ((0 : Int32)) ((36 : Int32))).bind fun μ44 => (gR μ44 v1 0 5).bind fun x48 => (gR μ44 v0 0 5).bind fun x53 => (cpI μ44 x48 ((0 : Int32)) x53 ((0 : Int32)) ((9 : Int32))).bind fun μ59 => (gR μ59 v1 0 6).bind fun x63 => (gR μ59 v0 0 6).bind fun x68 => (cpI μ59 x63 ((0 : Int32)) x68 ((0 : Int32)) ((12 : Int32))).bind fun μ74 => (gR μ74 v1 0 7).bind fun x78 => (gR μ74 v0 0 7).bind fun x83 => (cpI μ74 x78 ((0 : Int32)) x83 ((0 : Int32)) ((12 : Int32))).bind fun μ89 => (gR μ89 v1 0 9).bind fun x93 => (gR μ89 v0 0 9).bind fun x98 => (cpI μ89 x93 ((0 : Int32)) x98 ((0 : Int32)) ((6 : Int32))).bind fun μ104 => (gI μ104 v1 0 10).bind fun x109 => (pV μ104 v0 0 10 (.int x109)).bind fun μ112 => X0_copyFrom_L117 (fun μ_144 => some ((), μ_144)) v0 v1 FU ((0 : Int32)) μ112
set_option maxHeartbeats 4000000 in
set_option maxRecDepth 100000 in
theorem mX0_copyFrom (v0 : Nat) (v1 : Nat) (μ : Mem) : Meth wU yX0_copyFrom cX0_copyFrom 3 none 1 [.ref v0, .ref v1] μ (fX0_copyFrom v0 v1 μ) := by
  refine Meth.of (by decide) [(0, .ref v0), (1, .ref v1)] rfl (Nat.le_of_ble_eq_true rfl) ?_
  intro p l e R s m args below meth c D ca ad A X C
  have C : CX p R s m args meth c D ca ad A X cX0_copyFrom RX0 3 none 1 := C
  unfold fX0_copyFrom
  refine E_aload_n C dX0_copyFrom_0 0 rfl ?_
  refine E_aload_n C dX0_copyFrom_1 1 rfl ?_
  refine E_getI C F_X0_9 dX0_copyFrom_2 (fun x2 => ?_)
  refine E_putI C P_X0_9 dX0_copyFrom_5 (fun μ5 => ?_)
  refine E_aload_n C dX0_copyFrom_8 0 rfl ?_
  refine E_aload_n C dX0_copyFrom_9 1 rfl ?_
  refine E_getI C F_X0_15 dX0_copyFrom_10 (fun x10 => ?_)
  refine E_putI C P_X0_15 dX0_copyFrom_13 (fun μ13 => ?_)
  refine E_aload_n C dX0_copyFrom_16 0 rfl ?_
  refine E_aload_n C dX0_copyFrom_17 1 rfl ?_
  refine E_getI C F_X0_18 dX0_copyFrom_18 (fun x18 => ?_)
  refine E_putI C P_X0_18 dX0_copyFrom_21 (fun μ21 => ?_)
  refine E_aload_n C dX0_copyFrom_24 0 rfl ?_
  refine E_aload_n C dX0_copyFrom_25 1 rfl ?_
  refine E_getI C F_X0_21 dX0_copyFrom_26 (fun x26 => ?_)
  refine E_putI C P_X0_21 dX0_copyFrom_29 (fun μ29 => ?_)
  refine E_aload_n C dX0_copyFrom_32 1 rfl ?_
  refine E_getR C F_X0_24 dX0_copyFrom_33 (fun x33 => ?_)
  refine E_iconst C 0 dX0_copyFrom_36 (by decide) ?_
  refine E_aload_n C dX0_copyFrom_37 0 rfl ?_
  refine E_getR C F_X0_24 dX0_copyFrom_38 (fun x38 => ?_)
  refine E_iconst C 0 dX0_copyFrom_41 (by decide) ?_
  refine E_bipush C 36 dX0_copyFrom_42 (by decide) ?_
  refine E_cpI C lk_X0_50 na_arraycopy st_arraycopy in_System dX0_copyFrom_44 (Nat.le_of_ble_eq_true rfl) (Nat.le_of_ble_eq_true rfl) (fun μ44 => ?_)
  refine E_aload_n C dX0_copyFrom_47 1 rfl ?_
  refine E_getR C F_X0_28 dX0_copyFrom_48 (fun x48 => ?_)
  refine E_iconst C 0 dX0_copyFrom_51 (by decide) ?_
  refine E_aload_n C dX0_copyFrom_52 0 rfl ?_
  refine E_getR C F_X0_28 dX0_copyFrom_53 (fun x53 => ?_)
  refine E_iconst C 0 dX0_copyFrom_56 (by decide) ?_
  refine E_bipush C 9 dX0_copyFrom_57 (by decide) ?_
  refine E_cpI C lk_X0_50 na_arraycopy st_arraycopy in_System dX0_copyFrom_59 (Nat.le_of_ble_eq_true rfl) (Nat.le_of_ble_eq_true rfl) (fun μ59 => ?_)
  refine E_aload_n C dX0_copyFrom_62 1 rfl ?_
  refine E_getR C F_X0_31 dX0_copyFrom_63 (fun x63 => ?_)
  refine E_iconst C 0 dX0_copyFrom_66 (by decide) ?_
  refine E_aload_n C dX0_copyFrom_67 0 rfl ?_
  refine E_getR C F_X0_31 dX0_copyFrom_68 (fun x68 => ?_)
  refine E_iconst C 0 dX0_copyFrom_71 (by decide) ?_
  refine E_bipush C 12 dX0_copyFrom_72 (by decide) ?_
  refine E_cpI C lk_X0_50 na_arraycopy st_arraycopy in_System dX0_copyFrom_74 (Nat.le_of_ble_eq_true rfl) (Nat.le_of_ble_eq_true rfl) (fun μ74 => ?_)
  refine E_aload_n C dX0_copyFrom_77 1 rfl ?_
  refine E_getR C F_X0_34 dX0_copyFrom_78 (fun x78 => ?_)
  refine E_iconst C 0 dX0_copyFrom_81 (by decide) ?_
  refine E_aload_n C dX0_copyFrom_82 0 rfl ?_
  refine E_getR C F_X0_34 dX0_copyFrom_83 (fun x83 => ?_)
  refine E_iconst C 0 dX0_copyFrom_86 (by decide) ?_
  refine E_bipush C 12 dX0_copyFrom_87 (by decide) ?_
  refine E_cpI C lk_X0_50 na_arraycopy st_arraycopy in_System dX0_copyFrom_89 (Nat.le_of_ble_eq_true rfl) (Nat.le_of_ble_eq_true rfl) (fun μ89 => ?_)
  refine E_aload_n C dX0_copyFrom_92 1 rfl ?_
  refine E_getR C F_X0_43 dX0_copyFrom_93 (fun x93 => ?_)
  refine E_iconst C 0 dX0_copyFrom_96 (by decide) ?_
  refine E_aload_n C dX0_copyFrom_97 0 rfl ?_
  refine E_getR C F_X0_43 dX0_copyFrom_98 (fun x98 => ?_)
  refine E_iconst C 0 dX0_copyFrom_101 (by decide) ?_
  refine E_bipush C 6 dX0_copyFrom_102 (by decide) ?_
  refine E_cpI C lk_X0_50 na_arraycopy st_arraycopy in_System dX0_copyFrom_104 (Nat.le_of_ble_eq_true rfl) (Nat.le_of_ble_eq_true rfl) (fun μ104 => ?_)
  refine E_aload_n C dX0_copyFrom_107 0 rfl ?_
  refine E_aload_n C dX0_copyFrom_108 1 rfl ?_
  refine E_getI C F_X0_46 dX0_copyFrom_109 (fun x109 => ?_)
  refine E_putI C P_X0_46 dX0_copyFrom_112 (fun μ112 => ?_)
  refine E_iconst C 0 dX0_copyFrom_115 (by decide) ?_
  refine E_istore_n (lv' := [(2, .int ((0 : Int32))), (0, .ref v0), (1, .ref v1)]) C dX0_copyFrom_116 (by decide) rfl ?_
  refine E_at (pc2 := 117) rfl ?_
  refine E_pick (lv' := [(0, .ref v0), (1, .ref v1), (2, .int ((0 : Int32)))]) [1, 2, 0] rfl ?_
  refine X0_copyFrom_L117_ok C v0 v1 (fun μ_144 => ?_) FU ((0 : Int32)) μ112
  exact E_ret C dX0_copyFrom_144
def fX0_settingOf (v0 : Nat) (v1 : Int32) (μ : Mem) : Option (Int32 × Mem) :=
  if v1 = 0 then ((gI μ v0 0 0).bind fun x33 => some (x33, μ)) else if v1 = 1 then ((gI μ v0 0 1).bind fun x38 => some (x38, μ)) else if v1 = 2 then ((gI μ v0 0 2).bind fun x43 => some (x43, μ)) else if v1 = 3 then ((gI μ v0 0 3).bind fun x48 => some (x48, μ)) else (some ((-1 : Int32), μ))
set_option maxHeartbeats 4000000 in
set_option maxRecDepth 100000 in
theorem mX0_settingOf (v0 : Nat) (v1 : Int32) (μ : Mem) : Meth wI yX0_settingOf cX0_settingOf 2 (some .int) 0 [.ref v0, .int v1] μ (fX0_settingOf v0 v1 μ) := by
  refine Meth.of (by decide) [(0, .ref v0), (1, .int v1)] rfl (Nat.le_of_ble_eq_true rfl) ?_
  intro p l e R s m args below meth c D ca ad A X C
  have C : CX p R s m args meth c D ca ad A X cX0_settingOf RX0 2 (some .int) 0 := C
  unfold fX0_settingOf
  refine E_iload_n C dX0_settingOf_0 1 rfl ?_
  refine E_ite (fun h1_0 => ?_) (fun h1_0 => ?_)
  · refine E_tabIn (kx := 0) (off := 31) C 32 h1_0 dX0_settingOf_1 (by decide +kernel) (by decide) ?_
    refine E_aload_n C dX0_settingOf_32 0 rfl ?_
    refine E_getI C F_X0_9 dX0_settingOf_33 (fun x33 => ?_)
    exact E_iret C dX0_settingOf_36
  · refine E_ite (fun h1_1 => ?_) (fun h1_1 => ?_)
    · refine E_tabIn (kx := 1) (off := 36) C 37 h1_1 dX0_settingOf_1 (by decide +kernel) (by decide) ?_
      refine E_aload_n C dX0_settingOf_37 0 rfl ?_
      refine E_getI C F_X0_15 dX0_settingOf_38 (fun x38 => ?_)
      exact E_iret C dX0_settingOf_41
    · refine E_ite (fun h1_2 => ?_) (fun h1_2 => ?_)
      · refine E_tabIn (kx := 2) (off := 41) C 42 h1_2 dX0_settingOf_1 (by decide +kernel) (by decide) ?_
        refine E_aload_n C dX0_settingOf_42 0 rfl ?_
        refine E_getI C F_X0_18 dX0_settingOf_43 (fun x43 => ?_)
        exact E_iret C dX0_settingOf_46
      · refine E_ite (fun h1_3 => ?_) (fun h1_3 => ?_)
        · refine E_tabIn (kx := 3) (off := 46) C 47 h1_3 dX0_settingOf_1 (by decide +kernel) (by decide) ?_
          refine E_aload_n C dX0_settingOf_47 0 rfl ?_
          refine E_getI C F_X0_21 dX0_settingOf_48 (fun x48 => ?_)
          exact E_iret C dX0_settingOf_51
        · refine E_tabOut C 52 dX0_settingOf_1 (by have q0 := i32_ne h1_0 (n := 0) rfl; have q1 := i32_ne h1_1 (n := 1) rfl; have q2 := i32_ne h1_2 (n := 2) rfl; have q3 := i32_ne h1_3 (n := 3) rfl; omega) (by decide) ?_
          refine E_iconst C (-1) dX0_settingOf_52 (by decide) ?_
          exact E_iret C dX0_settingOf_53
def fX10_within (v0 : Int32) (v1 : Int32) (v2 : Int32) (μ : Mem) : Option (Int32 × Mem) :=
  if v0 < v1 then ((zz ((0 : Int32))).bind fun z => some (z, μ)) else (if v2 < v0 then ((zz ((0 : Int32))).bind fun z => some (z, μ)) else ((zz ((1 : Int32))).bind fun z => some (z, μ)))
set_option maxHeartbeats 4000000 in
set_option maxRecDepth 100000 in
theorem mX10_within (v0 : Int32) (v1 : Int32) (v2 : Int32) (μ : Mem) : Meth wI yX10_within cX10_within 3 (some .boolean) 0 [.int v0, .int v1, .int v2] μ (fX10_within v0 v1 v2 μ) := by
  refine Meth.of (by decide) [(0, .int v0), (1, .int v1), (2, .int v2)] rfl (Nat.le_of_ble_eq_true rfl) ?_
  intro p l e R s m args below meth c D ca ad A X C
  have C : CX p R s m args meth c D ca ad A X cX10_within RX10 3 (some .boolean) 0 := C
  unfold fX10_within
  refine E_iload_n C dX10_within_0 0 rfl ?_
  refine E_iload_n C dX10_within_1 1 rfl ?_
  refine E_icmp_lt C 14 dX10_within_2 (by decide) ?_ ?_
  · refine E_iconst C 0 dX10_within_14 (by decide) ?_
    exact E_zret C dX10_within_15
  · refine E_at (pc2 := 5) rfl ?_
    refine E_iload_n C dX10_within_5 0 rfl ?_
    refine E_iload_n C dX10_within_6 2 rfl ?_
    refine E_icmp_gt C 14 dX10_within_7 (by decide) ?_ ?_
    · refine E_iconst C 0 dX10_within_14 (by decide) ?_
      exact E_zret C dX10_within_15
    · refine E_at (pc2 := 10) rfl ?_
      refine E_iconst C 1 dX10_within_10 (by decide) ?_
      refine E_goto C 15 dX10_within_11 (by decide) ?_
      exact E_zret C dX10_within_15
def fX0_changeSetting (v0 : Nat) (v1 : Int32) (v2 : Int32) (μ : Mem) : Option (Int32 × Mem) :=
  bd (fX10_within v1 ((0 : Int32)) ((3 : Int32)) μ) fun x3 μ3 => if x3 = 0 then (some ((-1 : Int32), μ3)) else ((kI [1, 1, 0, 0] v1).bind fun x16 => (kI [12, 12, 9, 99] v1).bind fun x21 => bd (fX10_within v2 x16 x21 μ3) fun x22 μ22 => if x22 = 0 then (some ((-2 : Int32), μ22)) else ((isC μ22 v0 0).bind fun _ => bd (fX0_settingOf v0 v1 μ22) fun x33 μ33 => if v1 = 0 then ((pV μ33 v0 0 0 (.int v2)).bind fun μ66 => some (x33, μ66)) else if v1 = 1 then ((pV μ33 v0 0 1 (.int v2)).bind fun μ74 => some (x33, μ74)) else if v1 = 2 then ((pV μ33 v0 0 2 (.int v2)).bind fun μ82 => some (x33, μ82)) else ((pV μ33 v0 0 3 (.int v2)).bind fun μ90 => some (x33, μ90))))
set_option maxHeartbeats 4000000 in
set_option maxRecDepth 100000 in
theorem mX0_changeSetting (v0 : Nat) (v1 : Int32) (v2 : Int32) (μ : Mem) : Meth wI yX0_changeSetting cX0_changeSetting 4 (some .int) 1 [.ref v0, .int v1, .int v2] μ (fX0_changeSetting v0 v1 v2 μ) := by
  refine Meth.of (by decide) [(0, .ref v0), (1, .int v1), (2, .int v2)] rfl (Nat.le_of_ble_eq_true rfl) ?_
  intro p l e R s m args below meth c D ca ad A X C
  have C : CX p R s m args meth c D ca ad A X cX0_changeSetting RX0 4 (some .int) 1 := C
  unfold fX0_changeSetting
  refine E_iload_n C dX0_changeSetting_0 1 rfl ?_
  refine E_iconst C 0 dX0_changeSetting_1 (by decide) ?_
  refine E_iconst C 3 dX0_changeSetting_2 (by decide) ?_
  refine E_callNI (st := []) C [.int v1, .int ((0 : Int32)), .int ((3 : Int32))] (mX10_within v1 ((0 : Int32)) ((3 : Int32)) μ) cal_X10_within st_X10_within lk_X0_60 dX0_changeSetting_3 rfl rfl (Nat.le_of_ble_eq_true rfl) (Nat.le_of_ble_eq_true rfl) (fun x3 μ3 => ?_)
  refine E_if_ne C 11 dX0_changeSetting_6 (by decide) ?_ ?_
  · refine E_iload_n C dX0_changeSetting_11 2 rfl ?_
    refine E_getsN C (j := 1) rfl gs_X0_64 dX0_changeSetting_12 ?_
    refine E_iload_n C dX0_changeSetting_15 1 rfl ?_
    refine E_kald (q := ("SETTING_LEAST", [1, 1, 0, 0])) C rfl dX0_changeSetting_16 (fun x16 => ?_)
    refine E_getsN C (j := 2) rfl gs_X0_67 dX0_changeSetting_17 ?_
    refine E_iload_n C dX0_changeSetting_20 1 rfl ?_
    refine E_kald (q := ("SETTING_MOST", [12, 12, 9, 99])) C rfl dX0_changeSetting_21 (fun x21 => ?_)
    refine E_callNI (st := []) C [.int v2, .int x16, .int x21] (mX10_within v2 x16 x21 μ3) cal_X10_within st_X10_within lk_X0_60 dX0_changeSetting_22 rfl rfl (Nat.le_of_ble_eq_true rfl) (Nat.le_of_ble_eq_true rfl) (fun x22 μ22 => ?_)
    refine E_if_ne C 31 dX0_changeSetting_25 (by decide) ?_ ?_
    · refine E_aload_n C dX0_changeSetting_31 0 rfl ?_
      refine E_iload_n C dX0_changeSetting_32 1 rfl ?_
      refine E_callVI (st := []) C [.int v1] (mX0_settingOf v0 v1 μ22) cal_X0_settingOf vir_X0_settingOf lk_X0_70 dX0_changeSetting_33 rfl rfl (Nat.le_of_ble_eq_true rfl) (Nat.le_of_ble_eq_true rfl) (fun x33 μ33 => ?_)
      refine E_istore_n (lv' := [(3, .int x33), (0, .ref v0), (1, .int v1), (2, .int v2)]) C dX0_changeSetting_36 (by decide) rfl ?_
      refine E_iload_n C dX0_changeSetting_37 2 rfl ?_
      refine E_ite (fun h38_0 => ?_) (fun h38_0 => ?_)
      · refine E_tabIn (kx := 0) (off := 26) C 64 h38_0 dX0_changeSetting_38 (by decide +kernel) (by decide) ?_
        refine E_aload_n C dX0_changeSetting_64 1 rfl ?_
        refine E_iload_n C dX0_changeSetting_65 3 rfl ?_
        refine E_putI C P_X0_9 dX0_changeSetting_66 (fun μ66 => ?_)
        refine E_goto C 93 dX0_changeSetting_69 (by decide) ?_
        refine E_iload_n C dX0_changeSetting_93 0 rfl ?_
        exact E_iret C dX0_changeSetting_94
      · refine E_ite (fun h38_1 => ?_) (fun h38_1 => ?_)
        · refine E_tabIn (kx := 1) (off := 34) C 72 h38_1 dX0_changeSetting_38 (by decide +kernel) (by decide) ?_
          refine E_aload_n C dX0_changeSetting_72 1 rfl ?_
          refine E_iload_n C dX0_changeSetting_73 3 rfl ?_
          refine E_putI C P_X0_15 dX0_changeSetting_74 (fun μ74 => ?_)
          refine E_goto C 93 dX0_changeSetting_77 (by decide) ?_
          refine E_iload_n C dX0_changeSetting_93 0 rfl ?_
          exact E_iret C dX0_changeSetting_94
        · refine E_ite (fun h38_2 => ?_) (fun h38_2 => ?_)
          · refine E_tabIn (kx := 2) (off := 42) C 80 h38_2 dX0_changeSetting_38 (by decide +kernel) (by decide) ?_
            refine E_aload_n C dX0_changeSetting_80 1 rfl ?_
            refine E_iload_n C dX0_changeSetting_81 3 rfl ?_
            refine E_putI C P_X0_18 dX0_changeSetting_82 (fun μ82 => ?_)
            refine E_goto C 93 dX0_changeSetting_85 (by decide) ?_
            refine E_iload_n C dX0_changeSetting_93 0 rfl ?_
            exact E_iret C dX0_changeSetting_94
          · refine E_tabOut C 88 dX0_changeSetting_38 (by have q0 := i32_ne h38_0 (n := 0) rfl; have q1 := i32_ne h38_1 (n := 1) rfl; have q2 := i32_ne h38_2 (n := 2) rfl; omega) (by decide) ?_
            refine E_aload_n C dX0_changeSetting_88 1 rfl ?_
            refine E_iload_n C dX0_changeSetting_89 3 rfl ?_
            refine E_putI C P_X0_21 dX0_changeSetting_90 (fun μ90 => ?_)
            refine E_at (pc2 := 93) rfl ?_
            refine E_iload_n C dX0_changeSetting_93 0 rfl ?_
            exact E_iret C dX0_changeSetting_94
    · refine E_at (pc2 := 28) rfl ?_
      refine E_bipush C (-2) dX0_changeSetting_28 (by decide) ?_
      exact E_iret C dX0_changeSetting_30
  · refine E_at (pc2 := 9) rfl ?_
    refine E_iconst C (-1) dX0_changeSetting_9 (by decide) ?_
    exact E_iret C dX0_changeSetting_10
def fX10_isState (v0 : Int32) (μ : Mem) : Option (Int32 × Mem) :=
  bd (fX10_within v0 ((0 : Int32)) ((2 : Int32)) μ) fun x3 μ3 => (zz x3).bind fun z => some (z, μ3)
set_option maxHeartbeats 4000000 in
set_option maxRecDepth 100000 in
theorem mX10_isState (v0 : Int32) (μ : Mem) : Meth wI yX10_isState cX10_isState 1 (some .boolean) 1 [.int v0] μ (fX10_isState v0 μ) := by
  refine Meth.of (by decide) [(0, .int v0)] rfl (Nat.le_of_ble_eq_true rfl) ?_
  intro p l e R s m args below meth c D ca ad A X C
  have C : CX p R s m args meth c D ca ad A X cX10_isState RX10 1 (some .boolean) 1 := C
  unfold fX10_isState
  refine E_iload_n C dX10_isState_0 0 rfl ?_
  refine E_iconst C 0 dX10_isState_1 (by decide) ?_
  refine E_iconst C 2 dX10_isState_2 (by decide) ?_
  refine E_callSI (st := []) C [.int v0, .int ((0 : Int32)), .int ((2 : Int32))] (mX10_within v0 ((0 : Int32)) ((2 : Int32)) μ) cal_X10_within st_X10_within lk_X10_134 dX10_isState_3 rfl rfl (Nat.le_of_ble_eq_true rfl) (Nat.le_of_ble_eq_true rfl) (fun x3 μ3 => ?_)
  exact E_zret C dX10_isState_6
def fX0_changeInflow (v0 : Nat) (v1 : Int32) (v2 : Int32) (v3 : Int32) (μ : Mem) : Option (Int32 × Mem) :=
  bd (fX10_within v1 ((0 : Int32)) ((11 : Int32)) μ) fun x4 μ4 => if x4 = 0 then (some ((-1 : Int32), μ4)) else (bd (fX10_isState v2 μ4) fun x11 μ11 => if x11 = 0 then (some ((-1 : Int32), μ11)) else (bd (fX10_within v3 ((0 : Int32)) ((9 : Int32)) μ11) fun x23 μ23 => if x23 = 0 then (some ((-2 : Int32), μ23)) else ((gR μ23 v0 0 4).bind fun x33 => (aI μ23 0 x33 (((v1 * (3 : Int32)) + v2))).bind fun x41 => (gR μ23 v0 0 4).bind fun x45 => (sI μ23 x45 (((v1 * (3 : Int32)) + v2)) v3).bind fun μ54 => some (x41, μ54))))
set_option maxHeartbeats 4000000 in
set_option maxRecDepth 100000 in
theorem mX0_changeInflow (v0 : Nat) (v1 : Int32) (v2 : Int32) (v3 : Int32) (μ : Mem) : Meth wI yX0_changeInflow cX0_changeInflow 5 (some .int) 2 [.ref v0, .int v1, .int v2, .int v3] μ (fX0_changeInflow v0 v1 v2 v3 μ) := by
  refine Meth.of (by decide) [(0, .ref v0), (1, .int v1), (2, .int v2), (3, .int v3)] rfl (Nat.le_of_ble_eq_true rfl) ?_
  intro p l e R s m args below meth c D ca ad A X C
  have C : CX p R s m args meth c D ca ad A X cX0_changeInflow RX0 5 (some .int) 2 := C
  unfold fX0_changeInflow
  refine E_iload_n C dX0_changeInflow_0 1 rfl ?_
  refine E_iconst C 0 dX0_changeInflow_1 (by decide) ?_
  refine E_bipush C 11 dX0_changeInflow_2 (by decide) ?_
  refine E_callNI (st := []) C [.int v1, .int ((0 : Int32)), .int ((11 : Int32))] (mX10_within v1 ((0 : Int32)) ((11 : Int32)) μ) cal_X10_within st_X10_within lk_X0_60 dX0_changeInflow_4 rfl rfl (Nat.le_of_ble_eq_true rfl) (Nat.le_of_ble_eq_true rfl) (fun x4 μ4 => ?_)
  refine E_if_eq C 17 dX0_changeInflow_7 (by decide) ?_ ?_
  · refine E_iconst C (-1) dX0_changeInflow_17 (by decide) ?_
    exact E_iret C dX0_changeInflow_18
  · refine E_at (pc2 := 10) rfl ?_
    refine E_iload_n C dX0_changeInflow_10 2 rfl ?_
    refine E_callNI (st := []) C [.int v2] (mX10_isState v2 μ4) cal_X10_isState st_X10_isState lk_X0_74 dX0_changeInflow_11 rfl rfl (Nat.le_of_ble_eq_true rfl) (Nat.le_of_ble_eq_true rfl) (fun x11 μ11 => ?_)
    refine E_if_ne C 19 dX0_changeInflow_14 (by decide) ?_ ?_
    · refine E_iload_n C dX0_changeInflow_19 3 rfl ?_
      refine E_iconst C 0 dX0_changeInflow_20 (by decide) ?_
      refine E_bipush C 9 dX0_changeInflow_21 (by decide) ?_
      refine E_callNI (st := []) C [.int v3, .int ((0 : Int32)), .int ((9 : Int32))] (mX10_within v3 ((0 : Int32)) ((9 : Int32)) μ11) cal_X10_within st_X10_within lk_X0_60 dX0_changeInflow_23 rfl rfl (Nat.le_of_ble_eq_true rfl) (Nat.le_of_ble_eq_true rfl) (fun x23 μ23 => ?_)
      refine E_if_ne C 32 dX0_changeInflow_26 (by decide) ?_ ?_
      · refine E_aload_n C dX0_changeInflow_32 0 rfl ?_
        refine E_getR C F_X0_24 dX0_changeInflow_33 (fun x33 => ?_)
        refine E_iload_n C dX0_changeInflow_36 1 rfl ?_
        refine E_iconst C 3 dX0_changeInflow_37 (by decide) ?_
        refine E_imul C dX0_changeInflow_38 ?_
        refine E_iload_n C dX0_changeInflow_39 2 rfl ?_
        refine E_iadd C dX0_changeInflow_40 ?_
        refine E_iaload C dX0_changeInflow_41 (fun x41 => ?_)
        refine E_istore (lv' := [(4, .int x41), (0, .ref v0), (1, .int v1), (2, .int v2), (3, .int v3)]) C dX0_changeInflow_42 (by decide) rfl ?_
        refine E_aload_n C dX0_changeInflow_44 1 rfl ?_
        refine E_getR C F_X0_24 dX0_changeInflow_45 (fun x45 => ?_)
        refine E_iload_n C dX0_changeInflow_48 2 rfl ?_
        refine E_iconst C 3 dX0_changeInflow_49 (by decide) ?_
        refine E_imul C dX0_changeInflow_50 ?_
        refine E_iload_n C dX0_changeInflow_51 3 rfl ?_
        refine E_iadd C dX0_changeInflow_52 ?_
        refine E_iload_n C dX0_changeInflow_53 4 rfl ?_
        refine E_iastore C dX0_changeInflow_54 (fun μ54 => ?_)
        refine E_iload C dX0_changeInflow_55 0 rfl ?_
        exact E_iret C dX0_changeInflow_57
      · refine E_at (pc2 := 29) rfl ?_
        refine E_bipush C (-2) dX0_changeInflow_29 (by decide) ?_
        exact E_iret C dX0_changeInflow_31
    · refine E_at (pc2 := 17) rfl ?_
      refine E_iconst C (-1) dX0_changeInflow_17 (by decide) ?_
      exact E_iret C dX0_changeInflow_18
def fX0_allPartsFrom (v0 : Nat) (v1 : Int32) (μ : Mem) : Option (Int32 × Mem) :=
  (gR μ v0 0 5).bind fun x1 => (aI μ 0 x1 ((v1 * (3 : Int32)))).bind fun x7 => (gR μ v0 0 5).bind fun x9 => (aI μ 0 x9 (((v1 * (3 : Int32)) + (1 : Int32)))).bind fun x17 => (gR μ v0 0 5).bind fun x20 => (aI μ 0 x20 (((v1 * (3 : Int32)) + (2 : Int32)))).bind fun x28 => some (((x7 + x17) + x28), μ)
set_option maxHeartbeats 4000000 in
set_option maxRecDepth 100000 in
theorem mX0_allPartsFrom (v0 : Nat) (v1 : Int32) (μ : Mem) : Meth wI yX0_allPartsFrom cX0_allPartsFrom 2 (some .int) 0 [.ref v0, .int v1] μ (fX0_allPartsFrom v0 v1 μ) := by
  refine Meth.of (by decide) [(0, .ref v0), (1, .int v1)] rfl (Nat.le_of_ble_eq_true rfl) ?_
  intro p l e R s m args below meth c D ca ad A X C
  have C : CX p R s m args meth c D ca ad A X cX0_allPartsFrom RX0 2 (some .int) 0 := C
  unfold fX0_allPartsFrom
  refine E_aload_n C dX0_allPartsFrom_0 0 rfl ?_
  refine E_getR C F_X0_28 dX0_allPartsFrom_1 (fun x1 => ?_)
  refine E_iload_n C dX0_allPartsFrom_4 1 rfl ?_
  refine E_iconst C 3 dX0_allPartsFrom_5 (by decide) ?_
  refine E_imul C dX0_allPartsFrom_6 ?_
  refine E_iaload C dX0_allPartsFrom_7 (fun x7 => ?_)
  refine E_aload_n C dX0_allPartsFrom_8 0 rfl ?_
  refine E_getR C F_X0_28 dX0_allPartsFrom_9 (fun x9 => ?_)
  refine E_iload_n C dX0_allPartsFrom_12 1 rfl ?_
  refine E_iconst C 3 dX0_allPartsFrom_13 (by decide) ?_
  refine E_imul C dX0_allPartsFrom_14 ?_
  refine E_iconst C 1 dX0_allPartsFrom_15 (by decide) ?_
  refine E_iadd C dX0_allPartsFrom_16 ?_
  refine E_iaload C dX0_allPartsFrom_17 (fun x17 => ?_)
  refine E_iadd C dX0_allPartsFrom_18 ?_
  refine E_aload_n C dX0_allPartsFrom_19 0 rfl ?_
  refine E_getR C F_X0_28 dX0_allPartsFrom_20 (fun x20 => ?_)
  refine E_iload_n C dX0_allPartsFrom_23 1 rfl ?_
  refine E_iconst C 3 dX0_allPartsFrom_24 (by decide) ?_
  refine E_imul C dX0_allPartsFrom_25 ?_
  refine E_iconst C 2 dX0_allPartsFrom_26 (by decide) ?_
  refine E_iadd C dX0_allPartsFrom_27 ?_
  refine E_iaload C dX0_allPartsFrom_28 (fun x28 => ?_)
  refine E_iadd C dX0_allPartsFrom_29 ?_
  exact E_iret C dX0_allPartsFrom_30
def fX0_changePart (v0 : Nat) (v1 : Int32) (v2 : Int32) (v3 : Int32) (μ : Mem) : Option (Int32 × Mem) :=
  bd (fX10_isState v1 μ) fun x1 μ1 => if x1 = 0 then (some ((-1 : Int32), μ1)) else (bd (fX10_isState v2 μ1) fun x8 μ8 => if x8 = 0 then (some ((-1 : Int32), μ8)) else ((gR μ8 v0 0 5).bind fun x17 => (aI μ8 0 x17 (((v1 * (3 : Int32)) + v2))).bind fun x25 => bd (fX10_within v3 ((0 : Int32)) ((9 : Int32)) μ8) fun x32 μ32 => if x32 = 0 then (some ((-2 : Int32), μ32)) else ((isC μ32 v0 0).bind fun _ => bd (fX0_allPartsFrom v0 v1 μ32) fun x40 μ40 => if ((x40 - x25) + v3) = 0 then (some ((-2 : Int32), μ40)) else ((gR μ40 v0 0 5).bind fun x55 => (sI μ40 x55 (((v1 * (3 : Int32)) + v2)) v3).bind fun μ64 => some (x25, μ64)))))
set_option maxHeartbeats 4000000 in
set_option maxRecDepth 100000 in
theorem mX0_changePart (v0 : Nat) (v1 : Int32) (v2 : Int32) (v3 : Int32) (μ : Mem) : Meth wI yX0_changePart cX0_changePart 5 (some .int) 2 [.ref v0, .int v1, .int v2, .int v3] μ (fX0_changePart v0 v1 v2 v3 μ) := by
  refine Meth.of (by decide) [(0, .ref v0), (1, .int v1), (2, .int v2), (3, .int v3)] rfl (Nat.le_of_ble_eq_true rfl) ?_
  intro p l e R s m args below meth c D ca ad A X C
  have C : CX p R s m args meth c D ca ad A X cX0_changePart RX0 5 (some .int) 2 := C
  unfold fX0_changePart
  refine E_iload_n C dX0_changePart_0 1 rfl ?_
  refine E_callNI (st := []) C [.int v1] (mX10_isState v1 μ) cal_X10_isState st_X10_isState lk_X0_74 dX0_changePart_1 rfl rfl (Nat.le_of_ble_eq_true rfl) (Nat.le_of_ble_eq_true rfl) (fun x1 μ1 => ?_)
  refine E_if_eq C 14 dX0_changePart_4 (by decide) ?_ ?_
  · refine E_iconst C (-1) dX0_changePart_14 (by decide) ?_
    exact E_iret C dX0_changePart_15
  · refine E_at (pc2 := 7) rfl ?_
    refine E_iload_n C dX0_changePart_7 2 rfl ?_
    refine E_callNI (st := []) C [.int v2] (mX10_isState v2 μ1) cal_X10_isState st_X10_isState lk_X0_74 dX0_changePart_8 rfl rfl (Nat.le_of_ble_eq_true rfl) (Nat.le_of_ble_eq_true rfl) (fun x8 μ8 => ?_)
    refine E_if_ne C 16 dX0_changePart_11 (by decide) ?_ ?_
    · refine E_aload_n C dX0_changePart_16 0 rfl ?_
      refine E_getR C F_X0_28 dX0_changePart_17 (fun x17 => ?_)
      refine E_iload_n C dX0_changePart_20 1 rfl ?_
      refine E_iconst C 3 dX0_changePart_21 (by decide) ?_
      refine E_imul C dX0_changePart_22 ?_
      refine E_iload_n C dX0_changePart_23 2 rfl ?_
      refine E_iadd C dX0_changePart_24 ?_
      refine E_iaload C dX0_changePart_25 (fun x25 => ?_)
      refine E_istore (lv' := [(4, .int x25), (0, .ref v0), (1, .int v1), (2, .int v2), (3, .int v3)]) C dX0_changePart_26 (by decide) rfl ?_
      refine E_iload_n C dX0_changePart_28 4 rfl ?_
      refine E_iconst C 0 dX0_changePart_29 (by decide) ?_
      refine E_bipush C 9 dX0_changePart_30 (by decide) ?_
      refine E_callNI (st := []) C [.int v3, .int ((0 : Int32)), .int ((9 : Int32))] (mX10_within v3 ((0 : Int32)) ((9 : Int32)) μ8) cal_X10_within st_X10_within lk_X0_60 dX0_changePart_32 rfl rfl (Nat.le_of_ble_eq_true rfl) (Nat.le_of_ble_eq_true rfl) (fun x32 μ32 => ?_)
      refine E_if_eq C 51 dX0_changePart_35 (by decide) ?_ ?_
      · refine E_bipush C (-2) dX0_changePart_51 (by decide) ?_
        exact E_iret C dX0_changePart_53
      · refine E_at (pc2 := 38) rfl ?_
        refine E_aload_n C dX0_changePart_38 1 rfl ?_
        refine E_iload_n C dX0_changePart_39 2 rfl ?_
        refine E_callVI (st := []) C [.int v1] (mX0_allPartsFrom v0 v1 μ32) cal_X0_allPartsFrom vir_X0_allPartsFrom lk_X0_78 dX0_changePart_40 rfl rfl (Nat.le_of_ble_eq_true rfl) (Nat.le_of_ble_eq_true rfl) (fun x40 μ40 => ?_)
        refine E_iload C dX0_changePart_43 0 rfl ?_
        refine E_isub C dX0_changePart_45 ?_
        refine E_iload_n C dX0_changePart_46 4 rfl ?_
        refine E_iadd C dX0_changePart_47 ?_
        refine E_if_ne C 54 dX0_changePart_48 (by decide) ?_ ?_
        · refine E_aload_n C dX0_changePart_54 1 rfl ?_
          refine E_getR C F_X0_28 dX0_changePart_55 (fun x55 => ?_)
          refine E_iload_n C dX0_changePart_58 2 rfl ?_
          refine E_iconst C 3 dX0_changePart_59 (by decide) ?_
          refine E_imul C dX0_changePart_60 ?_
          refine E_iload_n C dX0_changePart_61 3 rfl ?_
          refine E_iadd C dX0_changePart_62 ?_
          refine E_iload_n C dX0_changePart_63 4 rfl ?_
          refine E_iastore C dX0_changePart_64 (fun μ64 => ?_)
          refine E_iload C dX0_changePart_65 0 rfl ?_
          exact E_iret C dX0_changePart_67
        · refine E_at (pc2 := 51) rfl ?_
          refine E_bipush C (-2) dX0_changePart_51 (by decide) ?_
          exact E_iret C dX0_changePart_53
    · refine E_at (pc2 := 14) rfl ?_
      refine E_iconst C (-1) dX0_changePart_14 (by decide) ?_
      exact E_iret C dX0_changePart_15
def fX0_changeParts (v0 : Nat) (v1 : Int32) (v2 : Int32) (v3 : Int32) (v4 : Int32) (μ : Mem) : Option (Int32 × Mem) :=
  bd (fX10_isState v1 μ) fun x1 μ1 => if x1 = 0 then ((zz ((0 : Int32))).bind fun z => some (z, μ1)) else (if ((v2 + v3) + v4) = 0 then ((zz ((0 : Int32))).bind fun z => some (z, μ1)) else ((gR μ1 v0 0 5).bind fun x19 => (sI μ1 x19 ((v1 * (3 : Int32))) v2).bind fun μ26 => (gR μ26 v0 0 5).bind fun x28 => (sI μ26 x28 (((v1 * (3 : Int32)) + (1 : Int32))) v3).bind fun μ37 => (gR μ37 v0 0 5).bind fun x39 => (sI μ37 x39 (((v1 * (3 : Int32)) + (2 : Int32))) v4).bind fun μ49 => (zz ((1 : Int32))).bind fun z => some (z, μ49)))
set_option maxHeartbeats 4000000 in
set_option maxRecDepth 100000 in
theorem mX0_changeParts (v0 : Nat) (v1 : Int32) (v2 : Int32) (v3 : Int32) (v4 : Int32) (μ : Mem) : Meth wI yX0_changeParts cX0_changeParts 5 (some .boolean) 2 [.ref v0, .int v1, .int v2, .int v3, .int v4] μ (fX0_changeParts v0 v1 v2 v3 v4 μ) := by
  refine Meth.of (by decide) [(0, .ref v0), (1, .int v1), (2, .int v2), (3, .int v3), (4, .int v4)] rfl (Nat.le_of_ble_eq_true rfl) ?_
  intro p l e R s m args below meth c D ca ad A X C
  have C : CX p R s m args meth c D ca ad A X cX0_changeParts RX0 5 (some .boolean) 2 := C
  unfold fX0_changeParts
  refine E_iload_n C dX0_changeParts_0 1 rfl ?_
  refine E_callNI (st := []) C [.int v1] (mX10_isState v1 μ) cal_X10_isState st_X10_isState lk_X0_74 dX0_changeParts_1 rfl rfl (Nat.le_of_ble_eq_true rfl) (Nat.le_of_ble_eq_true rfl) (fun x1 μ1 => ?_)
  refine E_if_eq C 16 dX0_changeParts_4 (by decide) ?_ ?_
  · refine E_iconst C 0 dX0_changeParts_16 (by decide) ?_
    exact E_zret C dX0_changeParts_17
  · refine E_at (pc2 := 7) rfl ?_
    refine E_iload_n C dX0_changeParts_7 2 rfl ?_
    refine E_iload_n C dX0_changeParts_8 3 rfl ?_
    refine E_iadd C dX0_changeParts_9 ?_
    refine E_iload C dX0_changeParts_10 4 rfl ?_
    refine E_iadd C dX0_changeParts_12 ?_
    refine E_if_ne C 18 dX0_changeParts_13 (by decide) ?_ ?_
    · refine E_aload_n C dX0_changeParts_18 0 rfl ?_
      refine E_getR C F_X0_28 dX0_changeParts_19 (fun x19 => ?_)
      refine E_iload_n C dX0_changeParts_22 1 rfl ?_
      refine E_iconst C 3 dX0_changeParts_23 (by decide) ?_
      refine E_imul C dX0_changeParts_24 ?_
      refine E_iload_n C dX0_changeParts_25 2 rfl ?_
      refine E_iastore C dX0_changeParts_26 (fun μ26 => ?_)
      refine E_aload_n C dX0_changeParts_27 0 rfl ?_
      refine E_getR C F_X0_28 dX0_changeParts_28 (fun x28 => ?_)
      refine E_iload_n C dX0_changeParts_31 1 rfl ?_
      refine E_iconst C 3 dX0_changeParts_32 (by decide) ?_
      refine E_imul C dX0_changeParts_33 ?_
      refine E_iconst C 1 dX0_changeParts_34 (by decide) ?_
      refine E_iadd C dX0_changeParts_35 ?_
      refine E_iload_n C dX0_changeParts_36 3 rfl ?_
      refine E_iastore C dX0_changeParts_37 (fun μ37 => ?_)
      refine E_aload_n C dX0_changeParts_38 0 rfl ?_
      refine E_getR C F_X0_28 dX0_changeParts_39 (fun x39 => ?_)
      refine E_iload_n C dX0_changeParts_42 1 rfl ?_
      refine E_iconst C 3 dX0_changeParts_43 (by decide) ?_
      refine E_imul C dX0_changeParts_44 ?_
      refine E_iconst C 2 dX0_changeParts_45 (by decide) ?_
      refine E_iadd C dX0_changeParts_46 ?_
      refine E_iload C dX0_changeParts_47 4 rfl ?_
      refine E_iastore C dX0_changeParts_49 (fun μ49 => ?_)
      refine E_iconst C 1 dX0_changeParts_50 (by decide) ?_
      exact E_zret C dX0_changeParts_51
    · refine E_at (pc2 := 16) rfl ?_
      refine E_iconst C 0 dX0_changeParts_16 (by decide) ?_
      exact E_zret C dX0_changeParts_17
def fX0_changeMonth (v0 : Nat) (v1 : Int32) (v2 : Int32) (v3 : Int32) (μ : Mem) : Option (Int32 × Mem) :=
  bd (fX10_within v1 ((0 : Int32)) ((11 : Int32)) μ) fun x4 μ4 => if x4 = 0 then (some ((-1 : Int32), μ4)) else (bd (fX10_within v2 ((0 : Int32)) ((1 : Int32)) μ4) fun x13 μ13 => if x13 = 0 then (some ((-1 : Int32), μ13)) else (bd (fX10_within v3 ((0 : Int32)) ((9 : Int32)) μ13) fun x25 μ25 => if x25 = 0 then (some ((-2 : Int32), μ25)) else (jn (fun (s0_49 : Nat) (μ_49 : Mem) => (aI μ_49 0 s0_49 v1).bind fun x54 => (sI μ_49 s0_49 v1 v3).bind fun μ61 => some (x54, μ61)) (fun j49 => if v2 = 0 then ((gR μ25 v0 0 6).bind fun x39 => j49 x39 μ25) else ((gR μ25 v0 0 7).bind fun x46 => j49 x46 μ25)))))
set_option maxHeartbeats 4000000 in
set_option maxRecDepth 100000 in
theorem mX0_changeMonth (v0 : Nat) (v1 : Int32) (v2 : Int32) (v3 : Int32) (μ : Mem) : Meth wI yX0_changeMonth cX0_changeMonth 6 (some .int) 1 [.ref v0, .int v1, .int v2, .int v3] μ (fX0_changeMonth v0 v1 v2 v3 μ) := by
  refine Meth.of (by decide) [(0, .ref v0), (1, .int v1), (2, .int v2), (3, .int v3)] rfl (Nat.le_of_ble_eq_true rfl) ?_
  intro p l e R s m args below meth c D ca ad A X C
  have C : CX p R s m args meth c D ca ad A X cX0_changeMonth RX0 6 (some .int) 1 := C
  unfold fX0_changeMonth
  refine E_iload_n C dX0_changeMonth_0 1 rfl ?_
  refine E_iconst C 0 dX0_changeMonth_1 (by decide) ?_
  refine E_bipush C 11 dX0_changeMonth_2 (by decide) ?_
  refine E_callNI (st := []) C [.int v1, .int ((0 : Int32)), .int ((11 : Int32))] (mX10_within v1 ((0 : Int32)) ((11 : Int32)) μ) cal_X10_within st_X10_within lk_X0_60 dX0_changeMonth_4 rfl rfl (Nat.le_of_ble_eq_true rfl) (Nat.le_of_ble_eq_true rfl) (fun x4 μ4 => ?_)
  refine E_if_eq C 19 dX0_changeMonth_7 (by decide) ?_ ?_
  · refine E_iconst C (-1) dX0_changeMonth_19 (by decide) ?_
    exact E_iret C dX0_changeMonth_20
  · refine E_at (pc2 := 10) rfl ?_
    refine E_iload_n C dX0_changeMonth_10 2 rfl ?_
    refine E_iconst C 0 dX0_changeMonth_11 (by decide) ?_
    refine E_iconst C 1 dX0_changeMonth_12 (by decide) ?_
    refine E_callNI (st := []) C [.int v2, .int ((0 : Int32)), .int ((1 : Int32))] (mX10_within v2 ((0 : Int32)) ((1 : Int32)) μ4) cal_X10_within st_X10_within lk_X0_60 dX0_changeMonth_13 rfl rfl (Nat.le_of_ble_eq_true rfl) (Nat.le_of_ble_eq_true rfl) (fun x13 μ13 => ?_)
    refine E_if_ne C 21 dX0_changeMonth_16 (by decide) ?_ ?_
    · refine E_iload_n C dX0_changeMonth_21 3 rfl ?_
      refine E_iconst C 0 dX0_changeMonth_22 (by decide) ?_
      refine E_bipush C 9 dX0_changeMonth_23 (by decide) ?_
      refine E_callNI (st := []) C [.int v3, .int ((0 : Int32)), .int ((9 : Int32))] (mX10_within v3 ((0 : Int32)) ((9 : Int32)) μ13) cal_X10_within st_X10_within lk_X0_60 dX0_changeMonth_25 rfl rfl (Nat.le_of_ble_eq_true rfl) (Nat.le_of_ble_eq_true rfl) (fun x25 μ25 => ?_)
      refine E_if_ne C 34 dX0_changeMonth_28 (by decide) ?_ ?_
      · refine E_iload_n C dX0_changeMonth_34 2 rfl ?_
        refine E_jn (fun j49 => ∀ (s0_49 : Nat) (μ_49 : Mem), Sm p l e R s m args below meth c D ca ad A 6 0 0 wI (KQ below args s D ca ad A) 49 [(1, .int v1), (3, .int v3)] [.ref s0_49] μ_49 (j49 s0_49 μ_49)) ?_ (fun j49 hj49 => ?_)
        · intro s0_49 μ_49
          refine E_astore (lv' := [(4, .ref s0_49), (1, .int v1), (3, .int v3)]) C dX0_changeMonth_49 (by decide) rfl ?_
          refine E_aload C dX0_changeMonth_51 0 rfl ?_
          refine E_iload_n C dX0_changeMonth_53 1 rfl ?_
          refine E_iaload C dX0_changeMonth_54 (fun x54 => ?_)
          refine E_istore (lv' := [(5, .int x54), (4, .ref s0_49), (1, .int v1), (3, .int v3)]) C dX0_changeMonth_55 (by decide) rfl ?_
          refine E_aload C dX0_changeMonth_57 1 rfl ?_
          refine E_iload_n C dX0_changeMonth_59 2 rfl ?_
          refine E_iload_n C dX0_changeMonth_60 3 rfl ?_
          refine E_iastore C dX0_changeMonth_61 (fun μ61 => ?_)
          refine E_iload C dX0_changeMonth_62 0 rfl ?_
          exact E_iret C dX0_changeMonth_64
        · refine E_if_ne C 45 dX0_changeMonth_35 (by decide) ?_ ?_
          · refine E_aload_n C dX0_changeMonth_45 0 rfl ?_
            refine E_getR C F_X0_34 dX0_changeMonth_46 (fun x46 => ?_)
            exact E_pick [1, 3] rfl (hj49 x46 μ25)
          · refine E_at (pc2 := 38) rfl ?_
            refine E_aload_n C dX0_changeMonth_38 0 rfl ?_
            refine E_getR C F_X0_31 dX0_changeMonth_39 (fun x39 => ?_)
            refine E_goto C 49 dX0_changeMonth_42 (by decide) ?_
            exact E_pick [1, 3] rfl (hj49 x39 μ25)
      · refine E_at (pc2 := 31) rfl ?_
        refine E_bipush C (-2) dX0_changeMonth_31 (by decide) ?_
        exact E_iret C dX0_changeMonth_33
    · refine E_at (pc2 := 19) rfl ?_
      refine E_iconst C (-1) dX0_changeMonth_19 (by decide) ?_
      exact E_iret C dX0_changeMonth_20
def fX0_isFit (v0 : Int32) (v1 : Int32) (μ : Mem) : Option (Int32 × Mem) :=
  (kI [0, 1, 0] v0).bind fun x5 => (kI [9, 9, 99] v0).bind fun x10 => bd (fX10_within v1 x5 x10 μ) fun x11 μ11 => (zz x11).bind fun z => some (z, μ11)
set_option maxHeartbeats 4000000 in
set_option maxRecDepth 100000 in
theorem mX0_isFit (v0 : Int32) (v1 : Int32) (μ : Mem) : Meth wI yX0_isFit cX0_isFit 2 (some .boolean) 1 [.int v0, .int v1] μ (fX0_isFit v0 v1 μ) := by
  refine Meth.of (by decide) [(0, .int v0), (1, .int v1)] rfl (Nat.le_of_ble_eq_true rfl) ?_
  intro p l e R s m args below meth c D ca ad A X C
  have C : CX p R s m args meth c D ca ad A X cX0_isFit RX0 2 (some .boolean) 1 := C
  unfold fX0_isFit
  refine E_iload_n C dX0_isFit_0 1 rfl ?_
  refine E_getsN C (j := 3) rfl gs_X0_106 dX0_isFit_1 ?_
  refine E_iload_n C dX0_isFit_4 0 rfl ?_
  refine E_kald (q := ("RENEW_LEAST", [0, 1, 0])) C rfl dX0_isFit_5 (fun x5 => ?_)
  refine E_getsN C (j := 4) rfl gs_X0_109 dX0_isFit_6 ?_
  refine E_iload_n C dX0_isFit_9 0 rfl ?_
  refine E_kald (q := ("RENEW_MOST", [9, 9, 99])) C rfl dX0_isFit_10 (fun x10 => ?_)
  refine E_callNI (st := []) C [.int v1, .int x5, .int x10] (mX10_within v1 x5 x10 μ) cal_X10_within st_X10_within lk_X0_60 dX0_isFit_11 rfl rfl (Nat.le_of_ble_eq_true rfl) (Nat.le_of_ble_eq_true rfl) (fun x11 μ11 => ?_)
  exact E_zret C dX0_isFit_14
def X0_placeByRank_L4 (G : Int32 → Mem → Option (Int32 × Mem)) (v0 : Nat) (v1 : Int32) : Nat → Int32 → Int32 → Mem → Option (Int32 × Mem)
  | 0, _, _, _ => none
  | n + 1, v2, v3, μ => (gI μ v0 0 10).bind fun x6 => if x6 ≤ v3 then (G v2 μ) else ((gR μ v0 0 8).bind fun x13 => (aR μ 4 x13 v3).bind fun x17 => (gI μ x17 5 1).bind fun x18 => (gR μ v0 0 8).bind fun x22 => (aR μ 4 x22 v1).bind fun x26 => (gI μ x26 5 1).bind fun x27 => if x18 < x27 then (X0_placeByRank_L4 G v0 v1 n ((v2 + 1)) ((v3 + 1)) μ) else ((gR μ v0 0 8).bind fun x34 => (aR μ 4 x34 v3).bind fun x38 => (gI μ x38 5 1).bind fun x39 => (gR μ v0 0 8).bind fun x43 => (aR μ 4 x43 v1).bind fun x47 => (gI μ x47 5 1).bind fun x48 => if x39 = x48 then (if v1 ≤ v3 then (X0_placeByRank_L4 G v0 v1 n v2 ((v3 + 1)) μ) else (X0_placeByRank_L4 G v0 v1 n ((v2 + 1)) ((v3 + 1)) μ)) else (X0_placeByRank_L4 G v0 v1 n v2 ((v3 + 1)) μ)))
set_option maxHeartbeats 4000000 in
set_option maxRecDepth 100000 in
theorem X0_placeByRank_L4_ok {p : Program} {l : Launch} {e : Env} {R : Room} {s : State} {m : MethodId} {args : Array Value} {below : List Frame} {meth : Method} {c : Code} {D : va_G} {ca : Nat → ClassId} {ad : Nat → Nat} {A : Nat → Prop} {X : State → Prop} (C : CX p R s m args meth c D ca ad A X cX0_placeByRank RX0 4 (some .int) 0) {G : Int32 → Mem → Option (Int32 × Mem)} (v0 : Nat) (v1 : Int32) (hG : ∀ (v2x : Int32) (μx : Mem), Sm p l e R s m args below meth c D ca ad A 4 0 0 wI (KQ below args s D ca ad A) 68 [(2, .int v2x)] [] μx (G v2x μx)) : ∀ (n : Nat) (v2 : Int32) (v3 : Int32) (μ : Mem), Sm p l e R s m args below meth c D ca ad A 4 0 0 wI (KQ below args s D ca ad A) 4 [(0, .ref v0), (1, .int v1), (2, .int v2), (3, .int v3)] [] μ (X0_placeByRank_L4 G v0 v1 n v2 v3 μ) := by
  intro n
  induction n with
  | zero =>
    intro v2 v3 μ
    rw [X0_placeByRank_L4]
    exact E_none
  | succ n ih =>
    intro v2 v3 μ
    rw [X0_placeByRank_L4]
    refine E_iload_n C dX0_placeByRank_4 3 rfl ?_
    refine E_aload_n C dX0_placeByRank_5 0 rfl ?_
    refine E_getI C F_X0_46 dX0_placeByRank_6 (fun x6 => ?_)
    refine E_icmp_ge C 68 dX0_placeByRank_9 (by decide) ?_ ?_
    · exact E_pick [2] rfl (hG v2 μ)
    · refine E_at (pc2 := 12) rfl ?_
      refine E_aload_n C dX0_placeByRank_12 0 rfl ?_
      refine E_getR C F_X0_39 dX0_placeByRank_13 (fun x13 => ?_)
      refine E_iload_n C dX0_placeByRank_16 3 rfl ?_
      refine E_aaload C rfl dX0_placeByRank_17 (fun x17 => ?_)
      refine E_getI C F_X0_88 dX0_placeByRank_18 (fun x18 => ?_)
      refine E_aload_n C dX0_placeByRank_21 0 rfl ?_
      refine E_getR C F_X0_39 dX0_placeByRank_22 (fun x22 => ?_)
      refine E_iload_n C dX0_placeByRank_25 1 rfl ?_
      refine E_aaload C rfl dX0_placeByRank_26 (fun x26 => ?_)
      refine E_getI C F_X0_88 dX0_placeByRank_27 (fun x27 => ?_)
      refine E_icmp_lt C 59 dX0_placeByRank_30 (by decide) ?_ ?_
      · refine E_iinc (lv' := [(2, .int ((v2 + 1))), (0, .ref v0), (1, .int v1), (3, .int v3)]) C (v2 + 1) dX0_placeByRank_59 2 rfl rfl (by decide) rfl ?_
        refine E_at (pc2 := 62) rfl ?_
        refine E_iinc (lv' := [(3, .int ((v3 + 1))), (2, .int ((v2 + 1))), (0, .ref v0), (1, .int v1)]) C (v3 + 1) dX0_placeByRank_62 3 rfl rfl (by decide) rfl ?_
        refine E_goto C 4 dX0_placeByRank_65 (by decide) ?_
        exact E_pick [2, 3, 1, 0] rfl (ih ((v2 + 1)) ((v3 + 1)) μ)
      · refine E_at (pc2 := 33) rfl ?_
        refine E_aload_n C dX0_placeByRank_33 0 rfl ?_
        refine E_getR C F_X0_39 dX0_placeByRank_34 (fun x34 => ?_)
        refine E_iload_n C dX0_placeByRank_37 3 rfl ?_
        refine E_aaload C rfl dX0_placeByRank_38 (fun x38 => ?_)
        refine E_getI C F_X0_88 dX0_placeByRank_39 (fun x39 => ?_)
        refine E_aload_n C dX0_placeByRank_42 0 rfl ?_
        refine E_getR C F_X0_39 dX0_placeByRank_43 (fun x43 => ?_)
        refine E_iload_n C dX0_placeByRank_46 1 rfl ?_
        refine E_aaload C rfl dX0_placeByRank_47 (fun x47 => ?_)
        refine E_getI C F_X0_88 dX0_placeByRank_48 (fun x48 => ?_)
        refine E_icmp_ne C 62 dX0_placeByRank_51 (by decide) ?_ ?_
        · refine E_iinc (lv' := [(3, .int ((v3 + 1))), (0, .ref v0), (1, .int v1), (2, .int v2)]) C (v3 + 1) dX0_placeByRank_62 3 rfl rfl (by decide) rfl ?_
          refine E_goto C 4 dX0_placeByRank_65 (by decide) ?_
          exact E_pick [1, 2, 3, 0] rfl (ih v2 ((v3 + 1)) μ)
        · refine E_at (pc2 := 54) rfl ?_
          refine E_iload_n C dX0_placeByRank_54 3 rfl ?_
          refine E_iload_n C dX0_placeByRank_55 1 rfl ?_
          refine E_icmp_ge C 62 dX0_placeByRank_56 (by decide) ?_ ?_
          · refine E_iinc (lv' := [(3, .int ((v3 + 1))), (0, .ref v0), (1, .int v1), (2, .int v2)]) C (v3 + 1) dX0_placeByRank_62 3 rfl rfl (by decide) rfl ?_
            refine E_goto C 4 dX0_placeByRank_65 (by decide) ?_
            exact E_pick [1, 2, 3, 0] rfl (ih v2 ((v3 + 1)) μ)
          · refine E_at (pc2 := 59) rfl ?_
            refine E_iinc (lv' := [(2, .int ((v2 + 1))), (0, .ref v0), (1, .int v1), (3, .int v3)]) C (v2 + 1) dX0_placeByRank_59 2 rfl rfl (by decide) rfl ?_
            refine E_at (pc2 := 62) rfl ?_
            refine E_iinc (lv' := [(3, .int ((v3 + 1))), (2, .int ((v2 + 1))), (0, .ref v0), (1, .int v1)]) C (v3 + 1) dX0_placeByRank_62 3 rfl rfl (by decide) rfl ?_
            refine E_goto C 4 dX0_placeByRank_65 (by decide) ?_
            exact E_pick [2, 3, 1, 0] rfl (ih ((v2 + 1)) ((v3 + 1)) μ)
def fX0_placeByRank (v0 : Nat) (v1 : Int32) (μ : Mem) : Option (Int32 × Mem) :=
  X0_placeByRank_L4 (fun v2_68 μ_68 => some (v2_68, μ_68)) v0 v1 FU ((0 : Int32)) ((0 : Int32)) μ
set_option maxHeartbeats 4000000 in
set_option maxRecDepth 100000 in
theorem mX0_placeByRank (v0 : Nat) (v1 : Int32) (μ : Mem) : Meth wI yX0_placeByRank cX0_placeByRank 4 (some .int) 0 [.ref v0, .int v1] μ (fX0_placeByRank v0 v1 μ) := by
  refine Meth.of (by decide) [(0, .ref v0), (1, .int v1)] rfl (Nat.le_of_ble_eq_true rfl) ?_
  intro p l e R s m args below meth c D ca ad A X C
  have C : CX p R s m args meth c D ca ad A X cX0_placeByRank RX0 4 (some .int) 0 := C
  unfold fX0_placeByRank
  refine E_iconst C 0 dX0_placeByRank_0 (by decide) ?_
  refine E_istore_n (lv' := [(2, .int ((0 : Int32))), (0, .ref v0), (1, .int v1)]) C dX0_placeByRank_1 (by decide) rfl ?_
  refine E_iconst C 0 dX0_placeByRank_2 (by decide) ?_
  refine E_istore_n (lv' := [(3, .int ((0 : Int32))), (2, .int ((0 : Int32))), (0, .ref v0), (1, .int v1)]) C dX0_placeByRank_3 (by decide) rfl ?_
  refine E_at (pc2 := 4) rfl ?_
  refine E_pick (lv' := [(0, .ref v0), (1, .int v1), (2, .int ((0 : Int32))), (3, .int ((0 : Int32)))]) [2, 3, 1, 0] rfl ?_
  refine X0_placeByRank_L4_ok C v0 v1 (fun v2_68 μ_68 => ?_) FU ((0 : Int32)) ((0 : Int32)) μ
  refine E_iload_n C dX0_placeByRank_68 0 rfl ?_
  exact E_iret C dX0_placeByRank_69
def X0_sortByRank_L2 (G : Mem → Option (Unit × Mem)) (v0 : Nat) : Nat → Int32 → Mem → Option (Unit × Mem)
  | 0, _, _ => none
  | n + 1, v1, μ => (gI μ v0 0 10).bind fun x4 => if x4 ≤ v1 then (G μ) else ((gR μ v0 0 9).bind fun x11 => (isC μ v0 0).bind fun _ => bd (fX0_placeByRank v0 v1 μ) fun x16 μ16 => (sI μ16 x11 x16 v1).bind fun μ20 => X0_sortByRank_L2 G v0 n ((v1 + 1)) μ20)
set_option maxHeartbeats 4000000 in
set_option maxRecDepth 100000 in
theorem X0_sortByRank_L2_ok {p : Program} {l : Launch} {e : Env} {R : Room} {s : State} {m : MethodId} {args : Array Value} {below : List Frame} {meth : Method} {c : Code} {D : va_G} {ca : Nat → ClassId} {ad : Nat → Nat} {A : Nat → Prop} {X : State → Prop} (C : CX p R s m args meth c D ca ad A X cX0_sortByRank RX0 2 none 1) {G : Mem → Option (Unit × Mem)} (v0 : Nat) (hG : ∀  (μx : Mem), Sm p l e R s m args below meth c D ca ad A 2 0 0 wU (KQ below args s D ca ad A) 27 [] [] μx (G  μx)) : ∀ (n : Nat) (v1 : Int32) (μ : Mem), Sm p l e R s m args below meth c D ca ad A 2 0 0 wU (KQ below args s D ca ad A) 2 [(0, .ref v0), (1, .int v1)] [] μ (X0_sortByRank_L2 G v0 n v1 μ) := by
  intro n
  induction n with
  | zero =>
    intro v1 μ
    rw [X0_sortByRank_L2]
    exact E_none
  | succ n ih =>
    intro v1 μ
    rw [X0_sortByRank_L2]
    refine E_iload_n C dX0_sortByRank_2 1 rfl ?_
    refine E_aload_n C dX0_sortByRank_3 0 rfl ?_
    refine E_getI C F_X0_46 dX0_sortByRank_4 (fun x4 => ?_)
    refine E_icmp_ge C 27 dX0_sortByRank_7 (by decide) ?_ ?_
    · exact E_pick [] rfl (hG μ)
    · refine E_at (pc2 := 10) rfl ?_
      refine E_aload_n C dX0_sortByRank_10 0 rfl ?_
      refine E_getR C F_X0_43 dX0_sortByRank_11 (fun x11 => ?_)
      refine E_aload_n C dX0_sortByRank_14 0 rfl ?_
      refine E_iload_n C dX0_sortByRank_15 1 rfl ?_
      refine E_callVI (st := [.ref x11]) C [.int v1] (mX0_placeByRank v0 v1 μ) cal_X0_placeByRank vir_X0_placeByRank lk_X0_143 dX0_sortByRank_16 rfl rfl (Nat.le_of_ble_eq_true rfl) (Nat.le_of_ble_eq_true rfl) (fun x16 μ16 => ?_)
      refine E_iload_n C dX0_sortByRank_19 1 rfl ?_
      refine E_iastore C dX0_sortByRank_20 (fun μ20 => ?_)
      refine E_iinc (lv' := [(1, .int ((v1 + 1))), (0, .ref v0)]) C (v1 + 1) dX0_sortByRank_21 1 rfl rfl (by decide) rfl ?_
      refine E_goto C 2 dX0_sortByRank_24 (by decide) ?_
      exact E_pick [1, 0] rfl (ih ((v1 + 1)) μ20)
def fX0_sortByRank (v0 : Nat) (μ : Mem) : Option (Unit × Mem) :=
  X0_sortByRank_L2 (fun μ_27 => some ((), μ_27)) v0 FU ((0 : Int32)) μ
set_option maxHeartbeats 4000000 in
set_option maxRecDepth 100000 in
theorem mX0_sortByRank (v0 : Nat) (μ : Mem) : Meth wU yX0_sortByRank cX0_sortByRank 2 none 1 [.ref v0] μ (fX0_sortByRank v0 μ) := by
  refine Meth.of (by decide) [(0, .ref v0)] rfl (Nat.le_of_ble_eq_true rfl) ?_
  intro p l e R s m args below meth c D ca ad A X C
  have C : CX p R s m args meth c D ca ad A X cX0_sortByRank RX0 2 none 1 := C
  unfold fX0_sortByRank
  refine E_iconst C 0 dX0_sortByRank_0 (by decide) ?_
  refine E_istore_n (lv' := [(1, .int ((0 : Int32))), (0, .ref v0)]) C dX0_sortByRank_1 (by decide) rfl ?_
  refine E_at (pc2 := 2) rfl ?_
  refine E_pick (lv' := [(0, .ref v0), (1, .int ((0 : Int32)))]) [1, 0] rfl ?_
  refine X0_sortByRank_L2_ok C v0 (fun μ_27 => ?_) FU ((0 : Int32)) μ
  exact E_ret C dX0_sortByRank_27
def fX0_addDemand (v0 : Nat) (v1 : Int32) (v2 : Int32) (v3 : Int32) (v4 : Int32) (v5 : Int32) (v6 : Int32) (μ : Mem) : Option (Int32 × Mem) :=
  bd (fX10_within v1 ((0 : Int32)) ((4 : Int32)) μ) fun x3 μ3 => if x3 = 0 then (some ((-2 : Int32), μ3)) else (bd (fX10_within v5 ((0 : Int32)) ((11 : Int32)) μ3) fun x14 μ14 => if x14 = 0 then (some ((-2 : Int32), μ14)) else (bd (fX10_within v6 ((0 : Int32)) ((11 : Int32)) μ14) fun x25 μ25 => if x25 = 0 then (some ((-2 : Int32), μ25)) else (bd (fX0_isFit ((0 : Int32)) v2 μ25) fun x33 μ33 => if x33 = 0 then (some ((-2 : Int32), μ33)) else (bd (fX0_isFit ((1 : Int32)) v3 μ33) fun x41 μ41 => if x41 = 0 then (some ((-2 : Int32), μ41)) else (bd (fX0_isFit ((2 : Int32)) v4 μ41) fun x50 μ50 => if x50 = 0 then (some ((-2 : Int32), μ50)) else ((gI μ50 v0 0 10).bind fun x60 => if x60 < (6 : Int32) then ((gR μ50 v0 0 8).bind fun x72 => (gI μ50 v0 0 10).bind fun x76 => (aR μ50 4 x72 x76).bind fun x79 => (pV μ50 x79 5 0 (.int v1)).bind fun μ85 => (pV μ85 x79 5 1 (.int v2)).bind fun μ91 => (pV μ91 x79 5 2 (.int v3)).bind fun μ97 => (pV μ97 x79 5 3 (.int v4)).bind fun μ104 => (pV μ104 x79 5 4 (.int v5)).bind fun μ111 => (pV μ111 x79 5 5 (.int v6)).bind fun μ118 => (gI μ118 v0 0 10).bind fun x123 => (pV μ118 v0 0 10 (.int ((x123 + (1 : Int32))))).bind fun μ128 => (isC μ128 v0 0).bind fun _ => bd (fX0_sortByRank v0 μ128) fun _ μ132 => (gI μ132 v0 0 10).bind fun x136 => some ((x136 - (1 : Int32)), μ132)) else (some ((-4 : Int32), μ50))))))))
set_option maxHeartbeats 4000000 in
set_option maxRecDepth 100000 in
theorem mX0_addDemand (v0 : Nat) (v1 : Int32) (v2 : Int32) (v3 : Int32) (v4 : Int32) (v5 : Int32) (v6 : Int32) (μ : Mem) : Meth wI yX0_addDemand cX0_addDemand 8 (some .int) 2 [.ref v0, .int v1, .int v2, .int v3, .int v4, .int v5, .int v6] μ (fX0_addDemand v0 v1 v2 v3 v4 v5 v6 μ) := by
  refine Meth.of (by decide) [(0, .ref v0), (1, .int v1), (2, .int v2), (3, .int v3), (4, .int v4), (5, .int v5), (6, .int v6)] rfl (Nat.le_of_ble_eq_true rfl) ?_
  intro p l e R s m args below meth c D ca ad A X C
  have C : CX p R s m args meth c D ca ad A X cX0_addDemand RX0 8 (some .int) 2 := C
  unfold fX0_addDemand
  refine E_iload_n C dX0_addDemand_0 1 rfl ?_
  refine E_iconst C 0 dX0_addDemand_1 (by decide) ?_
  refine E_iconst C 4 dX0_addDemand_2 (by decide) ?_
  refine E_callNI (st := []) C [.int v1, .int ((0 : Int32)), .int ((4 : Int32))] (mX10_within v1 ((0 : Int32)) ((4 : Int32)) μ) cal_X10_within st_X10_within lk_X0_60 dX0_addDemand_3 rfl rfl (Nat.le_of_ble_eq_true rfl) (Nat.le_of_ble_eq_true rfl) (fun x3 μ3 => ?_)
  refine E_if_eq C 56 dX0_addDemand_6 (by decide) ?_ ?_
  · refine E_bipush C (-2) dX0_addDemand_56 (by decide) ?_
    exact E_iret C dX0_addDemand_58
  · refine E_at (pc2 := 9) rfl ?_
    refine E_iload C dX0_addDemand_9 5 rfl ?_
    refine E_iconst C 0 dX0_addDemand_11 (by decide) ?_
    refine E_bipush C 11 dX0_addDemand_12 (by decide) ?_
    refine E_callNI (st := []) C [.int v5, .int ((0 : Int32)), .int ((11 : Int32))] (mX10_within v5 ((0 : Int32)) ((11 : Int32)) μ3) cal_X10_within st_X10_within lk_X0_60 dX0_addDemand_14 rfl rfl (Nat.le_of_ble_eq_true rfl) (Nat.le_of_ble_eq_true rfl) (fun x14 μ14 => ?_)
    refine E_if_eq C 56 dX0_addDemand_17 (by decide) ?_ ?_
    · refine E_bipush C (-2) dX0_addDemand_56 (by decide) ?_
      exact E_iret C dX0_addDemand_58
    · refine E_at (pc2 := 20) rfl ?_
      refine E_iload C dX0_addDemand_20 6 rfl ?_
      refine E_iconst C 0 dX0_addDemand_22 (by decide) ?_
      refine E_bipush C 11 dX0_addDemand_23 (by decide) ?_
      refine E_callNI (st := []) C [.int v6, .int ((0 : Int32)), .int ((11 : Int32))] (mX10_within v6 ((0 : Int32)) ((11 : Int32)) μ14) cal_X10_within st_X10_within lk_X0_60 dX0_addDemand_25 rfl rfl (Nat.le_of_ble_eq_true rfl) (Nat.le_of_ble_eq_true rfl) (fun x25 μ25 => ?_)
      refine E_if_eq C 56 dX0_addDemand_28 (by decide) ?_ ?_
      · refine E_bipush C (-2) dX0_addDemand_56 (by decide) ?_
        exact E_iret C dX0_addDemand_58
      · refine E_at (pc2 := 31) rfl ?_
        refine E_iconst C 0 dX0_addDemand_31 (by decide) ?_
        refine E_iload_n C dX0_addDemand_32 2 rfl ?_
        refine E_callSI (st := []) C [.int ((0 : Int32)), .int v2] (mX0_isFit ((0 : Int32)) v2 μ25) cal_X0_isFit st_X0_isFit lk_X0_81 dX0_addDemand_33 rfl rfl (Nat.le_of_ble_eq_true rfl) (Nat.le_of_ble_eq_true rfl) (fun x33 μ33 => ?_)
        refine E_if_eq C 56 dX0_addDemand_36 (by decide) ?_ ?_
        · refine E_bipush C (-2) dX0_addDemand_56 (by decide) ?_
          exact E_iret C dX0_addDemand_58
        · refine E_at (pc2 := 39) rfl ?_
          refine E_iconst C 1 dX0_addDemand_39 (by decide) ?_
          refine E_iload_n C dX0_addDemand_40 3 rfl ?_
          refine E_callSI (st := []) C [.int ((1 : Int32)), .int v3] (mX0_isFit ((1 : Int32)) v3 μ33) cal_X0_isFit st_X0_isFit lk_X0_81 dX0_addDemand_41 rfl rfl (Nat.le_of_ble_eq_true rfl) (Nat.le_of_ble_eq_true rfl) (fun x41 μ41 => ?_)
          refine E_if_eq C 56 dX0_addDemand_44 (by decide) ?_ ?_
          · refine E_bipush C (-2) dX0_addDemand_56 (by decide) ?_
            exact E_iret C dX0_addDemand_58
          · refine E_at (pc2 := 47) rfl ?_
            refine E_iconst C 2 dX0_addDemand_47 (by decide) ?_
            refine E_iload C dX0_addDemand_48 4 rfl ?_
            refine E_callSI (st := []) C [.int ((2 : Int32)), .int v4] (mX0_isFit ((2 : Int32)) v4 μ41) cal_X0_isFit st_X0_isFit lk_X0_81 dX0_addDemand_50 rfl rfl (Nat.le_of_ble_eq_true rfl) (Nat.le_of_ble_eq_true rfl) (fun x50 μ50 => ?_)
            refine E_if_ne C 59 dX0_addDemand_53 (by decide) ?_ ?_
            · refine E_aload_n C dX0_addDemand_59 0 rfl ?_
              refine E_getI C F_X0_46 dX0_addDemand_60 (fun x60 => ?_)
              refine E_bipush C 6 dX0_addDemand_63 (by decide) ?_
              refine E_icmp_lt C 71 dX0_addDemand_65 (by decide) ?_ ?_
              · refine E_aload_n C dX0_addDemand_71 0 rfl ?_
                refine E_getR C F_X0_39 dX0_addDemand_72 (fun x72 => ?_)
                refine E_aload_n C dX0_addDemand_75 0 rfl ?_
                refine E_getI C F_X0_46 dX0_addDemand_76 (fun x76 => ?_)
                refine E_aaload C rfl dX0_addDemand_79 (fun x79 => ?_)
                refine E_astore (lv' := [(7, .ref x79), (0, .ref v0), (1, .int v1), (2, .int v2), (3, .int v3), (4, .int v4), (5, .int v5), (6, .int v6)]) C dX0_addDemand_80 (by decide) rfl ?_
                refine E_aload C dX0_addDemand_82 0 rfl ?_
                refine E_iload_n C dX0_addDemand_84 2 rfl ?_
                refine E_putI C P_X0_85 dX0_addDemand_85 (fun μ85 => ?_)
                refine E_aload C dX0_addDemand_88 0 rfl ?_
                refine E_iload_n C dX0_addDemand_90 3 rfl ?_
                refine E_putI C P_X0_88 dX0_addDemand_91 (fun μ91 => ?_)
                refine E_aload C dX0_addDemand_94 0 rfl ?_
                refine E_iload_n C dX0_addDemand_96 4 rfl ?_
                refine E_putI C P_X0_91 dX0_addDemand_97 (fun μ97 => ?_)
                refine E_aload C dX0_addDemand_100 0 rfl ?_
                refine E_iload C dX0_addDemand_102 5 rfl ?_
                refine E_putI C P_X0_94 dX0_addDemand_104 (fun μ104 => ?_)
                refine E_aload C dX0_addDemand_107 0 rfl ?_
                refine E_iload C dX0_addDemand_109 6 rfl ?_
                refine E_putI C P_X0_97 dX0_addDemand_111 (fun μ111 => ?_)
                refine E_aload C dX0_addDemand_114 0 rfl ?_
                refine E_iload C dX0_addDemand_116 7 rfl ?_
                refine E_putI C P_X0_100 dX0_addDemand_118 (fun μ118 => ?_)
                refine E_aload_n C dX0_addDemand_121 1 rfl ?_
                refine E_dup_r C dX0_addDemand_122 ?_
                refine E_getI C F_X0_46 dX0_addDemand_123 (fun x123 => ?_)
                refine E_iconst C 1 dX0_addDemand_126 (by decide) ?_
                refine E_iadd C dX0_addDemand_127 ?_
                refine E_putI C P_X0_46 dX0_addDemand_128 (fun μ128 => ?_)
                refine E_aload_n C dX0_addDemand_131 1 rfl ?_
                refine E_callVU (st := []) C [] (mX0_sortByRank v0 μ128) cal_X0_sortByRank vir_X0_sortByRank lk_X0_103 dX0_addDemand_132 rfl rfl (Nat.le_of_ble_eq_true rfl) (Nat.le_of_ble_eq_true rfl) (fun _ μ132 => ?_)
                refine E_aload_n C dX0_addDemand_135 1 rfl ?_
                refine E_getI C F_X0_46 dX0_addDemand_136 (fun x136 => ?_)
                refine E_iconst C 1 dX0_addDemand_139 (by decide) ?_
                refine E_isub C dX0_addDemand_140 ?_
                exact E_iret C dX0_addDemand_141
              · refine E_at (pc2 := 68) rfl ?_
                refine E_bipush C (-4) dX0_addDemand_68 (by decide) ?_
                exact E_iret C dX0_addDemand_70
            · refine E_at (pc2 := 56) rfl ?_
              refine E_bipush C (-2) dX0_addDemand_56 (by decide) ?_
              exact E_iret C dX0_addDemand_58
def fX0_hasDemand (v0 : Nat) (v1 : Int32) (μ : Mem) : Option (Int32 × Mem) :=
  (gI μ v0 0 10).bind fun x3 => bd (fX10_within v1 ((0 : Int32)) ((x3 - (1 : Int32))) μ) fun x8 μ8 => (zz x8).bind fun z => some (z, μ8)
set_option maxHeartbeats 4000000 in
set_option maxRecDepth 100000 in
theorem mX0_hasDemand (v0 : Nat) (v1 : Int32) (μ : Mem) : Meth wI yX0_hasDemand cX0_hasDemand 2 (some .boolean) 1 [.ref v0, .int v1] μ (fX0_hasDemand v0 v1 μ) := by
  refine Meth.of (by decide) [(0, .ref v0), (1, .int v1)] rfl (Nat.le_of_ble_eq_true rfl) ?_
  intro p l e R s m args below meth c D ca ad A X C
  have C : CX p R s m args meth c D ca ad A X cX0_hasDemand RX0 2 (some .boolean) 1 := C
  unfold fX0_hasDemand
  refine E_iload_n C dX0_hasDemand_0 1 rfl ?_
  refine E_iconst C 0 dX0_hasDemand_1 (by decide) ?_
  refine E_aload_n C dX0_hasDemand_2 0 rfl ?_
  refine E_getI C F_X0_46 dX0_hasDemand_3 (fun x3 => ?_)
  refine E_iconst C 1 dX0_hasDemand_6 (by decide) ?_
  refine E_isub C dX0_hasDemand_7 ?_
  refine E_callNI (st := []) C [.int v1, .int ((0 : Int32)), .int ((x3 - (1 : Int32)))] (mX10_within v1 ((0 : Int32)) ((x3 - (1 : Int32))) μ) cal_X10_within st_X10_within lk_X0_60 dX0_hasDemand_8 rfl rfl (Nat.le_of_ble_eq_true rfl) (Nat.le_of_ble_eq_true rfl) (fun x8 μ8 => ?_)
  exact E_zret C dX0_hasDemand_11
def fX5_tell (v0 : Nat) (v1 : Int32) (μ : Mem) : Option (Int32 × Mem) :=
  if v1 = 0 then ((gI μ v0 5 0).bind fun x41 => some (x41, μ)) else if v1 = 1 then ((gI μ v0 5 1).bind fun x46 => some (x46, μ)) else if v1 = 2 then ((gI μ v0 5 2).bind fun x51 => some (x51, μ)) else if v1 = 3 then ((gI μ v0 5 3).bind fun x56 => some (x56, μ)) else if v1 = 4 then ((gI μ v0 5 4).bind fun x61 => some (x61, μ)) else if v1 = 5 then ((gI μ v0 5 5).bind fun x66 => some (x66, μ)) else (some ((-1 : Int32), μ))
set_option maxHeartbeats 4000000 in
set_option maxRecDepth 100000 in
theorem mX5_tell (v0 : Nat) (v1 : Int32) (μ : Mem) : Meth wI yX5_tell cX5_tell 2 (some .int) 0 [.ref v0, .int v1] μ (fX5_tell v0 v1 μ) := by
  refine Meth.of (by decide) [(0, .ref v0), (1, .int v1)] rfl (Nat.le_of_ble_eq_true rfl) ?_
  intro p l e R s m args below meth c D ca ad A X C
  have C : CX p R s m args meth c D ca ad A X cX5_tell RX5 2 (some .int) 0 := C
  unfold fX5_tell
  refine E_iload_n C dX5_tell_0 1 rfl ?_
  refine E_ite (fun h1_0 => ?_) (fun h1_0 => ?_)
  · refine E_tabIn (kx := 0) (off := 39) C 40 h1_0 dX5_tell_1 (by decide +kernel) (by decide) ?_
    refine E_aload_n C dX5_tell_40 0 rfl ?_
    refine E_getI C F_X5_9 dX5_tell_41 (fun x41 => ?_)
    exact E_iret C dX5_tell_44
  · refine E_ite (fun h1_1 => ?_) (fun h1_1 => ?_)
    · refine E_tabIn (kx := 1) (off := 44) C 45 h1_1 dX5_tell_1 (by decide +kernel) (by decide) ?_
      refine E_aload_n C dX5_tell_45 0 rfl ?_
      refine E_getI C F_X5_15 dX5_tell_46 (fun x46 => ?_)
      exact E_iret C dX5_tell_49
    · refine E_ite (fun h1_2 => ?_) (fun h1_2 => ?_)
      · refine E_tabIn (kx := 2) (off := 49) C 50 h1_2 dX5_tell_1 (by decide +kernel) (by decide) ?_
        refine E_aload_n C dX5_tell_50 0 rfl ?_
        refine E_getI C F_X5_18 dX5_tell_51 (fun x51 => ?_)
        exact E_iret C dX5_tell_54
      · refine E_ite (fun h1_3 => ?_) (fun h1_3 => ?_)
        · refine E_tabIn (kx := 3) (off := 54) C 55 h1_3 dX5_tell_1 (by decide +kernel) (by decide) ?_
          refine E_aload_n C dX5_tell_55 0 rfl ?_
          refine E_getI C F_X5_21 dX5_tell_56 (fun x56 => ?_)
          exact E_iret C dX5_tell_59
        · refine E_ite (fun h1_4 => ?_) (fun h1_4 => ?_)
          · refine E_tabIn (kx := 4) (off := 59) C 60 h1_4 dX5_tell_1 (by decide +kernel) (by decide) ?_
            refine E_aload_n C dX5_tell_60 0 rfl ?_
            refine E_getI C F_X5_24 dX5_tell_61 (fun x61 => ?_)
            exact E_iret C dX5_tell_64
          · refine E_ite (fun h1_5 => ?_) (fun h1_5 => ?_)
            · refine E_tabIn (kx := 5) (off := 64) C 65 h1_5 dX5_tell_1 (by decide +kernel) (by decide) ?_
              refine E_aload_n C dX5_tell_65 0 rfl ?_
              refine E_getI C F_X5_27 dX5_tell_66 (fun x66 => ?_)
              exact E_iret C dX5_tell_69
            · refine E_tabOut C 70 dX5_tell_1 (by have q0 := i32_ne h1_0 (n := 0) rfl; have q1 := i32_ne h1_1 (n := 1) rfl; have q2 := i32_ne h1_2 (n := 2) rfl; have q3 := i32_ne h1_3 (n := 3) rfl; have q4 := i32_ne h1_4 (n := 4) rfl; have q5 := i32_ne h1_5 (n := 5) rfl; omega) (by decide) ?_
              refine E_iconst C (-1) dX5_tell_70 (by decide) ?_
              exact E_iret C dX5_tell_71
def fX0_changeDemand (v0 : Nat) (v1 : Int32) (v2 : Int32) (v3 : Int32) (μ : Mem) : Option (Int32 × Mem) :=
  (isC μ v0 0).bind fun _ => bd (fX0_hasDemand v0 v1 μ) fun x2 μ2 => if x2 = 0 then (some ((-1 : Int32), μ2)) else (bd (fX10_within v2 ((0 : Int32)) ((2 : Int32)) μ2) fun x11 μ11 => if x11 = 0 then (some ((-1 : Int32), μ11)) else (bd (fX0_isFit v2 v3 μ11) fun x21 μ21 => if x21 = 0 then (some ((-2 : Int32), μ21)) else ((gR μ21 v0 0 8).bind fun x31 => (aR μ21 4 x31 v1).bind fun x35 => (isC μ21 x35 5).bind fun _ => bd (fX5_tell x35 ((v2 + (1 : Int32))) μ21) fun x43 μ43 => if v2 = 0 then ((pV μ43 x35 5 1 (.int v3)).bind fun μ79 => (isC μ79 v0 0).bind fun _ => bd (fX0_sortByRank v0 μ79) fun _ μ83 => some (x43, μ83)) else if v2 = 1 then ((pV μ43 x35 5 2 (.int v3)).bind fun μ92 => some (x43, μ92)) else ((pV μ43 x35 5 3 (.int v3)).bind fun μ101 => some (x43, μ101)))))
set_option maxHeartbeats 4000000 in
set_option maxRecDepth 100000 in
theorem mX0_changeDemand (v0 : Nat) (v1 : Int32) (v2 : Int32) (v3 : Int32) (μ : Mem) : Meth wI yX0_changeDemand cX0_changeDemand 6 (some .int) 2 [.ref v0, .int v1, .int v2, .int v3] μ (fX0_changeDemand v0 v1 v2 v3 μ) := by
  refine Meth.of (by decide) [(0, .ref v0), (1, .int v1), (2, .int v2), (3, .int v3)] rfl (Nat.le_of_ble_eq_true rfl) ?_
  intro p l e R s m args below meth c D ca ad A X C
  have C : CX p R s m args meth c D ca ad A X cX0_changeDemand RX0 6 (some .int) 2 := C
  unfold fX0_changeDemand
  refine E_aload_n C dX0_changeDemand_0 0 rfl ?_
  refine E_iload_n C dX0_changeDemand_1 1 rfl ?_
  refine E_callVI (st := []) C [.int v1] (mX0_hasDemand v0 v1 μ) cal_X0_hasDemand vir_X0_hasDemand lk_X0_112 dX0_changeDemand_2 rfl rfl (Nat.le_of_ble_eq_true rfl) (Nat.le_of_ble_eq_true rfl) (fun x2 μ2 => ?_)
  refine E_if_eq C 17 dX0_changeDemand_5 (by decide) ?_ ?_
  · refine E_iconst C (-1) dX0_changeDemand_17 (by decide) ?_
    exact E_iret C dX0_changeDemand_18
  · refine E_at (pc2 := 8) rfl ?_
    refine E_iload_n C dX0_changeDemand_8 2 rfl ?_
    refine E_iconst C 0 dX0_changeDemand_9 (by decide) ?_
    refine E_iconst C 2 dX0_changeDemand_10 (by decide) ?_
    refine E_callNI (st := []) C [.int v2, .int ((0 : Int32)), .int ((2 : Int32))] (mX10_within v2 ((0 : Int32)) ((2 : Int32)) μ2) cal_X10_within st_X10_within lk_X0_60 dX0_changeDemand_11 rfl rfl (Nat.le_of_ble_eq_true rfl) (Nat.le_of_ble_eq_true rfl) (fun x11 μ11 => ?_)
    refine E_if_ne C 19 dX0_changeDemand_14 (by decide) ?_ ?_
    · refine E_iload_n C dX0_changeDemand_19 2 rfl ?_
      refine E_iload_n C dX0_changeDemand_20 3 rfl ?_
      refine E_callSI (st := []) C [.int v2, .int v3] (mX0_isFit v2 v3 μ11) cal_X0_isFit st_X0_isFit lk_X0_81 dX0_changeDemand_21 rfl rfl (Nat.le_of_ble_eq_true rfl) (Nat.le_of_ble_eq_true rfl) (fun x21 μ21 => ?_)
      refine E_if_ne C 30 dX0_changeDemand_24 (by decide) ?_ ?_
      · refine E_aload_n C dX0_changeDemand_30 0 rfl ?_
        refine E_getR C F_X0_39 dX0_changeDemand_31 (fun x31 => ?_)
        refine E_iload_n C dX0_changeDemand_34 1 rfl ?_
        refine E_aaload C rfl dX0_changeDemand_35 (fun x35 => ?_)
        refine E_astore (lv' := [(4, .ref x35), (0, .ref v0), (1, .int v1), (2, .int v2), (3, .int v3)]) C dX0_changeDemand_36 (by decide) rfl ?_
        refine E_aload C dX0_changeDemand_38 0 rfl ?_
        refine E_iload_n C dX0_changeDemand_40 3 rfl ?_
        refine E_iconst C 1 dX0_changeDemand_41 (by decide) ?_
        refine E_iadd C dX0_changeDemand_42 ?_
        refine E_callVI (st := []) C [.int ((v2 + (1 : Int32)))] (mX5_tell x35 ((v2 + (1 : Int32))) μ21) cal_X5_tell vir_X5_tell lk_X0_115 dX0_changeDemand_43 rfl rfl (Nat.le_of_ble_eq_true rfl) (Nat.le_of_ble_eq_true rfl) (fun x43 μ43 => ?_)
        refine E_istore (lv' := [(5, .int x43), (4, .ref x35), (0, .ref v0), (1, .int v1), (2, .int v2), (3, .int v3)]) C dX0_changeDemand_46 (by decide) rfl ?_
        refine E_iload_n C dX0_changeDemand_48 4 rfl ?_
        refine E_ite (fun h49_0 => ?_) (fun h49_0 => ?_)
        · refine E_lookup (off := 27) C 76 dX0_changeDemand_49 (by decide +kernel) (by rw [h49_0]; decide +kernel) (by decide) ?_
          refine E_aload C dX0_changeDemand_76 1 rfl ?_
          refine E_iload_n C dX0_changeDemand_78 5 rfl ?_
          refine E_putI C P_X0_88 dX0_changeDemand_79 (fun μ79 => ?_)
          refine E_aload_n C dX0_changeDemand_82 2 rfl ?_
          refine E_callVU (st := []) C [] (mX0_sortByRank v0 μ79) cal_X0_sortByRank vir_X0_sortByRank lk_X0_103 dX0_changeDemand_83 rfl rfl (Nat.le_of_ble_eq_true rfl) (Nat.le_of_ble_eq_true rfl) (fun _ μ83 => ?_)
          refine E_goto C 104 dX0_changeDemand_86 (by decide) ?_
          refine E_iload C dX0_changeDemand_104 0 rfl ?_
          exact E_iret C dX0_changeDemand_106
        · refine E_ite (fun h49_1 => ?_) (fun h49_1 => ?_)
          · refine E_lookup (off := 40) C 89 dX0_changeDemand_49 (by decide +kernel) (by rw [h49_1]; decide +kernel) (by decide) ?_
            refine E_aload C dX0_changeDemand_89 1 rfl ?_
            refine E_iload_n C dX0_changeDemand_91 5 rfl ?_
            refine E_putI C P_X0_91 dX0_changeDemand_92 (fun μ92 => ?_)
            refine E_goto C 104 dX0_changeDemand_95 (by decide) ?_
            refine E_iload C dX0_changeDemand_104 0 rfl ?_
            exact E_iret C dX0_changeDemand_106
          · refine E_lookup (off := 49) C 98 dX0_changeDemand_49 (by decide +kernel) (by simp [Op.lookupswitch.offset, Ne.symm (i32_ne h49_0 (n := 0) rfl), Ne.symm (i32_ne h49_1 (n := 1) rfl)]) (by decide) ?_
            refine E_aload C dX0_changeDemand_98 1 rfl ?_
            refine E_iload_n C dX0_changeDemand_100 5 rfl ?_
            refine E_putI C P_X0_94 dX0_changeDemand_101 (fun μ101 => ?_)
            refine E_at (pc2 := 104) rfl ?_
            refine E_iload C dX0_changeDemand_104 0 rfl ?_
            exact E_iret C dX0_changeDemand_106
      · refine E_at (pc2 := 27) rfl ?_
        refine E_bipush C (-2) dX0_changeDemand_27 (by decide) ?_
        exact E_iret C dX0_changeDemand_29
    · refine E_at (pc2 := 17) rfl ?_
      refine E_iconst C (-1) dX0_changeDemand_17 (by decide) ?_
      exact E_iret C dX0_changeDemand_18
def X0_removeDemand_L12 (G : Mem → Option (Int32 × Mem)) (v0 : Nat) : Nat → Int32 → Mem → Option (Int32 × Mem)
  | 0, _, _ => none
  | n + 1, v2, μ => (gI μ v0 0 10).bind fun x14 => if (x14 - (1 : Int32)) ≤ v2 then (G μ) else ((gR μ v0 0 8).bind fun x23 => (aR μ 4 x23 v2).bind fun x27 => (gR μ v0 0 8).bind fun x29 => (aR μ 4 x29 ((v2 + (1 : Int32)))).bind fun x35 => (isC μ x27 5).bind fun _ => bd (fX5_copyFrom x27 x35 μ) fun _ μ36 => X0_removeDemand_L12 G v0 n ((v2 + 1)) μ36)
set_option maxHeartbeats 4000000 in
set_option maxRecDepth 100000 in
theorem X0_removeDemand_L12_ok {p : Program} {l : Launch} {e : Env} {R : Room} {s : State} {m : MethodId} {args : Array Value} {below : List Frame} {meth : Method} {c : Code} {D : va_G} {ca : Nat → ClassId} {ad : Nat → Nat} {A : Nat → Prop} {X : State → Prop} (C : CX p R s m args meth c D ca ad A X cX0_removeDemand RX0 3 (some .int) 2) {G : Mem → Option (Int32 × Mem)} (v0 : Nat) (hG : ∀  (μx : Mem), Sm p l e R s m args below meth c D ca ad A 3 0 0 wI (KQ below args s D ca ad A) 45 [(0, .ref v0)] [] μx (G  μx)) : ∀ (n : Nat) (v2 : Int32) (μ : Mem), Sm p l e R s m args below meth c D ca ad A 3 0 0 wI (KQ below args s D ca ad A) 12 [(0, .ref v0), (2, .int v2)] [] μ (X0_removeDemand_L12 G v0 n v2 μ) := by
  intro n
  induction n with
  | zero =>
    intro v2 μ
    rw [X0_removeDemand_L12]
    exact E_none
  | succ n ih =>
    intro v2 μ
    rw [X0_removeDemand_L12]
    refine E_iload_n C dX0_removeDemand_12 1 rfl ?_
    refine E_aload_n C dX0_removeDemand_13 0 rfl ?_
    refine E_getI C F_X0_46 dX0_removeDemand_14 (fun x14 => ?_)
    refine E_iconst C 1 dX0_removeDemand_17 (by decide) ?_
    refine E_isub C dX0_removeDemand_18 ?_
    refine E_icmp_ge C 45 dX0_removeDemand_19 (by decide) ?_ ?_
    · exact E_pick [0] rfl (hG μ)
    · refine E_at (pc2 := 22) rfl ?_
      refine E_aload_n C dX0_removeDemand_22 0 rfl ?_
      refine E_getR C F_X0_39 dX0_removeDemand_23 (fun x23 => ?_)
      refine E_iload_n C dX0_removeDemand_26 1 rfl ?_
      refine E_aaload C rfl dX0_removeDemand_27 (fun x27 => ?_)
      refine E_aload_n C dX0_removeDemand_28 0 rfl ?_
      refine E_getR C F_X0_39 dX0_removeDemand_29 (fun x29 => ?_)
      refine E_iload_n C dX0_removeDemand_32 1 rfl ?_
      refine E_iconst C 1 dX0_removeDemand_33 (by decide) ?_
      refine E_iadd C dX0_removeDemand_34 ?_
      refine E_aaload C rfl dX0_removeDemand_35 (fun x35 => ?_)
      refine E_callVU (st := []) C [.ref x35] (mX5_copyFrom x27 x35 μ) cal_X5_copyFrom vir_X5_copyFrom lk_X0_56 dX0_removeDemand_36 rfl rfl (Nat.le_of_ble_eq_true rfl) (Nat.le_of_ble_eq_true rfl) (fun _ μ36 => ?_)
      refine E_iinc (lv' := [(2, .int ((v2 + 1))), (0, .ref v0)]) C (v2 + 1) dX0_removeDemand_39 1 rfl rfl (by decide) rfl ?_
      refine E_goto C 12 dX0_removeDemand_42 (by decide) ?_
      exact E_pick [1, 0] rfl (ih ((v2 + 1)) μ36)
def fX0_removeDemand (v0 : Nat) (v1 : Int32) (μ : Mem) : Option (Int32 × Mem) :=
  (isC μ v0 0).bind fun _ => bd (fX0_hasDemand v0 v1 μ) fun x2 μ2 => if x2 = 0 then (some ((-1 : Int32), μ2)) else (X0_removeDemand_L12 (fun μ_45 => (gI μ_45 v0 0 10).bind fun x47 => (pV μ_45 v0 0 10 (.int ((x47 - (1 : Int32))))).bind fun μ52 => (isC μ52 v0 0).bind fun _ => bd (fX0_sortByRank v0 μ52) fun _ μ56 => (gI μ56 v0 0 10).bind fun x60 => some (x60, μ56)) v0 FU v1 μ2)
set_option maxHeartbeats 4000000 in
set_option maxRecDepth 100000 in
theorem mX0_removeDemand (v0 : Nat) (v1 : Int32) (μ : Mem) : Meth wI yX0_removeDemand cX0_removeDemand 3 (some .int) 2 [.ref v0, .int v1] μ (fX0_removeDemand v0 v1 μ) := by
  refine Meth.of (by decide) [(0, .ref v0), (1, .int v1)] rfl (Nat.le_of_ble_eq_true rfl) ?_
  intro p l e R s m args below meth c D ca ad A X C
  have C : CX p R s m args meth c D ca ad A X cX0_removeDemand RX0 3 (some .int) 2 := C
  unfold fX0_removeDemand
  refine E_aload_n C dX0_removeDemand_0 0 rfl ?_
  refine E_iload_n C dX0_removeDemand_1 1 rfl ?_
  refine E_callVI (st := []) C [.int v1] (mX0_hasDemand v0 v1 μ) cal_X0_hasDemand vir_X0_hasDemand lk_X0_112 dX0_removeDemand_2 rfl rfl (Nat.le_of_ble_eq_true rfl) (Nat.le_of_ble_eq_true rfl) (fun x2 μ2 => ?_)
  refine E_if_ne C 10 dX0_removeDemand_5 (by decide) ?_ ?_
  · refine E_iload_n C dX0_removeDemand_10 1 rfl ?_
    refine E_istore_n (lv' := [(2, .int v1), (0, .ref v0), (1, .int v1)]) C dX0_removeDemand_11 (by decide) rfl ?_
    refine E_at (pc2 := 12) rfl ?_
    refine E_pick (lv' := [(0, .ref v0), (2, .int v1)]) [1, 0] rfl ?_
    refine X0_removeDemand_L12_ok C v0 (fun μ_45 => ?_) FU v1 μ2
    refine E_aload_n C dX0_removeDemand_45 0 rfl ?_
    refine E_dup_r C dX0_removeDemand_46 ?_
    refine E_getI C F_X0_46 dX0_removeDemand_47 (fun x47 => ?_)
    refine E_iconst C 1 dX0_removeDemand_50 (by decide) ?_
    refine E_isub C dX0_removeDemand_51 ?_
    refine E_putI C P_X0_46 dX0_removeDemand_52 (fun μ52 => ?_)
    refine E_aload_n C dX0_removeDemand_55 0 rfl ?_
    refine E_callVU (st := []) C [] (mX0_sortByRank v0 μ52) cal_X0_sortByRank vir_X0_sortByRank lk_X0_103 dX0_removeDemand_56 rfl rfl (Nat.le_of_ble_eq_true rfl) (Nat.le_of_ble_eq_true rfl) (fun _ μ56 => ?_)
    refine E_aload_n C dX0_removeDemand_59 0 rfl ?_
    refine E_getI C F_X0_46 dX0_removeDemand_60 (fun x60 => ?_)
    exact E_iret C dX0_removeDemand_63
  · refine E_at (pc2 := 8) rfl ?_
    refine E_iconst C (-1) dX0_removeDemand_8 (by decide) ?_
    exact E_iret C dX0_removeDemand_9
def fX0_silence (v0 : Nat) (v1 : Int32) (μ : Mem) : Option (Unit × Mem) :=
  (isC μ v0 0).bind fun _ => bd (fX0_hasDemand v0 v1 μ) fun x2 μ2 => if x2 = 0 then (some ((), μ2)) else ((gR μ2 v0 0 8).bind fun x9 => (aR μ2 4 x9 v1).bind fun x13 => (pV μ2 x13 5 2 (.int ((0 : Int32)))).bind fun μ15 => some ((), μ15))
set_option maxHeartbeats 4000000 in
set_option maxRecDepth 100000 in
theorem mX0_silence (v0 : Nat) (v1 : Int32) (μ : Mem) : Meth wU yX0_silence cX0_silence 2 none 2 [.ref v0, .int v1] μ (fX0_silence v0 v1 μ) := by
  refine Meth.of (by decide) [(0, .ref v0), (1, .int v1)] rfl (Nat.le_of_ble_eq_true rfl) ?_
  intro p l e R s m args below meth c D ca ad A X C
  have C : CX p R s m args meth c D ca ad A X cX0_silence RX0 2 none 2 := C
  unfold fX0_silence
  refine E_aload_n C dX0_silence_0 0 rfl ?_
  refine E_iload_n C dX0_silence_1 1 rfl ?_
  refine E_callVI (st := []) C [.int v1] (mX0_hasDemand v0 v1 μ) cal_X0_hasDemand vir_X0_hasDemand lk_X0_112 dX0_silence_2 rfl rfl (Nat.le_of_ble_eq_true rfl) (Nat.le_of_ble_eq_true rfl) (fun x2 μ2 => ?_)
  refine E_if_eq C 18 dX0_silence_5 (by decide) ?_ ?_
  · exact E_ret C dX0_silence_18
  · refine E_at (pc2 := 8) rfl ?_
    refine E_aload_n C dX0_silence_8 0 rfl ?_
    refine E_getR C F_X0_39 dX0_silence_9 (fun x9 => ?_)
    refine E_iload_n C dX0_silence_12 1 rfl ?_
    refine E_aaload C rfl dX0_silence_13 (fun x13 => ?_)
    refine E_iconst C 0 dX0_silence_14 (by decide) ?_
    refine E_putI C P_X0_91 dX0_silence_15 (fun μ15 => ?_)
    exact E_ret C dX0_silence_18
def X0_goByPlan_L38 (G : Mem → Option (Unit × Mem)) (v0 : Nat) (v2 : Int32) : Nat → Int32 → Mem → Option (Unit × Mem)
  | 0, _, _ => none
  | n + 1, v3, μ => if (12 : Int32) ≤ v3 then (G μ) else ((gR μ v0 0 6).bind fun x45 => (sI μ x45 v3 v2).bind fun μ50 => X0_goByPlan_L38 G v0 v2 n ((v3 + 1)) μ50)
set_option maxHeartbeats 4000000 in
set_option maxRecDepth 100000 in
theorem X0_goByPlan_L38_ok {p : Program} {l : Launch} {e : Env} {R : Room} {s : State} {m : MethodId} {args : Array Value} {below : List Frame} {meth : Method} {c : Code} {D : va_G} {ca : Nat → ClassId} {ad : Nat → Nat} {A : Nat → Prop} {X : State → Prop} (C : CX p R s m args meth c D ca ad A X cX0_goByPlan RX0 4 none 3) {G : Mem → Option (Unit × Mem)} (v0 : Nat) (v2 : Int32) (hG : ∀  (μx : Mem), Sm p l e R s m args below meth c D ca ad A 4 0 0 wU (KQ below args s D ca ad A) 57 [] [] μx (G  μx)) : ∀ (n : Nat) (v3 : Int32) (μ : Mem), Sm p l e R s m args below meth c D ca ad A 4 0 0 wU (KQ below args s D ca ad A) 38 [(0, .ref v0), (2, .int v2), (3, .int v3)] [] μ (X0_goByPlan_L38 G v0 v2 n v3 μ) := by
  intro n
  induction n with
  | zero =>
    intro v3 μ
    rw [X0_goByPlan_L38]
    exact E_none
  | succ n ih =>
    intro v3 μ
    rw [X0_goByPlan_L38]
    refine E_iload_n C dX0_goByPlan_38 2 rfl ?_
    refine E_bipush C 12 dX0_goByPlan_39 (by decide) ?_
    refine E_icmp_ge C 57 dX0_goByPlan_41 (by decide) ?_ ?_
    · exact E_pick [] rfl (hG μ)
    · refine E_at (pc2 := 44) rfl ?_
      refine E_aload_n C dX0_goByPlan_44 0 rfl ?_
      refine E_getR C F_X0_31 dX0_goByPlan_45 (fun x45 => ?_)
      refine E_iload_n C dX0_goByPlan_48 2 rfl ?_
      refine E_iload_n C dX0_goByPlan_49 1 rfl ?_
      refine E_iastore C dX0_goByPlan_50 (fun μ50 => ?_)
      refine E_iinc (lv' := [(3, .int ((v3 + 1))), (0, .ref v0), (2, .int v2)]) C (v3 + 1) dX0_goByPlan_51 2 rfl rfl (by decide) rfl ?_
      refine E_goto C 38 dX0_goByPlan_54 (by decide) ?_
      exact E_pick [1, 2, 0] rfl (ih ((v3 + 1)) μ50)
def fX0_goByPlan (v0 : Nat) (v1 : Int32) (v2 : Int32) (μ : Mem) : Option (Unit × Mem) :=
  if v1 = 0 then ((pV μ v0 0 0 (.int v2)).bind fun μ30 => some ((), μ30)) else if v1 = 1 then (X0_goByPlan_L38 (fun μ_57 => some ((), μ_57)) v0 v2 FU ((0 : Int32)) μ) else if v1 = 2 then ((pV μ v0 0 2 (.int v2)).bind fun μ62 => some ((), μ62)) else ((isC μ v0 0).bind fun _ => bd (fX0_silence v0 v2 μ) fun _ μ70 => some ((), μ70))
set_option maxHeartbeats 4000000 in
set_option maxRecDepth 100000 in
theorem mX0_goByPlan (v0 : Nat) (v1 : Int32) (v2 : Int32) (μ : Mem) : Meth wU yX0_goByPlan cX0_goByPlan 4 none 3 [.ref v0, .int v1, .int v2] μ (fX0_goByPlan v0 v1 v2 μ) := by
  refine Meth.of (by decide) [(0, .ref v0), (1, .int v1), (2, .int v2)] rfl (Nat.le_of_ble_eq_true rfl) ?_
  intro p l e R s m args below meth c D ca ad A X C
  have C : CX p R s m args meth c D ca ad A X cX0_goByPlan RX0 4 none 3 := C
  unfold fX0_goByPlan
  refine E_iload_n C dX0_goByPlan_0 1 rfl ?_
  refine E_ite (fun h1_0 => ?_) (fun h1_0 => ?_)
  · refine E_tabIn (kx := 0) (off := 27) C 28 h1_0 dX0_goByPlan_1 (by decide +kernel) (by decide) ?_
    refine E_aload_n C dX0_goByPlan_28 0 rfl ?_
    refine E_iload_n C dX0_goByPlan_29 2 rfl ?_
    refine E_putI C P_X0_9 dX0_goByPlan_30 (fun μ30 => ?_)
    refine E_goto C 73 dX0_goByPlan_33 (by decide) ?_
    exact E_ret C dX0_goByPlan_73
  · refine E_ite (fun h1_1 => ?_) (fun h1_1 => ?_)
    · refine E_tabIn (kx := 1) (off := 35) C 36 h1_1 dX0_goByPlan_1 (by decide +kernel) (by decide) ?_
      refine E_iconst C 0 dX0_goByPlan_36 (by decide) ?_
      refine E_istore_n (lv' := [(3, .int ((0 : Int32))), (0, .ref v0), (1, .int v1), (2, .int v2)]) C dX0_goByPlan_37 (by decide) rfl ?_
      refine E_at (pc2 := 38) rfl ?_
      refine E_pick (lv' := [(0, .ref v0), (2, .int v2), (3, .int ((0 : Int32)))]) [1, 3, 0] rfl ?_
      refine X0_goByPlan_L38_ok C v0 v2 (fun μ_57 => ?_) FU ((0 : Int32)) μ
      refine E_goto C 73 dX0_goByPlan_57 (by decide) ?_
      exact E_ret C dX0_goByPlan_73
    · refine E_ite (fun h1_2 => ?_) (fun h1_2 => ?_)
      · refine E_tabIn (kx := 2) (off := 59) C 60 h1_2 dX0_goByPlan_1 (by decide +kernel) (by decide) ?_
        refine E_aload_n C dX0_goByPlan_60 0 rfl ?_
        refine E_iload_n C dX0_goByPlan_61 2 rfl ?_
        refine E_putI C P_X0_18 dX0_goByPlan_62 (fun μ62 => ?_)
        refine E_goto C 73 dX0_goByPlan_65 (by decide) ?_
        exact E_ret C dX0_goByPlan_73
      · refine E_tabOut C 68 dX0_goByPlan_1 (by have q0 := i32_ne h1_0 (n := 0) rfl; have q1 := i32_ne h1_1 (n := 1) rfl; have q2 := i32_ne h1_2 (n := 2) rfl; omega) (by decide) ?_
        refine E_aload_n C dX0_goByPlan_68 0 rfl ?_
        refine E_iload_n C dX0_goByPlan_69 2 rfl ?_
        refine E_callVU (st := []) C [.int v2] (mX0_silence v0 v2 μ) cal_X0_silence vir_X0_silence lk_X0_118 dX0_goByPlan_70 rfl rfl (Nat.le_of_ble_eq_true rfl) (Nat.le_of_ble_eq_true rfl) (fun _ μ70 => ?_)
        exact E_ret C dX0_goByPlan_73
def fX6_at (v0 : Nat) (v1 : Int32) (v2 : Int32) (μ : Mem) : Option (Int32 × Mem) :=
  (gI μ v0 6 3).bind fun x3 => bd (fX10_within v1 ((0 : Int32)) ((x3 - (1 : Int32))) μ) fun x8 μ8 => if x8 = 0 then (some ((-1 : Int32), μ8)) else ((gI μ8 v0 6 0).bind fun x17 => bd (fX10_within v2 ((0 : Int32)) ((x17 - (1 : Int32))) μ8) fun x22 μ22 => if x22 = 0 then (some ((-1 : Int32), μ22)) else ((gR μ22 v0 6 2).bind fun x31 => (gI μ22 v0 6 0).bind fun x36 => (aI μ22 0 x31 (((v1 * x36) + v2))).bind fun x42 => some (x42, μ22)))
set_option maxHeartbeats 4000000 in
set_option maxRecDepth 100000 in
theorem mX6_at (v0 : Nat) (v1 : Int32) (v2 : Int32) (μ : Mem) : Meth wI yX6_at cX6_at 3 (some .int) 1 [.ref v0, .int v1, .int v2] μ (fX6_at v0 v1 v2 μ) := by
  refine Meth.of (by decide) [(0, .ref v0), (1, .int v1), (2, .int v2)] rfl (Nat.le_of_ble_eq_true rfl) ?_
  intro p l e R s m args below meth c D ca ad A X C
  have C : CX p R s m args meth c D ca ad A X cX6_at RX6 3 (some .int) 1 := C
  unfold fX6_at
  refine E_iload_n C dX6_at_0 1 rfl ?_
  refine E_iconst C 0 dX6_at_1 (by decide) ?_
  refine E_aload_n C dX6_at_2 0 rfl ?_
  refine E_getI C F_X6_9 dX6_at_3 (fun x3 => ?_)
  refine E_iconst C 1 dX6_at_6 (by decide) ?_
  refine E_isub C dX6_at_7 ?_
  refine E_callNI (st := []) C [.int v1, .int ((0 : Int32)), .int ((x3 - (1 : Int32)))] (mX10_within v1 ((0 : Int32)) ((x3 - (1 : Int32))) μ) cal_X10_within st_X10_within lk_X6_33 dX6_at_8 rfl rfl (Nat.le_of_ble_eq_true rfl) (Nat.le_of_ble_eq_true rfl) (fun x8 μ8 => ?_)
  refine E_if_eq C 28 dX6_at_11 (by decide) ?_ ?_
  · refine E_iconst C (-1) dX6_at_28 (by decide) ?_
    exact E_iret C dX6_at_29
  · refine E_at (pc2 := 14) rfl ?_
    refine E_iload_n C dX6_at_14 2 rfl ?_
    refine E_iconst C 0 dX6_at_15 (by decide) ?_
    refine E_aload_n C dX6_at_16 0 rfl ?_
    refine E_getI C F_X6_15 dX6_at_17 (fun x17 => ?_)
    refine E_iconst C 1 dX6_at_20 (by decide) ?_
    refine E_isub C dX6_at_21 ?_
    refine E_callNI (st := []) C [.int v2, .int ((0 : Int32)), .int ((x17 - (1 : Int32)))] (mX10_within v2 ((0 : Int32)) ((x17 - (1 : Int32))) μ8) cal_X10_within st_X10_within lk_X6_33 dX6_at_22 rfl rfl (Nat.le_of_ble_eq_true rfl) (Nat.le_of_ble_eq_true rfl) (fun x22 μ22 => ?_)
    refine E_if_ne C 30 dX6_at_25 (by decide) ?_ ?_
    · refine E_aload_n C dX6_at_30 0 rfl ?_
      refine E_getR C F_X6_21 dX6_at_31 (fun x31 => ?_)
      refine E_iload_n C dX6_at_34 1 rfl ?_
      refine E_aload_n C dX6_at_35 0 rfl ?_
      refine E_getI C F_X6_15 dX6_at_36 (fun x36 => ?_)
      refine E_imul C dX6_at_39 ?_
      refine E_iload_n C dX6_at_40 2 rfl ?_
      refine E_iadd C dX6_at_41 ?_
      refine E_iaload C dX6_at_42 (fun x42 => ?_)
      exact E_iret C dX6_at_43
    · refine E_at (pc2 := 28) rfl ?_
      refine E_iconst C (-1) dX6_at_28 (by decide) ?_
      exact E_iret C dX6_at_29
def fX0_inflowIn (v0 : Nat) (v1 : Int32) (v2 : Int32) (μ : Mem) : Option (Int32 × Mem) :=
  (gR μ v0 0 4).bind fun x1 => (aI μ 0 x1 (((v1 * (3 : Int32)) + v2))).bind fun x9 => some (x9, μ)
set_option maxHeartbeats 4000000 in
set_option maxRecDepth 100000 in
theorem mX0_inflowIn (v0 : Nat) (v1 : Int32) (v2 : Int32) (μ : Mem) : Meth wI yX0_inflowIn cX0_inflowIn 3 (some .int) 0 [.ref v0, .int v1, .int v2] μ (fX0_inflowIn v0 v1 v2 μ) := by
  refine Meth.of (by decide) [(0, .ref v0), (1, .int v1), (2, .int v2)] rfl (Nat.le_of_ble_eq_true rfl) ?_
  intro p l e R s m args below meth c D ca ad A X C
  have C : CX p R s m args meth c D ca ad A X cX0_inflowIn RX0 3 (some .int) 0 := C
  unfold fX0_inflowIn
  refine E_aload_n C dX0_inflowIn_0 0 rfl ?_
  refine E_getR C F_X0_24 dX0_inflowIn_1 (fun x1 => ?_)
  refine E_iload_n C dX0_inflowIn_4 1 rfl ?_
  refine E_iconst C 3 dX0_inflowIn_5 (by decide) ?_
  refine E_imul C dX0_inflowIn_6 ?_
  refine E_iload_n C dX0_inflowIn_7 2 rfl ?_
  refine E_iadd C dX0_inflowIn_8 ?_
  refine E_iaload C dX0_inflowIn_9 (fun x9 => ?_)
  exact E_iret C dX0_inflowIn_10
def X0_nearestState_L5 (G : Int32 → Mem → Option (Int32 × Mem)) (v0 : Nat) (v1 : Int32) (v2 : Int32) : Nat → Int32 → Int32 → Mem → Option (Int32 × Mem)
  | 0, _, _, _ => none
  | n + 1, v3, v4, μ => if (3 : Int32) ≤ v4 then (G v3 μ) else ((isC μ v0 0).bind fun _ => bd (fX0_inflowIn v0 v1 v4 μ) fun x15 μ15 => (isC μ15 v0 0).bind fun _ => bd (fX0_inflowIn v0 v1 v3 μ15) fun x26 μ26 => if (abI ((x26 - v2))) ≤ (abI ((x15 - v2))) then (X0_nearestState_L5 G v0 v1 v2 n v3 ((v4 + 1)) μ26) else (X0_nearestState_L5 G v0 v1 v2 n v4 ((v4 + 1)) μ26))
set_option maxHeartbeats 4000000 in
set_option maxRecDepth 100000 in
theorem X0_nearestState_L5_ok {p : Program} {l : Launch} {e : Env} {R : Room} {s : State} {m : MethodId} {args : Array Value} {below : List Frame} {meth : Method} {c : Code} {D : va_G} {ca : Nat → ClassId} {ad : Nat → Nat} {A : Nat → Prop} {X : State → Prop} (C : CX p R s m args meth c D ca ad A X cX0_nearestState RX0 5 (some .int) 1) {G : Int32 → Mem → Option (Int32 × Mem)} (v0 : Nat) (v1 : Int32) (v2 : Int32) (hG : ∀ (v3x : Int32) (μx : Mem), Sm p l e R s m args below meth c D ca ad A 5 0 0 wI (KQ below args s D ca ad A) 46 [(3, .int v3x)] [] μx (G v3x μx)) : ∀ (n : Nat) (v3 : Int32) (v4 : Int32) (μ : Mem), Sm p l e R s m args below meth c D ca ad A 5 0 0 wI (KQ below args s D ca ad A) 5 [(0, .ref v0), (1, .int v1), (2, .int v2), (3, .int v3), (4, .int v4)] [] μ (X0_nearestState_L5 G v0 v1 v2 n v3 v4 μ) := by
  intro n
  induction n with
  | zero =>
    intro v3 v4 μ
    rw [X0_nearestState_L5]
    exact E_none
  | succ n ih =>
    intro v3 v4 μ
    rw [X0_nearestState_L5]
    refine E_iload C dX0_nearestState_5 4 rfl ?_
    refine E_iconst C 3 dX0_nearestState_7 (by decide) ?_
    refine E_icmp_ge C 46 dX0_nearestState_8 (by decide) ?_ ?_
    · exact E_pick [3] rfl (hG v3 μ)
    · refine E_at (pc2 := 11) rfl ?_
      refine E_aload_n C dX0_nearestState_11 0 rfl ?_
      refine E_iload_n C dX0_nearestState_12 1 rfl ?_
      refine E_iload C dX0_nearestState_13 4 rfl ?_
      refine E_callVI (st := []) C [.int v1, .int v4] (mX0_inflowIn v0 v1 v4 μ) cal_X0_inflowIn vir_X0_inflowIn lk_X0_137 dX0_nearestState_15 rfl rfl (Nat.le_of_ble_eq_true rfl) (Nat.le_of_ble_eq_true rfl) (fun x15 μ15 => ?_)
      refine E_iload_n C dX0_nearestState_18 2 rfl ?_
      refine E_isub C dX0_nearestState_19 ?_
      refine E_mabs C lk_X0_140 st_Math_abs in_Math co_Math_abs dX0_nearestState_20 (Nat.le_of_ble_eq_true rfl) (Nat.le_of_ble_eq_true rfl) ?_
      refine E_aload_n C dX0_nearestState_23 0 rfl ?_
      refine E_iload_n C dX0_nearestState_24 1 rfl ?_
      refine E_iload_n C dX0_nearestState_25 3 rfl ?_
      refine E_callVI (st := [.int ((abI ((x15 - v2))))]) C [.int v1, .int v3] (mX0_inflowIn v0 v1 v3 μ15) cal_X0_inflowIn vir_X0_inflowIn lk_X0_137 dX0_nearestState_26 rfl rfl (Nat.le_of_ble_eq_true rfl) (Nat.le_of_ble_eq_true rfl) (fun x26 μ26 => ?_)
      refine E_iload_n C dX0_nearestState_29 2 rfl ?_
      refine E_isub C dX0_nearestState_30 ?_
      refine E_mabs C lk_X0_140 st_Math_abs in_Math co_Math_abs dX0_nearestState_31 (Nat.le_of_ble_eq_true rfl) (Nat.le_of_ble_eq_true rfl) ?_
      refine E_icmp_ge C 40 dX0_nearestState_34 (by decide) ?_ ?_
      · refine E_iinc (lv' := [(4, .int ((v4 + 1))), (0, .ref v0), (1, .int v1), (2, .int v2), (3, .int v3)]) C (v4 + 1) dX0_nearestState_40 4 rfl rfl (by decide) rfl ?_
        refine E_goto C 5 dX0_nearestState_43 (by decide) ?_
        exact E_pick [1, 2, 3, 4, 0] rfl (ih v3 ((v4 + 1)) μ26)
      · refine E_at (pc2 := 37) rfl ?_
        refine E_iload C dX0_nearestState_37 4 rfl ?_
        refine E_istore_n (lv' := [(3, .int v4), (0, .ref v0), (1, .int v1), (2, .int v2), (4, .int v4)]) C dX0_nearestState_39 (by decide) rfl ?_
        refine E_at (pc2 := 40) rfl ?_
        refine E_iinc (lv' := [(4, .int ((v4 + 1))), (3, .int v4), (0, .ref v0), (1, .int v1), (2, .int v2)]) C (v4 + 1) dX0_nearestState_40 4 rfl rfl (by decide) rfl ?_
        refine E_goto C 5 dX0_nearestState_43 (by decide) ?_
        exact E_pick [2, 3, 4, 1, 0] rfl (ih v4 ((v4 + 1)) μ26)
def fX0_nearestState (v0 : Nat) (v1 : Int32) (v2 : Int32) (μ : Mem) : Option (Int32 × Mem) :=
  X0_nearestState_L5 (fun v3_46 μ_46 => some (v3_46, μ_46)) v0 v1 v2 FU ((0 : Int32)) ((1 : Int32)) μ
set_option maxHeartbeats 4000000 in
set_option maxRecDepth 100000 in
theorem mX0_nearestState (v0 : Nat) (v1 : Int32) (v2 : Int32) (μ : Mem) : Meth wI yX0_nearestState cX0_nearestState 5 (some .int) 1 [.ref v0, .int v1, .int v2] μ (fX0_nearestState v0 v1 v2 μ) := by
  refine Meth.of (by decide) [(0, .ref v0), (1, .int v1), (2, .int v2)] rfl (Nat.le_of_ble_eq_true rfl) ?_
  intro p l e R s m args below meth c D ca ad A X C
  have C : CX p R s m args meth c D ca ad A X cX0_nearestState RX0 5 (some .int) 1 := C
  unfold fX0_nearestState
  refine E_iconst C 0 dX0_nearestState_0 (by decide) ?_
  refine E_istore_n (lv' := [(3, .int ((0 : Int32))), (0, .ref v0), (1, .int v1), (2, .int v2)]) C dX0_nearestState_1 (by decide) rfl ?_
  refine E_iconst C 1 dX0_nearestState_2 (by decide) ?_
  refine E_istore (lv' := [(4, .int ((1 : Int32))), (3, .int ((0 : Int32))), (0, .ref v0), (1, .int v1), (2, .int v2)]) C dX0_nearestState_3 (by decide) rfl ?_
  refine E_at (pc2 := 5) rfl ?_
  refine E_pick (lv' := [(0, .ref v0), (1, .int v1), (2, .int v2), (3, .int ((0 : Int32))), (4, .int ((1 : Int32)))]) [2, 3, 4, 1, 0] rfl ?_
  refine X0_nearestState_L5_ok C v0 v1 v2 (fun v3_46 μ_46 => ?_) FU ((0 : Int32)) ((1 : Int32)) μ
  refine E_iload_n C dX0_nearestState_46 0 rfl ?_
  exact E_iret C dX0_nearestState_47
def X0_learnParts_L2 (G : Mem → Option (Unit × Mem)) (v0 : Nat) (v1 : Nat) : Nat → Int32 → Mem → Option (Unit × Mem)
  | 0, _, _ => none
  | n + 1, v2, μ => if (9 : Int32) ≤ v2 then (G μ) else ((gR μ v0 0 5).bind fun x9 => (sI μ x9 v2 ((1 : Int32))).bind fun μ14 => X0_learnParts_L2 G v0 v1 n ((v2 + 1)) μ14)
set_option maxHeartbeats 4000000 in
set_option maxRecDepth 100000 in
theorem X0_learnParts_L2_ok {p : Program} {l : Launch} {e : Env} {R : Room} {s : State} {m : MethodId} {args : Array Value} {below : List Frame} {meth : Method} {c : Code} {D : va_G} {ca : Nat → ClassId} {ad : Nat → Nat} {A : Nat → Prop} {X : State → Prop} (C : CX p R s m args meth c D ca ad A X cX0_learnParts RX0 5 none 2) {G : Mem → Option (Unit × Mem)} (v0 : Nat) (v1 : Nat) (hG : ∀  (μx : Mem), Sm p l e R s m args below meth c D ca ad A 5 0 0 wU (KQ below args s D ca ad A) 21 [(0, .ref v0), (1, .ref v1)] [] μx (G  μx)) : ∀ (n : Nat) (v2 : Int32) (μ : Mem), Sm p l e R s m args below meth c D ca ad A 5 0 0 wU (KQ below args s D ca ad A) 2 [(0, .ref v0), (1, .ref v1), (2, .int v2)] [] μ (X0_learnParts_L2 G v0 v1 n v2 μ) := by
  intro n
  induction n with
  | zero =>
    intro v2 μ
    rw [X0_learnParts_L2]
    exact E_none
  | succ n ih =>
    intro v2 μ
    rw [X0_learnParts_L2]
    refine E_iload_n C dX0_learnParts_2 2 rfl ?_
    refine E_bipush C 9 dX0_learnParts_3 (by decide) ?_
    refine E_icmp_ge C 21 dX0_learnParts_5 (by decide) ?_ ?_
    · exact E_pick [0, 1] rfl (hG μ)
    · refine E_at (pc2 := 8) rfl ?_
      refine E_aload_n C dX0_learnParts_8 0 rfl ?_
      refine E_getR C F_X0_28 dX0_learnParts_9 (fun x9 => ?_)
      refine E_iload_n C dX0_learnParts_12 2 rfl ?_
      refine E_iconst C 1 dX0_learnParts_13 (by decide) ?_
      refine E_iastore C dX0_learnParts_14 (fun μ14 => ?_)
      refine E_iinc (lv' := [(2, .int ((v2 + 1))), (0, .ref v0), (1, .ref v1)]) C (v2 + 1) dX0_learnParts_15 2 rfl rfl (by decide) rfl ?_
      refine E_goto C 2 dX0_learnParts_18 (by decide) ?_
      exact E_pick [1, 2, 0] rfl (ih ((v2 + 1)) μ14)
def X0_learnParts_L23 (G : Mem → Option (Unit × Mem)) (v0 : Nat) (v1 : Nat) : Nat → Int32 → Mem → Option (Unit × Mem)
  | 0, _, _ => none
  | n + 1, v2, μ => (gI μ v1 6 3).bind fun x25 => if (x25 - (1 : Int32)) ≤ v2 then (G μ) else ((rmI v2 ((12 : Int32))).bind fun x37 => (isC μ v1 6).bind fun _ => bd (fX6_at v1 v2 ((0 : Int32)) μ) fun x41 μ41 => (isC μ41 v0 0).bind fun _ => bd (fX0_nearestState v0 x37 x41 μ41) fun x44 μ44 => (rmI ((v2 + (1 : Int32))) ((12 : Int32))).bind fun x54 => (isC μ44 v1 6).bind fun _ => bd (fX6_at v1 ((v2 + (1 : Int32))) ((0 : Int32)) μ44) fun x60 μ60 => (isC μ60 v0 0).bind fun _ => bd (fX0_nearestState v0 x54 x60 μ60) fun x63 μ63 => (gR μ63 v0 0 5).bind fun x69 => (gR μ63 v0 0 5).bind fun x81 => (aI μ63 0 x81 (((x44 * (3 : Int32)) + x63))).bind fun x90 => (sI μ63 x69 (((x44 * (3 : Int32)) + x63)) ((mnI ((9 : Int32)) ((x90 + (1 : Int32)))))).bind fun μ96 => X0_learnParts_L23 G v0 v1 n ((v2 + 1)) μ96)
set_option maxHeartbeats 4000000 in
set_option maxRecDepth 100000 in
theorem X0_learnParts_L23_ok {p : Program} {l : Launch} {e : Env} {R : Room} {s : State} {m : MethodId} {args : Array Value} {below : List Frame} {meth : Method} {c : Code} {D : va_G} {ca : Nat → ClassId} {ad : Nat → Nat} {A : Nat → Prop} {X : State → Prop} (C : CX p R s m args meth c D ca ad A X cX0_learnParts RX0 5 none 2) {G : Mem → Option (Unit × Mem)} (v0 : Nat) (v1 : Nat) (hG : ∀  (μx : Mem), Sm p l e R s m args below meth c D ca ad A 5 0 0 wU (KQ below args s D ca ad A) 103 [] [] μx (G  μx)) : ∀ (n : Nat) (v2 : Int32) (μ : Mem), Sm p l e R s m args below meth c D ca ad A 5 0 0 wU (KQ below args s D ca ad A) 23 [(0, .ref v0), (1, .ref v1), (2, .int v2)] [] μ (X0_learnParts_L23 G v0 v1 n v2 μ) := by
  intro n
  induction n with
  | zero =>
    intro v2 μ
    rw [X0_learnParts_L23]
    exact E_none
  | succ n ih =>
    intro v2 μ
    rw [X0_learnParts_L23]
    refine E_iload_n C dX0_learnParts_23 2 rfl ?_
    refine E_aload_n C dX0_learnParts_24 1 rfl ?_
    refine E_getI C F_X0_122 dX0_learnParts_25 (fun x25 => ?_)
    refine E_iconst C 1 dX0_learnParts_28 (by decide) ?_
    refine E_isub C dX0_learnParts_29 ?_
    refine E_icmp_ge C 103 dX0_learnParts_30 (by decide) ?_ ?_
    · exact E_pick [] rfl (hG μ)
    · refine E_at (pc2 := 33) rfl ?_
      refine E_aload_n C dX0_learnParts_33 0 rfl ?_
      refine E_iload_n C dX0_learnParts_34 2 rfl ?_
      refine E_bipush C 12 dX0_learnParts_35 (by decide) ?_
      refine E_irem C dX0_learnParts_37 (fun x37 => ?_)
      refine E_aload_n C dX0_learnParts_38 1 rfl ?_
      refine E_iload_n C dX0_learnParts_39 2 rfl ?_
      refine E_iconst C 0 dX0_learnParts_40 (by decide) ?_
      refine E_callVI (st := [.int x37, .ref v0]) C [.int v2, .int ((0 : Int32))] (mX6_at v1 v2 ((0 : Int32)) μ) cal_X6_at vir_X6_at lk_X0_125 dX0_learnParts_41 rfl rfl (Nat.le_of_ble_eq_true rfl) (Nat.le_of_ble_eq_true rfl) (fun x41 μ41 => ?_)
      refine E_callVI (st := []) C [.int x37, .int x41] (mX0_nearestState v0 x37 x41 μ41) cal_X0_nearestState vir_X0_nearestState lk_X0_129 dX0_learnParts_44 rfl rfl (Nat.le_of_ble_eq_true rfl) (Nat.le_of_ble_eq_true rfl) (fun x44 μ44 => ?_)
      refine E_istore_n (lv' := [(3, .int x44), (0, .ref v0), (1, .ref v1), (2, .int v2)]) C dX0_learnParts_47 (by decide) rfl ?_
      refine E_aload_n C dX0_learnParts_48 1 rfl ?_
      refine E_iload_n C dX0_learnParts_49 3 rfl ?_
      refine E_iconst C 1 dX0_learnParts_50 (by decide) ?_
      refine E_iadd C dX0_learnParts_51 ?_
      refine E_bipush C 12 dX0_learnParts_52 (by decide) ?_
      refine E_irem C dX0_learnParts_54 (fun x54 => ?_)
      refine E_aload_n C dX0_learnParts_55 2 rfl ?_
      refine E_iload_n C dX0_learnParts_56 3 rfl ?_
      refine E_iconst C 1 dX0_learnParts_57 (by decide) ?_
      refine E_iadd C dX0_learnParts_58 ?_
      refine E_iconst C 0 dX0_learnParts_59 (by decide) ?_
      refine E_callVI (st := [.int x54, .ref v0]) C [.int ((v2 + (1 : Int32))), .int ((0 : Int32))] (mX6_at v1 ((v2 + (1 : Int32))) ((0 : Int32)) μ44) cal_X6_at vir_X6_at lk_X0_125 dX0_learnParts_60 rfl rfl (Nat.le_of_ble_eq_true rfl) (Nat.le_of_ble_eq_true rfl) (fun x60 μ60 => ?_)
      refine E_callVI (st := []) C [.int x54, .int x60] (mX0_nearestState v0 x54 x60 μ60) cal_X0_nearestState vir_X0_nearestState lk_X0_129 dX0_learnParts_63 rfl rfl (Nat.le_of_ble_eq_true rfl) (Nat.le_of_ble_eq_true rfl) (fun x63 μ63 => ?_)
      refine E_istore (lv' := [(4, .int x63), (3, .int x44), (0, .ref v0), (1, .ref v1), (2, .int v2)]) C dX0_learnParts_66 (by decide) rfl ?_
      refine E_aload_n C dX0_learnParts_68 2 rfl ?_
      refine E_getR C F_X0_28 dX0_learnParts_69 (fun x69 => ?_)
      refine E_iload_n C dX0_learnParts_72 1 rfl ?_
      refine E_iconst C 3 dX0_learnParts_73 (by decide) ?_
      refine E_imul C dX0_learnParts_74 ?_
      refine E_iload C dX0_learnParts_75 0 rfl ?_
      refine E_iadd C dX0_learnParts_77 ?_
      refine E_bipush C 9 dX0_learnParts_78 (by decide) ?_
      refine E_aload_n C dX0_learnParts_80 2 rfl ?_
      refine E_getR C F_X0_28 dX0_learnParts_81 (fun x81 => ?_)
      refine E_iload_n C dX0_learnParts_84 1 rfl ?_
      refine E_iconst C 3 dX0_learnParts_85 (by decide) ?_
      refine E_imul C dX0_learnParts_86 ?_
      refine E_iload C dX0_learnParts_87 0 rfl ?_
      refine E_iadd C dX0_learnParts_89 ?_
      refine E_iaload C dX0_learnParts_90 (fun x90 => ?_)
      refine E_iconst C 1 dX0_learnParts_91 (by decide) ?_
      refine E_iadd C dX0_learnParts_92 ?_
      refine E_mmin C lk_X0_132 st_Math_min in_Math co_Math_min dX0_learnParts_93 (Nat.le_of_ble_eq_true rfl) (Nat.le_of_ble_eq_true rfl) ?_
      refine E_iastore C dX0_learnParts_96 (fun μ96 => ?_)
      refine E_iinc (lv' := [(2, .int ((v2 + 1))), (4, .int x63), (3, .int x44), (0, .ref v0), (1, .ref v1)]) C (v2 + 1) dX0_learnParts_97 4 rfl rfl (by decide) rfl ?_
      refine E_goto C 23 dX0_learnParts_100 (by decide) ?_
      exact E_pick [3, 4, 0] rfl (ih ((v2 + 1)) μ96)
def fX0_learnParts (v0 : Nat) (v1 : Nat) (μ : Mem) : Option (Unit × Mem) :=
  X0_learnParts_L2 (fun μ_21 => X0_learnParts_L23 (fun μ_103 => some ((), μ_103)) v0 v1 FU ((0 : Int32)) μ_21) v0 v1 FU ((0 : Int32)) μ
set_option maxHeartbeats 4000000 in
set_option maxRecDepth 100000 in
theorem mX0_learnParts (v0 : Nat) (v1 : Nat) (μ : Mem) : Meth wU yX0_learnParts cX0_learnParts 5 none 2 [.ref v0, .ref v1] μ (fX0_learnParts v0 v1 μ) := by
  refine Meth.of (by decide) [(0, .ref v0), (1, .ref v1)] rfl (Nat.le_of_ble_eq_true rfl) ?_
  intro p l e R s m args below meth c D ca ad A X C
  have C : CX p R s m args meth c D ca ad A X cX0_learnParts RX0 5 none 2 := C
  unfold fX0_learnParts
  refine E_iconst C 0 dX0_learnParts_0 (by decide) ?_
  refine E_istore_n (lv' := [(2, .int ((0 : Int32))), (0, .ref v0), (1, .ref v1)]) C dX0_learnParts_1 (by decide) rfl ?_
  refine E_at (pc2 := 2) rfl ?_
  refine E_pick (lv' := [(0, .ref v0), (1, .ref v1), (2, .int ((0 : Int32)))]) [1, 2, 0] rfl ?_
  refine X0_learnParts_L2_ok C v0 v1 (fun μ_21 => ?_) FU ((0 : Int32)) μ
  refine E_iconst C 0 dX0_learnParts_21 (by decide) ?_
  refine E_istore_n (lv' := [(2, .int ((0 : Int32))), (0, .ref v0), (1, .ref v1)]) C dX0_learnParts_22 (by decide) rfl ?_
  refine E_at (pc2 := 23) rfl ?_
  refine E_pick (lv' := [(0, .ref v0), (1, .ref v1), (2, .int ((0 : Int32)))]) [1, 2, 0] rfl ?_
  refine X0_learnParts_L23_ok C v0 v1 (fun μ_103 => ?_) FU ((0 : Int32)) μ_21
  exact E_ret C dX0_learnParts_103
def fX0_isAhead (v0 : Nat) (v1 : Int32) (v2 : Int32) (μ : Mem) : Option (Int32 × Mem) :=
  (gI μ v0 0 1).bind fun x3 => bd (fX10_within v1 ((0 : Int32)) ((x3 - (1 : Int32))) μ) fun x8 μ8 => if x8 = 0 then ((zz ((0 : Int32))).bind fun z => some (z, μ8)) else ((gI μ8 v0 0 0).bind fun x17 => bd (fX10_within v2 ((0 : Int32)) x17 μ8) fun x20 μ20 => if x20 = 0 then ((zz ((0 : Int32))).bind fun z => some (z, μ20)) else ((zz ((1 : Int32))).bind fun z => some (z, μ20)))
set_option maxHeartbeats 4000000 in
set_option maxRecDepth 100000 in
theorem mX0_isAhead (v0 : Nat) (v1 : Int32) (v2 : Int32) (μ : Mem) : Meth wI yX0_isAhead cX0_isAhead 3 (some .boolean) 1 [.ref v0, .int v1, .int v2] μ (fX0_isAhead v0 v1 v2 μ) := by
  refine Meth.of (by decide) [(0, .ref v0), (1, .int v1), (2, .int v2)] rfl (Nat.le_of_ble_eq_true rfl) ?_
  intro p l e R s m args below meth c D ca ad A X C
  have C : CX p R s m args meth c D ca ad A X cX0_isAhead RX0 3 (some .boolean) 1 := C
  unfold fX0_isAhead
  refine E_iload_n C dX0_isAhead_0 1 rfl ?_
  refine E_iconst C 0 dX0_isAhead_1 (by decide) ?_
  refine E_aload_n C dX0_isAhead_2 0 rfl ?_
  refine E_getI C F_X0_15 dX0_isAhead_3 (fun x3 => ?_)
  refine E_iconst C 1 dX0_isAhead_6 (by decide) ?_
  refine E_isub C dX0_isAhead_7 ?_
  refine E_callNI (st := []) C [.int v1, .int ((0 : Int32)), .int ((x3 - (1 : Int32)))] (mX10_within v1 ((0 : Int32)) ((x3 - (1 : Int32))) μ) cal_X10_within st_X10_within lk_X0_60 dX0_isAhead_8 rfl rfl (Nat.le_of_ble_eq_true rfl) (Nat.le_of_ble_eq_true rfl) (fun x8 μ8 => ?_)
  refine E_if_eq C 30 dX0_isAhead_11 (by decide) ?_ ?_
  · refine E_iconst C 0 dX0_isAhead_30 (by decide) ?_
    exact E_zret C dX0_isAhead_31
  · refine E_at (pc2 := 14) rfl ?_
    refine E_iload_n C dX0_isAhead_14 2 rfl ?_
    refine E_iconst C 0 dX0_isAhead_15 (by decide) ?_
    refine E_aload_n C dX0_isAhead_16 0 rfl ?_
    refine E_getI C F_X0_9 dX0_isAhead_17 (fun x17 => ?_)
    refine E_callNI (st := []) C [.int v2, .int ((0 : Int32)), .int x17] (mX10_within v2 ((0 : Int32)) x17 μ8) cal_X10_within st_X10_within lk_X0_60 dX0_isAhead_20 rfl rfl (Nat.le_of_ble_eq_true rfl) (Nat.le_of_ble_eq_true rfl) (fun x20 μ20 => ?_)
    refine E_if_eq C 30 dX0_isAhead_23 (by decide) ?_ ?_
    · refine E_iconst C 0 dX0_isAhead_30 (by decide) ?_
      exact E_zret C dX0_isAhead_31
    · refine E_at (pc2 := 26) rfl ?_
      refine E_iconst C 1 dX0_isAhead_26 (by decide) ?_
      refine E_goto C 31 dX0_isAhead_27 (by decide) ?_
      exact E_zret C dX0_isAhead_31
def fX0_topOf (v0 : Nat) (v1 : Int32) (μ : Mem) : Option (Int32 × Mem) :=
  (gI μ v0 0 0).bind fun x1 => (gR μ v0 0 7).bind fun x5 => (aI μ 0 x5 v1).bind fun x9 => if x1 ≤ x9 then (some ((0 : Int32), μ)) else ((gI μ v0 0 0).bind fun x14 => (gR μ v0 0 7).bind fun x18 => (aI μ 0 x18 v1).bind fun x22 => some ((x14 - x22), μ))
set_option maxHeartbeats 4000000 in
set_option maxRecDepth 100000 in
theorem mX0_topOf (v0 : Nat) (v1 : Int32) (μ : Mem) : Meth wI yX0_topOf cX0_topOf 2 (some .int) 0 [.ref v0, .int v1] μ (fX0_topOf v0 v1 μ) := by
  refine Meth.of (by decide) [(0, .ref v0), (1, .int v1)] rfl (Nat.le_of_ble_eq_true rfl) ?_
  intro p l e R s m args below meth c D ca ad A X C
  have C : CX p R s m args meth c D ca ad A X cX0_topOf RX0 2 (some .int) 0 := C
  unfold fX0_topOf
  refine E_aload_n C dX0_topOf_0 0 rfl ?_
  refine E_getI C F_X0_9 dX0_topOf_1 (fun x1 => ?_)
  refine E_aload_n C dX0_topOf_4 0 rfl ?_
  refine E_getR C F_X0_34 dX0_topOf_5 (fun x5 => ?_)
  refine E_iload_n C dX0_topOf_8 1 rfl ?_
  refine E_iaload C dX0_topOf_9 (fun x9 => ?_)
  refine E_icmp_le C 27 dX0_topOf_10 (by decide) ?_ ?_
  · refine E_iconst C 0 dX0_topOf_27 (by decide) ?_
    exact E_iret C dX0_topOf_28
  · refine E_at (pc2 := 13) rfl ?_
    refine E_aload_n C dX0_topOf_13 0 rfl ?_
    refine E_getI C F_X0_9 dX0_topOf_14 (fun x14 => ?_)
    refine E_aload_n C dX0_topOf_17 0 rfl ?_
    refine E_getR C F_X0_34 dX0_topOf_18 (fun x18 => ?_)
    refine E_iload_n C dX0_topOf_21 1 rfl ?_
    refine E_iaload C dX0_topOf_22 (fun x22 => ?_)
    refine E_isub C dX0_topOf_23 ?_
    refine E_goto C 28 dX0_topOf_24 (by decide) ?_
    exact E_iret C dX0_topOf_28
def fX0_driedIn (v0 : Nat) (v1 : Int32) (v2 : Int32) (μ : Mem) : Option (Int32 × Mem) :=
  (gR μ v0 0 6).bind fun x2 => (aI μ 0 x2 v1).bind fun x6 => (dvI ((v2 * x6)) ((10 : Int32))).bind fun x10 => some (x10, μ)
set_option maxHeartbeats 4000000 in
set_option maxRecDepth 100000 in
theorem mX0_driedIn (v0 : Nat) (v1 : Int32) (v2 : Int32) (μ : Mem) : Meth wI yX0_driedIn cX0_driedIn 3 (some .int) 0 [.ref v0, .int v1, .int v2] μ (fX0_driedIn v0 v1 v2 μ) := by
  refine Meth.of (by decide) [(0, .ref v0), (1, .int v1), (2, .int v2)] rfl (Nat.le_of_ble_eq_true rfl) ?_
  intro p l e R s m args below meth c D ca ad A X C
  have C : CX p R s m args meth c D ca ad A X cX0_driedIn RX0 3 (some .int) 0 := C
  unfold fX0_driedIn
  refine E_iload_n C dX0_driedIn_0 2 rfl ?_
  refine E_aload_n C dX0_driedIn_1 0 rfl ?_
  refine E_getR C F_X0_31 dX0_driedIn_2 (fun x2 => ?_)
  refine E_iload_n C dX0_driedIn_5 1 rfl ?_
  refine E_iaload C dX0_driedIn_6 (fun x6 => ?_)
  refine E_imul C dX0_driedIn_7 ?_
  refine E_bipush C 10 dX0_driedIn_8 (by decide) ?_
  refine E_idiv C dX0_driedIn_10 (fun x10 => ?_)
  exact E_iret C dX0_driedIn_11
def fX5_wantedIn (v0 : Nat) (v1 : Int32) (μ : Mem) : Option (Int32 × Mem) :=
  (gI μ v0 5 4).bind fun x1 => (gI μ v0 5 5).bind fun x5 => jn (fun (s0_56 : Int32) (μ_56 : Mem) => if s0_56 = 0 then (some ((0 : Int32), μ_56)) else ((gI μ_56 v0 5 0).bind fun x64 => if x64 = (2 : Int32) then (bd (fX10_within v1 ((5 : Int32)) ((8 : Int32)) μ_56) fun x75 μ75 => if x75 = 0 then ((gI μ75 v0 5 2).bind fun x91 => some (x91, μ75)) else ((gI μ75 v0 5 2).bind fun x83 => some (((2 : Int32) * x83), μ75))) else ((gI μ_56 v0 5 2).bind fun x91 => some (x91, μ_56)))) (fun j56 => if x5 < x1 then ((gI μ v0 5 4).bind fun x37 => jn (fun  (μ_51 : Mem) => j56 ((1 : Int32)) μ_51) (fun j51 => if x37 ≤ v1 then (j51 μ) else ((gI μ v0 5 5).bind fun x45 => if x45 < v1 then (j56 ((0 : Int32)) μ) else (j51 μ)))) else ((gI μ v0 5 4).bind fun x13 => jn (fun  (μ_31 : Mem) => j56 ((0 : Int32)) μ_31) (fun j31 => if v1 < x13 then (j31 μ) else ((gI μ v0 5 5).bind fun x21 => if x21 < v1 then (j31 μ) else (j56 ((1 : Int32)) μ)))))
set_option maxHeartbeats 4000000 in
set_option maxRecDepth 100000 in
theorem mX5_wantedIn (v0 : Nat) (v1 : Int32) (μ : Mem) : Meth wI yX5_wantedIn cX5_wantedIn 3 (some .int) 1 [.ref v0, .int v1] μ (fX5_wantedIn v0 v1 μ) := by
  refine Meth.of (by decide) [(0, .ref v0), (1, .int v1)] rfl (Nat.le_of_ble_eq_true rfl) ?_
  intro p l e R s m args below meth c D ca ad A X C
  have C : CX p R s m args meth c D ca ad A X cX5_wantedIn RX5 3 (some .int) 1 := C
  unfold fX5_wantedIn
  refine E_aload_n C dX5_wantedIn_0 0 rfl ?_
  refine E_getI C F_X5_24 dX5_wantedIn_1 (fun x1 => ?_)
  refine E_aload_n C dX5_wantedIn_4 0 rfl ?_
  refine E_getI C F_X5_27 dX5_wantedIn_5 (fun x5 => ?_)
  refine E_jn (fun j56 => ∀ (s0_56 : Int32) (μ_56 : Mem), Sm p l e R s m args below meth c D ca ad A 3 0 0 wI (KQ below args s D ca ad A) 56 [(0, .ref v0), (1, .int v1)] [.int s0_56] μ_56 (j56 s0_56 μ_56)) ?_ (fun j56 hj56 => ?_)
  · intro s0_56 μ_56
    refine E_istore_n (lv' := [(2, .int s0_56), (0, .ref v0), (1, .int v1)]) C dX5_wantedIn_56 (by decide) rfl ?_
    refine E_iload_n C dX5_wantedIn_57 0 rfl ?_
    refine E_if_ne C 63 dX5_wantedIn_58 (by decide) ?_ ?_
    · refine E_aload_n C dX5_wantedIn_63 1 rfl ?_
      refine E_getI C F_X5_9 dX5_wantedIn_64 (fun x64 => ?_)
      refine E_iconst C 2 dX5_wantedIn_67 (by decide) ?_
      refine E_icmp_ne C 90 dX5_wantedIn_68 (by decide) ?_ ?_
      · refine E_aload_n C dX5_wantedIn_90 1 rfl ?_
        refine E_getI C F_X5_18 dX5_wantedIn_91 (fun x91 => ?_)
        exact E_iret C dX5_wantedIn_94
      · refine E_at (pc2 := 71) rfl ?_
        refine E_iload_n C dX5_wantedIn_71 2 rfl ?_
        refine E_iconst C 5 dX5_wantedIn_72 (by decide) ?_
        refine E_bipush C 8 dX5_wantedIn_73 (by decide) ?_
        refine E_callNI (st := []) C [.int v1, .int ((5 : Int32)), .int ((8 : Int32))] (mX10_within v1 ((5 : Int32)) ((8 : Int32)) μ_56) cal_X10_within st_X10_within lk_X5_30 dX5_wantedIn_75 rfl rfl (Nat.le_of_ble_eq_true rfl) (Nat.le_of_ble_eq_true rfl) (fun x75 μ75 => ?_)
        refine E_if_eq C 90 dX5_wantedIn_78 (by decide) ?_ ?_
        · refine E_aload_n C dX5_wantedIn_90 1 rfl ?_
          refine E_getI C F_X5_18 dX5_wantedIn_91 (fun x91 => ?_)
          exact E_iret C dX5_wantedIn_94
        · refine E_at (pc2 := 81) rfl ?_
          refine E_iconst C 2 dX5_wantedIn_81 (by decide) ?_
          refine E_aload_n C dX5_wantedIn_82 1 rfl ?_
          refine E_getI C F_X5_18 dX5_wantedIn_83 (fun x83 => ?_)
          refine E_imul C dX5_wantedIn_86 ?_
          refine E_goto C 94 dX5_wantedIn_87 (by decide) ?_
          exact E_iret C dX5_wantedIn_94
    · refine E_at (pc2 := 61) rfl ?_
      refine E_iconst C 0 dX5_wantedIn_61 (by decide) ?_
      exact E_iret C dX5_wantedIn_62
  · refine E_icmp_gt C 35 dX5_wantedIn_8 (by decide) ?_ ?_
    · refine E_iload_n C dX5_wantedIn_35 1 rfl ?_
      refine E_aload_n C dX5_wantedIn_36 0 rfl ?_
      refine E_getI C F_X5_24 dX5_wantedIn_37 (fun x37 => ?_)
      refine E_jn (fun j51 => ∀  (μ_51 : Mem), Sm p l e R s m args below meth c D ca ad A 3 0 0 wI (KQ below args s D ca ad A) 51 [(0, .ref v0), (1, .int v1)] [] μ_51 (j51  μ_51)) ?_ (fun j51 hj51 => ?_)
      · intro  μ_51
        refine E_iconst C 1 dX5_wantedIn_51 (by decide) ?_
        refine E_goto C 56 dX5_wantedIn_52 (by decide) ?_
        exact E_pick [0, 1] rfl (hj56 ((1 : Int32)) μ_51)
      · refine E_icmp_ge C 51 dX5_wantedIn_40 (by decide) ?_ ?_
        · exact E_pick [0, 1] rfl (hj51 μ)
        · refine E_at (pc2 := 43) rfl ?_
          refine E_iload_n C dX5_wantedIn_43 1 rfl ?_
          refine E_aload_n C dX5_wantedIn_44 0 rfl ?_
          refine E_getI C F_X5_27 dX5_wantedIn_45 (fun x45 => ?_)
          refine E_icmp_gt C 55 dX5_wantedIn_48 (by decide) ?_ ?_
          · refine E_iconst C 0 dX5_wantedIn_55 (by decide) ?_
            exact E_pick [0, 1] rfl (hj56 ((0 : Int32)) μ)
          · exact E_pick [0, 1] rfl (hj51 μ)
    · refine E_at (pc2 := 11) rfl ?_
      refine E_iload_n C dX5_wantedIn_11 1 rfl ?_
      refine E_aload_n C dX5_wantedIn_12 0 rfl ?_
      refine E_getI C F_X5_24 dX5_wantedIn_13 (fun x13 => ?_)
      refine E_jn (fun j31 => ∀  (μ_31 : Mem), Sm p l e R s m args below meth c D ca ad A 3 0 0 wI (KQ below args s D ca ad A) 31 [(0, .ref v0), (1, .int v1)] [] μ_31 (j31  μ_31)) ?_ (fun j31 hj31 => ?_)
      · intro  μ_31
        refine E_iconst C 0 dX5_wantedIn_31 (by decide) ?_
        refine E_goto C 56 dX5_wantedIn_32 (by decide) ?_
        exact E_pick [0, 1] rfl (hj56 ((0 : Int32)) μ_31)
      · refine E_icmp_lt C 31 dX5_wantedIn_16 (by decide) ?_ ?_
        · exact E_pick [0, 1] rfl (hj31 μ)
        · refine E_at (pc2 := 19) rfl ?_
          refine E_iload_n C dX5_wantedIn_19 1 rfl ?_
          refine E_aload_n C dX5_wantedIn_20 0 rfl ?_
          refine E_getI C F_X5_27 dX5_wantedIn_21 (fun x21 => ?_)
          refine E_icmp_gt C 31 dX5_wantedIn_24 (by decide) ?_ ?_
          · exact E_pick [0, 1] rfl (hj31 μ)
          · refine E_at (pc2 := 27) rfl ?_
            refine E_iconst C 1 dX5_wantedIn_27 (by decide) ?_
            refine E_goto C 56 dX5_wantedIn_28 (by decide) ?_
            exact E_pick [0, 1] rfl (hj56 ((1 : Int32)) μ)
def X0_gotBy_L6 (G : Mem → Option (Int32 × Mem)) (v0 : Nat) (v1 : Int32) (v2 : Int32) : Nat → Int32 → Int32 → Mem → Option (Int32 × Mem)
  | 0, _, _, _ => none
  | n + 1, v4, v5, μ => (gI μ v0 0 10).bind fun x9 => if x9 ≤ v5 then (G μ) else ((gR μ v0 0 8).bind fun x16 => (gR μ v0 0 9).bind fun x20 => (aI μ 0 x20 v5).bind fun x25 => (aR μ 4 x16 x25).bind fun x26 => (isC μ x26 5).bind fun _ => bd (fX5_wantedIn x26 v2 μ) fun x28 μ28 => (gR μ28 v0 0 9).bind fun x39 => (aI μ28 0 x39 v5).bind fun x44 => if x44 = v1 then (some ((mnI x28 v4), μ28)) else (X0_gotBy_L6 G v0 v1 v2 n ((v4 - (mnI x28 v4))) ((v5 + 1)) μ28))
set_option maxHeartbeats 4000000 in
set_option maxRecDepth 100000 in
theorem X0_gotBy_L6_ok {p : Program} {l : Launch} {e : Env} {R : Room} {s : State} {m : MethodId} {args : Array Value} {below : List Frame} {meth : Method} {c : Code} {D : va_G} {ca : Nat → ClassId} {ad : Nat → Nat} {A : Nat → Prop} {X : State → Prop} (C : CX p R s m args meth c D ca ad A X cX0_gotBy RX0 7 (some .int) 2) {G : Mem → Option (Int32 × Mem)} (v0 : Nat) (v1 : Int32) (v2 : Int32) (hG : ∀  (μx : Mem), Sm p l e R s m args below meth c D ca ad A 7 0 0 wI (KQ below args s D ca ad A) 65 [] [] μx (G  μx)) : ∀ (n : Nat) (v4 : Int32) (v5 : Int32) (μ : Mem), Sm p l e R s m args below meth c D ca ad A 7 0 0 wI (KQ below args s D ca ad A) 6 [(0, .ref v0), (1, .int v1), (2, .int v2), (4, .int v4), (5, .int v5)] [] μ (X0_gotBy_L6 G v0 v1 v2 n v4 v5 μ) := by
  intro n
  induction n with
  | zero =>
    intro v4 v5 μ
    rw [X0_gotBy_L6]
    exact E_none
  | succ n ih =>
    intro v4 v5 μ
    rw [X0_gotBy_L6]
    refine E_iload C dX0_gotBy_6 4 rfl ?_
    refine E_aload_n C dX0_gotBy_8 0 rfl ?_
    refine E_getI C F_X0_46 dX0_gotBy_9 (fun x9 => ?_)
    refine E_icmp_ge C 65 dX0_gotBy_12 (by decide) ?_ ?_
    · exact E_pick [] rfl (hG μ)
    · refine E_at (pc2 := 15) rfl ?_
      refine E_aload_n C dX0_gotBy_15 0 rfl ?_
      refine E_getR C F_X0_39 dX0_gotBy_16 (fun x16 => ?_)
      refine E_aload_n C dX0_gotBy_19 0 rfl ?_
      refine E_getR C F_X0_43 dX0_gotBy_20 (fun x20 => ?_)
      refine E_iload C dX0_gotBy_23 4 rfl ?_
      refine E_iaload C dX0_gotBy_25 (fun x25 => ?_)
      refine E_aaload C rfl dX0_gotBy_26 (fun x26 => ?_)
      refine E_iload_n C dX0_gotBy_27 2 rfl ?_
      refine E_callVI (st := []) C [.int v2] (mX5_wantedIn x26 v2 μ) cal_X5_wantedIn vir_X5_wantedIn lk_X0_146 dX0_gotBy_28 rfl rfl (Nat.le_of_ble_eq_true rfl) (Nat.le_of_ble_eq_true rfl) (fun x28 μ28 => ?_)
      refine E_iload C dX0_gotBy_31 3 rfl ?_
      refine E_mmin C lk_X0_132 st_Math_min in_Math co_Math_min dX0_gotBy_33 (Nat.le_of_ble_eq_true rfl) (Nat.le_of_ble_eq_true rfl) ?_
      refine E_istore (lv' := [(6, .int ((mnI x28 v4))), (0, .ref v0), (1, .int v1), (2, .int v2), (4, .int v4), (5, .int v5)]) C dX0_gotBy_36 (by decide) rfl ?_
      refine E_aload_n C dX0_gotBy_38 1 rfl ?_
      refine E_getR C F_X0_43 dX0_gotBy_39 (fun x39 => ?_)
      refine E_iload C dX0_gotBy_42 5 rfl ?_
      refine E_iaload C dX0_gotBy_44 (fun x44 => ?_)
      refine E_iload_n C dX0_gotBy_45 2 rfl ?_
      refine E_icmp_ne C 52 dX0_gotBy_46 (by decide) ?_ ?_
      · refine E_iload C dX0_gotBy_52 4 rfl ?_
        refine E_iload C dX0_gotBy_54 0 rfl ?_
        refine E_isub C dX0_gotBy_56 ?_
        refine E_istore (lv' := [(4, .int ((v4 - (mnI x28 v4)))), (6, .int ((mnI x28 v4))), (0, .ref v0), (1, .int v1), (2, .int v2), (5, .int v5)]) C dX0_gotBy_57 (by decide) rfl ?_
        refine E_iinc (lv' := [(5, .int ((v5 + 1))), (4, .int ((v4 - (mnI x28 v4)))), (6, .int ((mnI x28 v4))), (0, .ref v0), (1, .int v1), (2, .int v2)]) C (v5 + 1) dX0_gotBy_59 5 rfl rfl (by decide) rfl ?_
        refine E_goto C 6 dX0_gotBy_62 (by decide) ?_
        exact E_pick [3, 4, 5, 1, 0] rfl (ih ((v4 - (mnI x28 v4))) ((v5 + 1)) μ28)
      · refine E_at (pc2 := 49) rfl ?_
        refine E_iload C dX0_gotBy_49 0 rfl ?_
        exact E_iret C dX0_gotBy_51
def fX0_gotBy (v0 : Nat) (v1 : Int32) (v2 : Int32) (v3 : Int32) (μ : Mem) : Option (Int32 × Mem) :=
  X0_gotBy_L6 (fun μ_65 => some ((0 : Int32), μ_65)) v0 v1 v2 FU v3 ((0 : Int32)) μ
set_option maxHeartbeats 4000000 in
set_option maxRecDepth 100000 in
theorem mX0_gotBy (v0 : Nat) (v1 : Int32) (v2 : Int32) (v3 : Int32) (μ : Mem) : Meth wI yX0_gotBy cX0_gotBy 7 (some .int) 2 [.ref v0, .int v1, .int v2, .int v3] μ (fX0_gotBy v0 v1 v2 v3 μ) := by
  refine Meth.of (by decide) [(0, .ref v0), (1, .int v1), (2, .int v2), (3, .int v3)] rfl (Nat.le_of_ble_eq_true rfl) ?_
  intro p l e R s m args below meth c D ca ad A X C
  have C : CX p R s m args meth c D ca ad A X cX0_gotBy RX0 7 (some .int) 2 := C
  unfold fX0_gotBy
  refine E_iload_n C dX0_gotBy_0 3 rfl ?_
  refine E_istore (lv' := [(4, .int v3), (0, .ref v0), (1, .int v1), (2, .int v2), (3, .int v3)]) C dX0_gotBy_1 (by decide) rfl ?_
  refine E_iconst C 0 dX0_gotBy_3 (by decide) ?_
  refine E_istore (lv' := [(5, .int ((0 : Int32))), (4, .int v3), (0, .ref v0), (1, .int v1), (2, .int v2), (3, .int v3)]) C dX0_gotBy_4 (by decide) rfl ?_
  refine E_at (pc2 := 6) rfl ?_
  refine E_pick (lv' := [(0, .ref v0), (1, .int v1), (2, .int v2), (4, .int v3), (5, .int ((0 : Int32)))]) [2, 3, 4, 1, 0] rfl ?_
  refine X0_gotBy_L6_ok C v0 v1 v2 (fun μ_65 => ?_) FU v3 ((0 : Int32)) μ
  refine E_iconst C 0 dX0_gotBy_65 (by decide) ?_
  exact E_iret C dX0_gotBy_66
def X5_trickleOf_L10 (G : Int32 → Mem → Option (Int32 × Mem)) (v1 : Int32) : Nat → Int32 → Int32 → Int32 → Mem → Option (Int32 × Mem)
  | 0, _, _, _, _ => none
  | n + 1, v2, v3, v4, μ => if v1 ≤ v4 then (G v2 μ) else (if v3 ≤ 0 then (G v2 μ) else ((dvI v3 ((2 : Int32))).bind fun x26 => X5_trickleOf_L10 G v1 n ((v2 + v3)) x26 ((v4 + 1)) μ))
set_option maxHeartbeats 4000000 in
set_option maxRecDepth 100000 in
theorem X5_trickleOf_L10_ok {p : Program} {l : Launch} {e : Env} {R : Room} {s : State} {m : MethodId} {args : Array Value} {below : List Frame} {meth : Method} {c : Code} {D : va_G} {ca : Nat → ClassId} {ad : Nat → Nat} {A : Nat → Prop} {X : State → Prop} (C : CX p R s m args meth c D ca ad A X cX5_trickleOf RX5 5 (some .int) 0) {G : Int32 → Mem → Option (Int32 × Mem)} (v1 : Int32) (hG : ∀ (v2x : Int32) (μx : Mem), Sm p l e R s m args below meth c D ca ad A 5 0 0 wI (KQ below args s D ca ad A) 34 [(2, .int v2x)] [] μx (G v2x μx)) : ∀ (n : Nat) (v2 : Int32) (v3 : Int32) (v4 : Int32) (μ : Mem), Sm p l e R s m args below meth c D ca ad A 5 0 0 wI (KQ below args s D ca ad A) 10 [(1, .int v1), (2, .int v2), (3, .int v3), (4, .int v4)] [] μ (X5_trickleOf_L10 G v1 n v2 v3 v4 μ) := by
  intro n
  induction n with
  | zero =>
    intro v2 v3 v4 μ
    rw [X5_trickleOf_L10]
    exact E_none
  | succ n ih =>
    intro v2 v3 v4 μ
    rw [X5_trickleOf_L10]
    refine E_iload C dX5_trickleOf_10 3 rfl ?_
    refine E_iload_n C dX5_trickleOf_12 0 rfl ?_
    refine E_icmp_ge C 34 dX5_trickleOf_13 (by decide) ?_ ?_
    · exact E_pick [1] rfl (hG v2 μ)
    · refine E_at (pc2 := 16) rfl ?_
      refine E_iload_n C dX5_trickleOf_16 2 rfl ?_
      refine E_if_le C 34 dX5_trickleOf_17 (by decide) ?_ ?_
      · exact E_pick [1] rfl (hG v2 μ)
      · refine E_at (pc2 := 20) rfl ?_
        refine E_iload_n C dX5_trickleOf_20 1 rfl ?_
        refine E_iload_n C dX5_trickleOf_21 2 rfl ?_
        refine E_iadd C dX5_trickleOf_22 ?_
        refine E_istore_n (lv' := [(2, .int ((v2 + v3))), (1, .int v1), (3, .int v3), (4, .int v4)]) C dX5_trickleOf_23 (by decide) rfl ?_
        refine E_iload_n C dX5_trickleOf_24 2 rfl ?_
        refine E_iconst C 2 dX5_trickleOf_25 (by decide) ?_
        refine E_idiv C dX5_trickleOf_26 (fun x26 => ?_)
        refine E_istore_n (lv' := [(3, .int x26), (2, .int ((v2 + v3))), (1, .int v1), (4, .int v4)]) C dX5_trickleOf_27 (by decide) rfl ?_
        refine E_iinc (lv' := [(4, .int ((v4 + 1))), (3, .int x26), (2, .int ((v2 + v3))), (1, .int v1)]) C (v4 + 1) dX5_trickleOf_28 3 rfl rfl (by decide) rfl ?_
        refine E_goto C 10 dX5_trickleOf_31 (by decide) ?_
        exact E_pick [3, 2, 1, 0] rfl (ih ((v2 + v3)) x26 ((v4 + 1)) μ)
def fX5_trickleOf (v0 : Nat) (v1 : Int32) (μ : Mem) : Option (Int32 × Mem) :=
  (gI μ v0 5 3).bind fun x3 => X5_trickleOf_L10 (fun v2_34 μ_34 => some (v2_34, μ_34)) v1 FU ((0 : Int32)) x3 ((0 : Int32)) μ
set_option maxHeartbeats 4000000 in
set_option maxRecDepth 100000 in
theorem mX5_trickleOf (v0 : Nat) (v1 : Int32) (μ : Mem) : Meth wI yX5_trickleOf cX5_trickleOf 5 (some .int) 0 [.ref v0, .int v1] μ (fX5_trickleOf v0 v1 μ) := by
  refine Meth.of (by decide) [(0, .ref v0), (1, .int v1)] rfl (Nat.le_of_ble_eq_true rfl) ?_
  intro p l e R s m args below meth c D ca ad A X C
  have C : CX p R s m args meth c D ca ad A X cX5_trickleOf RX5 5 (some .int) 0 := C
  unfold fX5_trickleOf
  refine E_iconst C 0 dX5_trickleOf_0 (by decide) ?_
  refine E_istore_n (lv' := [(2, .int ((0 : Int32))), (0, .ref v0), (1, .int v1)]) C dX5_trickleOf_1 (by decide) rfl ?_
  refine E_aload_n C dX5_trickleOf_2 1 rfl ?_
  refine E_getI C F_X5_21 dX5_trickleOf_3 (fun x3 => ?_)
  refine E_istore_n (lv' := [(3, .int x3), (2, .int ((0 : Int32))), (0, .ref v0), (1, .int v1)]) C dX5_trickleOf_6 (by decide) rfl ?_
  refine E_iconst C 0 dX5_trickleOf_7 (by decide) ?_
  refine E_istore (lv' := [(4, .int ((0 : Int32))), (3, .int x3), (2, .int ((0 : Int32))), (0, .ref v0), (1, .int v1)]) C dX5_trickleOf_8 (by decide) rfl ?_
  refine E_at (pc2 := 10) rfl ?_
  refine E_pick (lv' := [(1, .int v1), (2, .int ((0 : Int32))), (3, .int x3), (4, .int ((0 : Int32)))]) [4, 2, 1, 0] rfl ?_
  refine X5_trickleOf_L10_ok C v1 (fun v2_34 μ_34 => ?_) FU ((0 : Int32)) x3 ((0 : Int32)) μ
  refine E_iload_n C dX5_trickleOf_34 0 rfl ?_
  exact E_iret C dX5_trickleOf_35
def fX5_gainOf (v0 : Nat) (v1 : Int32) (v2 : Int32) (μ : Mem) : Option (Int32 × Mem) :=
  (gI μ v0 5 3).bind fun x2 => (gI μ v0 5 3).bind fun x12 => (gI μ v0 5 0).bind fun x20 => if x20 = 1 then (some (((v1 * x2) - ((v2 - v1) * x12)), μ)) else if x20 = 2 then (some ((v1 * x2), μ)) else if x20 = 3 then (if v2 ≤ 0 then (some (((v1 * x2) - ((v2 - v1) * x12)), μ)) else (if v1 = v2 then ((gI μ v0 5 3).bind fun x67 => (dvI x67 ((2 : Int32))).bind fun x71 => some ((((v1 * x2) - ((v2 - v1) * x12)) + x71), μ)) else (some (((v1 * x2) - ((v2 - v1) * x12)), μ)))) else if x20 = 4 then ((isC μ v0 5).bind fun _ => bd (fX5_trickleOf v0 v1 μ) fun x81 μ81 => some (x81, μ81)) else (some ((v1 * x2), μ))
set_option maxHeartbeats 4000000 in
set_option maxRecDepth 100000 in
theorem mX5_gainOf (v0 : Nat) (v1 : Int32) (v2 : Int32) (μ : Mem) : Meth wI yX5_gainOf cX5_gainOf 5 (some .int) 1 [.ref v0, .int v1, .int v2] μ (fX5_gainOf v0 v1 v2 μ) := by
  refine Meth.of (by decide) [(0, .ref v0), (1, .int v1), (2, .int v2)] rfl (Nat.le_of_ble_eq_true rfl) ?_
  intro p l e R s m args below meth c D ca ad A X C
  have C : CX p R s m args meth c D ca ad A X cX5_gainOf RX5 5 (some .int) 1 := C
  unfold fX5_gainOf
  refine E_iload_n C dX5_gainOf_0 1 rfl ?_
  refine E_aload_n C dX5_gainOf_1 0 rfl ?_
  refine E_getI C F_X5_21 dX5_gainOf_2 (fun x2 => ?_)
  refine E_imul C dX5_gainOf_5 ?_
  refine E_istore_n (lv' := [(3, .int ((v1 * x2))), (0, .ref v0), (1, .int v1), (2, .int v2)]) C dX5_gainOf_6 (by decide) rfl ?_
  refine E_iload_n C dX5_gainOf_7 0 rfl ?_
  refine E_iload_n C dX5_gainOf_8 3 rfl ?_
  refine E_iload_n C dX5_gainOf_9 2 rfl ?_
  refine E_isub C dX5_gainOf_10 ?_
  refine E_aload_n C dX5_gainOf_11 1 rfl ?_
  refine E_getI C F_X5_21 dX5_gainOf_12 (fun x12 => ?_)
  refine E_imul C dX5_gainOf_15 ?_
  refine E_isub C dX5_gainOf_16 ?_
  refine E_istore (lv' := [(4, .int (((v1 * x2) - ((v2 - v1) * x12)))), (3, .int ((v1 * x2))), (0, .ref v0), (1, .int v1), (2, .int v2)]) C dX5_gainOf_17 (by decide) rfl ?_
  refine E_aload_n C dX5_gainOf_19 2 rfl ?_
  refine E_getI C F_X5_9 dX5_gainOf_20 (fun x20 => ?_)
  refine E_ite (fun h23_1 => ?_) (fun h23_1 => ?_)
  · refine E_tabIn (kx := 1) (off := 29) C 52 h23_1 dX5_gainOf_23 (by decide +kernel) (by decide) ?_
    refine E_iload C dX5_gainOf_52 0 rfl ?_
    exact E_iret C dX5_gainOf_54
  · refine E_ite (fun h23_2 => ?_) (fun h23_2 => ?_)
    · refine E_tabIn (kx := 2) (off := 62) C 85 h23_2 dX5_gainOf_23 (by decide +kernel) (by decide) ?_
      refine E_iload_n C dX5_gainOf_85 1 rfl ?_
      exact E_iret C dX5_gainOf_86
    · refine E_ite (fun h23_3 => ?_) (fun h23_3 => ?_)
      · refine E_tabIn (kx := 3) (off := 32) C 55 h23_3 dX5_gainOf_23 (by decide +kernel) (by decide) ?_
        refine E_iload_n C dX5_gainOf_55 4 rfl ?_
        refine E_if_le C 76 dX5_gainOf_56 (by decide) ?_ ?_
        · refine E_iload C dX5_gainOf_76 0 rfl ?_
          exact E_iret C dX5_gainOf_78
        · refine E_at (pc2 := 59) rfl ?_
          refine E_iload_n C dX5_gainOf_59 3 rfl ?_
          refine E_iload_n C dX5_gainOf_60 4 rfl ?_
          refine E_icmp_ne C 76 dX5_gainOf_61 (by decide) ?_ ?_
          · refine E_iload C dX5_gainOf_76 0 rfl ?_
            exact E_iret C dX5_gainOf_78
          · refine E_at (pc2 := 64) rfl ?_
            refine E_iload C dX5_gainOf_64 0 rfl ?_
            refine E_aload_n C dX5_gainOf_66 2 rfl ?_
            refine E_getI C F_X5_21 dX5_gainOf_67 (fun x67 => ?_)
            refine E_iconst C 2 dX5_gainOf_70 (by decide) ?_
            refine E_idiv C dX5_gainOf_71 (fun x71 => ?_)
            refine E_iadd C dX5_gainOf_72 ?_
            refine E_goto C 78 dX5_gainOf_73 (by decide) ?_
            exact E_iret C dX5_gainOf_78
      · refine E_ite (fun h23_4 => ?_) (fun h23_4 => ?_)
        · refine E_tabIn (kx := 4) (off := 56) C 79 h23_4 dX5_gainOf_23 (by decide +kernel) (by decide) ?_
          refine E_aload_n C dX5_gainOf_79 2 rfl ?_
          refine E_iload_n C dX5_gainOf_80 3 rfl ?_
          refine E_callVI (st := []) C [.int v1] (mX5_trickleOf v0 v1 μ) cal_X5_trickleOf vir_X5_trickleOf lk_X5_34 dX5_gainOf_81 rfl rfl (Nat.le_of_ble_eq_true rfl) (Nat.le_of_ble_eq_true rfl) (fun x81 μ81 => ?_)
          exact E_iret C dX5_gainOf_84
        · refine E_tabOut C 85 dX5_gainOf_23 (by have q0 := i32_ne h23_1 (n := 1) rfl; have q1 := i32_ne h23_2 (n := 2) rfl; have q2 := i32_ne h23_3 (n := 3) rfl; have q3 := i32_ne h23_4 (n := 4) rfl; omega) (by decide) ?_
          refine E_iload_n C dX5_gainOf_85 1 rfl ?_
          exact E_iret C dX5_gainOf_86
def X0_gainsOf_L8 (G : Int32 → Mem → Option (Int32 × Mem)) (v0 : Nat) (v1 : Int32) : Nat → Int32 → Int32 → Int32 → Mem → Option (Int32 × Mem)
  | 0, _, _, _, _ => none
  | n + 1, v3, v4, v5, μ => (gI μ v0 0 10).bind fun x11 => if x11 ≤ v5 then (G v4 μ) else ((gR μ v0 0 8).bind fun x18 => (gR μ v0 0 9).bind fun x22 => (aI μ 0 x22 v5).bind fun x27 => (aR μ 4 x18 x27).bind fun x28 => (isC μ x28 5).bind fun _ => bd (fX5_wantedIn x28 v1 μ) fun x34 μ34 => (isC μ34 x28 5).bind fun _ => bd (fX5_gainOf x28 ((mnI x34 v3)) x34 μ34) fun x55 μ55 => X0_gainsOf_L8 G v0 v1 n ((v3 - (mnI x34 v3))) ((v4 + x55)) ((v5 + 1)) μ55)
set_option maxHeartbeats 4000000 in
set_option maxRecDepth 100000 in
theorem X0_gainsOf_L8_ok {p : Program} {l : Launch} {e : Env} {R : Room} {s : State} {m : MethodId} {args : Array Value} {below : List Frame} {meth : Method} {c : Code} {D : va_G} {ca : Nat → ClassId} {ad : Nat → Nat} {A : Nat → Prop} {X : State → Prop} (C : CX p R s m args meth c D ca ad A X cX0_gainsOf RX0 9 (some .int) 2) {G : Int32 → Mem → Option (Int32 × Mem)} (v0 : Nat) (v1 : Int32) (hG : ∀ (v4x : Int32) (μx : Mem), Sm p l e R s m args below meth c D ca ad A 9 0 0 wI (KQ below args s D ca ad A) 72 [(4, .int v4x)] [] μx (G v4x μx)) : ∀ (n : Nat) (v3 : Int32) (v4 : Int32) (v5 : Int32) (μ : Mem), Sm p l e R s m args below meth c D ca ad A 9 0 0 wI (KQ below args s D ca ad A) 8 [(0, .ref v0), (1, .int v1), (3, .int v3), (4, .int v4), (5, .int v5)] [] μ (X0_gainsOf_L8 G v0 v1 n v3 v4 v5 μ) := by
  intro n
  induction n with
  | zero =>
    intro v3 v4 v5 μ
    rw [X0_gainsOf_L8]
    exact E_none
  | succ n ih =>
    intro v3 v4 v5 μ
    rw [X0_gainsOf_L8]
    refine E_iload C dX0_gainsOf_8 4 rfl ?_
    refine E_aload_n C dX0_gainsOf_10 0 rfl ?_
    refine E_getI C F_X0_46 dX0_gainsOf_11 (fun x11 => ?_)
    refine E_icmp_ge C 72 dX0_gainsOf_14 (by decide) ?_ ?_
    · exact E_pick [3] rfl (hG v4 μ)
    · refine E_at (pc2 := 17) rfl ?_
      refine E_aload_n C dX0_gainsOf_17 0 rfl ?_
      refine E_getR C F_X0_39 dX0_gainsOf_18 (fun x18 => ?_)
      refine E_aload_n C dX0_gainsOf_21 0 rfl ?_
      refine E_getR C F_X0_43 dX0_gainsOf_22 (fun x22 => ?_)
      refine E_iload C dX0_gainsOf_25 4 rfl ?_
      refine E_iaload C dX0_gainsOf_27 (fun x27 => ?_)
      refine E_aaload C rfl dX0_gainsOf_28 (fun x28 => ?_)
      refine E_astore (lv' := [(6, .ref x28), (0, .ref v0), (1, .int v1), (3, .int v3), (4, .int v4), (5, .int v5)]) C dX0_gainsOf_29 (by decide) rfl ?_
      refine E_aload C dX0_gainsOf_31 0 rfl ?_
      refine E_iload_n C dX0_gainsOf_33 2 rfl ?_
      refine E_callVI (st := []) C [.int v1] (mX5_wantedIn x28 v1 μ) cal_X5_wantedIn vir_X5_wantedIn lk_X0_146 dX0_gainsOf_34 rfl rfl (Nat.le_of_ble_eq_true rfl) (Nat.le_of_ble_eq_true rfl) (fun x34 μ34 => ?_)
      refine E_istore (lv' := [(7, .int x34), (6, .ref x28), (0, .ref v0), (1, .int v1), (3, .int v3), (4, .int v4), (5, .int v5)]) C dX0_gainsOf_37 (by decide) rfl ?_
      refine E_iload C dX0_gainsOf_39 0 rfl ?_
      refine E_iload_n C dX0_gainsOf_41 4 rfl ?_
      refine E_mmin C lk_X0_132 st_Math_min in_Math co_Math_min dX0_gainsOf_42 (Nat.le_of_ble_eq_true rfl) (Nat.le_of_ble_eq_true rfl) ?_
      refine E_istore (lv' := [(8, .int ((mnI x34 v3))), (7, .int x34), (6, .ref x28), (0, .ref v0), (1, .int v1), (3, .int v3), (4, .int v4), (5, .int v5)]) C dX0_gainsOf_45 (by decide) rfl ?_
      refine E_iload C dX0_gainsOf_47 6 rfl ?_
      refine E_aload C dX0_gainsOf_49 2 rfl ?_
      refine E_iload C dX0_gainsOf_51 0 rfl ?_
      refine E_iload C dX0_gainsOf_53 1 rfl ?_
      refine E_callVI (st := [.int v4]) C [.int ((mnI x34 v3)), .int x34] (mX5_gainOf x28 ((mnI x34 v3)) x34 μ34) cal_X5_gainOf vir_X5_gainOf lk_X0_149 dX0_gainsOf_55 rfl rfl (Nat.le_of_ble_eq_true rfl) (Nat.le_of_ble_eq_true rfl) (fun x55 μ55 => ?_)
      refine E_iadd C dX0_gainsOf_58 ?_
      refine E_istore (lv' := [(4, .int ((v4 + x55))), (8, .int ((mnI x34 v3))), (7, .int x34), (6, .ref x28), (0, .ref v0), (1, .int v1), (3, .int v3), (5, .int v5)]) C dX0_gainsOf_59 (by decide) rfl ?_
      refine E_iload_n C dX0_gainsOf_61 6 rfl ?_
      refine E_iload C dX0_gainsOf_62 1 rfl ?_
      refine E_isub C dX0_gainsOf_64 ?_
      refine E_istore_n (lv' := [(3, .int ((v3 - (mnI x34 v3)))), (4, .int ((v4 + x55))), (8, .int ((mnI x34 v3))), (7, .int x34), (6, .ref x28), (0, .ref v0), (1, .int v1), (5, .int v5)]) C dX0_gainsOf_65 (by decide) rfl ?_
      refine E_iinc (lv' := [(5, .int ((v5 + 1))), (3, .int ((v3 - (mnI x34 v3)))), (4, .int ((v4 + x55))), (8, .int ((mnI x34 v3))), (7, .int x34), (6, .ref x28), (0, .ref v0), (1, .int v1)]) C (v5 + 1) dX0_gainsOf_66 7 rfl rfl (by decide) rfl ?_
      refine E_goto C 8 dX0_gainsOf_69 (by decide) ?_
      exact E_pick [6, 7, 1, 2, 0] rfl (ih ((v3 - (mnI x34 v3))) ((v4 + x55)) ((v5 + 1)) μ55)
def fX0_gainsOf (v0 : Nat) (v1 : Int32) (v2 : Int32) (μ : Mem) : Option (Int32 × Mem) :=
  X0_gainsOf_L8 (fun v4_72 μ_72 => some (v4_72, μ_72)) v0 v1 FU v2 ((0 : Int32)) ((0 : Int32)) μ
set_option maxHeartbeats 4000000 in
set_option maxRecDepth 100000 in
theorem mX0_gainsOf (v0 : Nat) (v1 : Int32) (v2 : Int32) (μ : Mem) : Meth wI yX0_gainsOf cX0_gainsOf 9 (some .int) 2 [.ref v0, .int v1, .int v2] μ (fX0_gainsOf v0 v1 v2 μ) := by
  refine Meth.of (by decide) [(0, .ref v0), (1, .int v1), (2, .int v2)] rfl (Nat.le_of_ble_eq_true rfl) ?_
  intro p l e R s m args below meth c D ca ad A X C
  have C : CX p R s m args meth c D ca ad A X cX0_gainsOf RX0 9 (some .int) 2 := C
  unfold fX0_gainsOf
  refine E_iload_n C dX0_gainsOf_0 2 rfl ?_
  refine E_istore_n (lv' := [(3, .int v2), (0, .ref v0), (1, .int v1), (2, .int v2)]) C dX0_gainsOf_1 (by decide) rfl ?_
  refine E_iconst C 0 dX0_gainsOf_2 (by decide) ?_
  refine E_istore (lv' := [(4, .int ((0 : Int32))), (3, .int v2), (0, .ref v0), (1, .int v1), (2, .int v2)]) C dX0_gainsOf_3 (by decide) rfl ?_
  refine E_iconst C 0 dX0_gainsOf_5 (by decide) ?_
  refine E_istore (lv' := [(5, .int ((0 : Int32))), (4, .int ((0 : Int32))), (3, .int v2), (0, .ref v0), (1, .int v1), (2, .int v2)]) C dX0_gainsOf_6 (by decide) rfl ?_
  refine E_at (pc2 := 8) rfl ?_
  refine E_pick (lv' := [(0, .ref v0), (1, .int v1), (3, .int v2), (4, .int ((0 : Int32))), (5, .int ((0 : Int32)))]) [3, 4, 2, 1, 0] rfl ?_
  refine X0_gainsOf_L8_ok C v0 v1 (fun v4_72 μ_72 => ?_) FU v2 ((0 : Int32)) ((0 : Int32)) μ
  refine E_iload C dX0_gainsOf_72 0 rfl ?_
  exact E_iret C dX0_gainsOf_74
def fX1_spot (v0 : Int32) (v1 : Int32) (v2 : Int32) (μ : Mem) : Option (Int32 × Mem) :=
  some (((((v0 * (14 : Int32)) + v1) * (3 : Int32)) + v2), μ)
set_option maxHeartbeats 4000000 in
set_option maxRecDepth 100000 in
theorem mX1_spot (v0 : Int32) (v1 : Int32) (v2 : Int32) (μ : Mem) : Meth wI yX1_spot cX1_spot 3 (some .int) 0 [.int v0, .int v1, .int v2] μ (fX1_spot v0 v1 v2 μ) := by
  refine Meth.of (by decide) [(0, .int v0), (1, .int v1), (2, .int v2)] rfl (Nat.le_of_ble_eq_true rfl) ?_
  intro p l e R s m args below meth c D ca ad A X C
  have C : CX p R s m args meth c D ca ad A X cX1_spot RX1 3 (some .int) 0 := C
  unfold fX1_spot
  refine E_iload_n C dX1_spot_0 0 rfl ?_
  refine E_bipush C 14 dX1_spot_1 (by decide) ?_
  refine E_imul C dX1_spot_3 ?_
  refine E_iload_n C dX1_spot_4 1 rfl ?_
  refine E_iadd C dX1_spot_5 ?_
  refine E_iconst C 3 dX1_spot_6 (by decide) ?_
  refine E_imul C dX1_spot_7 ?_
  refine E_iload_n C dX1_spot_8 2 rfl ?_
  refine E_iadd C dX1_spot_9 ?_
  exact E_iret C dX1_spot_10
def fX1_bestAt (v0 : Nat) (v1 : Int32) (v2 : Int32) (v3 : Int32) (μ : Mem) : Option (UInt32 × Mem) :=
  (gR μ v0 1 0).bind fun x1 => bd (fX1_spot v1 v2 v3 μ) fun x7 μ7 => (aF μ7 x1 x7).bind fun x10 => some (x10, μ7)
set_option maxHeartbeats 4000000 in
set_option maxRecDepth 100000 in
theorem mX1_bestAt (v0 : Nat) (v1 : Int32) (v2 : Int32) (v3 : Int32) (μ : Mem) : Meth wF yX1_bestAt cX1_bestAt 4 (some .float) 1 [.ref v0, .int v1, .int v2, .int v3] μ (fX1_bestAt v0 v1 v2 v3 μ) := by
  refine Meth.of (by decide) [(0, .ref v0), (1, .int v1), (2, .int v2), (3, .int v3)] rfl (Nat.le_of_ble_eq_true rfl) ?_
  intro p l e R s m args below meth c D ca ad A X C
  have C : CX p R s m args meth c D ca ad A X cX1_bestAt RX1 4 (some .float) 1 := C
  unfold fX1_bestAt
  refine E_aload_n C dX1_bestAt_0 0 rfl ?_
  refine E_getR C F_X1_9 dX1_bestAt_1 (fun x1 => ?_)
  refine E_iload_n C dX1_bestAt_4 1 rfl ?_
  refine E_iload_n C dX1_bestAt_5 2 rfl ?_
  refine E_iload_n C dX1_bestAt_6 3 rfl ?_
  refine E_callSI (st := [.ref x1]) C [.int v1, .int v2, .int v3] (mX1_spot v1 v2 v3 μ) cal_X1_spot st_X1_spot lk_X1_25 dX1_bestAt_7 rfl rfl (Nat.le_of_ble_eq_true rfl) (Nat.le_of_ble_eq_true rfl) (fun x7 μ7 => ?_)
  refine E_faload C dX1_bestAt_10 (fun x10 => ?_)
  exact E_fret C dX1_bestAt_11
def fX1_releaseAt (v0 : Nat) (v1 : Int32) (v2 : Int32) (v3 : Int32) (μ : Mem) : Option (Int32 × Mem) :=
  (gR μ v0 1 2).bind fun x1 => bd (fX1_spot v1 v2 v3 μ) fun x7 μ7 => (aI μ7 0 x1 x7).bind fun x10 => some (x10, μ7)
set_option maxHeartbeats 4000000 in
set_option maxRecDepth 100000 in
theorem mX1_releaseAt (v0 : Nat) (v1 : Int32) (v2 : Int32) (v3 : Int32) (μ : Mem) : Meth wI yX1_releaseAt cX1_releaseAt 4 (some .int) 1 [.ref v0, .int v1, .int v2, .int v3] μ (fX1_releaseAt v0 v1 v2 v3 μ) := by
  refine Meth.of (by decide) [(0, .ref v0), (1, .int v1), (2, .int v2), (3, .int v3)] rfl (Nat.le_of_ble_eq_true rfl) ?_
  intro p l e R s m args below meth c D ca ad A X C
  have C : CX p R s m args meth c D ca ad A X cX1_releaseAt RX1 4 (some .int) 1 := C
  unfold fX1_releaseAt
  refine E_aload_n C dX1_releaseAt_0 0 rfl ?_
  refine E_getR C F_X1_18 dX1_releaseAt_1 (fun x1 => ?_)
  refine E_iload_n C dX1_releaseAt_4 1 rfl ?_
  refine E_iload_n C dX1_releaseAt_5 2 rfl ?_
  refine E_iload_n C dX1_releaseAt_6 3 rfl ?_
  refine E_callSI (st := [.ref x1]) C [.int v1, .int v2, .int v3] (mX1_spot v1 v2 v3 μ) cal_X1_spot st_X1_spot lk_X1_25 dX1_releaseAt_7 rfl rfl (Nat.le_of_ble_eq_true rfl) (Nat.le_of_ble_eq_true rfl) (fun x7 μ7 => ?_)
  refine E_iaload C dX1_releaseAt_10 (fun x10 => ?_)
  exact E_iret C dX1_releaseAt_11
def fX1_valueOf (v0 : Nat) (v1 : Nat) (v2 : Int32) (v3 : Int32) (v4 : Int32) (v5 : Int32) (μ : Mem) : Option (UInt32 × Mem) :=
  (isC μ v1 0).bind fun _ => bd (fX0_topOf v1 v2 μ) fun x4 μ4 => (gR μ4 v0 1 3).bind fun x13 => (aI μ4 0 x13 (((v2 * (21 : Int32)) + v5))).bind fun x23 => (gI μ4 v1 0 2).bind fun x25 => (gR μ4 v0 1 1).bind fun x41 => bd (fX1_spot ((v2 + (1 : Int32))) ((mnI v4 x4)) v3 μ4) fun x50 μ50 => (aF μ50 x41 x50).bind fun x53 => (nn (FP.fadd ((FP.i2f ((x23 - (x25 * (v4 - (mnI v4 x4))))))) x53)).bind fun x54 => some (x54, μ50)
set_option maxHeartbeats 4000000 in
set_option maxRecDepth 100000 in
theorem mX1_valueOf (v0 : Nat) (v1 : Nat) (v2 : Int32) (v3 : Int32) (v4 : Int32) (v5 : Int32) (μ : Mem) : Meth wF yX1_valueOf cX1_valueOf 8 (some .float) 1 [.ref v0, .ref v1, .int v2, .int v3, .int v4, .int v5] μ (fX1_valueOf v0 v1 v2 v3 v4 v5 μ) := by
  refine Meth.of (by decide) [(0, .ref v0), (1, .ref v1), (2, .int v2), (3, .int v3), (4, .int v4), (5, .int v5)] rfl (Nat.le_of_ble_eq_true rfl) ?_
  intro p l e R s m args below meth c D ca ad A X C
  have C : CX p R s m args meth c D ca ad A X cX1_valueOf RX1 8 (some .float) 1 := C
  unfold fX1_valueOf
  refine E_iload C dX1_valueOf_0 4 rfl ?_
  refine E_aload_n C dX1_valueOf_2 1 rfl ?_
  refine E_iload_n C dX1_valueOf_3 2 rfl ?_
  refine E_callVI (st := [.int v4]) C [.int v2] (mX0_topOf v1 v2 μ) cal_X0_topOf vir_X0_topOf lk_X1_75 dX1_valueOf_4 rfl rfl (Nat.le_of_ble_eq_true rfl) (Nat.le_of_ble_eq_true rfl) (fun x4 μ4 => ?_)
  refine E_mmin C lk_X1_38 st_Math_min in_Math co_Math_min dX1_valueOf_7 (Nat.le_of_ble_eq_true rfl) (Nat.le_of_ble_eq_true rfl) ?_
  refine E_istore (lv' := [(6, .int ((mnI v4 x4))), (0, .ref v0), (1, .ref v1), (2, .int v2), (3, .int v3), (4, .int v4), (5, .int v5)]) C dX1_valueOf_10 (by decide) rfl ?_
  refine E_aload_n C dX1_valueOf_12 1 rfl ?_
  refine E_getR C F_X1_22 dX1_valueOf_13 (fun x13 => ?_)
  refine E_iload_n C dX1_valueOf_16 3 rfl ?_
  refine E_bipush C 21 dX1_valueOf_17 (by decide) ?_
  refine E_imul C dX1_valueOf_19 ?_
  refine E_iload C dX1_valueOf_20 6 rfl ?_
  refine E_iadd C dX1_valueOf_22 ?_
  refine E_iaload C dX1_valueOf_23 (fun x23 => ?_)
  refine E_aload_n C dX1_valueOf_24 2 rfl ?_
  refine E_getI C F_X1_78 dX1_valueOf_25 (fun x25 => ?_)
  refine E_iload C dX1_valueOf_28 5 rfl ?_
  refine E_iload C dX1_valueOf_30 0 rfl ?_
  refine E_isub C dX1_valueOf_32 ?_
  refine E_imul C dX1_valueOf_33 ?_
  refine E_isub C dX1_valueOf_34 ?_
  refine E_istore (lv' := [(7, .int ((x23 - (x25 * (v4 - (mnI v4 x4)))))), (6, .int ((mnI v4 x4))), (0, .ref v0), (1, .ref v1), (2, .int v2), (3, .int v3), (4, .int v4), (5, .int v5)]) C dX1_valueOf_35 (by decide) rfl ?_
  refine E_iload C dX1_valueOf_37 0 rfl ?_
  refine E_i2f C dX1_valueOf_39 ?_
  refine E_aload_n C dX1_valueOf_40 2 rfl ?_
  refine E_getR C F_X1_15 dX1_valueOf_41 (fun x41 => ?_)
  refine E_iload_n C dX1_valueOf_44 4 rfl ?_
  refine E_iconst C 1 dX1_valueOf_45 (by decide) ?_
  refine E_iadd C dX1_valueOf_46 ?_
  refine E_iload C dX1_valueOf_47 1 rfl ?_
  refine E_iload_n C dX1_valueOf_49 5 rfl ?_
  refine E_callSI (st := [.ref x41, .float ((FP.i2f ((x23 - (x25 * (v4 - (mnI v4 x4)))))))]) C [.int ((v2 + (1 : Int32))), .int ((mnI v4 x4)), .int v3] (mX1_spot ((v2 + (1 : Int32))) ((mnI v4 x4)) v3 μ4) cal_X1_spot st_X1_spot lk_X1_25 dX1_valueOf_50 rfl rfl (Nat.le_of_ble_eq_true rfl) (Nat.le_of_ble_eq_true rfl) (fun x50 μ50 => ?_)
  refine E_faload C dX1_valueOf_53 (fun x53 => ?_)
  refine E_fadd C dX1_valueOf_54 (fun x54 => ?_)
  exact E_fret C dX1_valueOf_55
def fX1_comesTo (v0 : Nat) (v1 : Nat) (v2 : Int32) (v3 : Int32) (v4 : Int32) (v5 : Int32) (μ : Mem) : Option (UInt32 × Mem) :=
  (isC μ v1 0).bind fun _ => bd (fX0_driedIn v1 v2 v3 μ) fun x4 μ4 => (isC μ4 v1 0).bind fun _ => bd (fX0_inflowIn v1 v2 v4 μ4) fun x12 μ12 => (isC μ12 v0 1).bind fun _ => bd (fX1_valueOf v0 v1 v2 v4 ((((v3 - x4) + x12) - (mnI v5 (((v3 - x4) + x12))))) ((mnI v5 (((v3 - x4) + x12)))) μ12) fun x40 μ40 => some (x40, μ40)
set_option maxHeartbeats 4000000 in
set_option maxRecDepth 100000 in
theorem mX1_comesTo (v0 : Nat) (v1 : Nat) (v2 : Int32) (v3 : Int32) (v4 : Int32) (v5 : Int32) (μ : Mem) : Meth wF yX1_comesTo cX1_comesTo 7 (some .float) 2 [.ref v0, .ref v1, .int v2, .int v3, .int v4, .int v5] μ (fX1_comesTo v0 v1 v2 v3 v4 v5 μ) := by
  refine Meth.of (by decide) [(0, .ref v0), (1, .ref v1), (2, .int v2), (3, .int v3), (4, .int v4), (5, .int v5)] rfl (Nat.le_of_ble_eq_true rfl) ?_
  intro p l e R s m args below meth c D ca ad A X C
  have C : CX p R s m args meth c D ca ad A X cX1_comesTo RX1 7 (some .float) 2 := C
  unfold fX1_comesTo
  refine E_iload_n C dX1_comesTo_0 3 rfl ?_
  refine E_aload_n C dX1_comesTo_1 1 rfl ?_
  refine E_iload_n C dX1_comesTo_2 2 rfl ?_
  refine E_iload_n C dX1_comesTo_3 3 rfl ?_
  refine E_callVI (st := [.int v3]) C [.int v2, .int v3] (mX0_driedIn v1 v2 v3 μ) cal_X0_driedIn vir_X0_driedIn lk_X1_29 dX1_comesTo_4 rfl rfl (Nat.le_of_ble_eq_true rfl) (Nat.le_of_ble_eq_true rfl) (fun x4 μ4 => ?_)
  refine E_isub C dX1_comesTo_7 ?_
  refine E_aload_n C dX1_comesTo_8 1 rfl ?_
  refine E_iload_n C dX1_comesTo_9 2 rfl ?_
  refine E_iload C dX1_comesTo_10 4 rfl ?_
  refine E_callVI (st := [.int ((v3 - x4))]) C [.int v2, .int v4] (mX0_inflowIn v1 v2 v4 μ4) cal_X0_inflowIn vir_X0_inflowIn lk_X1_35 dX1_comesTo_12 rfl rfl (Nat.le_of_ble_eq_true rfl) (Nat.le_of_ble_eq_true rfl) (fun x12 μ12 => ?_)
  refine E_iadd C dX1_comesTo_15 ?_
  refine E_istore (lv' := [(6, .int (((v3 - x4) + x12))), (0, .ref v0), (1, .ref v1), (2, .int v2), (3, .int v3), (4, .int v4), (5, .int v5)]) C dX1_comesTo_16 (by decide) rfl ?_
  refine E_aload_n C dX1_comesTo_18 1 rfl ?_
  refine E_aload_n C dX1_comesTo_19 2 rfl ?_
  refine E_iload_n C dX1_comesTo_20 3 rfl ?_
  refine E_iload C dX1_comesTo_21 5 rfl ?_
  refine E_iload C dX1_comesTo_23 0 rfl ?_
  refine E_iload C dX1_comesTo_25 6 rfl ?_
  refine E_iload C dX1_comesTo_27 0 rfl ?_
  refine E_mmin C lk_X1_38 st_Math_min in_Math co_Math_min dX1_comesTo_29 (Nat.le_of_ble_eq_true rfl) (Nat.le_of_ble_eq_true rfl) ?_
  refine E_isub C dX1_comesTo_32 ?_
  refine E_iload C dX1_comesTo_33 6 rfl ?_
  refine E_iload C dX1_comesTo_35 0 rfl ?_
  refine E_mmin C lk_X1_38 st_Math_min in_Math co_Math_min dX1_comesTo_37 (Nat.le_of_ble_eq_true rfl) (Nat.le_of_ble_eq_true rfl) ?_
  refine E_callVF (st := []) C [.ref v1, .int v2, .int v4, .int ((((v3 - x4) + x12) - (mnI v5 (((v3 - x4) + x12))))), .int ((mnI v5 (((v3 - x4) + x12))))] (mX1_valueOf v0 v1 v2 v4 ((((v3 - x4) + x12) - (mnI v5 (((v3 - x4) + x12))))) ((mnI v5 (((v3 - x4) + x12)))) μ12) cal_X1_valueOf vir_X1_valueOf lk_X1_43 dX1_comesTo_40 rfl rfl (Nat.le_of_ble_eq_true rfl) (Nat.le_of_ble_eq_true rfl) (fun x40 μ40 => ?_)
  exact E_fret C dX1_comesTo_43
def X1_fillGains_L13 (G : Mem → Option (Unit × Mem)) (v0 : Nat) (v1 : Nat) (v3 : Int32) : Nat → Int32 → Mem → Option (Unit × Mem)
  | 0, _, _ => none
  | n + 1, v4, μ => if (21 : Int32) ≤ v4 then (G μ) else ((gR μ v0 1 3).bind fun x21 => (isC μ v1 0).bind fun _ => bd (fX0_gainsOf v1 v3 v4 μ) fun x35 μ35 => (sI μ35 x21 (((v3 * (21 : Int32)) + v4)) x35).bind fun μ38 => X1_fillGains_L13 G v0 v1 v3 n ((v4 + 1)) μ38)
set_option maxHeartbeats 4000000 in
set_option maxRecDepth 100000 in
theorem X1_fillGains_L13_ok {p : Program} {l : Launch} {e : Env} {R : Room} {s : State} {m : MethodId} {args : Array Value} {below : List Frame} {meth : Method} {c : Code} {D : va_G} {ca : Nat → ClassId} {ad : Nat → Nat} {A : Nat → Prop} {X : State → Prop} (C : CX p R s m args meth c D ca ad A X cX1_fillGains RX1 5 none 3) {G : Mem → Option (Unit × Mem)} (v0 : Nat) (v1 : Nat) (v3 : Int32) (hG : ∀  (μx : Mem), Sm p l e R s m args below meth c D ca ad A 5 0 0 wU (KQ below args s D ca ad A) 45 [(0, .ref v0), (1, .ref v1), (3, .int v3)] [] μx (G  μx)) : ∀ (n : Nat) (v4 : Int32) (μ : Mem), Sm p l e R s m args below meth c D ca ad A 5 0 0 wU (KQ below args s D ca ad A) 13 [(0, .ref v0), (1, .ref v1), (3, .int v3), (4, .int v4)] [] μ (X1_fillGains_L13 G v0 v1 v3 n v4 μ) := by
  intro n
  induction n with
  | zero =>
    intro v4 μ
    rw [X1_fillGains_L13]
    exact E_none
  | succ n ih =>
    intro v4 μ
    rw [X1_fillGains_L13]
    refine E_iload C dX1_fillGains_13 3 rfl ?_
    refine E_bipush C 21 dX1_fillGains_15 (by decide) ?_
    refine E_icmp_ge C 45 dX1_fillGains_17 (by decide) ?_ ?_
    · exact E_pick [0, 1, 2] rfl (hG μ)
    · refine E_at (pc2 := 20) rfl ?_
      refine E_aload_n C dX1_fillGains_20 0 rfl ?_
      refine E_getR C F_X1_22 dX1_fillGains_21 (fun x21 => ?_)
      refine E_iload_n C dX1_fillGains_24 2 rfl ?_
      refine E_bipush C 21 dX1_fillGains_25 (by decide) ?_
      refine E_imul C dX1_fillGains_27 ?_
      refine E_iload C dX1_fillGains_28 3 rfl ?_
      refine E_iadd C dX1_fillGains_30 ?_
      refine E_aload_n C dX1_fillGains_31 1 rfl ?_
      refine E_iload_n C dX1_fillGains_32 2 rfl ?_
      refine E_iload C dX1_fillGains_33 3 rfl ?_
      refine E_callVI (st := [.int (((v3 * (21 : Int32)) + v4)), .ref x21]) C [.int v3, .int v4] (mX0_gainsOf v1 v3 v4 μ) cal_X0_gainsOf vir_X0_gainsOf lk_X1_51 dX1_fillGains_35 rfl rfl (Nat.le_of_ble_eq_true rfl) (Nat.le_of_ble_eq_true rfl) (fun x35 μ35 => ?_)
      refine E_iastore C dX1_fillGains_38 (fun μ38 => ?_)
      refine E_iinc (lv' := [(4, .int ((v4 + 1))), (0, .ref v0), (1, .ref v1), (3, .int v3)]) C (v4 + 1) dX1_fillGains_39 3 rfl rfl (by decide) rfl ?_
      refine E_goto C 13 dX1_fillGains_42 (by decide) ?_
      exact E_pick [1, 2, 3, 0] rfl (ih ((v4 + 1)) μ38)
def X1_fillGains_L2 (G : Mem → Option (Unit × Mem)) (v0 : Nat) (v1 : Nat) : Nat → Int32 → Mem → Option (Unit × Mem)
  | 0, _, _ => none
  | n + 1, v3, μ => (gI μ v1 0 1).bind fun x4 => if x4 ≤ v3 then (G μ) else (X1_fillGains_L13 (fun μ_45 => X1_fillGains_L2 G v0 v1 n ((v3 + 1)) μ_45) v0 v1 v3 FU ((0 : Int32)) μ)
set_option maxHeartbeats 4000000 in
set_option maxRecDepth 100000 in
theorem X1_fillGains_L2_ok {p : Program} {l : Launch} {e : Env} {R : Room} {s : State} {m : MethodId} {args : Array Value} {below : List Frame} {meth : Method} {c : Code} {D : va_G} {ca : Nat → ClassId} {ad : Nat → Nat} {A : Nat → Prop} {X : State → Prop} (C : CX p R s m args meth c D ca ad A X cX1_fillGains RX1 5 none 3) {G : Mem → Option (Unit × Mem)} (v0 : Nat) (v1 : Nat) (hG : ∀  (μx : Mem), Sm p l e R s m args below meth c D ca ad A 5 0 0 wU (KQ below args s D ca ad A) 51 [] [] μx (G  μx)) : ∀ (n : Nat) (v3 : Int32) (μ : Mem), Sm p l e R s m args below meth c D ca ad A 5 0 0 wU (KQ below args s D ca ad A) 2 [(0, .ref v0), (1, .ref v1), (3, .int v3)] [] μ (X1_fillGains_L2 G v0 v1 n v3 μ) := by
  intro n
  induction n with
  | zero =>
    intro v3 μ
    rw [X1_fillGains_L2]
    exact E_none
  | succ n ih =>
    intro v3 μ
    rw [X1_fillGains_L2]
    refine E_iload_n C dX1_fillGains_2 2 rfl ?_
    refine E_aload_n C dX1_fillGains_3 1 rfl ?_
    refine E_getI C F_X1_47 dX1_fillGains_4 (fun x4 => ?_)
    refine E_icmp_ge C 51 dX1_fillGains_7 (by decide) ?_ ?_
    · exact E_pick [] rfl (hG μ)
    · refine E_at (pc2 := 10) rfl ?_
      refine E_iconst C 0 dX1_fillGains_10 (by decide) ?_
      refine E_istore (lv' := [(4, .int ((0 : Int32))), (0, .ref v0), (1, .ref v1), (3, .int v3)]) C dX1_fillGains_11 (by decide) rfl ?_
      refine E_at (pc2 := 13) rfl ?_
      refine E_pick (lv' := [(0, .ref v0), (1, .ref v1), (3, .int v3), (4, .int ((0 : Int32)))]) [1, 2, 3, 0] rfl ?_
      refine X1_fillGains_L13_ok C v0 v1 v3 (fun μ_45 => ?_) FU ((0 : Int32)) μ
      refine E_iinc (lv' := [(3, .int ((v3 + 1))), (0, .ref v0), (1, .ref v1)]) C (v3 + 1) dX1_fillGains_45 2 rfl rfl (by decide) rfl ?_
      refine E_goto C 2 dX1_fillGains_48 (by decide) ?_
      exact E_pick [1, 2, 0] rfl (ih ((v3 + 1)) μ_45)
def fX1_fillGains (v0 : Nat) (v1 : Nat) (v2 : Int32) (μ : Mem) : Option (Unit × Mem) :=
  X1_fillGains_L2 (fun μ_51 => some ((), μ_51)) v0 v1 FU v2 μ
set_option maxHeartbeats 4000000 in
set_option maxRecDepth 100000 in
theorem mX1_fillGains (v0 : Nat) (v1 : Nat) (v2 : Int32) (μ : Mem) : Meth wU yX1_fillGains cX1_fillGains 5 none 3 [.ref v0, .ref v1, .int v2] μ (fX1_fillGains v0 v1 v2 μ) := by
  refine Meth.of (by decide) [(0, .ref v0), (1, .ref v1), (2, .int v2)] rfl (Nat.le_of_ble_eq_true rfl) ?_
  intro p l e R s m args below meth c D ca ad A X C
  have C : CX p R s m args meth c D ca ad A X cX1_fillGains RX1 5 none 3 := C
  unfold fX1_fillGains
  refine E_iload_n C dX1_fillGains_0 2 rfl ?_
  refine E_istore_n (lv' := [(3, .int v2), (0, .ref v0), (1, .ref v1), (2, .int v2)]) C dX1_fillGains_1 (by decide) rfl ?_
  refine E_at (pc2 := 2) rfl ?_
  refine E_pick (lv' := [(0, .ref v0), (1, .ref v1), (3, .int v2)]) [1, 2, 0] rfl ?_
  refine X1_fillGains_L2_ok C v0 v1 (fun μ_51 => ?_) FU v2 μ
  exact E_ret C dX1_fillGains_51
def X1_fillMeans_L33 (G : UInt32 → Mem → Option (Unit × Mem)) (v0 : Nat) (v1 : Nat) (v2 : Int32) (v3 : Int32) (v4 : UInt32) (v5 : Int32) : Nat → UInt32 → Int32 → Mem → Option (Unit × Mem)
  | 0, _, _, _ => none
  | n + 1, v6, v7, μ => if (3 : Int32) ≤ v7 then (G v6 μ) else ((gR μ v1 0 5).bind fun x42 => (aI μ 0 x42 (((v3 * (3 : Int32)) + v7))).bind fun x51 => (gR μ v0 1 0).bind fun x54 => bd (fX1_spot v2 v5 v7 μ) fun x62 μ62 => (aF μ62 x54 x62).bind fun x65 => (nn (FP.fmul ((FP.i2f x51)) x65)).bind fun x66 => (nn (FP.fadd v6 x66)).bind fun x67 => X1_fillMeans_L33 G v0 v1 v2 v3 v4 v5 n x67 ((v7 + 1)) μ62)
set_option maxHeartbeats 4000000 in
set_option maxRecDepth 100000 in
theorem X1_fillMeans_L33_ok {p : Program} {l : Launch} {e : Env} {R : Room} {s : State} {m : MethodId} {args : Array Value} {below : List Frame} {meth : Method} {c : Code} {D : va_G} {ca : Nat → ClassId} {ad : Nat → Nat} {A : Nat → Prop} {X : State → Prop} (C : CX p R s m args meth c D ca ad A X cX1_fillMeans RX1 8 none 1) {G : UInt32 → Mem → Option (Unit × Mem)} (v0 : Nat) (v1 : Nat) (v2 : Int32) (v3 : Int32) (v4 : UInt32) (v5 : Int32) (hG : ∀ (v6x : UInt32) (μx : Mem), Sm p l e R s m args below meth c D ca ad A 8 0 0 wU (KQ below args s D ca ad A) 76 [(0, .ref v0), (1, .ref v1), (2, .int v2), (3, .int v3), (4, .float v4), (5, .int v5), (6, .float v6x)] [] μx (G v6x μx)) : ∀ (n : Nat) (v6 : UInt32) (v7 : Int32) (μ : Mem), Sm p l e R s m args below meth c D ca ad A 8 0 0 wU (KQ below args s D ca ad A) 33 [(0, .ref v0), (1, .ref v1), (2, .int v2), (3, .int v3), (4, .float v4), (5, .int v5), (6, .float v6), (7, .int v7)] [] μ (X1_fillMeans_L33 G v0 v1 v2 v3 v4 v5 n v6 v7 μ) := by
  intro n
  induction n with
  | zero =>
    intro v6 v7 μ
    rw [X1_fillMeans_L33]
    exact E_none
  | succ n ih =>
    intro v6 v7 μ
    rw [X1_fillMeans_L33]
    refine E_iload C dX1_fillMeans_33 7 rfl ?_
    refine E_iconst C 3 dX1_fillMeans_35 (by decide) ?_
    refine E_icmp_ge C 76 dX1_fillMeans_36 (by decide) ?_ ?_
    · exact E_pick [0, 1, 2, 3, 4, 5, 6] rfl (hG v6 μ)
    · refine E_at (pc2 := 39) rfl ?_
      refine E_fload C dX1_fillMeans_39 6 rfl ?_
      refine E_aload_n C dX1_fillMeans_41 1 rfl ?_
      refine E_getR C F_X1_72 dX1_fillMeans_42 (fun x42 => ?_)
      refine E_iload_n C dX1_fillMeans_45 3 rfl ?_
      refine E_iconst C 3 dX1_fillMeans_46 (by decide) ?_
      refine E_imul C dX1_fillMeans_47 ?_
      refine E_iload C dX1_fillMeans_48 7 rfl ?_
      refine E_iadd C dX1_fillMeans_50 ?_
      refine E_iaload C dX1_fillMeans_51 (fun x51 => ?_)
      refine E_i2f C dX1_fillMeans_52 ?_
      refine E_aload_n C dX1_fillMeans_53 0 rfl ?_
      refine E_getR C F_X1_9 dX1_fillMeans_54 (fun x54 => ?_)
      refine E_iload_n C dX1_fillMeans_57 2 rfl ?_
      refine E_iload C dX1_fillMeans_58 5 rfl ?_
      refine E_iload C dX1_fillMeans_60 7 rfl ?_
      refine E_callSI (st := [.ref x54, .float ((FP.i2f x51)), .float v6]) C [.int v2, .int v5, .int v7] (mX1_spot v2 v5 v7 μ) cal_X1_spot st_X1_spot lk_X1_25 dX1_fillMeans_62 rfl rfl (Nat.le_of_ble_eq_true rfl) (Nat.le_of_ble_eq_true rfl) (fun x62 μ62 => ?_)
      refine E_faload C dX1_fillMeans_65 (fun x65 => ?_)
      refine E_fmul C dX1_fillMeans_66 (fun x66 => ?_)
      refine E_fadd C dX1_fillMeans_67 (fun x67 => ?_)
      refine E_fstore (lv' := [(6, .float x67), (0, .ref v0), (1, .ref v1), (2, .int v2), (3, .int v3), (4, .float v4), (5, .int v5), (7, .int v7)]) C dX1_fillMeans_68 (by decide) rfl ?_
      refine E_iinc (lv' := [(7, .int ((v7 + 1))), (6, .float x67), (0, .ref v0), (1, .ref v1), (2, .int v2), (3, .int v3), (4, .float v4), (5, .int v5)]) C (v7 + 1) dX1_fillMeans_70 7 rfl rfl (by decide) rfl ?_
      refine E_goto C 33 dX1_fillMeans_73 (by decide) ?_
      exact E_pick [2, 3, 4, 5, 6, 7, 1, 0] rfl (ih x67 ((v7 + 1)) μ62)
def X1_fillMeans_L18 (G : Mem → Option (Unit × Mem)) (v0 : Nat) (v1 : Nat) (v2 : Int32) (v3 : Int32) (v4 : UInt32) : Nat → Int32 → Mem → Option (Unit × Mem)
  | 0, _, _ => none
  | n + 1, v5, μ => (gI μ v1 0 0).bind fun x21 => if x21 < v5 then (G μ) else (X1_fillMeans_L33 (fun v6_76 μ_76 => (gR μ_76 v0 1 1).bind fun x77 => bd (fX1_spot v2 v5 v3 μ_76) fun x84 μ84 => (nn (FP.fdiv v6_76 v4)).bind fun x91 => (sF μ84 x77 x84 x91).bind fun μ92 => X1_fillMeans_L18 G v0 v1 v2 v3 v4 n ((v5 + 1)) μ92) v0 v1 v2 v3 v4 v5 FU FP.fconst0 ((0 : Int32)) μ)
set_option maxHeartbeats 4000000 in
set_option maxRecDepth 100000 in
theorem X1_fillMeans_L18_ok {p : Program} {l : Launch} {e : Env} {R : Room} {s : State} {m : MethodId} {args : Array Value} {below : List Frame} {meth : Method} {c : Code} {D : va_G} {ca : Nat → ClassId} {ad : Nat → Nat} {A : Nat → Prop} {X : State → Prop} (C : CX p R s m args meth c D ca ad A X cX1_fillMeans RX1 8 none 1) {G : Mem → Option (Unit × Mem)} (v0 : Nat) (v1 : Nat) (v2 : Int32) (v3 : Int32) (v4 : UInt32) (hG : ∀  (μx : Mem), Sm p l e R s m args below meth c D ca ad A 8 0 0 wU (KQ below args s D ca ad A) 99 [(0, .ref v0), (1, .ref v1), (2, .int v2), (3, .int v3)] [] μx (G  μx)) : ∀ (n : Nat) (v5 : Int32) (μ : Mem), Sm p l e R s m args below meth c D ca ad A 8 0 0 wU (KQ below args s D ca ad A) 18 [(0, .ref v0), (1, .ref v1), (2, .int v2), (3, .int v3), (4, .float v4), (5, .int v5)] [] μ (X1_fillMeans_L18 G v0 v1 v2 v3 v4 n v5 μ) := by
  intro n
  induction n with
  | zero =>
    intro v5 μ
    rw [X1_fillMeans_L18]
    exact E_none
  | succ n ih =>
    intro v5 μ
    rw [X1_fillMeans_L18]
    refine E_iload C dX1_fillMeans_18 5 rfl ?_
    refine E_aload_n C dX1_fillMeans_20 1 rfl ?_
    refine E_getI C F_X1_54 dX1_fillMeans_21 (fun x21 => ?_)
    refine E_icmp_gt C 99 dX1_fillMeans_24 (by decide) ?_ ?_
    · exact E_pick [0, 1, 2, 3] rfl (hG μ)
    · refine E_at (pc2 := 27) rfl ?_
      refine E_fconst0 C dX1_fillMeans_27 ?_
      refine E_fstore (lv' := [(6, .float FP.fconst0), (0, .ref v0), (1, .ref v1), (2, .int v2), (3, .int v3), (4, .float v4), (5, .int v5)]) C dX1_fillMeans_28 (by decide) rfl ?_
      refine E_iconst C 0 dX1_fillMeans_30 (by decide) ?_
      refine E_istore (lv' := [(7, .int ((0 : Int32))), (6, .float FP.fconst0), (0, .ref v0), (1, .ref v1), (2, .int v2), (3, .int v3), (4, .float v4), (5, .int v5)]) C dX1_fillMeans_31 (by decide) rfl ?_
      refine E_at (pc2 := 33) rfl ?_
      refine E_pick (lv' := [(0, .ref v0), (1, .ref v1), (2, .int v2), (3, .int v3), (4, .float v4), (5, .int v5), (6, .float FP.fconst0), (7, .int ((0 : Int32)))]) [2, 3, 4, 5, 6, 7, 1, 0] rfl ?_
      refine X1_fillMeans_L33_ok C v0 v1 v2 v3 v4 v5 (fun v6_76 μ_76 => ?_) FU FP.fconst0 ((0 : Int32)) μ
      refine E_aload_n C dX1_fillMeans_76 0 rfl ?_
      refine E_getR C F_X1_15 dX1_fillMeans_77 (fun x77 => ?_)
      refine E_iload_n C dX1_fillMeans_80 2 rfl ?_
      refine E_iload C dX1_fillMeans_81 5 rfl ?_
      refine E_iload_n C dX1_fillMeans_83 3 rfl ?_
      refine E_callSI (st := [.ref x77]) C [.int v2, .int v5, .int v3] (mX1_spot v2 v5 v3 μ_76) cal_X1_spot st_X1_spot lk_X1_25 dX1_fillMeans_84 rfl rfl (Nat.le_of_ble_eq_true rfl) (Nat.le_of_ble_eq_true rfl) (fun x84 μ84 => ?_)
      refine E_fload C dX1_fillMeans_87 6 rfl ?_
      refine E_fload C dX1_fillMeans_89 4 rfl ?_
      refine E_fdiv C dX1_fillMeans_91 (fun x91 => ?_)
      refine E_fastore C dX1_fillMeans_92 (fun μ92 => ?_)
      refine E_iinc (lv' := [(5, .int ((v5 + 1))), (0, .ref v0), (1, .ref v1), (2, .int v2), (3, .int v3), (4, .float v4), (6, .float v6_76)]) C (v5 + 1) dX1_fillMeans_93 5 rfl rfl (by decide) rfl ?_
      refine E_goto C 18 dX1_fillMeans_96 (by decide) ?_
      exact E_pick [1, 2, 3, 4, 5, 0] rfl (ih ((v5 + 1)) μ92)
def X1_fillMeans_L2 (G : Mem → Option (Unit × Mem)) (v0 : Nat) (v1 : Nat) (v2 : Int32) : Nat → Int32 → Mem → Option (Unit × Mem)
  | 0, _, _ => none
  | n + 1, v3, μ => if (3 : Int32) ≤ v3 then (G μ) else ((isC μ v1 0).bind fun _ => bd (fX0_allPartsFrom v1 v3 μ) fun x9 μ9 => X1_fillMeans_L18 (fun μ_99 => X1_fillMeans_L2 G v0 v1 v2 n ((v3 + 1)) μ_99) v0 v1 v2 v3 ((FP.i2f x9)) FU ((0 : Int32)) μ9)
set_option maxHeartbeats 4000000 in
set_option maxRecDepth 100000 in
theorem X1_fillMeans_L2_ok {p : Program} {l : Launch} {e : Env} {R : Room} {s : State} {m : MethodId} {args : Array Value} {below : List Frame} {meth : Method} {c : Code} {D : va_G} {ca : Nat → ClassId} {ad : Nat → Nat} {A : Nat → Prop} {X : State → Prop} (C : CX p R s m args meth c D ca ad A X cX1_fillMeans RX1 8 none 1) {G : Mem → Option (Unit × Mem)} (v0 : Nat) (v1 : Nat) (v2 : Int32) (hG : ∀  (μx : Mem), Sm p l e R s m args below meth c D ca ad A 8 0 0 wU (KQ below args s D ca ad A) 105 [] [] μx (G  μx)) : ∀ (n : Nat) (v3 : Int32) (μ : Mem), Sm p l e R s m args below meth c D ca ad A 8 0 0 wU (KQ below args s D ca ad A) 2 [(0, .ref v0), (1, .ref v1), (2, .int v2), (3, .int v3)] [] μ (X1_fillMeans_L2 G v0 v1 v2 n v3 μ) := by
  intro n
  induction n with
  | zero =>
    intro v3 μ
    rw [X1_fillMeans_L2]
    exact E_none
  | succ n ih =>
    intro v3 μ
    rw [X1_fillMeans_L2]
    refine E_iload_n C dX1_fillMeans_2 3 rfl ?_
    refine E_iconst C 3 dX1_fillMeans_3 (by decide) ?_
    refine E_icmp_ge C 105 dX1_fillMeans_4 (by decide) ?_ ?_
    · exact E_pick [] rfl (hG μ)
    · refine E_at (pc2 := 7) rfl ?_
      refine E_aload_n C dX1_fillMeans_7 1 rfl ?_
      refine E_iload_n C dX1_fillMeans_8 3 rfl ?_
      refine E_callVI (st := []) C [.int v3] (mX0_allPartsFrom v1 v3 μ) cal_X0_allPartsFrom vir_X0_allPartsFrom lk_X1_68 dX1_fillMeans_9 rfl rfl (Nat.le_of_ble_eq_true rfl) (Nat.le_of_ble_eq_true rfl) (fun x9 μ9 => ?_)
      refine E_i2f C dX1_fillMeans_12 ?_
      refine E_fstore (lv' := [(4, .float ((FP.i2f x9))), (0, .ref v0), (1, .ref v1), (2, .int v2), (3, .int v3)]) C dX1_fillMeans_13 (by decide) rfl ?_
      refine E_iconst C 0 dX1_fillMeans_15 (by decide) ?_
      refine E_istore (lv' := [(5, .int ((0 : Int32))), (4, .float ((FP.i2f x9))), (0, .ref v0), (1, .ref v1), (2, .int v2), (3, .int v3)]) C dX1_fillMeans_16 (by decide) rfl ?_
      refine E_at (pc2 := 18) rfl ?_
      refine E_pick (lv' := [(0, .ref v0), (1, .ref v1), (2, .int v2), (3, .int v3), (4, .float ((FP.i2f x9))), (5, .int ((0 : Int32)))]) [2, 3, 4, 5, 1, 0] rfl ?_
      refine X1_fillMeans_L18_ok C v0 v1 v2 v3 ((FP.i2f x9)) (fun μ_99 => ?_) FU ((0 : Int32)) μ9
      refine E_iinc (lv' := [(3, .int ((v3 + 1))), (0, .ref v0), (1, .ref v1), (2, .int v2)]) C (v3 + 1) dX1_fillMeans_99 3 rfl rfl (by decide) rfl ?_
      refine E_goto C 2 dX1_fillMeans_102 (by decide) ?_
      exact E_pick [1, 2, 3, 0] rfl (ih ((v3 + 1)) μ_99)
def fX1_fillMeans (v0 : Nat) (v1 : Nat) (v2 : Int32) (μ : Mem) : Option (Unit × Mem) :=
  X1_fillMeans_L2 (fun μ_105 => some ((), μ_105)) v0 v1 v2 FU ((0 : Int32)) μ
set_option maxHeartbeats 4000000 in
set_option maxRecDepth 100000 in
theorem mX1_fillMeans (v0 : Nat) (v1 : Nat) (v2 : Int32) (μ : Mem) : Meth wU yX1_fillMeans cX1_fillMeans 8 none 1 [.ref v0, .ref v1, .int v2] μ (fX1_fillMeans v0 v1 v2 μ) := by
  refine Meth.of (by decide) [(0, .ref v0), (1, .ref v1), (2, .int v2)] rfl (Nat.le_of_ble_eq_true rfl) ?_
  intro p l e R s m args below meth c D ca ad A X C
  have C : CX p R s m args meth c D ca ad A X cX1_fillMeans RX1 8 none 1 := C
  unfold fX1_fillMeans
  refine E_iconst C 0 dX1_fillMeans_0 (by decide) ?_
  refine E_istore_n (lv' := [(3, .int ((0 : Int32))), (0, .ref v0), (1, .ref v1), (2, .int v2)]) C dX1_fillMeans_1 (by decide) rfl ?_
  refine E_at (pc2 := 2) rfl ?_
  refine E_pick (lv' := [(0, .ref v0), (1, .ref v1), (2, .int v2), (3, .int ((0 : Int32)))]) [1, 2, 3, 0] rfl ?_
  refine X1_fillMeans_L2_ok C v0 v1 v2 (fun μ_105 => ?_) FU ((0 : Int32)) μ
  exact E_ret C dX1_fillMeans_105
def X1_choose_L46 (G : UInt32 → Int32 → Mem → Option (Unit × Mem)) (v0 : Nat) (v1 : Nat) (v2 : Int32) (v3 : Int32) (v4 : Int32) (v5 : Int32) (v6 : Int32) : Nat → UInt32 → Int32 → Int32 → Mem → Option (Unit × Mem)
  | 0, _, _, _, _ => none
  | n + 1, v7, v8, v9, μ => if v6 < v9 then (G v7 v8 μ) else ((isC μ v0 1).bind fun _ => bd (fX1_valueOf v0 v1 v2 v4 ((v5 - v9)) v9 μ) fun x65 μ65 => if (Op.cmpValue (FP.fcmp x65 v7) .l) ≤ 0 then (X1_choose_L46 G v0 v1 v2 v3 v4 v5 v6 n v7 v8 ((v9 + 1)) μ65) else (X1_choose_L46 G v0 v1 v2 v3 v4 v5 v6 n x65 v9 ((v9 + 1)) μ65))
set_option maxHeartbeats 4000000 in
set_option maxRecDepth 100000 in
theorem X1_choose_L46_ok {p : Program} {l : Launch} {e : Env} {R : Room} {s : State} {m : MethodId} {args : Array Value} {below : List Frame} {meth : Method} {c : Code} {D : va_G} {ca : Nat → ClassId} {ad : Nat → Nat} {A : Nat → Prop} {X : State → Prop} (C : CX p R s m args meth c D ca ad A X cX1_choose RX1 11 none 2) {G : UInt32 → Int32 → Mem → Option (Unit × Mem)} (v0 : Nat) (v1 : Nat) (v2 : Int32) (v3 : Int32) (v4 : Int32) (v5 : Int32) (v6 : Int32) (hG : ∀ (v7x : UInt32) (v8x : Int32) (μx : Mem), Sm p l e R s m args below meth c D ca ad A 11 0 0 wU (KQ below args s D ca ad A) 92 [(0, .ref v0), (2, .int v2), (3, .int v3), (4, .int v4), (7, .float v7x), (8, .int v8x)] [] μx (G v7x v8x μx)) : ∀ (n : Nat) (v7 : UInt32) (v8 : Int32) (v9 : Int32) (μ : Mem), Sm p l e R s m args below meth c D ca ad A 11 0 0 wU (KQ below args s D ca ad A) 46 [(0, .ref v0), (1, .ref v1), (2, .int v2), (3, .int v3), (4, .int v4), (5, .int v5), (6, .int v6), (7, .float v7), (8, .int v8), (9, .int v9)] [] μ (X1_choose_L46 G v0 v1 v2 v3 v4 v5 v6 n v7 v8 v9 μ) := by
  intro n
  induction n with
  | zero =>
    intro v7 v8 v9 μ
    rw [X1_choose_L46]
    exact E_none
  | succ n ih =>
    intro v7 v8 v9 μ
    rw [X1_choose_L46]
    refine E_iload C dX1_choose_46 9 rfl ?_
    refine E_iload C dX1_choose_48 6 rfl ?_
    refine E_icmp_gt C 92 dX1_choose_50 (by decide) ?_ ?_
    · exact E_pick [0, 2, 3, 4, 7, 8] rfl (hG v7 v8 μ)
    · refine E_at (pc2 := 53) rfl ?_
      refine E_aload_n C dX1_choose_53 0 rfl ?_
      refine E_aload_n C dX1_choose_54 1 rfl ?_
      refine E_iload_n C dX1_choose_55 2 rfl ?_
      refine E_iload C dX1_choose_56 4 rfl ?_
      refine E_iload C dX1_choose_58 5 rfl ?_
      refine E_iload C dX1_choose_60 9 rfl ?_
      refine E_isub C dX1_choose_62 ?_
      refine E_iload C dX1_choose_63 9 rfl ?_
      refine E_callVF (st := []) C [.ref v1, .int v2, .int v4, .int ((v5 - v9)), .int v9] (mX1_valueOf v0 v1 v2 v4 ((v5 - v9)) v9 μ) cal_X1_valueOf vir_X1_valueOf lk_X1_43 dX1_choose_65 rfl rfl (Nat.le_of_ble_eq_true rfl) (Nat.le_of_ble_eq_true rfl) (fun x65 μ65 => ?_)
      refine E_fstore (lv' := [(10, .float x65), (0, .ref v0), (1, .ref v1), (2, .int v2), (3, .int v3), (4, .int v4), (5, .int v5), (6, .int v6), (7, .float v7), (8, .int v8), (9, .int v9)]) C dX1_choose_68 (by decide) rfl ?_
      refine E_fload C dX1_choose_70 0 rfl ?_
      refine E_fload C dX1_choose_72 8 rfl ?_
      refine E_fcmp C dX1_choose_74 ?_
      refine E_if_le C 86 dX1_choose_75 (by decide) ?_ ?_
      · refine E_iinc (lv' := [(9, .int ((v9 + 1))), (10, .float x65), (0, .ref v0), (1, .ref v1), (2, .int v2), (3, .int v3), (4, .int v4), (5, .int v5), (6, .int v6), (7, .float v7), (8, .int v8)]) C (v9 + 1) dX1_choose_86 10 rfl rfl (by decide) rfl ?_
        refine E_goto C 46 dX1_choose_89 (by decide) ?_
        exact E_pick [2, 3, 4, 5, 6, 7, 8, 9, 10, 0] rfl (ih v7 v8 ((v9 + 1)) μ65)
      · refine E_at (pc2 := 78) rfl ?_
        refine E_fload C dX1_choose_78 0 rfl ?_
        refine E_fstore (lv' := [(7, .float x65), (10, .float x65), (0, .ref v0), (1, .ref v1), (2, .int v2), (3, .int v3), (4, .int v4), (5, .int v5), (6, .int v6), (8, .int v8), (9, .int v9)]) C dX1_choose_80 (by decide) rfl ?_
        refine E_iload C dX1_choose_82 10 rfl ?_
        refine E_istore (lv' := [(8, .int v9), (7, .float x65), (10, .float x65), (0, .ref v0), (1, .ref v1), (2, .int v2), (3, .int v3), (4, .int v4), (5, .int v5), (6, .int v6), (9, .int v9)]) C dX1_choose_84 (by decide) rfl ?_
        refine E_at (pc2 := 86) rfl ?_
        refine E_iinc (lv' := [(9, .int ((v9 + 1))), (8, .int v9), (7, .float x65), (10, .float x65), (0, .ref v0), (1, .ref v1), (2, .int v2), (3, .int v3), (4, .int v4), (5, .int v5), (6, .int v6)]) C (v9 + 1) dX1_choose_86 10 rfl rfl (by decide) rfl ?_
        refine E_goto C 46 dX1_choose_89 (by decide) ?_
        exact E_pick [4, 5, 6, 7, 8, 9, 10, 2, 1, 0] rfl (ih x65 v9 ((v9 + 1)) μ65)
def fX1_choose (v0 : Nat) (v1 : Nat) (v2 : Int32) (v3 : Int32) (v4 : Int32) (μ : Mem) : Option (Unit × Mem) :=
  (isC μ v1 0).bind fun _ => bd (fX0_driedIn v1 v2 v3 μ) fun x4 μ4 => (isC μ4 v1 0).bind fun _ => bd (fX0_inflowIn v1 v2 v4 μ4) fun x12 μ12 => (isC μ12 v0 1).bind fun _ => bd (fX1_valueOf v0 v1 v2 v4 (((v3 - x4) + x12)) ((0 : Int32)) μ12) fun x35 μ35 => X1_choose_L46 (fun v7_92 v8_92 μ_92 => (gR μ_92 v0 1 0).bind fun x93 => bd (fX1_spot v2 v3 v4 μ_92) fun x100 μ100 => (sF μ100 x93 x100 v7_92).bind fun μ105 => (gR μ105 v0 1 2).bind fun x107 => bd (fX1_spot v2 v3 v4 μ105) fun x114 μ114 => (sI μ114 x107 x114 v8_92).bind fun μ119 => some ((), μ119)) v0 v1 v2 v3 v4 (((v3 - x4) + x12)) ((mnI ((20 : Int32)) (((v3 - x4) + x12)))) FU x35 ((0 : Int32)) ((1 : Int32)) μ35
set_option maxHeartbeats 4000000 in
set_option maxRecDepth 100000 in
theorem mX1_choose (v0 : Nat) (v1 : Nat) (v2 : Int32) (v3 : Int32) (v4 : Int32) (μ : Mem) : Meth wU yX1_choose cX1_choose 11 none 2 [.ref v0, .ref v1, .int v2, .int v3, .int v4] μ (fX1_choose v0 v1 v2 v3 v4 μ) := by
  refine Meth.of (by decide) [(0, .ref v0), (1, .ref v1), (2, .int v2), (3, .int v3), (4, .int v4)] rfl (Nat.le_of_ble_eq_true rfl) ?_
  intro p l e R s m args below meth c D ca ad A X C
  have C : CX p R s m args meth c D ca ad A X cX1_choose RX1 11 none 2 := C
  unfold fX1_choose
  refine E_iload_n C dX1_choose_0 3 rfl ?_
  refine E_aload_n C dX1_choose_1 1 rfl ?_
  refine E_iload_n C dX1_choose_2 2 rfl ?_
  refine E_iload_n C dX1_choose_3 3 rfl ?_
  refine E_callVI (st := [.int v3]) C [.int v2, .int v3] (mX0_driedIn v1 v2 v3 μ) cal_X0_driedIn vir_X0_driedIn lk_X1_29 dX1_choose_4 rfl rfl (Nat.le_of_ble_eq_true rfl) (Nat.le_of_ble_eq_true rfl) (fun x4 μ4 => ?_)
  refine E_isub C dX1_choose_7 ?_
  refine E_aload_n C dX1_choose_8 1 rfl ?_
  refine E_iload_n C dX1_choose_9 2 rfl ?_
  refine E_iload C dX1_choose_10 4 rfl ?_
  refine E_callVI (st := [.int ((v3 - x4))]) C [.int v2, .int v4] (mX0_inflowIn v1 v2 v4 μ4) cal_X0_inflowIn vir_X0_inflowIn lk_X1_35 dX1_choose_12 rfl rfl (Nat.le_of_ble_eq_true rfl) (Nat.le_of_ble_eq_true rfl) (fun x12 μ12 => ?_)
  refine E_iadd C dX1_choose_15 ?_
  refine E_istore (lv' := [(5, .int (((v3 - x4) + x12))), (0, .ref v0), (1, .ref v1), (2, .int v2), (3, .int v3), (4, .int v4)]) C dX1_choose_16 (by decide) rfl ?_
  refine E_bipush C 20 dX1_choose_18 (by decide) ?_
  refine E_iload C dX1_choose_20 0 rfl ?_
  refine E_mmin C lk_X1_38 st_Math_min in_Math co_Math_min dX1_choose_22 (Nat.le_of_ble_eq_true rfl) (Nat.le_of_ble_eq_true rfl) ?_
  refine E_istore (lv' := [(6, .int ((mnI ((20 : Int32)) (((v3 - x4) + x12))))), (5, .int (((v3 - x4) + x12))), (0, .ref v0), (1, .ref v1), (2, .int v2), (3, .int v3), (4, .int v4)]) C dX1_choose_25 (by decide) rfl ?_
  refine E_aload_n C dX1_choose_27 2 rfl ?_
  refine E_aload_n C dX1_choose_28 3 rfl ?_
  refine E_iload_n C dX1_choose_29 4 rfl ?_
  refine E_iload C dX1_choose_30 6 rfl ?_
  refine E_iload C dX1_choose_32 1 rfl ?_
  refine E_iconst C 0 dX1_choose_34 (by decide) ?_
  refine E_callVF (st := []) C [.ref v1, .int v2, .int v4, .int (((v3 - x4) + x12)), .int ((0 : Int32))] (mX1_valueOf v0 v1 v2 v4 (((v3 - x4) + x12)) ((0 : Int32)) μ12) cal_X1_valueOf vir_X1_valueOf lk_X1_43 dX1_choose_35 rfl rfl (Nat.le_of_ble_eq_true rfl) (Nat.le_of_ble_eq_true rfl) (fun x35 μ35 => ?_)
  refine E_fstore (lv' := [(7, .float x35), (6, .int ((mnI ((20 : Int32)) (((v3 - x4) + x12))))), (5, .int (((v3 - x4) + x12))), (0, .ref v0), (1, .ref v1), (2, .int v2), (3, .int v3), (4, .int v4)]) C dX1_choose_38 (by decide) rfl ?_
  refine E_iconst C 0 dX1_choose_40 (by decide) ?_
  refine E_istore (lv' := [(8, .int ((0 : Int32))), (7, .float x35), (6, .int ((mnI ((20 : Int32)) (((v3 - x4) + x12))))), (5, .int (((v3 - x4) + x12))), (0, .ref v0), (1, .ref v1), (2, .int v2), (3, .int v3), (4, .int v4)]) C dX1_choose_41 (by decide) rfl ?_
  refine E_iconst C 1 dX1_choose_43 (by decide) ?_
  refine E_istore (lv' := [(9, .int ((1 : Int32))), (8, .int ((0 : Int32))), (7, .float x35), (6, .int ((mnI ((20 : Int32)) (((v3 - x4) + x12))))), (5, .int (((v3 - x4) + x12))), (0, .ref v0), (1, .ref v1), (2, .int v2), (3, .int v3), (4, .int v4)]) C dX1_choose_44 (by decide) rfl ?_
  refine E_at (pc2 := 46) rfl ?_
  refine E_pick (lv' := [(0, .ref v0), (1, .ref v1), (2, .int v2), (3, .int v3), (4, .int v4), (5, .int (((v3 - x4) + x12))), (6, .int ((mnI ((20 : Int32)) (((v3 - x4) + x12))))), (7, .float x35), (8, .int ((0 : Int32))), (9, .int ((1 : Int32)))]) [5, 6, 7, 8, 9, 4, 3, 2, 1, 0] rfl ?_
  refine X1_choose_L46_ok C v0 v1 v2 v3 v4 (((v3 - x4) + x12)) ((mnI ((20 : Int32)) (((v3 - x4) + x12)))) (fun v7_92 v8_92 μ_92 => ?_) FU x35 ((0 : Int32)) ((1 : Int32)) μ35
  refine E_aload_n C dX1_choose_92 0 rfl ?_
  refine E_getR C F_X1_9 dX1_choose_93 (fun x93 => ?_)
  refine E_iload_n C dX1_choose_96 1 rfl ?_
  refine E_iload_n C dX1_choose_97 2 rfl ?_
  refine E_iload C dX1_choose_98 3 rfl ?_
  refine E_callSI (st := [.ref x93]) C [.int v2, .int v3, .int v4] (mX1_spot v2 v3 v4 μ_92) cal_X1_spot st_X1_spot lk_X1_25 dX1_choose_100 rfl rfl (Nat.le_of_ble_eq_true rfl) (Nat.le_of_ble_eq_true rfl) (fun x100 μ100 => ?_)
  refine E_fload C dX1_choose_103 4 rfl ?_
  refine E_fastore C dX1_choose_105 (fun μ105 => ?_)
  refine E_aload_n C dX1_choose_106 0 rfl ?_
  refine E_getR C F_X1_18 dX1_choose_107 (fun x107 => ?_)
  refine E_iload_n C dX1_choose_110 1 rfl ?_
  refine E_iload_n C dX1_choose_111 2 rfl ?_
  refine E_iload C dX1_choose_112 3 rfl ?_
  refine E_callSI (st := [.ref x107]) C [.int v2, .int v3, .int v4] (mX1_spot v2 v3 v4 μ105) cal_X1_spot st_X1_spot lk_X1_25 dX1_choose_114 rfl rfl (Nat.le_of_ble_eq_true rfl) (Nat.le_of_ble_eq_true rfl) (fun x114 μ114 => ?_)
  refine E_iload C dX1_choose_117 5 rfl ?_
  refine E_iastore C dX1_choose_119 (fun μ119 => ?_)
  exact E_ret C dX1_choose_120
def X1_sweep_L13 (G : Mem → Option (Unit × Mem)) (v0 : Nat) (v1 : Nat) (v2 : Int32) (v3 : Int32) : Nat → Int32 → Mem → Option (Unit × Mem)
  | 0, _, _ => none
  | n + 1, v4, μ => if (3 : Int32) ≤ v4 then (G μ) else ((gR μ v0 1 0).bind fun x20 => (gI μ v1 0 1).bind fun x24 => bd (fX1_spot x24 v3 v4 μ) fun x30 μ30 => (gI μ30 v1 0 3).bind fun x34 => (nn (FP.fmul ((FP.i2f x34)) ((FP.i2f v3)))).bind fun x40 => (sF μ30 x20 x30 x40).bind fun μ41 => X1_sweep_L13 G v0 v1 v2 v3 n ((v4 + 1)) μ41)
set_option maxHeartbeats 4000000 in
set_option maxRecDepth 100000 in
theorem X1_sweep_L13_ok {p : Program} {l : Launch} {e : Env} {R : Room} {s : State} {m : MethodId} {args : Array Value} {below : List Frame} {meth : Method} {c : Code} {D : va_G} {ca : Nat → ClassId} {ad : Nat → Nat} {A : Nat → Prop} {X : State → Prop} (C : CX p R s m args meth c D ca ad A X cX1_sweep RX1 6 none 3) {G : Mem → Option (Unit × Mem)} (v0 : Nat) (v1 : Nat) (v2 : Int32) (v3 : Int32) (hG : ∀  (μx : Mem), Sm p l e R s m args below meth c D ca ad A 6 0 0 wU (KQ below args s D ca ad A) 48 [(0, .ref v0), (1, .ref v1), (2, .int v2), (3, .int v3)] [] μx (G  μx)) : ∀ (n : Nat) (v4 : Int32) (μ : Mem), Sm p l e R s m args below meth c D ca ad A 6 0 0 wU (KQ below args s D ca ad A) 13 [(0, .ref v0), (1, .ref v1), (2, .int v2), (3, .int v3), (4, .int v4)] [] μ (X1_sweep_L13 G v0 v1 v2 v3 n v4 μ) := by
  intro n
  induction n with
  | zero =>
    intro v4 μ
    rw [X1_sweep_L13]
    exact E_none
  | succ n ih =>
    intro v4 μ
    rw [X1_sweep_L13]
    refine E_iload C dX1_sweep_13 4 rfl ?_
    refine E_iconst C 3 dX1_sweep_15 (by decide) ?_
    refine E_icmp_ge C 48 dX1_sweep_16 (by decide) ?_ ?_
    · exact E_pick [0, 1, 2, 3] rfl (hG μ)
    · refine E_at (pc2 := 19) rfl ?_
      refine E_aload_n C dX1_sweep_19 0 rfl ?_
      refine E_getR C F_X1_9 dX1_sweep_20 (fun x20 => ?_)
      refine E_aload_n C dX1_sweep_23 1 rfl ?_
      refine E_getI C F_X1_47 dX1_sweep_24 (fun x24 => ?_)
      refine E_iload_n C dX1_sweep_27 3 rfl ?_
      refine E_iload C dX1_sweep_28 4 rfl ?_
      refine E_callSI (st := [.ref x20]) C [.int x24, .int v3, .int v4] (mX1_spot x24 v3 v4 μ) cal_X1_spot st_X1_spot lk_X1_25 dX1_sweep_30 rfl rfl (Nat.le_of_ble_eq_true rfl) (Nat.le_of_ble_eq_true rfl) (fun x30 μ30 => ?_)
      refine E_aload_n C dX1_sweep_33 1 rfl ?_
      refine E_getI C F_X1_57 dX1_sweep_34 (fun x34 => ?_)
      refine E_i2f C dX1_sweep_37 ?_
      refine E_iload_n C dX1_sweep_38 3 rfl ?_
      refine E_i2f C dX1_sweep_39 ?_
      refine E_fmul C dX1_sweep_40 (fun x40 => ?_)
      refine E_fastore C dX1_sweep_41 (fun μ41 => ?_)
      refine E_iinc (lv' := [(4, .int ((v4 + 1))), (0, .ref v0), (1, .ref v1), (2, .int v2), (3, .int v3)]) C (v4 + 1) dX1_sweep_42 4 rfl rfl (by decide) rfl ?_
      refine E_goto C 13 dX1_sweep_45 (by decide) ?_
      exact E_pick [1, 2, 3, 4, 0] rfl (ih ((v4 + 1)) μ41)
def X1_sweep_L2 (G : Mem → Option (Unit × Mem)) (v0 : Nat) (v1 : Nat) (v2 : Int32) : Nat → Int32 → Mem → Option (Unit × Mem)
  | 0, _, _ => none
  | n + 1, v3, μ => (gI μ v1 0 0).bind fun x4 => if x4 < v3 then (G μ) else (X1_sweep_L13 (fun μ_48 => X1_sweep_L2 G v0 v1 v2 n ((v3 + 1)) μ_48) v0 v1 v2 v3 FU ((0 : Int32)) μ)
set_option maxHeartbeats 4000000 in
set_option maxRecDepth 100000 in
theorem X1_sweep_L2_ok {p : Program} {l : Launch} {e : Env} {R : Room} {s : State} {m : MethodId} {args : Array Value} {below : List Frame} {meth : Method} {c : Code} {D : va_G} {ca : Nat → ClassId} {ad : Nat → Nat} {A : Nat → Prop} {X : State → Prop} (C : CX p R s m args meth c D ca ad A X cX1_sweep RX1 6 none 3) {G : Mem → Option (Unit × Mem)} (v0 : Nat) (v1 : Nat) (v2 : Int32) (hG : ∀  (μx : Mem), Sm p l e R s m args below meth c D ca ad A 6 0 0 wU (KQ below args s D ca ad A) 54 [(0, .ref v0), (1, .ref v1), (2, .int v2)] [] μx (G  μx)) : ∀ (n : Nat) (v3 : Int32) (μ : Mem), Sm p l e R s m args below meth c D ca ad A 6 0 0 wU (KQ below args s D ca ad A) 2 [(0, .ref v0), (1, .ref v1), (2, .int v2), (3, .int v3)] [] μ (X1_sweep_L2 G v0 v1 v2 n v3 μ) := by
  intro n
  induction n with
  | zero =>
    intro v3 μ
    rw [X1_sweep_L2]
    exact E_none
  | succ n ih =>
    intro v3 μ
    rw [X1_sweep_L2]
    refine E_iload_n C dX1_sweep_2 3 rfl ?_
    refine E_aload_n C dX1_sweep_3 1 rfl ?_
    refine E_getI C F_X1_54 dX1_sweep_4 (fun x4 => ?_)
    refine E_icmp_gt C 54 dX1_sweep_7 (by decide) ?_ ?_
    · exact E_pick [0, 1, 2] rfl (hG μ)
    · refine E_at (pc2 := 10) rfl ?_
      refine E_iconst C 0 dX1_sweep_10 (by decide) ?_
      refine E_istore (lv' := [(4, .int ((0 : Int32))), (0, .ref v0), (1, .ref v1), (2, .int v2), (3, .int v3)]) C dX1_sweep_11 (by decide) rfl ?_
      refine E_at (pc2 := 13) rfl ?_
      refine E_pick (lv' := [(0, .ref v0), (1, .ref v1), (2, .int v2), (3, .int v3), (4, .int ((0 : Int32)))]) [1, 2, 3, 4, 0] rfl ?_
      refine X1_sweep_L13_ok C v0 v1 v2 v3 (fun μ_48 => ?_) FU ((0 : Int32)) μ
      refine E_iinc (lv' := [(3, .int ((v3 + 1))), (0, .ref v0), (1, .ref v1), (2, .int v2)]) C (v3 + 1) dX1_sweep_48 3 rfl rfl (by decide) rfl ?_
      refine E_goto C 2 dX1_sweep_51 (by decide) ?_
      exact E_pick [1, 2, 3, 0] rfl (ih ((v3 + 1)) μ_48)
def X1_sweep_L89 (G : Mem → Option (Unit × Mem)) (v0 : Nat) (v1 : Nat) (v2 : Int32) (v3 : Int32) (v4 : Int32) : Nat → Int32 → Mem → Option (Unit × Mem)
  | 0, _, _ => none
  | n + 1, v5, μ => if (3 : Int32) ≤ v5 then (G μ) else ((isC μ v0 1).bind fun _ => bd (fX1_choose v0 v1 v3 v4 v5 μ) fun _ μ102 => X1_sweep_L89 G v0 v1 v2 v3 v4 n ((v5 + 1)) μ102)
set_option maxHeartbeats 4000000 in
set_option maxRecDepth 100000 in
theorem X1_sweep_L89_ok {p : Program} {l : Launch} {e : Env} {R : Room} {s : State} {m : MethodId} {args : Array Value} {below : List Frame} {meth : Method} {c : Code} {D : va_G} {ca : Nat → ClassId} {ad : Nat → Nat} {A : Nat → Prop} {X : State → Prop} (C : CX p R s m args meth c D ca ad A X cX1_sweep RX1 6 none 3) {G : Mem → Option (Unit × Mem)} (v0 : Nat) (v1 : Nat) (v2 : Int32) (v3 : Int32) (v4 : Int32) (hG : ∀  (μx : Mem), Sm p l e R s m args below meth c D ca ad A 6 0 0 wU (KQ below args s D ca ad A) 111 [(0, .ref v0), (1, .ref v1), (2, .int v2), (3, .int v3), (4, .int v4)] [] μx (G  μx)) : ∀ (n : Nat) (v5 : Int32) (μ : Mem), Sm p l e R s m args below meth c D ca ad A 6 0 0 wU (KQ below args s D ca ad A) 89 [(0, .ref v0), (1, .ref v1), (2, .int v2), (3, .int v3), (4, .int v4), (5, .int v5)] [] μ (X1_sweep_L89 G v0 v1 v2 v3 v4 n v5 μ) := by
  intro n
  induction n with
  | zero =>
    intro v5 μ
    rw [X1_sweep_L89]
    exact E_none
  | succ n ih =>
    intro v5 μ
    rw [X1_sweep_L89]
    refine E_iload C dX1_sweep_89 5 rfl ?_
    refine E_iconst C 3 dX1_sweep_91 (by decide) ?_
    refine E_icmp_ge C 111 dX1_sweep_92 (by decide) ?_ ?_
    · exact E_pick [0, 1, 2, 3, 4] rfl (hG μ)
    · refine E_at (pc2 := 95) rfl ?_
      refine E_aload_n C dX1_sweep_95 0 rfl ?_
      refine E_aload_n C dX1_sweep_96 1 rfl ?_
      refine E_iload_n C dX1_sweep_97 3 rfl ?_
      refine E_iload C dX1_sweep_98 4 rfl ?_
      refine E_iload C dX1_sweep_100 5 rfl ?_
      refine E_callVU (st := []) C [.ref v1, .int v3, .int v4, .int v5] (mX1_choose v0 v1 v3 v4 v5 μ) cal_X1_choose vir_X1_choose lk_X1_64 dX1_sweep_102 rfl rfl (Nat.le_of_ble_eq_true rfl) (Nat.le_of_ble_eq_true rfl) (fun _ μ102 => ?_)
      refine E_iinc (lv' := [(5, .int ((v5 + 1))), (0, .ref v0), (1, .ref v1), (2, .int v2), (3, .int v3), (4, .int v4)]) C (v5 + 1) dX1_sweep_105 5 rfl rfl (by decide) rfl ?_
      refine E_goto C 89 dX1_sweep_108 (by decide) ?_
      exact E_pick [1, 2, 3, 4, 5, 0] rfl (ih ((v5 + 1)) μ102)
def X1_sweep_L77 (G : Mem → Option (Unit × Mem)) (v0 : Nat) (v1 : Nat) (v2 : Int32) (v3 : Int32) : Nat → Int32 → Mem → Option (Unit × Mem)
  | 0, _, _ => none
  | n + 1, v4, μ => (gI μ v1 0 0).bind fun x80 => if x80 < v4 then (G μ) else (X1_sweep_L89 (fun μ_111 => X1_sweep_L77 G v0 v1 v2 v3 n ((v4 + 1)) μ_111) v0 v1 v2 v3 v4 FU ((0 : Int32)) μ)
set_option maxHeartbeats 4000000 in
set_option maxRecDepth 100000 in
theorem X1_sweep_L77_ok {p : Program} {l : Launch} {e : Env} {R : Room} {s : State} {m : MethodId} {args : Array Value} {below : List Frame} {meth : Method} {c : Code} {D : va_G} {ca : Nat → ClassId} {ad : Nat → Nat} {A : Nat → Prop} {X : State → Prop} (C : CX p R s m args meth c D ca ad A X cX1_sweep RX1 6 none 3) {G : Mem → Option (Unit × Mem)} (v0 : Nat) (v1 : Nat) (v2 : Int32) (v3 : Int32) (hG : ∀  (μx : Mem), Sm p l e R s m args below meth c D ca ad A 6 0 0 wU (KQ below args s D ca ad A) 117 [(0, .ref v0), (1, .ref v1), (2, .int v2), (3, .int v3)] [] μx (G  μx)) : ∀ (n : Nat) (v4 : Int32) (μ : Mem), Sm p l e R s m args below meth c D ca ad A 6 0 0 wU (KQ below args s D ca ad A) 77 [(0, .ref v0), (1, .ref v1), (2, .int v2), (3, .int v3), (4, .int v4)] [] μ (X1_sweep_L77 G v0 v1 v2 v3 n v4 μ) := by
  intro n
  induction n with
  | zero =>
    intro v4 μ
    rw [X1_sweep_L77]
    exact E_none
  | succ n ih =>
    intro v4 μ
    rw [X1_sweep_L77]
    refine E_iload C dX1_sweep_77 4 rfl ?_
    refine E_aload_n C dX1_sweep_79 1 rfl ?_
    refine E_getI C F_X1_54 dX1_sweep_80 (fun x80 => ?_)
    refine E_icmp_gt C 117 dX1_sweep_83 (by decide) ?_ ?_
    · exact E_pick [0, 1, 2, 3] rfl (hG μ)
    · refine E_at (pc2 := 86) rfl ?_
      refine E_iconst C 0 dX1_sweep_86 (by decide) ?_
      refine E_istore (lv' := [(5, .int ((0 : Int32))), (0, .ref v0), (1, .ref v1), (2, .int v2), (3, .int v3), (4, .int v4)]) C dX1_sweep_87 (by decide) rfl ?_
      refine E_at (pc2 := 89) rfl ?_
      refine E_pick (lv' := [(0, .ref v0), (1, .ref v1), (2, .int v2), (3, .int v3), (4, .int v4), (5, .int ((0 : Int32)))]) [1, 2, 3, 4, 5, 0] rfl ?_
      refine X1_sweep_L89_ok C v0 v1 v2 v3 v4 (fun μ_111 => ?_) FU ((0 : Int32)) μ
      refine E_iinc (lv' := [(4, .int ((v4 + 1))), (0, .ref v0), (1, .ref v1), (2, .int v2), (3, .int v3)]) C (v4 + 1) dX1_sweep_111 4 rfl rfl (by decide) rfl ?_
      refine E_goto C 77 dX1_sweep_114 (by decide) ?_
      exact E_pick [1, 2, 3, 4, 0] rfl (ih ((v4 + 1)) μ_111)
def X1_sweep_L61 (G : Mem → Option (Unit × Mem)) (v0 : Nat) (v1 : Nat) (v2 : Int32) : Nat → Int32 → Mem → Option (Unit × Mem)
  | 0, _, _ => none
  | n + 1, v3, μ => if v3 < v2 then (G μ) else ((isC μ v0 1).bind fun _ => bd (fX1_fillMeans v0 v1 ((v3 + (1 : Int32))) μ) fun _ μ71 => X1_sweep_L77 (fun μ_117 => X1_sweep_L61 G v0 v1 v2 n ((v3 + -1)) μ_117) v0 v1 v2 v3 FU ((0 : Int32)) μ71)
set_option maxHeartbeats 4000000 in
set_option maxRecDepth 100000 in
theorem X1_sweep_L61_ok {p : Program} {l : Launch} {e : Env} {R : Room} {s : State} {m : MethodId} {args : Array Value} {below : List Frame} {meth : Method} {c : Code} {D : va_G} {ca : Nat → ClassId} {ad : Nat → Nat} {A : Nat → Prop} {X : State → Prop} (C : CX p R s m args meth c D ca ad A X cX1_sweep RX1 6 none 3) {G : Mem → Option (Unit × Mem)} (v0 : Nat) (v1 : Nat) (v2 : Int32) (hG : ∀  (μx : Mem), Sm p l e R s m args below meth c D ca ad A 6 0 0 wU (KQ below args s D ca ad A) 123 [] [] μx (G  μx)) : ∀ (n : Nat) (v3 : Int32) (μ : Mem), Sm p l e R s m args below meth c D ca ad A 6 0 0 wU (KQ below args s D ca ad A) 61 [(0, .ref v0), (1, .ref v1), (2, .int v2), (3, .int v3)] [] μ (X1_sweep_L61 G v0 v1 v2 n v3 μ) := by
  intro n
  induction n with
  | zero =>
    intro v3 μ
    rw [X1_sweep_L61]
    exact E_none
  | succ n ih =>
    intro v3 μ
    rw [X1_sweep_L61]
    refine E_iload_n C dX1_sweep_61 3 rfl ?_
    refine E_iload_n C dX1_sweep_62 2 rfl ?_
    refine E_icmp_lt C 123 dX1_sweep_63 (by decide) ?_ ?_
    · exact E_pick [] rfl (hG μ)
    · refine E_at (pc2 := 66) rfl ?_
      refine E_aload_n C dX1_sweep_66 0 rfl ?_
      refine E_aload_n C dX1_sweep_67 1 rfl ?_
      refine E_iload_n C dX1_sweep_68 3 rfl ?_
      refine E_iconst C 1 dX1_sweep_69 (by decide) ?_
      refine E_iadd C dX1_sweep_70 ?_
      refine E_callVU (st := []) C [.ref v1, .int ((v3 + (1 : Int32)))] (mX1_fillMeans v0 v1 ((v3 + (1 : Int32))) μ) cal_X1_fillMeans vir_X1_fillMeans lk_X1_60 dX1_sweep_71 rfl rfl (Nat.le_of_ble_eq_true rfl) (Nat.le_of_ble_eq_true rfl) (fun _ μ71 => ?_)
      refine E_iconst C 0 dX1_sweep_74 (by decide) ?_
      refine E_istore (lv' := [(4, .int ((0 : Int32))), (0, .ref v0), (1, .ref v1), (2, .int v2), (3, .int v3)]) C dX1_sweep_75 (by decide) rfl ?_
      refine E_at (pc2 := 77) rfl ?_
      refine E_pick (lv' := [(0, .ref v0), (1, .ref v1), (2, .int v2), (3, .int v3), (4, .int ((0 : Int32)))]) [1, 2, 3, 4, 0] rfl ?_
      refine X1_sweep_L77_ok C v0 v1 v2 v3 (fun μ_117 => ?_) FU ((0 : Int32)) μ71
      refine E_iinc (lv' := [(3, .int ((v3 + -1))), (0, .ref v0), (1, .ref v1), (2, .int v2)]) C (v3 + -1) dX1_sweep_117 3 rfl rfl (by decide) rfl ?_
      refine E_goto C 61 dX1_sweep_120 (by decide) ?_
      exact E_pick [1, 2, 3, 0] rfl (ih ((v3 + -1)) μ_117)
def fX1_sweep (v0 : Nat) (v1 : Nat) (v2 : Int32) (μ : Mem) : Option (Unit × Mem) :=
  X1_sweep_L2 (fun μ_54 => (gI μ_54 v1 0 1).bind fun x55 => X1_sweep_L61 (fun μ_123 => some ((), μ_123)) v0 v1 v2 FU ((x55 - (1 : Int32))) μ_54) v0 v1 v2 FU ((0 : Int32)) μ
set_option maxHeartbeats 4000000 in
set_option maxRecDepth 100000 in
theorem mX1_sweep (v0 : Nat) (v1 : Nat) (v2 : Int32) (μ : Mem) : Meth wU yX1_sweep cX1_sweep 6 none 3 [.ref v0, .ref v1, .int v2] μ (fX1_sweep v0 v1 v2 μ) := by
  refine Meth.of (by decide) [(0, .ref v0), (1, .ref v1), (2, .int v2)] rfl (Nat.le_of_ble_eq_true rfl) ?_
  intro p l e R s m args below meth c D ca ad A X C
  have C : CX p R s m args meth c D ca ad A X cX1_sweep RX1 6 none 3 := C
  unfold fX1_sweep
  refine E_iconst C 0 dX1_sweep_0 (by decide) ?_
  refine E_istore_n (lv' := [(3, .int ((0 : Int32))), (0, .ref v0), (1, .ref v1), (2, .int v2)]) C dX1_sweep_1 (by decide) rfl ?_
  refine E_at (pc2 := 2) rfl ?_
  refine E_pick (lv' := [(0, .ref v0), (1, .ref v1), (2, .int v2), (3, .int ((0 : Int32)))]) [1, 2, 3, 0] rfl ?_
  refine X1_sweep_L2_ok C v0 v1 v2 (fun μ_54 => ?_) FU ((0 : Int32)) μ
  refine E_aload_n C dX1_sweep_54 1 rfl ?_
  refine E_getI C F_X1_47 dX1_sweep_55 (fun x55 => ?_)
  refine E_iconst C 1 dX1_sweep_58 (by decide) ?_
  refine E_isub C dX1_sweep_59 ?_
  refine E_istore_n (lv' := [(3, .int ((x55 - (1 : Int32)))), (0, .ref v0), (1, .ref v1), (2, .int v2)]) C dX1_sweep_60 (by decide) rfl ?_
  refine E_at (pc2 := 61) rfl ?_
  refine E_pick (lv' := [(0, .ref v0), (1, .ref v1), (2, .int v2), (3, .int ((x55 - (1 : Int32))))]) [1, 2, 3, 0] rfl ?_
  refine X1_sweep_L61_ok C v0 v1 v2 (fun μ_123 => ?_) FU ((x55 - (1 : Int32))) μ_54
  exact E_ret C dX1_sweep_123
def X2_load_L17 (G : Mem → Option (Unit × Mem)) (v0 : Nat) (v1 : Nat) (v2 : Int32) (v3 : UInt32) : Nat → Int32 → Mem → Option (Unit × Mem)
  | 0, _, _ => none
  | n + 1, v4, μ => if (3 : Int32) ≤ v4 then (G μ) else ((gR μ v0 2 0).bind fun x24 => (gR μ v1 0 5).bind fun x34 => (aI μ 0 x34 (((v2 * (3 : Int32)) + v4))).bind fun x43 => (nn (FP.fdiv ((FP.i2f x43)) v3)).bind fun x46 => (sF μ x24 (((v2 * (3 : Int32)) + v4)) x46).bind fun μ47 => X2_load_L17 G v0 v1 v2 v3 n ((v4 + 1)) μ47)
set_option maxHeartbeats 4000000 in
set_option maxRecDepth 100000 in
theorem X2_load_L17_ok {p : Program} {l : Launch} {e : Env} {R : Room} {s : State} {m : MethodId} {args : Array Value} {below : List Frame} {meth : Method} {c : Code} {D : va_G} {ca : Nat → ClassId} {ad : Nat → Nat} {A : Nat → Prop} {X : State → Prop} (C : CX p R s m args meth c D ca ad A X cX2_load RX2 5 none 1) {G : Mem → Option (Unit × Mem)} (v0 : Nat) (v1 : Nat) (v2 : Int32) (v3 : UInt32) (hG : ∀  (μx : Mem), Sm p l e R s m args below meth c D ca ad A 5 0 0 wU (KQ below args s D ca ad A) 54 [(0, .ref v0), (1, .ref v1), (2, .int v2)] [] μx (G  μx)) : ∀ (n : Nat) (v4 : Int32) (μ : Mem), Sm p l e R s m args below meth c D ca ad A 5 0 0 wU (KQ below args s D ca ad A) 17 [(0, .ref v0), (1, .ref v1), (2, .int v2), (3, .float v3), (4, .int v4)] [] μ (X2_load_L17 G v0 v1 v2 v3 n v4 μ) := by
  intro n
  induction n with
  | zero =>
    intro v4 μ
    rw [X2_load_L17]
    exact E_none
  | succ n ih =>
    intro v4 μ
    rw [X2_load_L17]
    refine E_iload C dX2_load_17 4 rfl ?_
    refine E_iconst C 3 dX2_load_19 (by decide) ?_
    refine E_icmp_ge C 54 dX2_load_20 (by decide) ?_ ?_
    · exact E_pick [0, 1, 2] rfl (hG μ)
    · refine E_at (pc2 := 23) rfl ?_
      refine E_aload_n C dX2_load_23 0 rfl ?_
      refine E_getR C F_X2_9 dX2_load_24 (fun x24 => ?_)
      refine E_iload_n C dX2_load_27 2 rfl ?_
      refine E_iconst C 3 dX2_load_28 (by decide) ?_
      refine E_imul C dX2_load_29 ?_
      refine E_iload C dX2_load_30 4 rfl ?_
      refine E_iadd C dX2_load_32 ?_
      refine E_aload_n C dX2_load_33 1 rfl ?_
      refine E_getR C F_X2_41 dX2_load_34 (fun x34 => ?_)
      refine E_iload_n C dX2_load_37 2 rfl ?_
      refine E_iconst C 3 dX2_load_38 (by decide) ?_
      refine E_imul C dX2_load_39 ?_
      refine E_iload C dX2_load_40 4 rfl ?_
      refine E_iadd C dX2_load_42 ?_
      refine E_iaload C dX2_load_43 (fun x43 => ?_)
      refine E_i2f C dX2_load_44 ?_
      refine E_fload_n C dX2_load_45 3 rfl ?_
      refine E_fdiv C dX2_load_46 (fun x46 => ?_)
      refine E_fastore C dX2_load_47 (fun μ47 => ?_)
      refine E_iinc (lv' := [(4, .int ((v4 + 1))), (0, .ref v0), (1, .ref v1), (2, .int v2), (3, .float v3)]) C (v4 + 1) dX2_load_48 4 rfl rfl (by decide) rfl ?_
      refine E_goto C 17 dX2_load_51 (by decide) ?_
      exact E_pick [1, 2, 3, 4, 0] rfl (ih ((v4 + 1)) μ47)
def X2_load_L2 (G : Mem → Option (Unit × Mem)) (v0 : Nat) (v1 : Nat) : Nat → Int32 → Mem → Option (Unit × Mem)
  | 0, _, _ => none
  | n + 1, v2, μ => if (3 : Int32) ≤ v2 then (G μ) else ((isC μ v1 0).bind fun _ => bd (fX0_allPartsFrom v1 v2 μ) fun x9 μ9 => X2_load_L17 (fun μ_54 => X2_load_L2 G v0 v1 n ((v2 + 1)) μ_54) v0 v1 v2 ((FP.i2f x9)) FU ((0 : Int32)) μ9)
set_option maxHeartbeats 4000000 in
set_option maxRecDepth 100000 in
theorem X2_load_L2_ok {p : Program} {l : Launch} {e : Env} {R : Room} {s : State} {m : MethodId} {args : Array Value} {below : List Frame} {meth : Method} {c : Code} {D : va_G} {ca : Nat → ClassId} {ad : Nat → Nat} {A : Nat → Prop} {X : State → Prop} (C : CX p R s m args meth c D ca ad A X cX2_load RX2 5 none 1) {G : Mem → Option (Unit × Mem)} (v0 : Nat) (v1 : Nat) (hG : ∀  (μx : Mem), Sm p l e R s m args below meth c D ca ad A 5 0 0 wU (KQ below args s D ca ad A) 60 [] [] μx (G  μx)) : ∀ (n : Nat) (v2 : Int32) (μ : Mem), Sm p l e R s m args below meth c D ca ad A 5 0 0 wU (KQ below args s D ca ad A) 2 [(0, .ref v0), (1, .ref v1), (2, .int v2)] [] μ (X2_load_L2 G v0 v1 n v2 μ) := by
  intro n
  induction n with
  | zero =>
    intro v2 μ
    rw [X2_load_L2]
    exact E_none
  | succ n ih =>
    intro v2 μ
    rw [X2_load_L2]
    refine E_iload_n C dX2_load_2 2 rfl ?_
    refine E_iconst C 3 dX2_load_3 (by decide) ?_
    refine E_icmp_ge C 60 dX2_load_4 (by decide) ?_ ?_
    · exact E_pick [] rfl (hG μ)
    · refine E_at (pc2 := 7) rfl ?_
      refine E_aload_n C dX2_load_7 1 rfl ?_
      refine E_iload_n C dX2_load_8 2 rfl ?_
      refine E_callVI (st := []) C [.int v2] (mX0_allPartsFrom v1 v2 μ) cal_X0_allPartsFrom vir_X0_allPartsFrom lk_X2_35 dX2_load_9 rfl rfl (Nat.le_of_ble_eq_true rfl) (Nat.le_of_ble_eq_true rfl) (fun x9 μ9 => ?_)
      refine E_i2f C dX2_load_12 ?_
      refine E_fstore_n (lv' := [(3, .float ((FP.i2f x9))), (0, .ref v0), (1, .ref v1), (2, .int v2)]) C dX2_load_13 (by decide) rfl ?_
      refine E_iconst C 0 dX2_load_14 (by decide) ?_
      refine E_istore (lv' := [(4, .int ((0 : Int32))), (3, .float ((FP.i2f x9))), (0, .ref v0), (1, .ref v1), (2, .int v2)]) C dX2_load_15 (by decide) rfl ?_
      refine E_at (pc2 := 17) rfl ?_
      refine E_pick (lv' := [(0, .ref v0), (1, .ref v1), (2, .int v2), (3, .float ((FP.i2f x9))), (4, .int ((0 : Int32)))]) [2, 3, 4, 1, 0] rfl ?_
      refine X2_load_L17_ok C v0 v1 v2 ((FP.i2f x9)) (fun μ_54 => ?_) FU ((0 : Int32)) μ9
      refine E_iinc (lv' := [(2, .int ((v2 + 1))), (0, .ref v0), (1, .ref v1)]) C (v2 + 1) dX2_load_54 2 rfl rfl (by decide) rfl ?_
      refine E_goto C 2 dX2_load_57 (by decide) ?_
      exact E_pick [1, 2, 0] rfl (ih ((v2 + 1)) μ_54)
def fX2_load (v0 : Nat) (v1 : Nat) (μ : Mem) : Option (Unit × Mem) :=
  X2_load_L2 (fun μ_60 => some ((), μ_60)) v0 v1 FU ((0 : Int32)) μ
set_option maxHeartbeats 4000000 in
set_option maxRecDepth 100000 in
theorem mX2_load (v0 : Nat) (v1 : Nat) (μ : Mem) : Meth wU yX2_load cX2_load 5 none 1 [.ref v0, .ref v1] μ (fX2_load v0 v1 μ) := by
  refine Meth.of (by decide) [(0, .ref v0), (1, .ref v1)] rfl (Nat.le_of_ble_eq_true rfl) ?_
  intro p l e R s m args below meth c D ca ad A X C
  have C : CX p R s m args meth c D ca ad A X cX2_load RX2 5 none 1 := C
  unfold fX2_load
  refine E_iconst C 0 dX2_load_0 (by decide) ?_
  refine E_istore_n (lv' := [(2, .int ((0 : Int32))), (0, .ref v0), (1, .ref v1)]) C dX2_load_1 (by decide) rfl ?_
  refine E_at (pc2 := 2) rfl ?_
  refine E_pick (lv' := [(0, .ref v0), (1, .ref v1), (2, .int ((0 : Int32)))]) [1, 2, 0] rfl ?_
  refine X2_load_L2_ok C v0 v1 (fun μ_60 => ?_) FU ((0 : Int32)) μ
  exact E_ret C dX2_load_60
def X2_oddsAfter_L3 (G : Mem → Option (UInt32 × Mem)) (v0 : Nat) (v1 : Int32) (v2 : Int32) (v3 : Int32) : Nat → Int32 → Mem → Option (UInt32 × Mem)
  | 0, _, _ => none
  | n + 1, v4, μ => if (3 : Int32) ≤ v4 then (G μ) else ((gR μ v0 2 1).bind fun x10 => if v4 = v2 then ((sF μ x10 v4 FP.fconst1).bind fun μ26 => X2_oddsAfter_L3 G v0 v1 v2 v3 n ((v4 + 1)) μ26) else ((sF μ x10 v4 FP.fconst0).bind fun μ26 => X2_oddsAfter_L3 G v0 v1 v2 v3 n ((v4 + 1)) μ26))
set_option maxHeartbeats 4000000 in
set_option maxRecDepth 100000 in
theorem X2_oddsAfter_L3_ok {p : Program} {l : Launch} {e : Env} {R : Room} {s : State} {m : MethodId} {args : Array Value} {below : List Frame} {meth : Method} {c : Code} {D : va_G} {ca : Nat → ClassId} {ad : Nat → Nat} {A : Nat → Prop} {X : State → Prop} (C : CX p R s m args meth c D ca ad A X cX2_oddsAfter RX2 8 (some .float) 0) {G : Mem → Option (UInt32 × Mem)} (v0 : Nat) (v1 : Int32) (v2 : Int32) (v3 : Int32) (hG : ∀  (μx : Mem), Sm p l e R s m args below meth c D ca ad A 8 0 0 wF (KQ below args s D ca ad A) 33 [(0, .ref v0), (1, .int v1), (3, .int v3)] [] μx (G  μx)) : ∀ (n : Nat) (v4 : Int32) (μ : Mem), Sm p l e R s m args below meth c D ca ad A 8 0 0 wF (KQ below args s D ca ad A) 3 [(0, .ref v0), (1, .int v1), (2, .int v2), (3, .int v3), (4, .int v4)] [] μ (X2_oddsAfter_L3 G v0 v1 v2 v3 n v4 μ) := by
  intro n
  induction n with
  | zero =>
    intro v4 μ
    rw [X2_oddsAfter_L3]
    exact E_none
  | succ n ih =>
    intro v4 μ
    rw [X2_oddsAfter_L3]
    refine E_iload C dX2_oddsAfter_3 4 rfl ?_
    refine E_iconst C 3 dX2_oddsAfter_5 (by decide) ?_
    refine E_icmp_ge C 33 dX2_oddsAfter_6 (by decide) ?_ ?_
    · exact E_pick [0, 1, 3] rfl (hG μ)
    · refine E_at (pc2 := 9) rfl ?_
      refine E_aload_n C dX2_oddsAfter_9 0 rfl ?_
      refine E_getR C F_X2_15 dX2_oddsAfter_10 (fun x10 => ?_)
      refine E_iload C dX2_oddsAfter_13 4 rfl ?_
      refine E_iload C dX2_oddsAfter_15 4 rfl ?_
      refine E_iload_n C dX2_oddsAfter_17 2 rfl ?_
      refine E_icmp_ne C 25 dX2_oddsAfter_18 (by decide) ?_ ?_
      · refine E_fconst0 C dX2_oddsAfter_25 ?_
        refine E_at (pc2 := 26) rfl ?_
        refine E_fastore C dX2_oddsAfter_26 (fun μ26 => ?_)
        refine E_iinc (lv' := [(4, .int ((v4 + 1))), (0, .ref v0), (1, .int v1), (2, .int v2), (3, .int v3)]) C (v4 + 1) dX2_oddsAfter_27 4 rfl rfl (by decide) rfl ?_
        refine E_goto C 3 dX2_oddsAfter_30 (by decide) ?_
        exact E_pick [1, 2, 3, 4, 0] rfl (ih ((v4 + 1)) μ26)
      · refine E_at (pc2 := 21) rfl ?_
        refine E_fconst1 C dX2_oddsAfter_21 ?_
        refine E_goto C 26 dX2_oddsAfter_22 (by decide) ?_
        refine E_fastore C dX2_oddsAfter_26 (fun μ26 => ?_)
        refine E_iinc (lv' := [(4, .int ((v4 + 1))), (0, .ref v0), (1, .int v1), (2, .int v2), (3, .int v3)]) C (v4 + 1) dX2_oddsAfter_27 4 rfl rfl (by decide) rfl ?_
        refine E_goto C 3 dX2_oddsAfter_30 (by decide) ?_
        exact E_pick [1, 2, 3, 4, 0] rfl (ih ((v4 + 1)) μ26)
def X2_oddsAfter_L57 (G : UInt32 → Mem → Option (UInt32 × Mem)) (v0 : Nat) (v1 : Int32) (v3 : Int32) (v4 : Int32) (v5 : Int32) : Nat → UInt32 → Int32 → Mem → Option (UInt32 × Mem)
  | 0, _, _, _ => none
  | n + 1, v6, v7, μ => if (3 : Int32) ≤ v7 then (G v6 μ) else ((gR μ v0 2 1).bind fun x66 => (aF μ x66 v7).bind fun x71 => (gR μ v0 2 0).bind fun x73 => (aF μ x73 (((v7 * (3 : Int32)) + v5))).bind fun x83 => (nn (FP.fmul x71 x83)).bind fun x84 => (nn (FP.fadd v6 x84)).bind fun x85 => X2_oddsAfter_L57 G v0 v1 v3 v4 v5 n x85 ((v7 + 1)) μ)
set_option maxHeartbeats 4000000 in
set_option maxRecDepth 100000 in
theorem X2_oddsAfter_L57_ok {p : Program} {l : Launch} {e : Env} {R : Room} {s : State} {m : MethodId} {args : Array Value} {below : List Frame} {meth : Method} {c : Code} {D : va_G} {ca : Nat → ClassId} {ad : Nat → Nat} {A : Nat → Prop} {X : State → Prop} (C : CX p R s m args meth c D ca ad A X cX2_oddsAfter RX2 8 (some .float) 0) {G : UInt32 → Mem → Option (UInt32 × Mem)} (v0 : Nat) (v1 : Int32) (v3 : Int32) (v4 : Int32) (v5 : Int32) (hG : ∀ (v6x : UInt32) (μx : Mem), Sm p l e R s m args below meth c D ca ad A 8 0 0 wF (KQ below args s D ca ad A) 94 [(0, .ref v0), (1, .int v1), (3, .int v3), (4, .int v4), (5, .int v5), (6, .float v6x)] [] μx (G v6x μx)) : ∀ (n : Nat) (v6 : UInt32) (v7 : Int32) (μ : Mem), Sm p l e R s m args below meth c D ca ad A 8 0 0 wF (KQ below args s D ca ad A) 57 [(0, .ref v0), (1, .int v1), (3, .int v3), (4, .int v4), (5, .int v5), (6, .float v6), (7, .int v7)] [] μ (X2_oddsAfter_L57 G v0 v1 v3 v4 v5 n v6 v7 μ) := by
  intro n
  induction n with
  | zero =>
    intro v6 v7 μ
    rw [X2_oddsAfter_L57]
    exact E_none
  | succ n ih =>
    intro v6 v7 μ
    rw [X2_oddsAfter_L57]
    refine E_iload C dX2_oddsAfter_57 6 rfl ?_
    refine E_iconst C 3 dX2_oddsAfter_59 (by decide) ?_
    refine E_icmp_ge C 94 dX2_oddsAfter_60 (by decide) ?_ ?_
    · exact E_pick [0, 1, 2, 3, 4, 5] rfl (hG v6 μ)
    · refine E_at (pc2 := 63) rfl ?_
      refine E_fload C dX2_oddsAfter_63 5 rfl ?_
      refine E_aload_n C dX2_oddsAfter_65 0 rfl ?_
      refine E_getR C F_X2_15 dX2_oddsAfter_66 (fun x66 => ?_)
      refine E_iload C dX2_oddsAfter_69 6 rfl ?_
      refine E_faload C dX2_oddsAfter_71 (fun x71 => ?_)
      refine E_aload_n C dX2_oddsAfter_72 0 rfl ?_
      refine E_getR C F_X2_9 dX2_oddsAfter_73 (fun x73 => ?_)
      refine E_iload C dX2_oddsAfter_76 6 rfl ?_
      refine E_iconst C 3 dX2_oddsAfter_78 (by decide) ?_
      refine E_imul C dX2_oddsAfter_79 ?_
      refine E_iload C dX2_oddsAfter_80 4 rfl ?_
      refine E_iadd C dX2_oddsAfter_82 ?_
      refine E_faload C dX2_oddsAfter_83 (fun x83 => ?_)
      refine E_fmul C dX2_oddsAfter_84 (fun x84 => ?_)
      refine E_fadd C dX2_oddsAfter_85 (fun x85 => ?_)
      refine E_fstore (lv' := [(6, .float x85), (0, .ref v0), (1, .int v1), (3, .int v3), (4, .int v4), (5, .int v5), (7, .int v7)]) C dX2_oddsAfter_86 (by decide) rfl ?_
      refine E_iinc (lv' := [(7, .int ((v7 + 1))), (6, .float x85), (0, .ref v0), (1, .int v1), (3, .int v3), (4, .int v4), (5, .int v5)]) C (v7 + 1) dX2_oddsAfter_88 6 rfl rfl (by decide) rfl ?_
      refine E_goto C 57 dX2_oddsAfter_91 (by decide) ?_
      exact E_pick [2, 3, 4, 5, 6, 1, 0] rfl (ih x85 ((v7 + 1)) μ)
def X2_oddsAfter_L45 (G : Mem → Option (UInt32 × Mem)) (v0 : Nat) (v1 : Int32) (v3 : Int32) (v4 : Int32) : Nat → Int32 → Mem → Option (UInt32 × Mem)
  | 0, _, _ => none
  | n + 1, v5, μ => if (3 : Int32) ≤ v5 then (G μ) else (X2_oddsAfter_L57 (fun v6_94 μ_94 => (gR μ_94 v0 2 2).bind fun x95 => (sF μ_94 x95 v5 v6_94).bind fun μ102 => X2_oddsAfter_L45 G v0 v1 v3 v4 n ((v5 + 1)) μ102) v0 v1 v3 v4 v5 FU FP.fconst0 ((0 : Int32)) μ)
set_option maxHeartbeats 4000000 in
set_option maxRecDepth 100000 in
theorem X2_oddsAfter_L45_ok {p : Program} {l : Launch} {e : Env} {R : Room} {s : State} {m : MethodId} {args : Array Value} {below : List Frame} {meth : Method} {c : Code} {D : va_G} {ca : Nat → ClassId} {ad : Nat → Nat} {A : Nat → Prop} {X : State → Prop} (C : CX p R s m args meth c D ca ad A X cX2_oddsAfter RX2 8 (some .float) 0) {G : Mem → Option (UInt32 × Mem)} (v0 : Nat) (v1 : Int32) (v3 : Int32) (v4 : Int32) (hG : ∀  (μx : Mem), Sm p l e R s m args below meth c D ca ad A 8 0 0 wF (KQ below args s D ca ad A) 109 [(0, .ref v0), (1, .int v1), (3, .int v3), (4, .int v4)] [] μx (G  μx)) : ∀ (n : Nat) (v5 : Int32) (μ : Mem), Sm p l e R s m args below meth c D ca ad A 8 0 0 wF (KQ below args s D ca ad A) 45 [(0, .ref v0), (1, .int v1), (3, .int v3), (4, .int v4), (5, .int v5)] [] μ (X2_oddsAfter_L45 G v0 v1 v3 v4 n v5 μ) := by
  intro n
  induction n with
  | zero =>
    intro v5 μ
    rw [X2_oddsAfter_L45]
    exact E_none
  | succ n ih =>
    intro v5 μ
    rw [X2_oddsAfter_L45]
    refine E_iload C dX2_oddsAfter_45 4 rfl ?_
    refine E_iconst C 3 dX2_oddsAfter_47 (by decide) ?_
    refine E_icmp_ge C 109 dX2_oddsAfter_48 (by decide) ?_ ?_
    · exact E_pick [0, 1, 2, 3] rfl (hG μ)
    · refine E_at (pc2 := 51) rfl ?_
      refine E_fconst0 C dX2_oddsAfter_51 ?_
      refine E_fstore (lv' := [(6, .float FP.fconst0), (0, .ref v0), (1, .int v1), (3, .int v3), (4, .int v4), (5, .int v5)]) C dX2_oddsAfter_52 (by decide) rfl ?_
      refine E_iconst C 0 dX2_oddsAfter_54 (by decide) ?_
      refine E_istore (lv' := [(7, .int ((0 : Int32))), (6, .float FP.fconst0), (0, .ref v0), (1, .int v1), (3, .int v3), (4, .int v4), (5, .int v5)]) C dX2_oddsAfter_55 (by decide) rfl ?_
      refine E_at (pc2 := 57) rfl ?_
      refine E_pick (lv' := [(0, .ref v0), (1, .int v1), (3, .int v3), (4, .int v4), (5, .int v5), (6, .float FP.fconst0), (7, .int ((0 : Int32)))]) [2, 3, 4, 5, 6, 1, 0] rfl ?_
      refine X2_oddsAfter_L57_ok C v0 v1 v3 v4 v5 (fun v6_94 μ_94 => ?_) FU FP.fconst0 ((0 : Int32)) μ
      refine E_aload_n C dX2_oddsAfter_94 0 rfl ?_
      refine E_getR C F_X2_18 dX2_oddsAfter_95 (fun x95 => ?_)
      refine E_iload C dX2_oddsAfter_98 4 rfl ?_
      refine E_fload C dX2_oddsAfter_100 5 rfl ?_
      refine E_fastore C dX2_oddsAfter_102 (fun μ102 => ?_)
      refine E_iinc (lv' := [(5, .int ((v5 + 1))), (0, .ref v0), (1, .int v1), (3, .int v3), (4, .int v4), (6, .float v6_94)]) C (v5 + 1) dX2_oddsAfter_103 4 rfl rfl (by decide) rfl ?_
      refine E_goto C 45 dX2_oddsAfter_106 (by decide) ?_
      exact E_pick [1, 2, 3, 4, 0] rfl (ih ((v5 + 1)) μ102)
def X2_oddsAfter_L36 (G : Mem → Option (UInt32 × Mem)) (v0 : Nat) (v1 : Int32) (v3 : Int32) : Nat → Int32 → Mem → Option (UInt32 × Mem)
  | 0, _, _ => none
  | n + 1, v4, μ => if v1 ≤ v4 then (G μ) else (X2_oddsAfter_L45 (fun μ_109 => (gR μ_109 v0 2 1).bind fun x110 => (gR μ_109 v0 2 2).bind fun x117 => (pV μ_109 v0 2 1 (.ref x117)).bind fun μ120 => (pV μ120 v0 2 2 (.ref x110)).bind fun μ126 => X2_oddsAfter_L36 G v0 v1 v3 n ((v4 + 1)) μ126) v0 v1 v3 v4 FU ((0 : Int32)) μ)
set_option maxHeartbeats 4000000 in
set_option maxRecDepth 100000 in
theorem X2_oddsAfter_L36_ok {p : Program} {l : Launch} {e : Env} {R : Room} {s : State} {m : MethodId} {args : Array Value} {below : List Frame} {meth : Method} {c : Code} {D : va_G} {ca : Nat → ClassId} {ad : Nat → Nat} {A : Nat → Prop} {X : State → Prop} (C : CX p R s m args meth c D ca ad A X cX2_oddsAfter RX2 8 (some .float) 0) {G : Mem → Option (UInt32 × Mem)} (v0 : Nat) (v1 : Int32) (v3 : Int32) (hG : ∀  (μx : Mem), Sm p l e R s m args below meth c D ca ad A 8 0 0 wF (KQ below args s D ca ad A) 135 [(0, .ref v0), (3, .int v3)] [] μx (G  μx)) : ∀ (n : Nat) (v4 : Int32) (μ : Mem), Sm p l e R s m args below meth c D ca ad A 8 0 0 wF (KQ below args s D ca ad A) 36 [(0, .ref v0), (1, .int v1), (3, .int v3), (4, .int v4)] [] μ (X2_oddsAfter_L36 G v0 v1 v3 n v4 μ) := by
  intro n
  induction n with
  | zero =>
    intro v4 μ
    rw [X2_oddsAfter_L36]
    exact E_none
  | succ n ih =>
    intro v4 μ
    rw [X2_oddsAfter_L36]
    refine E_iload C dX2_oddsAfter_36 3 rfl ?_
    refine E_iload_n C dX2_oddsAfter_38 1 rfl ?_
    refine E_icmp_ge C 135 dX2_oddsAfter_39 (by decide) ?_ ?_
    · exact E_pick [0, 2] rfl (hG μ)
    · refine E_at (pc2 := 42) rfl ?_
      refine E_iconst C 0 dX2_oddsAfter_42 (by decide) ?_
      refine E_istore (lv' := [(5, .int ((0 : Int32))), (0, .ref v0), (1, .int v1), (3, .int v3), (4, .int v4)]) C dX2_oddsAfter_43 (by decide) rfl ?_
      refine E_at (pc2 := 45) rfl ?_
      refine E_pick (lv' := [(0, .ref v0), (1, .int v1), (3, .int v3), (4, .int v4), (5, .int ((0 : Int32)))]) [1, 2, 3, 4, 0] rfl ?_
      refine X2_oddsAfter_L45_ok C v0 v1 v3 v4 (fun μ_109 => ?_) FU ((0 : Int32)) μ
      refine E_aload_n C dX2_oddsAfter_109 0 rfl ?_
      refine E_getR C F_X2_15 dX2_oddsAfter_110 (fun x110 => ?_)
      refine E_astore (lv' := [(5, .ref x110), (0, .ref v0), (1, .int v1), (3, .int v3), (4, .int v4)]) C dX2_oddsAfter_113 (by decide) rfl ?_
      refine E_aload_n C dX2_oddsAfter_115 1 rfl ?_
      refine E_aload_n C dX2_oddsAfter_116 1 rfl ?_
      refine E_getR C F_X2_18 dX2_oddsAfter_117 (fun x117 => ?_)
      refine E_putR C P_X2_15 dX2_oddsAfter_120 (fun μ120 => ?_)
      refine E_aload_n C dX2_oddsAfter_123 1 rfl ?_
      refine E_aload C dX2_oddsAfter_124 0 rfl ?_
      refine E_putR C P_X2_18 dX2_oddsAfter_126 (fun μ126 => ?_)
      refine E_iinc (lv' := [(4, .int ((v4 + 1))), (5, .ref x110), (0, .ref v0), (1, .int v1), (3, .int v3)]) C (v4 + 1) dX2_oddsAfter_129 4 rfl rfl (by decide) rfl ?_
      refine E_goto C 36 dX2_oddsAfter_132 (by decide) ?_
      exact E_pick [2, 3, 4, 0] rfl (ih ((v4 + 1)) μ126)
def fX2_oddsAfter (v0 : Nat) (v1 : Int32) (v2 : Int32) (v3 : Int32) (μ : Mem) : Option (UInt32 × Mem) :=
  X2_oddsAfter_L3 (fun μ_33 => X2_oddsAfter_L36 (fun μ_135 => (gR μ_135 v0 2 1).bind fun x136 => (aF μ_135 x136 v3).bind fun x140 => some (x140, μ_135)) v0 v1 v3 FU ((0 : Int32)) μ_33) v0 v1 v2 v3 FU ((0 : Int32)) μ
set_option maxHeartbeats 4000000 in
set_option maxRecDepth 100000 in
theorem mX2_oddsAfter (v0 : Nat) (v1 : Int32) (v2 : Int32) (v3 : Int32) (μ : Mem) : Meth wF yX2_oddsAfter cX2_oddsAfter 8 (some .float) 0 [.ref v0, .int v1, .int v2, .int v3] μ (fX2_oddsAfter v0 v1 v2 v3 μ) := by
  refine Meth.of (by decide) [(0, .ref v0), (1, .int v1), (2, .int v2), (3, .int v3)] rfl (Nat.le_of_ble_eq_true rfl) ?_
  intro p l e R s m args below meth c D ca ad A X C
  have C : CX p R s m args meth c D ca ad A X cX2_oddsAfter RX2 8 (some .float) 0 := C
  unfold fX2_oddsAfter
  refine E_iconst C 0 dX2_oddsAfter_0 (by decide) ?_
  refine E_istore (lv' := [(4, .int ((0 : Int32))), (0, .ref v0), (1, .int v1), (2, .int v2), (3, .int v3)]) C dX2_oddsAfter_1 (by decide) rfl ?_
  refine E_at (pc2 := 3) rfl ?_
  refine E_pick (lv' := [(0, .ref v0), (1, .int v1), (2, .int v2), (3, .int v3), (4, .int ((0 : Int32)))]) [1, 2, 3, 4, 0] rfl ?_
  refine X2_oddsAfter_L3_ok C v0 v1 v2 v3 (fun μ_33 => ?_) FU ((0 : Int32)) μ
  refine E_iconst C 0 dX2_oddsAfter_33 (by decide) ?_
  refine E_istore (lv' := [(4, .int ((0 : Int32))), (0, .ref v0), (1, .int v1), (3, .int v3)]) C dX2_oddsAfter_34 (by decide) rfl ?_
  refine E_at (pc2 := 36) rfl ?_
  refine E_pick (lv' := [(0, .ref v0), (1, .int v1), (3, .int v3), (4, .int ((0 : Int32)))]) [1, 2, 3, 0] rfl ?_
  refine X2_oddsAfter_L36_ok C v0 v1 v3 (fun μ_135 => ?_) FU ((0 : Int32)) μ_33
  refine E_aload_n C dX2_oddsAfter_135 0 rfl ?_
  refine E_getR C F_X2_15 dX2_oddsAfter_136 (fun x136 => ?_)
  refine E_iload_n C dX2_oddsAfter_139 1 rfl ?_
  refine E_faload C dX2_oddsAfter_140 (fun x140 => ?_)
  exact E_fret C dX2_oddsAfter_141
def X2_weighFrom_L2 (G : Mem → Option (Int32 × Mem)) (v0 : Nat) (v2 : Int32) : Nat → Int32 → Mem → Option (Int32 × Mem)
  | 0, _, _ => none
  | n + 1, v3, μ => if v2 < v3 then (G μ) else ((gR μ v0 2 4).bind fun x8 => (gR μ v0 2 4).bind fun x13 => (aF μ x13 ((v3 - (1 : Int32)))).bind fun x19 => (gR μ v0 2 0).bind fun x21 => (gR μ v0 2 3).bind fun x25 => (aI μ 0 x25 ((v3 - (1 : Int32)))).bind fun x31 => (gR μ v0 2 3).bind fun x35 => (aI μ 0 x35 v3).bind fun x39 => (aF μ x21 (((x31 * (3 : Int32)) + x39))).bind fun x41 => (nn (FP.fmul x19 x41)).bind fun x42 => (sF μ x8 v3 x42).bind fun μ43 => (gR μ43 v0 2 4).bind fun x45 => (aF μ43 x45 v3).bind fun x49 => (gF μ43 v0 2 6).bind fun x51 => if 0 < (Op.cmpValue (FP.fcmp x49 x51) .g) then (X2_weighFrom_L2 G v0 v2 n ((v3 + 1)) μ43) else (some (v3, μ43)))
set_option maxHeartbeats 4000000 in
set_option maxRecDepth 100000 in
theorem X2_weighFrom_L2_ok {p : Program} {l : Launch} {e : Env} {R : Room} {s : State} {m : MethodId} {args : Array Value} {below : List Frame} {meth : Method} {c : Code} {D : va_G} {ca : Nat → ClassId} {ad : Nat → Nat} {A : Nat → Prop} {X : State → Prop} (C : CX p R s m args meth c D ca ad A X cX2_weighFrom RX2 4 (some .int) 0) {G : Mem → Option (Int32 × Mem)} (v0 : Nat) (v2 : Int32) (hG : ∀  (μx : Mem), Sm p l e R s m args below meth c D ca ad A 4 0 0 wI (KQ below args s D ca ad A) 66 [(2, .int v2)] [] μx (G  μx)) : ∀ (n : Nat) (v3 : Int32) (μ : Mem), Sm p l e R s m args below meth c D ca ad A 4 0 0 wI (KQ below args s D ca ad A) 2 [(0, .ref v0), (2, .int v2), (3, .int v3)] [] μ (X2_weighFrom_L2 G v0 v2 n v3 μ) := by
  intro n
  induction n with
  | zero =>
    intro v3 μ
    rw [X2_weighFrom_L2]
    exact E_none
  | succ n ih =>
    intro v3 μ
    rw [X2_weighFrom_L2]
    refine E_iload_n C dX2_weighFrom_2 2 rfl ?_
    refine E_iload_n C dX2_weighFrom_3 1 rfl ?_
    refine E_icmp_gt C 66 dX2_weighFrom_4 (by decide) ?_ ?_
    · exact E_pick [1] rfl (hG μ)
    · refine E_at (pc2 := 7) rfl ?_
      refine E_aload_n C dX2_weighFrom_7 0 rfl ?_
      refine E_getR C F_X2_25 dX2_weighFrom_8 (fun x8 => ?_)
      refine E_iload_n C dX2_weighFrom_11 2 rfl ?_
      refine E_aload_n C dX2_weighFrom_12 0 rfl ?_
      refine E_getR C F_X2_25 dX2_weighFrom_13 (fun x13 => ?_)
      refine E_iload_n C dX2_weighFrom_16 2 rfl ?_
      refine E_iconst C 1 dX2_weighFrom_17 (by decide) ?_
      refine E_isub C dX2_weighFrom_18 ?_
      refine E_faload C dX2_weighFrom_19 (fun x19 => ?_)
      refine E_aload_n C dX2_weighFrom_20 0 rfl ?_
      refine E_getR C F_X2_9 dX2_weighFrom_21 (fun x21 => ?_)
      refine E_aload_n C dX2_weighFrom_24 0 rfl ?_
      refine E_getR C F_X2_21 dX2_weighFrom_25 (fun x25 => ?_)
      refine E_iload_n C dX2_weighFrom_28 2 rfl ?_
      refine E_iconst C 1 dX2_weighFrom_29 (by decide) ?_
      refine E_isub C dX2_weighFrom_30 ?_
      refine E_iaload C dX2_weighFrom_31 (fun x31 => ?_)
      refine E_iconst C 3 dX2_weighFrom_32 (by decide) ?_
      refine E_imul C dX2_weighFrom_33 ?_
      refine E_aload_n C dX2_weighFrom_34 0 rfl ?_
      refine E_getR C F_X2_21 dX2_weighFrom_35 (fun x35 => ?_)
      refine E_iload_n C dX2_weighFrom_38 2 rfl ?_
      refine E_iaload C dX2_weighFrom_39 (fun x39 => ?_)
      refine E_iadd C dX2_weighFrom_40 ?_
      refine E_faload C dX2_weighFrom_41 (fun x41 => ?_)
      refine E_fmul C dX2_weighFrom_42 (fun x42 => ?_)
      refine E_fastore C dX2_weighFrom_43 (fun μ43 => ?_)
      refine E_aload_n C dX2_weighFrom_44 0 rfl ?_
      refine E_getR C F_X2_25 dX2_weighFrom_45 (fun x45 => ?_)
      refine E_iload_n C dX2_weighFrom_48 2 rfl ?_
      refine E_faload C dX2_weighFrom_49 (fun x49 => ?_)
      refine E_aload_n C dX2_weighFrom_50 0 rfl ?_
      refine E_getF C F_X2_31 dX2_weighFrom_51 (fun x51 => ?_)
      refine E_fcmp C dX2_weighFrom_54 ?_
      refine E_if_gt C 60 dX2_weighFrom_55 (by decide) ?_ ?_
      · refine E_iinc (lv' := [(3, .int ((v3 + 1))), (0, .ref v0), (2, .int v2)]) C (v3 + 1) dX2_weighFrom_60 2 rfl rfl (by decide) rfl ?_
        refine E_goto C 2 dX2_weighFrom_63 (by decide) ?_
        exact E_pick [1, 2, 0] rfl (ih ((v3 + 1)) μ43)
      · refine E_at (pc2 := 58) rfl ?_
        refine E_iload_n C dX2_weighFrom_58 2 rfl ?_
        exact E_iret C dX2_weighFrom_59
def fX2_weighFrom (v0 : Nat) (v1 : Int32) (v2 : Int32) (μ : Mem) : Option (Int32 × Mem) :=
  X2_weighFrom_L2 (fun μ_66 => some ((v2 + (1 : Int32)), μ_66)) v0 v2 FU v1 μ
set_option maxHeartbeats 4000000 in
set_option maxRecDepth 100000 in
theorem mX2_weighFrom (v0 : Nat) (v1 : Int32) (v2 : Int32) (μ : Mem) : Meth wI yX2_weighFrom cX2_weighFrom 4 (some .int) 0 [.ref v0, .int v1, .int v2] μ (fX2_weighFrom v0 v1 v2 μ) := by
  refine Meth.of (by decide) [(0, .ref v0), (1, .int v1), (2, .int v2)] rfl (Nat.le_of_ble_eq_true rfl) ?_
  intro p l e R s m args below meth c D ca ad A X C
  have C : CX p R s m args meth c D ca ad A X cX2_weighFrom RX2 4 (some .int) 0 := C
  unfold fX2_weighFrom
  refine E_iload_n C dX2_weighFrom_0 1 rfl ?_
  refine E_istore_n (lv' := [(3, .int v1), (0, .ref v0), (1, .int v1), (2, .int v2)]) C dX2_weighFrom_1 (by decide) rfl ?_
  refine E_at (pc2 := 2) rfl ?_
  refine E_pick (lv' := [(0, .ref v0), (2, .int v2), (3, .int v1)]) [1, 3, 0] rfl ?_
  refine X2_weighFrom_L2_ok C v0 v2 (fun μ_66 => ?_) FU v1 μ
  refine E_iload_n C dX2_weighFrom_66 0 rfl ?_
  refine E_iconst C 1 dX2_weighFrom_67 (by decide) ?_
  refine E_iadd C dX2_weighFrom_68 ?_
  exact E_iret C dX2_weighFrom_69
def X2_turnOn_L2 (G : Mem → Option (Int32 × Mem)) (v0 : Nat) : Nat → Int32 → Mem → Option (Int32 × Mem)
  | 0, _, _ => none
  | n + 1, v2, μ => if v2 ≤ 0 then (G μ) else ((gR μ v0 2 3).bind fun x7 => (aI μ 0 x7 v2).bind fun x11 => if (2 : Int32) ≤ x11 then ((gR μ v0 2 3).bind fun x29 => (sI μ x29 v2 ((0 : Int32))).bind fun μ34 => X2_turnOn_L2 G v0 n ((v2 + -1)) μ34) else ((gR μ v0 2 3).bind fun x17 => (aI μ 0 x17 v2).bind fun x22 => (sI μ x17 v2 ((x22 + (1 : Int32)))).bind fun μ25 => some (v2, μ25)))
set_option maxHeartbeats 4000000 in
set_option maxRecDepth 100000 in
theorem X2_turnOn_L2_ok {p : Program} {l : Launch} {e : Env} {R : Room} {s : State} {m : MethodId} {args : Array Value} {below : List Frame} {meth : Method} {c : Code} {D : va_G} {ca : Nat → ClassId} {ad : Nat → Nat} {A : Nat → Prop} {X : State → Prop} (C : CX p R s m args meth c D ca ad A X cX2_turnOn RX2 3 (some .int) 0) {G : Mem → Option (Int32 × Mem)} (v0 : Nat) (hG : ∀  (μx : Mem), Sm p l e R s m args below meth c D ca ad A 3 0 0 wI (KQ below args s D ca ad A) 41 [] [] μx (G  μx)) : ∀ (n : Nat) (v2 : Int32) (μ : Mem), Sm p l e R s m args below meth c D ca ad A 3 0 0 wI (KQ below args s D ca ad A) 2 [(0, .ref v0), (2, .int v2)] [] μ (X2_turnOn_L2 G v0 n v2 μ) := by
  intro n
  induction n with
  | zero =>
    intro v2 μ
    rw [X2_turnOn_L2]
    exact E_none
  | succ n ih =>
    intro v2 μ
    rw [X2_turnOn_L2]
    refine E_iload_n C dX2_turnOn_2 1 rfl ?_
    refine E_if_le C 41 dX2_turnOn_3 (by decide) ?_ ?_
    · exact E_pick [] rfl (hG μ)
    · refine E_at (pc2 := 6) rfl ?_
      refine E_aload_n C dX2_turnOn_6 0 rfl ?_
      refine E_getR C F_X2_21 dX2_turnOn_7 (fun x7 => ?_)
      refine E_iload_n C dX2_turnOn_10 1 rfl ?_
      refine E_iaload C dX2_turnOn_11 (fun x11 => ?_)
      refine E_iconst C 2 dX2_turnOn_12 (by decide) ?_
      refine E_icmp_ge C 28 dX2_turnOn_13 (by decide) ?_ ?_
      · refine E_aload_n C dX2_turnOn_28 0 rfl ?_
        refine E_getR C F_X2_21 dX2_turnOn_29 (fun x29 => ?_)
        refine E_iload_n C dX2_turnOn_32 1 rfl ?_
        refine E_iconst C 0 dX2_turnOn_33 (by decide) ?_
        refine E_iastore C dX2_turnOn_34 (fun μ34 => ?_)
        refine E_iinc (lv' := [(2, .int ((v2 + -1))), (0, .ref v0)]) C (v2 + -1) dX2_turnOn_35 1 rfl rfl (by decide) rfl ?_
        refine E_goto C 2 dX2_turnOn_38 (by decide) ?_
        exact E_pick [1, 0] rfl (ih ((v2 + -1)) μ34)
      · refine E_at (pc2 := 16) rfl ?_
        refine E_aload_n C dX2_turnOn_16 0 rfl ?_
        refine E_getR C F_X2_21 dX2_turnOn_17 (fun x17 => ?_)
        refine E_iload_n C dX2_turnOn_20 1 rfl ?_
        refine E_dup2_ir C dX2_turnOn_21 ?_
        refine E_iaload C dX2_turnOn_22 (fun x22 => ?_)
        refine E_iconst C 1 dX2_turnOn_23 (by decide) ?_
        refine E_iadd C dX2_turnOn_24 ?_
        refine E_iastore C dX2_turnOn_25 (fun μ25 => ?_)
        refine E_iload_n C dX2_turnOn_26 1 rfl ?_
        exact E_iret C dX2_turnOn_27
def fX2_turnOn (v0 : Nat) (v1 : Int32) (μ : Mem) : Option (Int32 × Mem) :=
  X2_turnOn_L2 (fun μ_41 => some ((0 : Int32), μ_41)) v0 FU v1 μ
set_option maxHeartbeats 4000000 in
set_option maxRecDepth 100000 in
theorem mX2_turnOn (v0 : Nat) (v1 : Int32) (μ : Mem) : Meth wI yX2_turnOn cX2_turnOn 3 (some .int) 0 [.ref v0, .int v1] μ (fX2_turnOn v0 v1 μ) := by
  refine Meth.of (by decide) [(0, .ref v0), (1, .int v1)] rfl (Nat.le_of_ble_eq_true rfl) ?_
  intro p l e R s m args below meth c D ca ad A X C
  have C : CX p R s m args meth c D ca ad A X cX2_turnOn RX2 3 (some .int) 0 := C
  unfold fX2_turnOn
  refine E_iload_n C dX2_turnOn_0 1 rfl ?_
  refine E_istore_n (lv' := [(2, .int v1), (0, .ref v0), (1, .int v1)]) C dX2_turnOn_1 (by decide) rfl ?_
  refine E_at (pc2 := 2) rfl ?_
  refine E_pick (lv' := [(0, .ref v0), (2, .int v1)]) [1, 0] rfl ?_
  refine X2_turnOn_L2_ok C v0 (fun μ_41 => ?_) FU v1 μ
  refine E_iconst C 0 dX2_turnOn_41 (by decide) ?_
  exact E_iret C dX2_turnOn_42
def X2_findLikeliest_L10 (G : Mem → Option (Unit × Mem)) (v0 : Nat) (v1 : Int32) (v3 : Int32) : Nat → Int32 → Mem → Option (Unit × Mem)
  | 0, _, _ => none
  | n + 1, v4, μ => if v3 < v4 then (G μ) else ((gR μ v0 2 3).bind fun x17 => (sI μ x17 v4 ((0 : Int32))).bind fun μ23 => X2_findLikeliest_L10 G v0 v1 v3 n ((v4 + 1)) μ23)
set_option maxHeartbeats 4000000 in
set_option maxRecDepth 100000 in
theorem X2_findLikeliest_L10_ok {p : Program} {l : Launch} {e : Env} {R : Room} {s : State} {m : MethodId} {args : Array Value} {below : List Frame} {meth : Method} {c : Code} {D : va_G} {ca : Nat → ClassId} {ad : Nat → Nat} {A : Nat → Prop} {X : State → Prop} (C : CX p R s m args meth c D ca ad A X cX2_findLikeliest RX2 7 none 1) {G : Mem → Option (Unit × Mem)} (v0 : Nat) (v1 : Int32) (v3 : Int32) (hG : ∀  (μx : Mem), Sm p l e R s m args below meth c D ca ad A 7 0 0 wU (KQ below args s D ca ad A) 30 [(0, .ref v0), (1, .int v1), (3, .int v3)] [] μx (G  μx)) : ∀ (n : Nat) (v4 : Int32) (μ : Mem), Sm p l e R s m args below meth c D ca ad A 7 0 0 wU (KQ below args s D ca ad A) 10 [(0, .ref v0), (1, .int v1), (3, .int v3), (4, .int v4)] [] μ (X2_findLikeliest_L10 G v0 v1 v3 n v4 μ) := by
  intro n
  induction n with
  | zero =>
    intro v4 μ
    rw [X2_findLikeliest_L10]
    exact E_none
  | succ n ih =>
    intro v4 μ
    rw [X2_findLikeliest_L10]
    refine E_iload C dX2_findLikeliest_10 3 rfl ?_
    refine E_iload_n C dX2_findLikeliest_12 2 rfl ?_
    refine E_icmp_gt C 30 dX2_findLikeliest_13 (by decide) ?_ ?_
    · exact E_pick [0, 1, 2] rfl (hG μ)
    · refine E_at (pc2 := 16) rfl ?_
      refine E_aload_n C dX2_findLikeliest_16 0 rfl ?_
      refine E_getR C F_X2_21 dX2_findLikeliest_17 (fun x17 => ?_)
      refine E_iload C dX2_findLikeliest_20 3 rfl ?_
      refine E_iconst C 0 dX2_findLikeliest_22 (by decide) ?_
      refine E_iastore C dX2_findLikeliest_23 (fun μ23 => ?_)
      refine E_iinc (lv' := [(4, .int ((v4 + 1))), (0, .ref v0), (1, .int v1), (3, .int v3)]) C (v4 + 1) dX2_findLikeliest_24 3 rfl rfl (by decide) rfl ?_
      refine E_goto C 10 dX2_findLikeliest_27 (by decide) ?_
      exact E_pick [1, 2, 3, 0] rfl (ih ((v4 + 1)) μ23)
def X2_findLikeliest_L56 (G : Mem → Option (Unit × Mem)) (v0 : Nat) (v3 : Int32) : Nat → Int32 → Int32 → Mem → Option (Unit × Mem)
  | 0, _, _, _ => none
  | n + 1, v4, v5, μ => if (6561 : Int32) ≤ v5 then (G μ) else (if v4 ≤ 0 then (G μ) else ((isC μ v0 2).bind fun _ => bd (fX2_weighFrom v0 v4 v3 μ) fun x73 μ73 => jn (fun  (μ_108 : Mem) => (isC μ_108 v0 2).bind fun _ => bd (fX2_turnOn v0 ((mnI x73 v3)) μ_108) fun x115 μ115 => X2_findLikeliest_L56 G v0 v3 n x115 ((v5 + 1)) μ115) (fun j108 => if x73 ≤ v3 then (j108 μ73) else ((gR μ73 v0 2 4).bind fun x86 => (aF μ73 x86 v3).bind fun x90 => (pV μ73 v0 2 6 (.float x90)).bind fun μ91 => (gR μ91 v0 2 3).bind fun x95 => (gR μ91 v0 2 5).bind fun x100 => (cpI μ91 x95 ((1 : Int32)) x100 ((0 : Int32)) v3).bind fun μ105 => j108 μ105))))
set_option maxHeartbeats 4000000 in
set_option maxRecDepth 100000 in
theorem X2_findLikeliest_L56_ok {p : Program} {l : Launch} {e : Env} {R : Room} {s : State} {m : MethodId} {args : Array Value} {below : List Frame} {meth : Method} {c : Code} {D : va_G} {ca : Nat → ClassId} {ad : Nat → Nat} {A : Nat → Prop} {X : State → Prop} (C : CX p R s m args meth c D ca ad A X cX2_findLikeliest RX2 7 none 1) {G : Mem → Option (Unit × Mem)} (v0 : Nat) (v3 : Int32) (hG : ∀  (μx : Mem), Sm p l e R s m args below meth c D ca ad A 7 0 0 wU (KQ below args s D ca ad A) 126 [] [] μx (G  μx)) : ∀ (n : Nat) (v4 : Int32) (v5 : Int32) (μ : Mem), Sm p l e R s m args below meth c D ca ad A 7 0 0 wU (KQ below args s D ca ad A) 56 [(0, .ref v0), (3, .int v3), (4, .int v4), (5, .int v5)] [] μ (X2_findLikeliest_L56 G v0 v3 n v4 v5 μ) := by
  intro n
  induction n with
  | zero =>
    intro v4 v5 μ
    rw [X2_findLikeliest_L56]
    exact E_none
  | succ n ih =>
    intro v4 v5 μ
    rw [X2_findLikeliest_L56]
    refine E_iload C dX2_findLikeliest_56 3 rfl ?_
    refine E_sipush C 6561 dX2_findLikeliest_58 (by decide) ?_
    refine E_icmp_ge C 126 dX2_findLikeliest_61 (by decide) ?_ ?_
    · exact E_pick [] rfl (hG μ)
    · refine E_at (pc2 := 64) rfl ?_
      refine E_iload C dX2_findLikeliest_64 2 rfl ?_
      refine E_if_le C 126 dX2_findLikeliest_66 (by decide) ?_ ?_
      · exact E_pick [] rfl (hG μ)
      · refine E_at (pc2 := 69) rfl ?_
        refine E_aload_n C dX2_findLikeliest_69 0 rfl ?_
        refine E_iload C dX2_findLikeliest_70 2 rfl ?_
        refine E_iload_n C dX2_findLikeliest_72 1 rfl ?_
        refine E_callVI (st := []) C [.int v4, .int v3] (mX2_weighFrom v0 v4 v3 μ) cal_X2_weighFrom vir_X2_weighFrom lk_X2_51 dX2_findLikeliest_73 rfl rfl (Nat.le_of_ble_eq_true rfl) (Nat.le_of_ble_eq_true rfl) (fun x73 μ73 => ?_)
        refine E_istore (lv' := [(6, .int x73), (0, .ref v0), (3, .int v3), (4, .int v4), (5, .int v5)]) C dX2_findLikeliest_76 (by decide) rfl ?_
        refine E_iload C dX2_findLikeliest_78 0 rfl ?_
        refine E_iload_n C dX2_findLikeliest_80 2 rfl ?_
        refine E_jn (fun j108 => ∀  (μ_108 : Mem), Sm p l e R s m args below meth c D ca ad A 7 0 0 wU (KQ below args s D ca ad A) 108 [(0, .ref v0), (3, .int v3), (5, .int v5), (6, .int x73)] [] μ_108 (j108  μ_108)) ?_ (fun j108 hj108 => ?_)
        · intro  μ_108
          refine E_aload_n C dX2_findLikeliest_108 0 rfl ?_
          refine E_iload C dX2_findLikeliest_109 3 rfl ?_
          refine E_iload_n C dX2_findLikeliest_111 1 rfl ?_
          refine E_mmin C lk_X2_44 st_Math_min in_Math co_Math_min dX2_findLikeliest_112 (Nat.le_of_ble_eq_true rfl) (Nat.le_of_ble_eq_true rfl) ?_
          refine E_callVI (st := []) C [.int ((mnI x73 v3))] (mX2_turnOn v0 ((mnI x73 v3)) μ_108) cal_X2_turnOn vir_X2_turnOn lk_X2_60 dX2_findLikeliest_115 rfl rfl (Nat.le_of_ble_eq_true rfl) (Nat.le_of_ble_eq_true rfl) (fun x115 μ115 => ?_)
          refine E_istore (lv' := [(4, .int x115), (0, .ref v0), (3, .int v3), (5, .int v5), (6, .int x73)]) C dX2_findLikeliest_118 (by decide) rfl ?_
          refine E_iinc (lv' := [(5, .int ((v5 + 1))), (4, .int x115), (0, .ref v0), (3, .int v3), (6, .int x73)]) C (v5 + 1) dX2_findLikeliest_120 3 rfl rfl (by decide) rfl ?_
          refine E_goto C 56 dX2_findLikeliest_123 (by decide) ?_
          exact E_pick [2, 3, 1, 0] rfl (ih x115 ((v5 + 1)) μ115)
        · refine E_icmp_le C 108 dX2_findLikeliest_81 (by decide) ?_ ?_
          · exact E_pick [1, 2, 4, 0] rfl (hj108 μ73)
          · refine E_at (pc2 := 84) rfl ?_
            refine E_aload_n C dX2_findLikeliest_84 1 rfl ?_
            refine E_aload_n C dX2_findLikeliest_85 1 rfl ?_
            refine E_getR C F_X2_25 dX2_findLikeliest_86 (fun x86 => ?_)
            refine E_iload_n C dX2_findLikeliest_89 2 rfl ?_
            refine E_faload C dX2_findLikeliest_90 (fun x90 => ?_)
            refine E_putF C P_X2_31 dX2_findLikeliest_91 (fun μ91 => ?_)
            refine E_aload_n C dX2_findLikeliest_94 1 rfl ?_
            refine E_getR C F_X2_21 dX2_findLikeliest_95 (fun x95 => ?_)
            refine E_iconst C 1 dX2_findLikeliest_98 (by decide) ?_
            refine E_aload_n C dX2_findLikeliest_99 1 rfl ?_
            refine E_getR C F_X2_28 dX2_findLikeliest_100 (fun x100 => ?_)
            refine E_iconst C 0 dX2_findLikeliest_103 (by decide) ?_
            refine E_iload_n C dX2_findLikeliest_104 2 rfl ?_
            refine E_cpI C lk_X2_54 na_arraycopy st_arraycopy in_System dX2_findLikeliest_105 (Nat.le_of_ble_eq_true rfl) (Nat.le_of_ble_eq_true rfl) (fun μ105 => ?_)
            exact E_pick [1, 2, 4, 0] rfl (hj108 μ105)
def fX2_findLikeliest (v0 : Nat) (v1 : Int32) (v2 : Int32) (μ : Mem) : Option (Unit × Mem) :=
  X2_findLikeliest_L10 (fun μ_30 => (gR μ_30 v0 2 3).bind fun x31 => (sI μ_30 x31 ((0 : Int32)) v1).bind fun μ36 => (gR μ36 v0 2 4).bind fun x38 => (sF μ36 x38 ((0 : Int32)) FP.fconst1).bind fun μ43 => (pV μ43 v0 2 6 (.float ((3212836864 : UInt32)))).bind fun μ47 => X2_findLikeliest_L56 (fun μ_126 => some ((), μ_126)) v0 ((mnI v2 ((8 : Int32)))) FU ((1 : Int32)) ((0 : Int32)) μ47) v0 v1 ((mnI v2 ((8 : Int32)))) FU ((1 : Int32)) μ
set_option maxHeartbeats 4000000 in
set_option maxRecDepth 100000 in
theorem mX2_findLikeliest (v0 : Nat) (v1 : Int32) (v2 : Int32) (μ : Mem) : Meth wU yX2_findLikeliest cX2_findLikeliest 7 none 1 [.ref v0, .int v1, .int v2] μ (fX2_findLikeliest v0 v1 v2 μ) := by
  refine Meth.of (by decide) [(0, .ref v0), (1, .int v1), (2, .int v2)] rfl (Nat.le_of_ble_eq_true rfl) ?_
  intro p l e R s m args below meth c D ca ad A X C
  have C : CX p R s m args meth c D ca ad A X cX2_findLikeliest RX2 7 none 1 := C
  unfold fX2_findLikeliest
  refine E_iload_n C dX2_findLikeliest_0 2 rfl ?_
  refine E_bipush C 8 dX2_findLikeliest_1 (by decide) ?_
  refine E_mmin C lk_X2_44 st_Math_min in_Math co_Math_min dX2_findLikeliest_3 (Nat.le_of_ble_eq_true rfl) (Nat.le_of_ble_eq_true rfl) ?_
  refine E_istore_n (lv' := [(3, .int ((mnI v2 ((8 : Int32))))), (0, .ref v0), (1, .int v1), (2, .int v2)]) C dX2_findLikeliest_6 (by decide) rfl ?_
  refine E_iconst C 1 dX2_findLikeliest_7 (by decide) ?_
  refine E_istore (lv' := [(4, .int ((1 : Int32))), (3, .int ((mnI v2 ((8 : Int32))))), (0, .ref v0), (1, .int v1), (2, .int v2)]) C dX2_findLikeliest_8 (by decide) rfl ?_
  refine E_at (pc2 := 10) rfl ?_
  refine E_pick (lv' := [(0, .ref v0), (1, .int v1), (3, .int ((mnI v2 ((8 : Int32))))), (4, .int ((1 : Int32)))]) [2, 3, 1, 0] rfl ?_
  refine X2_findLikeliest_L10_ok C v0 v1 ((mnI v2 ((8 : Int32)))) (fun μ_30 => ?_) FU ((1 : Int32)) μ
  refine E_aload_n C dX2_findLikeliest_30 0 rfl ?_
  refine E_getR C F_X2_21 dX2_findLikeliest_31 (fun x31 => ?_)
  refine E_iconst C 0 dX2_findLikeliest_34 (by decide) ?_
  refine E_iload_n C dX2_findLikeliest_35 1 rfl ?_
  refine E_iastore C dX2_findLikeliest_36 (fun μ36 => ?_)
  refine E_aload_n C dX2_findLikeliest_37 0 rfl ?_
  refine E_getR C F_X2_25 dX2_findLikeliest_38 (fun x38 => ?_)
  refine E_iconst C 0 dX2_findLikeliest_41 (by decide) ?_
  refine E_fconst1 C dX2_findLikeliest_42 ?_
  refine E_fastore C dX2_findLikeliest_43 (fun μ43 => ?_)
  refine E_aload_n C dX2_findLikeliest_44 0 rfl ?_
  refine E_ldcF C dX2_findLikeliest_45 k_X2_50 ?_
  refine E_putF C P_X2_31 dX2_findLikeliest_47 (fun μ47 => ?_)
  refine E_iconst C 1 dX2_findLikeliest_50 (by decide) ?_
  refine E_istore (lv' := [(4, .int ((1 : Int32))), (0, .ref v0), (1, .int v1), (3, .int ((mnI v2 ((8 : Int32)))))]) C dX2_findLikeliest_51 (by decide) rfl ?_
  refine E_iconst C 0 dX2_findLikeliest_53 (by decide) ?_
  refine E_istore (lv' := [(5, .int ((0 : Int32))), (4, .int ((1 : Int32))), (0, .ref v0), (1, .int v1), (3, .int ((mnI v2 ((8 : Int32)))))]) C dX2_findLikeliest_54 (by decide) rfl ?_
  refine E_at (pc2 := 56) rfl ?_
  refine E_pick (lv' := [(0, .ref v0), (3, .int ((mnI v2 ((8 : Int32))))), (4, .int ((1 : Int32))), (5, .int ((0 : Int32)))]) [2, 4, 1, 0] rfl ?_
  refine X2_findLikeliest_L56_ok C v0 ((mnI v2 ((8 : Int32)))) (fun μ_126 => ?_) FU ((1 : Int32)) ((0 : Int32)) μ47
  exact E_ret C dX2_findLikeliest_126
def fX3_formOf (v0 : Int32) (μ : Mem) : Option (Nat × Mem) :=
  if v0 = 99 then (some ((1011 + 4), μ)) else if v0 = 100 then (some ((1011 + 0), μ)) else if v0 = 101 then (some ((1011 + 3), μ)) else if v0 = 102 then (some ((1011 + 3), μ)) else if v0 = 103 then (some ((1011 + 5), μ)) else if v0 = 104 then (some ((1011 + 5), μ)) else if v0 = 105 then (some ((1011 + 5), μ)) else if v0 = 106 then (some ((1011 + 5), μ)) else if v0 = 107 then (some ((1011 + 5), μ)) else if v0 = 108 then (some ((1011 + 5), μ)) else if v0 = 109 then (some ((1011 + 5), μ)) else if v0 = 110 then (some ((1011 + 5), μ)) else if v0 = 111 then (some ((1011 + 5), μ)) else if v0 = 112 then (some ((1011 + 2), μ)) else if v0 = 113 then (some ((1011 + 1), μ)) else (some ((1011 + 5), μ))
set_option maxHeartbeats 4000000 in
set_option maxRecDepth 100000 in
theorem mX3_formOf (v0 : Int32) (μ : Mem) : Meth wR yX3_formOf cX3_formOf 1 (some (.object "java/lang/String")) 0 [.int v0] μ (fX3_formOf v0 μ) := by
  refine Meth.of (by decide) [(0, .int v0)] rfl (Nat.le_of_ble_eq_true rfl) ?_
  intro p l e R s m args below meth c D ca ad A X C
  have C : CX p R s m args meth c D ca ad A X cX3_formOf RX3 1 (some (.object "java/lang/String")) 0 := C
  unfold fX3_formOf
  refine E_iload_n C dX3_formOf_0 0 rfl ?_
  refine E_ite (fun h1_99 => ?_) (fun h1_99 => ?_)
  · refine E_tabIn (kx := 99) (off := 87) C 88 h1_99 dX3_formOf_1 (by decide +kernel) (by decide) ?_
    refine E_ldcS C (j := 4) rfl dX3_formOf_88 ?_
    exact E_aret C dX3_formOf_90
  · refine E_ite (fun h1_100 => ?_) (fun h1_100 => ?_)
    · refine E_tabIn (kx := 100) (off := 75) C 76 h1_100 dX3_formOf_1 (by decide +kernel) (by decide) ?_
      refine E_ldcS C (j := 0) rfl dX3_formOf_76 ?_
      exact E_aret C dX3_formOf_78
    · refine E_ite (fun h1_101 => ?_) (fun h1_101 => ?_)
      · refine E_tabIn (kx := 101) (off := 84) C 85 h1_101 dX3_formOf_1 (by decide +kernel) (by decide) ?_
        refine E_ldcS C (j := 3) rfl dX3_formOf_85 ?_
        exact E_aret C dX3_formOf_87
      · refine E_ite (fun h1_102 => ?_) (fun h1_102 => ?_)
        · refine E_tabIn (kx := 102) (off := 84) C 85 h1_102 dX3_formOf_1 (by decide +kernel) (by decide) ?_
          refine E_ldcS C (j := 3) rfl dX3_formOf_85 ?_
          exact E_aret C dX3_formOf_87
        · refine E_ite (fun h1_103 => ?_) (fun h1_103 => ?_)
          · refine E_tabIn (kx := 103) (off := 90) C 91 h1_103 dX3_formOf_1 (by decide +kernel) (by decide) ?_
            refine E_ldcS C (j := 5) rfl dX3_formOf_91 ?_
            exact E_aret C dX3_formOf_93
          · refine E_ite (fun h1_104 => ?_) (fun h1_104 => ?_)
            · refine E_tabIn (kx := 104) (off := 90) C 91 h1_104 dX3_formOf_1 (by decide +kernel) (by decide) ?_
              refine E_ldcS C (j := 5) rfl dX3_formOf_91 ?_
              exact E_aret C dX3_formOf_93
            · refine E_ite (fun h1_105 => ?_) (fun h1_105 => ?_)
              · refine E_tabIn (kx := 105) (off := 90) C 91 h1_105 dX3_formOf_1 (by decide +kernel) (by decide) ?_
                refine E_ldcS C (j := 5) rfl dX3_formOf_91 ?_
                exact E_aret C dX3_formOf_93
              · refine E_ite (fun h1_106 => ?_) (fun h1_106 => ?_)
                · refine E_tabIn (kx := 106) (off := 90) C 91 h1_106 dX3_formOf_1 (by decide +kernel) (by decide) ?_
                  refine E_ldcS C (j := 5) rfl dX3_formOf_91 ?_
                  exact E_aret C dX3_formOf_93
                · refine E_ite (fun h1_107 => ?_) (fun h1_107 => ?_)
                  · refine E_tabIn (kx := 107) (off := 90) C 91 h1_107 dX3_formOf_1 (by decide +kernel) (by decide) ?_
                    refine E_ldcS C (j := 5) rfl dX3_formOf_91 ?_
                    exact E_aret C dX3_formOf_93
                  · refine E_ite (fun h1_108 => ?_) (fun h1_108 => ?_)
                    · refine E_tabIn (kx := 108) (off := 90) C 91 h1_108 dX3_formOf_1 (by decide +kernel) (by decide) ?_
                      refine E_ldcS C (j := 5) rfl dX3_formOf_91 ?_
                      exact E_aret C dX3_formOf_93
                    · refine E_ite (fun h1_109 => ?_) (fun h1_109 => ?_)
                      · refine E_tabIn (kx := 109) (off := 90) C 91 h1_109 dX3_formOf_1 (by decide +kernel) (by decide) ?_
                        refine E_ldcS C (j := 5) rfl dX3_formOf_91 ?_
                        exact E_aret C dX3_formOf_93
                      · refine E_ite (fun h1_110 => ?_) (fun h1_110 => ?_)
                        · refine E_tabIn (kx := 110) (off := 90) C 91 h1_110 dX3_formOf_1 (by decide +kernel) (by decide) ?_
                          refine E_ldcS C (j := 5) rfl dX3_formOf_91 ?_
                          exact E_aret C dX3_formOf_93
                        · refine E_ite (fun h1_111 => ?_) (fun h1_111 => ?_)
                          · refine E_tabIn (kx := 111) (off := 90) C 91 h1_111 dX3_formOf_1 (by decide +kernel) (by decide) ?_
                            refine E_ldcS C (j := 5) rfl dX3_formOf_91 ?_
                            exact E_aret C dX3_formOf_93
                          · refine E_ite (fun h1_112 => ?_) (fun h1_112 => ?_)
                            · refine E_tabIn (kx := 112) (off := 81) C 82 h1_112 dX3_formOf_1 (by decide +kernel) (by decide) ?_
                              refine E_ldcS C (j := 2) rfl dX3_formOf_82 ?_
                              exact E_aret C dX3_formOf_84
                            · refine E_ite (fun h1_113 => ?_) (fun h1_113 => ?_)
                              · refine E_tabIn (kx := 113) (off := 78) C 79 h1_113 dX3_formOf_1 (by decide +kernel) (by decide) ?_
                                refine E_ldcS C (j := 1) rfl dX3_formOf_79 ?_
                                exact E_aret C dX3_formOf_81
                              · refine E_tabOut C 91 dX3_formOf_1 (by have q0 := i32_ne h1_99 (n := 99) rfl; have q1 := i32_ne h1_100 (n := 100) rfl; have q2 := i32_ne h1_101 (n := 101) rfl; have q3 := i32_ne h1_102 (n := 102) rfl; have q4 := i32_ne h1_103 (n := 103) rfl; have q5 := i32_ne h1_104 (n := 104) rfl; have q6 := i32_ne h1_105 (n := 105) rfl; have q7 := i32_ne h1_106 (n := 106) rfl; have q8 := i32_ne h1_107 (n := 107) rfl; have q9 := i32_ne h1_108 (n := 108) rfl; have q10 := i32_ne h1_109 (n := 109) rfl; have q11 := i32_ne h1_110 (n := 110) rfl; have q12 := i32_ne h1_111 (n := 111) rfl; have q13 := i32_ne h1_112 (n := 112) rfl; have q14 := i32_ne h1_113 (n := 113) rfl; omega) (by decide) ?_
                                refine E_ldcS C (j := 5) rfl dX3_formOf_91 ?_
                                exact E_aret C dX3_formOf_93
def fJ0_isEmpty_aae02 (v0 : Nat) (μ : Mem) : Option (Int32 × Mem) :=
  (txV v0).bind fun x1 => (btL x1).bind fun x4 => if x4 = 0 then ((zz ((1 : Int32))).bind fun z => some (z, μ)) else ((zz ((0 : Int32))).bind fun z => some (z, μ))
set_option maxHeartbeats 4000000 in
set_option maxRecDepth 100000 in
theorem mJ0_isEmpty_aae02 (v0 : Nat) (μ : Mem) : Meth wI yJ0_isEmpty_aae02 cJ0_isEmpty_aae02 1 (some .boolean) 0 [.ref v0] μ (fJ0_isEmpty_aae02 v0 μ) := by
  refine Meth.of (by decide) [(0, .ref v0)] rfl (Nat.le_of_ble_eq_true rfl) ?_
  intro p l e R s m args below meth c D ca ad A X C
  have C : CX p R s m args meth c D ca ad A X cJ0_isEmpty_aae02 RJ0 1 (some .boolean) 0 := C
  unfold fJ0_isEmpty_aae02
  refine E_aload_n C dJ0_isEmpty_aae02_0 0 rfl ?_
  refine E_txV C fl_J0_9 dJ0_isEmpty_aae02_1 (fun x1 => ?_)
  refine E_btL C dJ0_isEmpty_aae02_4 (fun x4 => ?_)
  refine E_if_ne C 12 dJ0_isEmpty_aae02_5 (by decide) ?_ ?_
  · refine E_iconst C 0 dJ0_isEmpty_aae02_12 (by decide) ?_
    exact E_zret C dJ0_isEmpty_aae02_13
  · refine E_at (pc2 := 8) rfl ?_
    refine E_iconst C 1 dJ0_isEmpty_aae02_8 (by decide) ?_
    refine E_goto C 13 dJ0_isEmpty_aae02_9 (by decide) ?_
    exact E_zret C dJ0_isEmpty_aae02_13
def fJ0_coder_7d493 (v0 : Nat) (μ : Mem) : Option (Int32 × Mem) :=
  if (1 : Int32) = 0 then ((zz ((1 : Int32))).bind fun z => some (z, μ)) else ((txK v0).bind fun x7 => (zz x7).bind fun z => some (z, μ))
set_option maxHeartbeats 4000000 in
set_option maxRecDepth 100000 in
theorem mJ0_coder_7d493 (v0 : Nat) (μ : Mem) : Meth wI yJ0_coder_7d493 cJ0_coder_7d493 1 (some .byte) 0 [.ref v0] μ (fJ0_coder_7d493 v0 μ) := by
  refine Meth.of (by decide) [(0, .ref v0)] rfl (Nat.le_of_ble_eq_true rfl) ?_
  intro p l e R s m args below meth c D ca ad A X C
  have C : CX p R s m args meth c D ca ad A X cJ0_coder_7d493 RJ0 1 (some .byte) 0 := C
  unfold fJ0_coder_7d493
  refine E_cs C fl_J0_38 dJ0_coder_7d493_0 ?_
  refine E_if_eq C 13 dJ0_coder_7d493_3 (by decide) ?_ ?_
  · refine E_iconst C 1 dJ0_coder_7d493_13 (by decide) ?_
    exact E_bret C dJ0_coder_7d493_14
  · refine E_at (pc2 := 6) rfl ?_
    refine E_aload_n C dJ0_coder_7d493_6 0 rfl ?_
    refine E_txK C fl_J0_15 dJ0_coder_7d493_7 (fun x7 => ?_)
    refine E_goto C 14 dJ0_coder_7d493_10 (by decide) ?_
    exact E_bret C dJ0_coder_7d493_14
def fJ0_length_8abf5 (v0 : Nat) (μ : Mem) : Option (Int32 × Mem) :=
  (txV v0).bind fun x1 => (btL x1).bind fun x4 => (isT v0).bind fun _ => bd (fJ0_coder_7d493 v0 μ) fun x6 μ6 => some ((x4 >>> (x6 &&& 31)), μ6)
set_option maxHeartbeats 4000000 in
set_option maxRecDepth 100000 in
theorem mJ0_length_8abf5 (v0 : Nat) (μ : Mem) : Meth wI yJ0_length_8abf5 cJ0_length_8abf5 1 (some .int) 1 [.ref v0] μ (fJ0_length_8abf5 v0 μ) := by
  refine Meth.of (by decide) [(0, .ref v0)] rfl (Nat.le_of_ble_eq_true rfl) ?_
  intro p l e R s m args below meth c D ca ad A X C
  have C : CX p R s m args meth c D ca ad A X cJ0_length_8abf5 RJ0 1 (some .int) 1 := C
  unfold fJ0_length_8abf5
  refine E_aload_n C dJ0_length_8abf5_0 0 rfl ?_
  refine E_txV C fl_J0_9 dJ0_length_8abf5_1 (fun x1 => ?_)
  refine E_btL C dJ0_length_8abf5_4 (fun x4 => ?_)
  refine E_aload_n C dJ0_length_8abf5_5 0 rfl ?_
  refine E_callT (st := [.int x4]) C [] (mJ0_coder_7d493 v0 μ) cal_J0_coder_7d493 rfl im_J0_coder_7d493 se_J0_coder_7d493 lk_J0_335 dJ0_length_8abf5_6 rfl rfl (Nat.le_of_ble_eq_true rfl) (Nat.le_of_ble_eq_true rfl) (fun x6 μ6 => ?_)
  refine E_ishr C dJ0_length_8abf5_9 ?_
  exact E_iret C dJ0_length_8abf5_10
def fJ0_isLatin1_aae02 (v0 : Nat) (μ : Mem) : Option (Int32 × Mem) :=
  if (1 : Int32) = 0 then ((zz ((0 : Int32))).bind fun z => some (z, μ)) else ((txK v0).bind fun x7 => if x7 = 0 then ((zz ((1 : Int32))).bind fun z => some (z, μ)) else ((zz ((0 : Int32))).bind fun z => some (z, μ)))
set_option maxHeartbeats 4000000 in
set_option maxRecDepth 100000 in
theorem mJ0_isLatin1_aae02 (v0 : Nat) (μ : Mem) : Meth wI yJ0_isLatin1_aae02 cJ0_isLatin1_aae02 1 (some .boolean) 0 [.ref v0] μ (fJ0_isLatin1_aae02 v0 μ) := by
  refine Meth.of (by decide) [(0, .ref v0)] rfl (Nat.le_of_ble_eq_true rfl) ?_
  intro p l e R s m args below meth c D ca ad A X C
  have C : CX p R s m args meth c D ca ad A X cJ0_isLatin1_aae02 RJ0 1 (some .boolean) 0 := C
  unfold fJ0_isLatin1_aae02
  refine E_cs C fl_J0_38 dJ0_isLatin1_aae02_0 ?_
  refine E_if_eq C 17 dJ0_isLatin1_aae02_3 (by decide) ?_ ?_
  · refine E_iconst C 0 dJ0_isLatin1_aae02_17 (by decide) ?_
    exact E_zret C dJ0_isLatin1_aae02_18
  · refine E_at (pc2 := 6) rfl ?_
    refine E_aload_n C dJ0_isLatin1_aae02_6 0 rfl ?_
    refine E_txK C fl_J0_15 dJ0_isLatin1_aae02_7 (fun x7 => ?_)
    refine E_if_ne C 17 dJ0_isLatin1_aae02_10 (by decide) ?_ ?_
    · refine E_iconst C 0 dJ0_isLatin1_aae02_17 (by decide) ?_
      exact E_zret C dJ0_isLatin1_aae02_18
    · refine E_at (pc2 := 13) rfl ?_
      refine E_iconst C 1 dJ0_isLatin1_aae02_13 (by decide) ?_
      refine E_goto C 18 dJ0_isLatin1_aae02_14 (by decide) ?_
      exact E_zret C dJ0_isLatin1_aae02_18
def fJ3_checkIndex_8e157 (v0 v1 : Int32) (μ : Mem) : Option (Int32 × Mem) :=
  if v0 < 0 then none else (if v0 < v1 then some (v0, μ) else none)
theorem mJ3_checkIndex_8e157 (v0 v1 : Int32) (v2 : Value) (h2 : v2 = .null ∨ v2 = .ref 1031) (μ : Mem) : Meth wI yJ3_checkIndex_8e157 cJ3_checkIndex_8e157 3 (some .int) 0 [.int v0, .int v1, v2] μ (fJ3_checkIndex_8e157 v0 v1 μ) := by
  rcases h2 with rfl | rfl
  · skip
    refine Meth.of (by decide) [(0, .int v0), (1, .int v1), (2, .null)] rfl (Nat.le_of_ble_eq_true rfl) ?_
    intro p l e R s m args below meth c D ca ad A X C
    have C : CX p R s m args meth c D ca ad A X cJ3_checkIndex_8e157 RJ3 3 (some .int) 0 := C
    unfold fJ3_checkIndex_8e157
    refine E_iload_n C dJ3_checkIndex_8e157_0 0 rfl ?_
    refine E_if_lt C 9 dJ3_checkIndex_8e157_1 (by decide) E_none ?_
    refine E_iload_n C dJ3_checkIndex_8e157_4 0 rfl ?_
    refine E_iload_n C dJ3_checkIndex_8e157_5 1 rfl ?_
    refine E_icmp_lt C 16 dJ3_checkIndex_8e157_6 (by decide) ?_ E_none
    refine E_iload_n C dJ3_checkIndex_8e157_16 0 rfl ?_
    exact E_iret C dJ3_checkIndex_8e157_17
  · skip
    refine Meth.of (by decide) [(0, .int v0), (1, .int v1), (2, .ref 1031)] rfl (Nat.le_of_ble_eq_true rfl) ?_
    intro p l e R s m args below meth c D ca ad A X C
    have C : CX p R s m args meth c D ca ad A X cJ3_checkIndex_8e157 RJ3 3 (some .int) 0 := C
    unfold fJ3_checkIndex_8e157
    refine E_iload_n C dJ3_checkIndex_8e157_0 0 rfl ?_
    refine E_if_lt C 9 dJ3_checkIndex_8e157_1 (by decide) E_none ?_
    refine E_iload_n C dJ3_checkIndex_8e157_4 0 rfl ?_
    refine E_iload_n C dJ3_checkIndex_8e157_5 1 rfl ?_
    refine E_icmp_lt C 16 dJ3_checkIndex_8e157_6 (by decide) ?_ E_none
    refine E_iload_n C dJ3_checkIndex_8e157_16 0 rfl ?_
    exact E_iret C dJ3_checkIndex_8e157_17
def fJ0_checkIndex_df160 (v0 v1 : Int32) (μ : Mem) : Option (Unit × Mem) :=
  bd (fJ3_checkIndex_8e157 v0 v1 μ) fun _ μ5 => some ((), μ5)
theorem mJ0_checkIndex_df160 (v0 v1 : Int32) (μ : Mem) : Meth wU yJ0_checkIndex_df160 cJ0_checkIndex_df160 2 none 1 [.int v0, .int v1] μ (fJ0_checkIndex_df160 v0 v1 μ) := by
  refine Meth.of (by decide) [(0, .int v0), (1, .int v1)] rfl (Nat.le_of_ble_eq_true rfl) ?_
  intro p l e R s m args below meth c D ca ad A X C
  have C : CX p R s m args meth c D ca ad A X cJ0_checkIndex_df160 RJ0 2 none 1 := C
  unfold fJ0_checkIndex_df160
  refine E_iload_n C dJ0_checkIndex_df160_0 0 rfl ?_
  refine E_iload_n C dJ0_checkIndex_df160_1 1 rfl ?_
  refine E_fmt C fl_J0_1053 dJ0_checkIndex_df160_2 (fun w hw => ?_)
  refine E_callSI (st := []) C [.int v0, .int v1, w] (mJ3_checkIndex_8e157 v0 v1 w hw μ) cal_J3_checkIndex_8e157 st_J3_checkIndex_8e157 lk_J0_1059 dJ0_checkIndex_df160_5 rfl rfl (Nat.le_of_ble_eq_true rfl) (Nat.le_of_ble_eq_true rfl) (fun x5 μ5 => ?_)
  refine E_pop_i C dJ0_checkIndex_df160_8 ?_
  exact E_ret C dJ0_checkIndex_df160_9
def fJ1_charAt_3b067 (v0 : Nat) (v1 : Int32) (μ : Mem) : Option (Int32 × Mem) :=
  (btL v0).bind fun x2 => bd (fJ0_checkIndex_df160 v1 x2 μ) fun _ μ3 => (btA v0 v1).bind fun x8 => (cz ((((x8 &&& (255 : Int32))).toUInt32 % 65536).toInt32)).bind fun z => some (z, μ3)
set_option maxHeartbeats 4000000 in
set_option maxRecDepth 100000 in
theorem mJ1_charAt_3b067 (v0 : Nat) (v1 : Int32) (μ : Mem) : Meth wI yJ1_charAt_3b067 cJ1_charAt_3b067 2 (some .char) 2 [.ref v0, .int v1] μ (fJ1_charAt_3b067 v0 v1 μ) := by
  refine Meth.of (by decide) [(0, .ref v0), (1, .int v1)] rfl (Nat.le_of_ble_eq_true rfl) ?_
  intro p l e R s m args below meth c D ca ad A X C
  have C : CX p R s m args meth c D ca ad A X cJ1_charAt_3b067 RJ1 2 (some .char) 2 := C
  unfold fJ1_charAt_3b067
  refine E_iload_n C dJ1_charAt_3b067_0 1 rfl ?_
  refine E_aload_n C dJ1_charAt_3b067_1 0 rfl ?_
  refine E_btL C dJ1_charAt_3b067_2 (fun x2 => ?_)
  refine E_callSU (st := []) C [.int v1, .int x2] (mJ0_checkIndex_df160 v1 x2 μ) cal_J0_checkIndex_df160 st_J0_checkIndex_df160 lk_J1_9 dJ1_charAt_3b067_3 rfl rfl (Nat.le_of_ble_eq_true rfl) (Nat.le_of_ble_eq_true rfl) (fun _ μ3 => ?_)
  refine E_aload_n C dJ1_charAt_3b067_6 0 rfl ?_
  refine E_iload_n C dJ1_charAt_3b067_7 1 rfl ?_
  refine E_btA C dJ1_charAt_3b067_8 (fun x8 => ?_)
  refine E_sipush C 255 dJ1_charAt_3b067_9 (by decide) ?_
  refine E_iand C dJ1_charAt_3b067_12 ?_
  refine E_i2c C dJ1_charAt_3b067_13 ?_
  exact E_cret C dJ1_charAt_3b067_14
def fJ0_charAt_5068e (v0 : Nat) (v1 : Int32) (μ : Mem) : Option (Int32 × Mem) :=
  (isT v0).bind fun _ => bd (fJ0_isLatin1_aae02 v0 μ) fun x1 μ1 => if x1 = 0 then ((txV v0).bind fun x17 => none) else ((txV v0).bind fun x8 => bd (fJ1_charAt_3b067 x8 v1 μ1) fun x12 μ12 => (cz x12).bind fun z => some (z, μ12))
set_option maxHeartbeats 4000000 in
set_option maxRecDepth 100000 in
theorem mJ0_charAt_5068e (v0 : Nat) (v1 : Int32) (μ : Mem) : Meth wI yJ0_charAt_5068e cJ0_charAt_5068e 2 (some .char) 3 [.ref v0, .int v1] μ (fJ0_charAt_5068e v0 v1 μ) := by
  refine Meth.of (by decide) [(0, .ref v0), (1, .int v1)] rfl (Nat.le_of_ble_eq_true rfl) ?_
  intro p l e R s m args below meth c D ca ad A X C
  have C : CX p R s m args meth c D ca ad A X cJ0_charAt_5068e RJ0 2 (some .char) 3 := C
  unfold fJ0_charAt_5068e
  refine E_aload_n C dJ0_charAt_5068e_0 0 rfl ?_
  refine E_callT (st := []) C [] (mJ0_isLatin1_aae02 v0 μ) cal_J0_isLatin1_aae02 rfl im_J0_isLatin1_aae02 se_J0_isLatin1_aae02 lk_J0_492 dJ0_charAt_5068e_1 rfl rfl (Nat.le_of_ble_eq_true rfl) (Nat.le_of_ble_eq_true rfl) (fun x1 μ1 => ?_)
  refine E_if_eq C 16 dJ0_charAt_5068e_4 (by decide) ?_ ?_
  · refine E_aload_n C dJ0_charAt_5068e_16 0 rfl ?_
    refine E_txV C fl_J0_9 dJ0_charAt_5068e_17 (fun x17 => ?_)
    refine E_iload_n C dJ0_charAt_5068e_20 1 rfl ?_
    exact E_none
  · refine E_at (pc2 := 7) rfl ?_
    refine E_aload_n C dJ0_charAt_5068e_7 0 rfl ?_
    refine E_txV C fl_J0_9 dJ0_charAt_5068e_8 (fun x8 => ?_)
    refine E_iload_n C dJ0_charAt_5068e_11 1 rfl ?_
    refine E_callSI (st := []) C [.ref x8, .int v1] (mJ1_charAt_3b067 x8 v1 μ1) cal_J1_charAt_3b067 st_J1_charAt_3b067 lk_J0_495 dJ0_charAt_5068e_12 rfl rfl (Nat.le_of_ble_eq_true rfl) (Nat.le_of_ble_eq_true rfl) (fun x12 μ12 => ?_)
    exact E_cret C dJ0_charAt_5068e_15
def fX3_isDigit (v0 : Int32) (μ : Mem) : Option (Int32 × Mem) :=
  bd (fX10_within v0 ((48 : Int32)) ((57 : Int32)) μ) fun x5 μ5 => (zz x5).bind fun z => some (z, μ5)
set_option maxHeartbeats 4000000 in
set_option maxRecDepth 100000 in
theorem mX3_isDigit (v0 : Int32) (μ : Mem) : Meth wI yX3_isDigit cX3_isDigit 1 (some .boolean) 1 [.int v0] μ (fX3_isDigit v0 μ) := by
  refine Meth.of (by decide) [(0, .int v0)] rfl (Nat.le_of_ble_eq_true rfl) ?_
  intro p l e R s m args below meth c D ca ad A X C
  have C : CX p R s m args meth c D ca ad A X cX3_isDigit RX3 1 (some .boolean) 1 := C
  unfold fX3_isDigit
  refine E_iload_n C dX3_isDigit_0 0 rfl ?_
  refine E_bipush C 48 dX3_isDigit_1 (by decide) ?_
  refine E_bipush C 57 dX3_isDigit_3 (by decide) ?_
  refine E_callNI (st := []) C [.int v0, .int ((48 : Int32)), .int ((57 : Int32))] (mX10_within v0 ((48 : Int32)) ((57 : Int32)) μ) cal_X10_within st_X10_within lk_X3_71 dX3_isDigit_5 rfl rfl (Nat.le_of_ble_eq_true rfl) (Nat.le_of_ble_eq_true rfl) (fun x5 μ5 => ?_)
  exact E_zret C dX3_isDigit_8
def fX3_takeNumber (v0 : Nat) (v1 : Nat) (v2 : Int32) (v3 : Int32) (μ : Mem) : Option (Int32 × Mem) :=
  (gI μ v0 3 2).bind fun x2 => (isC μ v1 6).bind fun _ => bd (fX6_at v1 x2 ((0 : Int32)) μ) fun x6 μ6 => bd (fX3_isDigit x6 μ6) fun x9 μ9 => if x9 = 0 then ((zz ((0 : Int32))).bind fun z => some (z, μ9)) else (if v3 < (7 : Int32) then ((gI μ9 v0 3 2).bind fun x25 => (isC μ9 v1 6).bind fun _ => bd (fX6_at v1 x25 ((0 : Int32)) μ9) fun x29 μ29 => (gI μ29 v0 3 2).bind fun x39 => (pV μ29 v0 3 2 (.int ((x39 + (1 : Int32))))).bind fun μ44 => jn (fun (v4_96 : Int32) (μ_96 : Mem) => (gR μ_96 v0 3 0).bind fun x97 => (gI μ_96 v0 3 1).bind fun x101 => (sI μ_96 x97 (((x101 * (7 : Int32)) + v3)) v4_96).bind fun μ111 => (zz ((1 : Int32))).bind fun z => some (z, μ111)) (fun j96 => if v2 = 0 then (j96 ((x29 - (48 : Int32))) μ44) else ((gI μ44 v0 3 2).bind fun x53 => (isC μ44 v1 6).bind fun _ => bd (fX6_at v1 x53 ((0 : Int32)) μ44) fun x57 μ57 => bd (fX3_isDigit x57 μ57) fun x60 μ60 => if x60 = 0 then (j96 ((x29 - (48 : Int32))) μ60) else ((gI μ60 v0 3 2).bind fun x73 => (isC μ60 v1 6).bind fun _ => bd (fX6_at v1 x73 ((0 : Int32)) μ60) fun x77 μ77 => (gI μ77 v0 3 2).bind fun x88 => (pV μ77 v0 3 2 (.int ((x88 + (1 : Int32))))).bind fun μ93 => j96 (((((x29 - (48 : Int32)) * (10 : Int32)) + x77) - (48 : Int32))) μ93)))) else ((zz ((0 : Int32))).bind fun z => some (z, μ9)))
set_option maxHeartbeats 4000000 in
set_option maxRecDepth 100000 in
theorem mX3_takeNumber (v0 : Nat) (v1 : Nat) (v2 : Int32) (v3 : Int32) (μ : Mem) : Meth wI yX3_takeNumber cX3_takeNumber 5 (some .boolean) 2 [.ref v0, .ref v1, .int v2, .int v3] μ (fX3_takeNumber v0 v1 v2 v3 μ) := by
  refine Meth.of (by decide) [(0, .ref v0), (1, .ref v1), (2, .int v2), (3, .int v3)] rfl (Nat.le_of_ble_eq_true rfl) ?_
  intro p l e R s m args below meth c D ca ad A X C
  have C : CX p R s m args meth c D ca ad A X cX3_takeNumber RX3 5 (some .boolean) 2 := C
  unfold fX3_takeNumber
  refine E_aload_n C dX3_takeNumber_0 1 rfl ?_
  refine E_aload_n C dX3_takeNumber_1 0 rfl ?_
  refine E_getI C F_X3_19 dX3_takeNumber_2 (fun x2 => ?_)
  refine E_iconst C 0 dX3_takeNumber_5 (by decide) ?_
  refine E_callVI (st := []) C [.int x2, .int ((0 : Int32))] (mX6_at v1 x2 ((0 : Int32)) μ) cal_X6_at vir_X6_at lk_X3_29 dX3_takeNumber_6 rfl rfl (Nat.le_of_ble_eq_true rfl) (Nat.le_of_ble_eq_true rfl) (fun x6 μ6 => ?_)
  refine E_callSI (st := []) C [.int x6] (mX3_isDigit x6 μ6) cal_X3_isDigit st_X3_isDigit lk_X3_67 dX3_takeNumber_9 rfl rfl (Nat.le_of_ble_eq_true rfl) (Nat.le_of_ble_eq_true rfl) (fun x9 μ9 => ?_)
  refine E_if_eq C 21 dX3_takeNumber_12 (by decide) ?_ ?_
  · refine E_iconst C 0 dX3_takeNumber_21 (by decide) ?_
    exact E_zret C dX3_takeNumber_22
  · refine E_at (pc2 := 15) rfl ?_
    refine E_iload_n C dX3_takeNumber_15 3 rfl ?_
    refine E_bipush C 7 dX3_takeNumber_16 (by decide) ?_
    refine E_icmp_lt C 23 dX3_takeNumber_18 (by decide) ?_ ?_
    · refine E_aload_n C dX3_takeNumber_23 1 rfl ?_
      refine E_aload_n C dX3_takeNumber_24 0 rfl ?_
      refine E_getI C F_X3_19 dX3_takeNumber_25 (fun x25 => ?_)
      refine E_iconst C 0 dX3_takeNumber_28 (by decide) ?_
      refine E_callVI (st := []) C [.int x25, .int ((0 : Int32))] (mX6_at v1 x25 ((0 : Int32)) μ9) cal_X6_at vir_X6_at lk_X3_29 dX3_takeNumber_29 rfl rfl (Nat.le_of_ble_eq_true rfl) (Nat.le_of_ble_eq_true rfl) (fun x29 μ29 => ?_)
      refine E_bipush C 48 dX3_takeNumber_32 (by decide) ?_
      refine E_isub C dX3_takeNumber_34 ?_
      refine E_istore (lv' := [(4, .int ((x29 - (48 : Int32)))), (0, .ref v0), (1, .ref v1), (2, .int v2), (3, .int v3)]) C dX3_takeNumber_35 (by decide) rfl ?_
      refine E_aload_n C dX3_takeNumber_37 1 rfl ?_
      refine E_dup_r C dX3_takeNumber_38 ?_
      refine E_getI C F_X3_19 dX3_takeNumber_39 (fun x39 => ?_)
      refine E_iconst C 1 dX3_takeNumber_42 (by decide) ?_
      refine E_iadd C dX3_takeNumber_43 ?_
      refine E_putI C P_X3_19 dX3_takeNumber_44 (fun μ44 => ?_)
      refine E_iload_n C dX3_takeNumber_47 3 rfl ?_
      refine E_jn (fun j96 => ∀ (v4_96 : Int32) (μ_96 : Mem), Sm p l e R s m args below meth c D ca ad A 5 0 0 wI (KQ below args s D ca ad A) 96 [(0, .ref v0), (3, .int v3), (4, .int v4_96)] [] μ_96 (j96 v4_96 μ_96)) ?_ (fun j96 hj96 => ?_)
      · intro v4_96 μ_96
        refine E_aload_n C dX3_takeNumber_96 0 rfl ?_
        refine E_getR C F_X3_9 dX3_takeNumber_97 (fun x97 => ?_)
        refine E_aload_n C dX3_takeNumber_100 0 rfl ?_
        refine E_getI C F_X3_15 dX3_takeNumber_101 (fun x101 => ?_)
        refine E_bipush C 7 dX3_takeNumber_104 (by decide) ?_
        refine E_imul C dX3_takeNumber_106 ?_
        refine E_iload_n C dX3_takeNumber_107 1 rfl ?_
        refine E_iadd C dX3_takeNumber_108 ?_
        refine E_iload C dX3_takeNumber_109 2 rfl ?_
        refine E_iastore C dX3_takeNumber_111 (fun μ111 => ?_)
        refine E_iconst C 1 dX3_takeNumber_112 (by decide) ?_
        exact E_zret C dX3_takeNumber_113
      · refine E_if_eq C 96 dX3_takeNumber_48 (by decide) ?_ ?_
        · exact E_pick [1, 4, 0] rfl (hj96 ((x29 - (48 : Int32))) μ44)
        · refine E_at (pc2 := 51) rfl ?_
          refine E_aload_n C dX3_takeNumber_51 2 rfl ?_
          refine E_aload_n C dX3_takeNumber_52 1 rfl ?_
          refine E_getI C F_X3_19 dX3_takeNumber_53 (fun x53 => ?_)
          refine E_iconst C 0 dX3_takeNumber_56 (by decide) ?_
          refine E_callVI (st := []) C [.int x53, .int ((0 : Int32))] (mX6_at v1 x53 ((0 : Int32)) μ44) cal_X6_at vir_X6_at lk_X3_29 dX3_takeNumber_57 rfl rfl (Nat.le_of_ble_eq_true rfl) (Nat.le_of_ble_eq_true rfl) (fun x57 μ57 => ?_)
          refine E_callSI (st := []) C [.int x57] (mX3_isDigit x57 μ57) cal_X3_isDigit st_X3_isDigit lk_X3_67 dX3_takeNumber_60 rfl rfl (Nat.le_of_ble_eq_true rfl) (Nat.le_of_ble_eq_true rfl) (fun x60 μ60 => ?_)
          refine E_if_eq C 96 dX3_takeNumber_63 (by decide) ?_ ?_
          · exact E_pick [1, 4, 0] rfl (hj96 ((x29 - (48 : Int32))) μ60)
          · refine E_at (pc2 := 66) rfl ?_
            refine E_iload C dX3_takeNumber_66 0 rfl ?_
            refine E_bipush C 10 dX3_takeNumber_68 (by decide) ?_
            refine E_imul C dX3_takeNumber_70 ?_
            refine E_aload_n C dX3_takeNumber_71 2 rfl ?_
            refine E_aload_n C dX3_takeNumber_72 1 rfl ?_
            refine E_getI C F_X3_19 dX3_takeNumber_73 (fun x73 => ?_)
            refine E_iconst C 0 dX3_takeNumber_76 (by decide) ?_
            refine E_callVI (st := [.int (((x29 - (48 : Int32)) * (10 : Int32)))]) C [.int x73, .int ((0 : Int32))] (mX6_at v1 x73 ((0 : Int32)) μ60) cal_X6_at vir_X6_at lk_X3_29 dX3_takeNumber_77 rfl rfl (Nat.le_of_ble_eq_true rfl) (Nat.le_of_ble_eq_true rfl) (fun x77 μ77 => ?_)
            refine E_iadd C dX3_takeNumber_80 ?_
            refine E_bipush C 48 dX3_takeNumber_81 (by decide) ?_
            refine E_isub C dX3_takeNumber_83 ?_
            refine E_istore (lv' := [(4, .int (((((x29 - (48 : Int32)) * (10 : Int32)) + x77) - (48 : Int32)))), (0, .ref v0), (1, .ref v1), (2, .int v2), (3, .int v3)]) C dX3_takeNumber_84 (by decide) rfl ?_
            refine E_aload_n C dX3_takeNumber_86 1 rfl ?_
            refine E_dup_r C dX3_takeNumber_87 ?_
            refine E_getI C F_X3_19 dX3_takeNumber_88 (fun x88 => ?_)
            refine E_iconst C 1 dX3_takeNumber_91 (by decide) ?_
            refine E_iadd C dX3_takeNumber_92 ?_
            refine E_putI C P_X3_19 dX3_takeNumber_93 (fun μ93 => ?_)
            exact E_pick [1, 4, 0] rfl (hj96 (((((x29 - (48 : Int32)) * (10 : Int32)) + x77) - (48 : Int32))) μ93)
    · refine E_at (pc2 := 21) rfl ?_
      refine E_iconst C 0 dX3_takeNumber_21 (by decide) ?_
      exact E_zret C dX3_takeNumber_22
def X3_takeClause_L53 (G : Mem → Option (Int32 × Mem)) (v0 : Nat) (v1 : Nat) (v3 : Nat) : Nat → Int32 → Int32 → Mem → Option (Int32 × Mem)
  | 0, _, _, _ => none
  | n + 1, v4, v5, μ => (isT v3).bind fun _ => bd (fJ0_length_8abf5 v3 μ) fun x56 μ56 => if x56 ≤ v5 then (G μ56) else ((isT v3).bind fun _ => bd (fJ0_charAt_5068e v3 v5 μ56) fun x65 μ65 => if x65 = (46 : Int32) then ((gI μ65 v0 3 2).bind fun x79 => (isC μ65 v1 6).bind fun _ => bd (fX6_at v1 x79 ((0 : Int32)) μ65) fun x83 μ83 => if x83 = (46 : Int32) then ((gI μ83 v0 3 2).bind fun x95 => (pV μ83 v0 3 2 (.int ((x95 + (1 : Int32))))).bind fun μ100 => X3_takeClause_L53 G v0 v1 v3 n v4 ((v5 + 1)) μ100) else ((zz ((0 : Int32))).bind fun z => some (z, μ83))) else (jn (fun (s2_120 : Int32) (μ_120 : Mem) => (isC μ_120 v0 3).bind fun _ => bd (fX3_takeNumber v0 v1 s2_120 v4 μ_120) fun x122 μ122 => if x122 = 0 then ((zz ((0 : Int32))).bind fun z => some (z, μ122)) else (X3_takeClause_L53 G v0 v1 v3 n ((v4 + 1)) ((v5 + 1)) μ122)) (fun j120 => if x65 = (50 : Int32) then (j120 ((1 : Int32)) μ65) else (j120 ((0 : Int32)) μ65))))
set_option maxHeartbeats 4000000 in
set_option maxRecDepth 100000 in
theorem X3_takeClause_L53_ok {p : Program} {l : Launch} {e : Env} {R : Room} {s : State} {m : MethodId} {args : Array Value} {below : List Frame} {meth : Method} {c : Code} {D : va_G} {ca : Nat → ClassId} {ad : Nat → Nat} {A : Nat → Prop} {X : State → Prop} (C : CX p R s m args meth c D ca ad A X cX3_takeClause RX3 7 (some .boolean) 4) {G : Mem → Option (Int32 × Mem)} (v0 : Nat) (v1 : Nat) (v3 : Nat) (hG : ∀  (μx : Mem), Sm p l e R s m args below meth c D ca ad A 7 0 0 wI (KQ below args s D ca ad A) 139 [] [] μx (G  μx)) : ∀ (n : Nat) (v4 : Int32) (v5 : Int32) (μ : Mem), Sm p l e R s m args below meth c D ca ad A 7 0 0 wI (KQ below args s D ca ad A) 53 [(0, .ref v0), (1, .ref v1), (3, .ref v3), (4, .int v4), (5, .int v5)] [] μ (X3_takeClause_L53 G v0 v1 v3 n v4 v5 μ) := by
  intro n
  induction n with
  | zero =>
    intro v4 v5 μ
    rw [X3_takeClause_L53]
    exact E_none
  | succ n ih =>
    intro v4 v5 μ
    rw [X3_takeClause_L53]
    refine E_iload C dX3_takeClause_53 4 rfl ?_
    refine E_aload_n C dX3_takeClause_55 2 rfl ?_
    refine E_callT (st := [.int v5]) C [] (mJ0_length_8abf5 v3 μ) cal_J0_length_8abf5 rfl im_J0_length_8abf5 se_J0_length_8abf5 lk_X3_55 dX3_takeClause_56 rfl rfl (Nat.le_of_ble_eq_true rfl) (Nat.le_of_ble_eq_true rfl) (fun x56 μ56 => ?_)
    refine E_icmp_ge C 139 dX3_takeClause_59 (by decide) ?_ ?_
    · exact E_pick [] rfl (hG μ56)
    · refine E_at (pc2 := 62) rfl ?_
      refine E_aload_n C dX3_takeClause_62 2 rfl ?_
      refine E_iload C dX3_takeClause_63 4 rfl ?_
      refine E_callT (st := []) C [.int v5] (mJ0_charAt_5068e v3 v5 μ56) cal_J0_charAt_5068e rfl im_J0_charAt_5068e se_J0_charAt_5068e lk_X3_59 dX3_takeClause_65 rfl rfl (Nat.le_of_ble_eq_true rfl) (Nat.le_of_ble_eq_true rfl) (fun x65 μ65 => ?_)
      refine E_istore (lv' := [(6, .int x65), (0, .ref v0), (1, .ref v1), (3, .ref v3), (4, .int v4), (5, .int v5)]) C dX3_takeClause_68 (by decide) rfl ?_
      refine E_iload C dX3_takeClause_70 0 rfl ?_
      refine E_bipush C 46 dX3_takeClause_72 (by decide) ?_
      refine E_icmp_ne C 106 dX3_takeClause_74 (by decide) ?_ ?_
      · refine E_aload_n C dX3_takeClause_106 1 rfl ?_
        refine E_aload_n C dX3_takeClause_107 2 rfl ?_
        refine E_iload C dX3_takeClause_108 0 rfl ?_
        refine E_bipush C 50 dX3_takeClause_110 (by decide) ?_
        refine E_jn (fun j120 => ∀ (s2_120 : Int32) (μ_120 : Mem), Sm p l e R s m args below meth c D ca ad A 7 0 0 wI (KQ below args s D ca ad A) 120 [(0, .ref v0), (1, .ref v1), (3, .ref v3), (4, .int v4), (5, .int v5)] [.int s2_120, .ref v1, .ref v0] μ_120 (j120 s2_120 μ_120)) ?_ (fun j120 hj120 => ?_)
        · intro s2_120 μ_120
          refine E_iload C dX3_takeClause_120 3 rfl ?_
          refine E_callVI (st := []) C [.ref v1, .int s2_120, .int v4] (mX3_takeNumber v0 v1 s2_120 v4 μ_120) cal_X3_takeNumber vir_X3_takeNumber lk_X3_63 dX3_takeClause_122 rfl rfl (Nat.le_of_ble_eq_true rfl) (Nat.le_of_ble_eq_true rfl) (fun x122 μ122 => ?_)
          refine E_if_ne C 130 dX3_takeClause_125 (by decide) ?_ ?_
          · refine E_iinc (lv' := [(4, .int ((v4 + 1))), (0, .ref v0), (1, .ref v1), (3, .ref v3), (5, .int v5)]) C (v4 + 1) dX3_takeClause_130 3 rfl rfl (by decide) rfl ?_
            refine E_at (pc2 := 133) rfl ?_
            refine E_iinc (lv' := [(5, .int ((v5 + 1))), (4, .int ((v4 + 1))), (0, .ref v0), (1, .ref v1), (3, .ref v3)]) C (v5 + 1) dX3_takeClause_133 4 rfl rfl (by decide) rfl ?_
            refine E_goto C 53 dX3_takeClause_136 (by decide) ?_
            exact E_pick [2, 3, 4, 1, 0] rfl (ih ((v4 + 1)) ((v5 + 1)) μ122)
          · refine E_at (pc2 := 128) rfl ?_
            refine E_iconst C 0 dX3_takeClause_128 (by decide) ?_
            exact E_zret C dX3_takeClause_129
        · refine E_icmp_ne C 119 dX3_takeClause_112 (by decide) ?_ ?_
          · refine E_iconst C 0 dX3_takeClause_119 (by decide) ?_
            exact E_pick [1, 2, 3, 4, 5] rfl (hj120 ((0 : Int32)) μ65)
          · refine E_at (pc2 := 115) rfl ?_
            refine E_iconst C 1 dX3_takeClause_115 (by decide) ?_
            refine E_goto C 120 dX3_takeClause_116 (by decide) ?_
            exact E_pick [1, 2, 3, 4, 5] rfl (hj120 ((1 : Int32)) μ65)
      · refine E_at (pc2 := 77) rfl ?_
        refine E_aload_n C dX3_takeClause_77 2 rfl ?_
        refine E_aload_n C dX3_takeClause_78 1 rfl ?_
        refine E_getI C F_X3_19 dX3_takeClause_79 (fun x79 => ?_)
        refine E_iconst C 0 dX3_takeClause_82 (by decide) ?_
        refine E_callVI (st := []) C [.int x79, .int ((0 : Int32))] (mX6_at v1 x79 ((0 : Int32)) μ65) cal_X6_at vir_X6_at lk_X3_29 dX3_takeClause_83 rfl rfl (Nat.le_of_ble_eq_true rfl) (Nat.le_of_ble_eq_true rfl) (fun x83 μ83 => ?_)
        refine E_bipush C 46 dX3_takeClause_86 (by decide) ?_
        refine E_icmp_eq C 93 dX3_takeClause_88 (by decide) ?_ ?_
        · refine E_aload_n C dX3_takeClause_93 1 rfl ?_
          refine E_dup_r C dX3_takeClause_94 ?_
          refine E_getI C F_X3_19 dX3_takeClause_95 (fun x95 => ?_)
          refine E_iconst C 1 dX3_takeClause_98 (by decide) ?_
          refine E_iadd C dX3_takeClause_99 ?_
          refine E_putI C P_X3_19 dX3_takeClause_100 (fun μ100 => ?_)
          refine E_goto C 133 dX3_takeClause_103 (by decide) ?_
          refine E_iinc (lv' := [(5, .int ((v5 + 1))), (6, .int x65), (0, .ref v0), (1, .ref v1), (3, .ref v3), (4, .int v4)]) C (v5 + 1) dX3_takeClause_133 5 rfl rfl (by decide) rfl ?_
          refine E_goto C 53 dX3_takeClause_136 (by decide) ?_
          exact E_pick [2, 3, 4, 5, 0] rfl (ih v4 ((v5 + 1)) μ100)
        · refine E_at (pc2 := 91) rfl ?_
          refine E_iconst C 0 dX3_takeClause_91 (by decide) ?_
          exact E_zret C dX3_takeClause_92
def fX3_takeClause (v0 : Nat) (v1 : Nat) (μ : Mem) : Option (Int32 × Mem) :=
  (gI μ v0 3 2).bind fun x2 => (isC μ v1 6).bind fun _ => bd (fX6_at v1 x2 ((0 : Int32)) μ) fun x6 μ6 => bd (fX3_formOf x6 μ6) fun x11 μ11 => (isT x11).bind fun _ => bd (fJ0_isEmpty_aae02 x11 μ11) fun x16 μ16 => if x16 = 0 then ((gR μ16 v0 3 0).bind fun x25 => (gI μ16 v0 3 1).bind fun x29 => (sI μ16 x25 ((x29 * (7 : Int32))) x6).bind fun μ36 => (gI μ36 v0 3 2).bind fun x39 => (pV μ36 v0 3 2 (.int ((x39 + (1 : Int32))))).bind fun μ44 => X3_takeClause_L53 (fun μ_139 => (zz ((1 : Int32))).bind fun z => some (z, μ_139)) v0 v1 x11 FU ((1 : Int32)) ((0 : Int32)) μ44) else ((zz ((0 : Int32))).bind fun z => some (z, μ16))
set_option maxHeartbeats 4000000 in
set_option maxRecDepth 100000 in
theorem mX3_takeClause (v0 : Nat) (v1 : Nat) (μ : Mem) : Meth wI yX3_takeClause cX3_takeClause 7 (some .boolean) 4 [.ref v0, .ref v1] μ (fX3_takeClause v0 v1 μ) := by
  refine Meth.of (by decide) [(0, .ref v0), (1, .ref v1)] rfl (Nat.le_of_ble_eq_true rfl) ?_
  intro p l e R s m args below meth c D ca ad A X C
  have C : CX p R s m args meth c D ca ad A X cX3_takeClause RX3 7 (some .boolean) 4 := C
  unfold fX3_takeClause
  refine E_aload_n C dX3_takeClause_0 1 rfl ?_
  refine E_aload_n C dX3_takeClause_1 0 rfl ?_
  refine E_getI C F_X3_19 dX3_takeClause_2 (fun x2 => ?_)
  refine E_iconst C 0 dX3_takeClause_5 (by decide) ?_
  refine E_callVI (st := []) C [.int x2, .int ((0 : Int32))] (mX6_at v1 x2 ((0 : Int32)) μ) cal_X6_at vir_X6_at lk_X3_29 dX3_takeClause_6 rfl rfl (Nat.le_of_ble_eq_true rfl) (Nat.le_of_ble_eq_true rfl) (fun x6 μ6 => ?_)
  refine E_istore_n (lv' := [(2, .int x6), (0, .ref v0), (1, .ref v1)]) C dX3_takeClause_9 (by decide) rfl ?_
  refine E_iload_n C dX3_takeClause_10 0 rfl ?_
  refine E_callSR (st := []) C [.int x6] (mX3_formOf x6 μ6) cal_X3_formOf st_X3_formOf lk_X3_45 dX3_takeClause_11 rfl rfl (Nat.le_of_ble_eq_true rfl) (Nat.le_of_ble_eq_true rfl) (fun x11 μ11 => ?_)
  refine E_astore_n (lv' := [(3, .ref x11), (2, .int x6), (0, .ref v0), (1, .ref v1)]) C dX3_takeClause_14 (by decide) rfl ?_
  refine E_aload_n C dX3_takeClause_15 0 rfl ?_
  refine E_callT (st := []) C [] (mJ0_isEmpty_aae02 x11 μ11) cal_J0_isEmpty_aae02 rfl im_J0_isEmpty_aae02 se_J0_isEmpty_aae02 lk_X3_49 dX3_takeClause_16 rfl rfl (Nat.le_of_ble_eq_true rfl) (Nat.le_of_ble_eq_true rfl) (fun x16 μ16 => ?_)
  refine E_if_eq C 24 dX3_takeClause_19 (by decide) ?_ ?_
  · refine E_aload_n C dX3_takeClause_24 2 rfl ?_
    refine E_getR C F_X3_9 dX3_takeClause_25 (fun x25 => ?_)
    refine E_aload_n C dX3_takeClause_28 2 rfl ?_
    refine E_getI C F_X3_15 dX3_takeClause_29 (fun x29 => ?_)
    refine E_bipush C 7 dX3_takeClause_32 (by decide) ?_
    refine E_imul C dX3_takeClause_34 ?_
    refine E_iload_n C dX3_takeClause_35 1 rfl ?_
    refine E_iastore C dX3_takeClause_36 (fun μ36 => ?_)
    refine E_aload_n C dX3_takeClause_37 2 rfl ?_
    refine E_dup_r C dX3_takeClause_38 ?_
    refine E_getI C F_X3_19 dX3_takeClause_39 (fun x39 => ?_)
    refine E_iconst C 1 dX3_takeClause_42 (by decide) ?_
    refine E_iadd C dX3_takeClause_43 ?_
    refine E_putI C P_X3_19 dX3_takeClause_44 (fun μ44 => ?_)
    refine E_iconst C 1 dX3_takeClause_47 (by decide) ?_
    refine E_istore (lv' := [(4, .int ((1 : Int32))), (3, .ref x11), (2, .int x6), (0, .ref v0), (1, .ref v1)]) C dX3_takeClause_48 (by decide) rfl ?_
    refine E_iconst C 0 dX3_takeClause_50 (by decide) ?_
    refine E_istore (lv' := [(5, .int ((0 : Int32))), (4, .int ((1 : Int32))), (3, .ref x11), (2, .int x6), (0, .ref v0), (1, .ref v1)]) C dX3_takeClause_51 (by decide) rfl ?_
    refine E_at (pc2 := 53) rfl ?_
    refine E_pick (lv' := [(0, .ref v0), (1, .ref v1), (3, .ref x11), (4, .int ((1 : Int32))), (5, .int ((0 : Int32)))]) [4, 5, 2, 1, 0] rfl ?_
    refine X3_takeClause_L53_ok C v0 v1 x11 (fun μ_139 => ?_) FU ((1 : Int32)) ((0 : Int32)) μ44
    refine E_iconst C 1 dX3_takeClause_139 (by decide) ?_
    exact E_zret C dX3_takeClause_140
  · refine E_at (pc2 := 22) rfl ?_
    refine E_iconst C 0 dX3_takeClause_22 (by decide) ?_
    exact E_zret C dX3_takeClause_23
def X3_takeAll_L10 (G : Mem → Option (Int32 × Mem)) (v0 : Nat) (v1 : Nat) : Nat → Mem → Option (Int32 × Mem)
  | 0, _ => none
  | n + 1, μ => (gI μ v0 3 1).bind fun x11 => if (12 : Int32) ≤ x11 then (G μ) else ((isC μ v0 3).bind fun _ => bd (fX3_takeClause v0 v1 μ) fun x21 μ21 => if x21 = 0 then ((gI μ21 v0 3 2).bind fun x28 => some (x28, μ21)) else ((gI μ21 v0 3 1).bind fun x34 => (pV μ21 v0 3 1 (.int ((x34 + (1 : Int32))))).bind fun μ39 => (gI μ39 v0 3 2).bind fun x43 => (gI μ39 v1 6 3).bind fun x47 => if x43 < x47 then ((gI μ39 v0 3 2).bind fun x58 => (isC μ39 v1 6).bind fun _ => bd (fX6_at v1 x58 ((0 : Int32)) μ39) fun x62 μ62 => if x62 = (59 : Int32) then ((gI μ62 v0 3 1).bind fun x71 => if x71 = (12 : Int32) then ((gI μ62 v0 3 2).bind fun x80 => some (x80, μ62)) else ((gI μ62 v0 3 2).bind fun x86 => (pV μ62 v0 3 2 (.int ((x86 + (1 : Int32))))).bind fun μ91 => X3_takeAll_L10 G v0 v1 n μ91)) else ((gI μ62 v0 3 2).bind fun x80 => some (x80, μ62))) else (some ((-5 : Int32), μ39))))
set_option maxHeartbeats 4000000 in
set_option maxRecDepth 100000 in
theorem X3_takeAll_L10_ok {p : Program} {l : Launch} {e : Env} {R : Room} {s : State} {m : MethodId} {args : Array Value} {below : List Frame} {meth : Method} {c : Code} {D : va_G} {ca : Nat → ClassId} {ad : Nat → Nat} {A : Nat → Prop} {X : State → Prop} (C : CX p R s m args meth c D ca ad A X cX3_takeAll RX3 2 (some .int) 5) {G : Mem → Option (Int32 × Mem)} (v0 : Nat) (v1 : Nat) (hG : ∀  (μx : Mem), Sm p l e R s m args below meth c D ca ad A 2 0 0 wI (KQ below args s D ca ad A) 97 [(0, .ref v0)] [] μx (G  μx)) : ∀ (n : Nat)  (μ : Mem), Sm p l e R s m args below meth c D ca ad A 2 0 0 wI (KQ below args s D ca ad A) 10 [(0, .ref v0), (1, .ref v1)] [] μ (X3_takeAll_L10 G v0 v1 n  μ) := by
  intro n
  induction n with
  | zero =>
    intro  μ
    rw [X3_takeAll_L10]
    exact E_none
  | succ n ih =>
    intro  μ
    rw [X3_takeAll_L10]
    refine E_aload_n C dX3_takeAll_10 0 rfl ?_
    refine E_getI C F_X3_15 dX3_takeAll_11 (fun x11 => ?_)
    refine E_bipush C 12 dX3_takeAll_14 (by decide) ?_
    refine E_icmp_ge C 97 dX3_takeAll_16 (by decide) ?_ ?_
    · exact E_pick [0] rfl (hG μ)
    · refine E_at (pc2 := 19) rfl ?_
      refine E_aload_n C dX3_takeAll_19 0 rfl ?_
      refine E_aload_n C dX3_takeAll_20 1 rfl ?_
      refine E_callVI (st := []) C [.ref v1] (mX3_takeClause v0 v1 μ) cal_X3_takeClause vir_X3_takeClause lk_X3_22 dX3_takeAll_21 rfl rfl (Nat.le_of_ble_eq_true rfl) (Nat.le_of_ble_eq_true rfl) (fun x21 μ21 => ?_)
      refine E_if_ne C 32 dX3_takeAll_24 (by decide) ?_ ?_
      · refine E_aload_n C dX3_takeAll_32 0 rfl ?_
        refine E_dup_r C dX3_takeAll_33 ?_
        refine E_getI C F_X3_15 dX3_takeAll_34 (fun x34 => ?_)
        refine E_iconst C 1 dX3_takeAll_37 (by decide) ?_
        refine E_iadd C dX3_takeAll_38 ?_
        refine E_putI C P_X3_15 dX3_takeAll_39 (fun μ39 => ?_)
        refine E_aload_n C dX3_takeAll_42 0 rfl ?_
        refine E_getI C F_X3_19 dX3_takeAll_43 (fun x43 => ?_)
        refine E_aload_n C dX3_takeAll_46 1 rfl ?_
        refine E_getI C F_X3_26 dX3_takeAll_47 (fun x47 => ?_)
        refine E_icmp_lt C 56 dX3_takeAll_50 (by decide) ?_ ?_
        · refine E_aload_n C dX3_takeAll_56 1 rfl ?_
          refine E_aload_n C dX3_takeAll_57 0 rfl ?_
          refine E_getI C F_X3_19 dX3_takeAll_58 (fun x58 => ?_)
          refine E_iconst C 0 dX3_takeAll_61 (by decide) ?_
          refine E_callVI (st := []) C [.int x58, .int ((0 : Int32))] (mX6_at v1 x58 ((0 : Int32)) μ39) cal_X6_at vir_X6_at lk_X3_29 dX3_takeAll_62 rfl rfl (Nat.le_of_ble_eq_true rfl) (Nat.le_of_ble_eq_true rfl) (fun x62 μ62 => ?_)
          refine E_bipush C 59 dX3_takeAll_65 (by decide) ?_
          refine E_icmp_ne C 79 dX3_takeAll_67 (by decide) ?_ ?_
          · refine E_aload_n C dX3_takeAll_79 0 rfl ?_
            refine E_getI C F_X3_19 dX3_takeAll_80 (fun x80 => ?_)
            exact E_iret C dX3_takeAll_83
          · refine E_at (pc2 := 70) rfl ?_
            refine E_aload_n C dX3_takeAll_70 0 rfl ?_
            refine E_getI C F_X3_15 dX3_takeAll_71 (fun x71 => ?_)
            refine E_bipush C 12 dX3_takeAll_74 (by decide) ?_
            refine E_icmp_ne C 84 dX3_takeAll_76 (by decide) ?_ ?_
            · refine E_aload_n C dX3_takeAll_84 0 rfl ?_
              refine E_dup_r C dX3_takeAll_85 ?_
              refine E_getI C F_X3_19 dX3_takeAll_86 (fun x86 => ?_)
              refine E_iconst C 1 dX3_takeAll_89 (by decide) ?_
              refine E_iadd C dX3_takeAll_90 ?_
              refine E_putI C P_X3_19 dX3_takeAll_91 (fun μ91 => ?_)
              refine E_goto C 10 dX3_takeAll_94 (by decide) ?_
              exact E_pick [0, 1] rfl (ih μ91)
            · refine E_at (pc2 := 79) rfl ?_
              refine E_aload_n C dX3_takeAll_79 0 rfl ?_
              refine E_getI C F_X3_19 dX3_takeAll_80 (fun x80 => ?_)
              exact E_iret C dX3_takeAll_83
        · refine E_at (pc2 := 53) rfl ?_
          refine E_bipush C (-5) dX3_takeAll_53 (by decide) ?_
          exact E_iret C dX3_takeAll_55
      · refine E_at (pc2 := 27) rfl ?_
        refine E_aload_n C dX3_takeAll_27 0 rfl ?_
        refine E_getI C F_X3_19 dX3_takeAll_28 (fun x28 => ?_)
        exact E_iret C dX3_takeAll_31
def fX3_takeAll (v0 : Nat) (v1 : Nat) (μ : Mem) : Option (Int32 × Mem) :=
  (pV μ v0 3 1 (.int ((0 : Int32)))).bind fun μ2 => (pV μ2 v0 3 2 (.int ((0 : Int32)))).bind fun μ7 => X3_takeAll_L10 (fun μ_97 => (gI μ_97 v0 3 2).bind fun x98 => some (x98, μ_97)) v0 v1 FU μ7
set_option maxHeartbeats 4000000 in
set_option maxRecDepth 100000 in
theorem mX3_takeAll (v0 : Nat) (v1 : Nat) (μ : Mem) : Meth wI yX3_takeAll cX3_takeAll 2 (some .int) 5 [.ref v0, .ref v1] μ (fX3_takeAll v0 v1 μ) := by
  refine Meth.of (by decide) [(0, .ref v0), (1, .ref v1)] rfl (Nat.le_of_ble_eq_true rfl) ?_
  intro p l e R s m args below meth c D ca ad A X C
  have C : CX p R s m args meth c D ca ad A X cX3_takeAll RX3 2 (some .int) 5 := C
  unfold fX3_takeAll
  refine E_aload_n C dX3_takeAll_0 0 rfl ?_
  refine E_iconst C 0 dX3_takeAll_1 (by decide) ?_
  refine E_putI C P_X3_15 dX3_takeAll_2 (fun μ2 => ?_)
  refine E_aload_n C dX3_takeAll_5 0 rfl ?_
  refine E_iconst C 0 dX3_takeAll_6 (by decide) ?_
  refine E_putI C P_X3_19 dX3_takeAll_7 (fun μ7 => ?_)
  refine E_at (pc2 := 10) rfl ?_
  refine E_pick (lv' := [(0, .ref v0), (1, .ref v1)]) [0, 1] rfl ?_
  refine X3_takeAll_L10_ok C v0 v1 (fun μ_97 => ?_) FU μ7
  refine E_aload_n C dX3_takeAll_97 0 rfl ?_
  refine E_getI C F_X3_19 dX3_takeAll_98 (fun x98 => ?_)
  exact E_iret C dX3_takeAll_101
def fX3_isDone (v0 : Nat) (v1 : Nat) (v2 : Int32) (μ : Mem) : Option (Int32 × Mem) :=
  (gR μ v0 3 0).bind fun x1 => (aI μ 0 x1 ((v2 + (1 : Int32)))).bind fun x7 => (gR μ v0 3 0).bind fun x10 => (aI μ 0 x10 ((v2 + (2 : Int32)))).bind fun x16 => (gR μ v0 3 0).bind fun x20 => (aI μ 0 x20 ((v2 + (3 : Int32)))).bind fun x26 => (gR μ v0 3 0).bind fun x30 => (aI μ 0 x30 ((v2 + (4 : Int32)))).bind fun x36 => (gR μ v0 3 0).bind fun x40 => (aI μ 0 x40 v2).bind fun x44 => if x44 = 100 then ((gR μ v0 3 0).bind fun x125 => (aI μ 0 x125 ((v2 + (5 : Int32)))).bind fun x131 => (gR μ v0 3 0).bind fun x133 => (aI μ 0 x133 ((v2 + (6 : Int32)))).bind fun x140 => (isC μ v1 0).bind fun _ => bd (fX0_addDemand v1 x7 x16 x26 x36 x131 x140 μ) fun x141 μ141 => if x141 < 0 then ((zz ((0 : Int32))).bind fun z => some (z, μ141)) else ((zz ((1 : Int32))).bind fun z => some (z, μ141))) else if x44 = 101 then ((isC μ v1 0).bind fun _ => bd (fX0_changeMonth v1 x7 ((0 : Int32)) x16 μ) fun x209 μ209 => if x209 < 0 then ((zz ((0 : Int32))).bind fun z => some (z, μ209)) else ((zz ((1 : Int32))).bind fun z => some (z, μ209))) else if x44 = 102 then ((isC μ v1 0).bind fun _ => bd (fX0_changeMonth v1 x7 ((1 : Int32)) x16 μ) fun x226 μ226 => if x226 < 0 then ((zz ((0 : Int32))).bind fun z => some (z, μ226)) else ((zz ((1 : Int32))).bind fun z => some (z, μ226))) else if x44 = 103 then ((isC μ v1 0).bind fun _ => bd (fX0_changeSetting v1 ((0 : Int32)) x7 μ) fun x241 μ241 => if x241 < 0 then ((zz ((0 : Int32))).bind fun z => some (z, μ241)) else ((zz ((1 : Int32))).bind fun z => some (z, μ241))) else if x44 = 104 then ((isC μ v1 0).bind fun _ => bd (fX0_changeSetting v1 ((0 : Int32)) x7 μ) fun x241 μ241 => if x241 < 0 then ((zz ((0 : Int32))).bind fun z => some (z, μ241)) else ((zz ((1 : Int32))).bind fun z => some (z, μ241))) else if x44 = 105 then ((isC μ v1 0).bind fun _ => bd (fX0_changeSetting v1 ((0 : Int32)) x7 μ) fun x241 μ241 => if x241 < 0 then ((zz ((0 : Int32))).bind fun z => some (z, μ241)) else ((zz ((1 : Int32))).bind fun z => some (z, μ241))) else if x44 = 106 then ((isC μ v1 0).bind fun _ => bd (fX0_changeSetting v1 ((0 : Int32)) x7 μ) fun x241 μ241 => if x241 < 0 then ((zz ((0 : Int32))).bind fun z => some (z, μ241)) else ((zz ((1 : Int32))).bind fun z => some (z, μ241))) else if x44 = 107 then ((isC μ v1 0).bind fun _ => bd (fX0_changeSetting v1 ((0 : Int32)) x7 μ) fun x241 μ241 => if x241 < 0 then ((zz ((0 : Int32))).bind fun z => some (z, μ241)) else ((zz ((1 : Int32))).bind fun z => some (z, μ241))) else if x44 = 108 then ((isC μ v1 0).bind fun _ => bd (fX0_changeSetting v1 ((0 : Int32)) x7 μ) fun x241 μ241 => if x241 < 0 then ((zz ((0 : Int32))).bind fun z => some (z, μ241)) else ((zz ((1 : Int32))).bind fun z => some (z, μ241))) else if x44 = 109 then ((isC μ v1 0).bind fun _ => bd (fX0_changeSetting v1 ((0 : Int32)) x7 μ) fun x241 μ241 => if x241 < 0 then ((zz ((0 : Int32))).bind fun z => some (z, μ241)) else ((zz ((1 : Int32))).bind fun z => some (z, μ241))) else if x44 = 110 then ((isC μ v1 0).bind fun _ => bd (fX0_changeSetting v1 ((0 : Int32)) x7 μ) fun x241 μ241 => if x241 < 0 then ((zz ((0 : Int32))).bind fun z => some (z, μ241)) else ((zz ((1 : Int32))).bind fun z => some (z, μ241))) else if x44 = 111 then ((isC μ v1 0).bind fun _ => bd (fX0_changeSetting v1 ((0 : Int32)) x7 μ) fun x241 μ241 => if x241 < 0 then ((zz ((0 : Int32))).bind fun z => some (z, μ241)) else ((zz ((1 : Int32))).bind fun z => some (z, μ241))) else if x44 = 112 then ((isC μ v1 0).bind fun _ => bd (fX0_changeParts v1 x7 x16 x26 x36 μ) fun x200 μ200 => (zz x200).bind fun z => some (z, μ200)) else if x44 = 113 then ((isC μ v1 0).bind fun _ => bd (fX0_changeInflow v1 x7 ((0 : Int32)) x16 μ) fun x158 μ158 => if x158 < 0 then ((zz ((0 : Int32))).bind fun z => some (z, μ158)) else ((isC μ158 v1 0).bind fun _ => bd (fX0_changeInflow v1 x7 ((1 : Int32)) x26 μ158) fun x169 μ169 => if x169 < 0 then ((zz ((0 : Int32))).bind fun z => some (z, μ169)) else ((isC μ169 v1 0).bind fun _ => bd (fX0_changeInflow v1 x7 ((2 : Int32)) x36 μ169) fun x180 μ180 => if x180 < 0 then ((zz ((0 : Int32))).bind fun z => some (z, μ180)) else ((zz ((1 : Int32))).bind fun z => some (z, μ180))))) else ((isC μ v1 0).bind fun _ => bd (fX0_changeSetting v1 ((0 : Int32)) x7 μ) fun x241 μ241 => if x241 < 0 then ((zz ((0 : Int32))).bind fun z => some (z, μ241)) else ((zz ((1 : Int32))).bind fun z => some (z, μ241)))
set_option maxHeartbeats 4000000 in
set_option maxRecDepth 100000 in
theorem mX3_isDone (v0 : Nat) (v1 : Nat) (v2 : Int32) (μ : Mem) : Meth wI yX3_isDone cX3_isDone 7 (some .boolean) 3 [.ref v0, .ref v1, .int v2] μ (fX3_isDone v0 v1 v2 μ) := by
  refine Meth.of (by decide) [(0, .ref v0), (1, .ref v1), (2, .int v2)] rfl (Nat.le_of_ble_eq_true rfl) ?_
  intro p l e R s m args below meth c D ca ad A X C
  have C : CX p R s m args meth c D ca ad A X cX3_isDone RX3 7 (some .boolean) 3 := C
  unfold fX3_isDone
  refine E_aload_n C dX3_isDone_0 0 rfl ?_
  refine E_getR C F_X3_9 dX3_isDone_1 (fun x1 => ?_)
  refine E_iload_n C dX3_isDone_4 2 rfl ?_
  refine E_iconst C 1 dX3_isDone_5 (by decide) ?_
  refine E_iadd C dX3_isDone_6 ?_
  refine E_iaload C dX3_isDone_7 (fun x7 => ?_)
  refine E_istore_n (lv' := [(3, .int x7), (0, .ref v0), (1, .ref v1), (2, .int v2)]) C dX3_isDone_8 (by decide) rfl ?_
  refine E_aload_n C dX3_isDone_9 1 rfl ?_
  refine E_getR C F_X3_9 dX3_isDone_10 (fun x10 => ?_)
  refine E_iload_n C dX3_isDone_13 3 rfl ?_
  refine E_iconst C 2 dX3_isDone_14 (by decide) ?_
  refine E_iadd C dX3_isDone_15 ?_
  refine E_iaload C dX3_isDone_16 (fun x16 => ?_)
  refine E_istore (lv' := [(4, .int x16), (3, .int x7), (0, .ref v0), (1, .ref v1), (2, .int v2)]) C dX3_isDone_17 (by decide) rfl ?_
  refine E_aload_n C dX3_isDone_19 2 rfl ?_
  refine E_getR C F_X3_9 dX3_isDone_20 (fun x20 => ?_)
  refine E_iload_n C dX3_isDone_23 4 rfl ?_
  refine E_iconst C 3 dX3_isDone_24 (by decide) ?_
  refine E_iadd C dX3_isDone_25 ?_
  refine E_iaload C dX3_isDone_26 (fun x26 => ?_)
  refine E_istore (lv' := [(5, .int x26), (4, .int x16), (3, .int x7), (0, .ref v0), (1, .ref v1), (2, .int v2)]) C dX3_isDone_27 (by decide) rfl ?_
  refine E_aload_n C dX3_isDone_29 3 rfl ?_
  refine E_getR C F_X3_9 dX3_isDone_30 (fun x30 => ?_)
  refine E_iload_n C dX3_isDone_33 5 rfl ?_
  refine E_iconst C 4 dX3_isDone_34 (by decide) ?_
  refine E_iadd C dX3_isDone_35 ?_
  refine E_iaload C dX3_isDone_36 (fun x36 => ?_)
  refine E_istore (lv' := [(6, .int x36), (5, .int x26), (4, .int x16), (3, .int x7), (0, .ref v0), (1, .ref v1), (2, .int v2)]) C dX3_isDone_37 (by decide) rfl ?_
  refine E_aload_n C dX3_isDone_39 4 rfl ?_
  refine E_getR C F_X3_9 dX3_isDone_40 (fun x40 => ?_)
  refine E_iload_n C dX3_isDone_43 6 rfl ?_
  refine E_iaload C dX3_isDone_44 (fun x44 => ?_)
  refine E_ite (fun h45_100 => ?_) (fun h45_100 => ?_)
  · refine E_tabIn (kx := 100) (off := 71) C 116 h45_100 dX3_isDone_45 (by decide +kernel) (by decide) ?_
    refine E_aload_n C dX3_isDone_116 5 rfl ?_
    refine E_iload_n C dX3_isDone_117 3 rfl ?_
    refine E_iload C dX3_isDone_118 2 rfl ?_
    refine E_iload C dX3_isDone_120 1 rfl ?_
    refine E_iload C dX3_isDone_122 0 rfl ?_
    refine E_aload_n C dX3_isDone_124 4 rfl ?_
    refine E_getR C F_X3_9 dX3_isDone_125 (fun x125 => ?_)
    refine E_iload_n C dX3_isDone_128 6 rfl ?_
    refine E_iconst C 5 dX3_isDone_129 (by decide) ?_
    refine E_iadd C dX3_isDone_130 ?_
    refine E_iaload C dX3_isDone_131 (fun x131 => ?_)
    refine E_aload_n C dX3_isDone_132 4 rfl ?_
    refine E_getR C F_X3_9 dX3_isDone_133 (fun x133 => ?_)
    refine E_iload_n C dX3_isDone_136 6 rfl ?_
    refine E_bipush C 6 dX3_isDone_137 (by decide) ?_
    refine E_iadd C dX3_isDone_139 ?_
    refine E_iaload C dX3_isDone_140 (fun x140 => ?_)
    refine E_callVI (st := []) C [.int x7, .int x16, .int x26, .int x36, .int x131, .int x140] (mX0_addDemand v1 x7 x16 x26 x36 x131 x140 μ) cal_X0_addDemand vir_X0_addDemand lk_X3_79 dX3_isDone_141 rfl rfl (Nat.le_of_ble_eq_true rfl) (Nat.le_of_ble_eq_true rfl) (fun x141 μ141 => ?_)
    refine E_if_lt C 151 dX3_isDone_144 (by decide) ?_ ?_
    · refine E_iconst C 0 dX3_isDone_151 (by decide) ?_
      exact E_zret C dX3_isDone_152
    · refine E_at (pc2 := 147) rfl ?_
      refine E_iconst C 1 dX3_isDone_147 (by decide) ?_
      refine E_goto C 152 dX3_isDone_148 (by decide) ?_
      exact E_zret C dX3_isDone_152
  · refine E_ite (fun h45_101 => ?_) (fun h45_101 => ?_)
    · refine E_tabIn (kx := 101) (off := 159) C 204 h45_101 dX3_isDone_45 (by decide +kernel) (by decide) ?_
      refine E_aload_n C dX3_isDone_204 5 rfl ?_
      refine E_iload_n C dX3_isDone_205 3 rfl ?_
      refine E_iconst C 0 dX3_isDone_206 (by decide) ?_
      refine E_iload C dX3_isDone_207 2 rfl ?_
      refine E_callVI (st := []) C [.int x7, .int ((0 : Int32)), .int x16] (mX0_changeMonth v1 x7 ((0 : Int32)) x16 μ) cal_X0_changeMonth vir_X0_changeMonth lk_X3_93 dX3_isDone_209 rfl rfl (Nat.le_of_ble_eq_true rfl) (Nat.le_of_ble_eq_true rfl) (fun x209 μ209 => ?_)
      refine E_if_lt C 219 dX3_isDone_212 (by decide) ?_ ?_
      · refine E_iconst C 0 dX3_isDone_219 (by decide) ?_
        exact E_zret C dX3_isDone_220
      · refine E_at (pc2 := 215) rfl ?_
        refine E_iconst C 1 dX3_isDone_215 (by decide) ?_
        refine E_goto C 220 dX3_isDone_216 (by decide) ?_
        exact E_zret C dX3_isDone_220
    · refine E_ite (fun h45_102 => ?_) (fun h45_102 => ?_)
      · refine E_tabIn (kx := 102) (off := 176) C 221 h45_102 dX3_isDone_45 (by decide +kernel) (by decide) ?_
        refine E_aload_n C dX3_isDone_221 5 rfl ?_
        refine E_iload_n C dX3_isDone_222 3 rfl ?_
        refine E_iconst C 1 dX3_isDone_223 (by decide) ?_
        refine E_iload C dX3_isDone_224 2 rfl ?_
        refine E_callVI (st := []) C [.int x7, .int ((1 : Int32)), .int x16] (mX0_changeMonth v1 x7 ((1 : Int32)) x16 μ) cal_X0_changeMonth vir_X0_changeMonth lk_X3_93 dX3_isDone_226 rfl rfl (Nat.le_of_ble_eq_true rfl) (Nat.le_of_ble_eq_true rfl) (fun x226 μ226 => ?_)
        refine E_if_lt C 236 dX3_isDone_229 (by decide) ?_ ?_
        · refine E_iconst C 0 dX3_isDone_236 (by decide) ?_
          exact E_zret C dX3_isDone_237
        · refine E_at (pc2 := 232) rfl ?_
          refine E_iconst C 1 dX3_isDone_232 (by decide) ?_
          refine E_goto C 237 dX3_isDone_233 (by decide) ?_
          exact E_zret C dX3_isDone_237
      · refine E_ite (fun h45_103 => ?_) (fun h45_103 => ?_)
        · refine E_tabIn (kx := 103) (off := 193) C 238 h45_103 dX3_isDone_45 (by decide +kernel) (by decide) ?_
          refine E_aload_n C dX3_isDone_238 5 rfl ?_
          refine E_iconst C 0 dX3_isDone_239 (by decide) ?_
          refine E_iload_n C dX3_isDone_240 3 rfl ?_
          refine E_callVI (st := []) C [.int ((0 : Int32)), .int x7] (mX0_changeSetting v1 ((0 : Int32)) x7 μ) cal_X0_changeSetting vir_X0_changeSetting lk_X3_96 dX3_isDone_241 rfl rfl (Nat.le_of_ble_eq_true rfl) (Nat.le_of_ble_eq_true rfl) (fun x241 μ241 => ?_)
          refine E_if_lt C 251 dX3_isDone_244 (by decide) ?_ ?_
          · refine E_iconst C 0 dX3_isDone_251 (by decide) ?_
            exact E_zret C dX3_isDone_252
          · refine E_at (pc2 := 247) rfl ?_
            refine E_iconst C 1 dX3_isDone_247 (by decide) ?_
            refine E_goto C 252 dX3_isDone_248 (by decide) ?_
            exact E_zret C dX3_isDone_252
        · refine E_ite (fun h45_104 => ?_) (fun h45_104 => ?_)
          · refine E_tabIn (kx := 104) (off := 193) C 238 h45_104 dX3_isDone_45 (by decide +kernel) (by decide) ?_
            refine E_aload_n C dX3_isDone_238 5 rfl ?_
            refine E_iconst C 0 dX3_isDone_239 (by decide) ?_
            refine E_iload_n C dX3_isDone_240 3 rfl ?_
            refine E_callVI (st := []) C [.int ((0 : Int32)), .int x7] (mX0_changeSetting v1 ((0 : Int32)) x7 μ) cal_X0_changeSetting vir_X0_changeSetting lk_X3_96 dX3_isDone_241 rfl rfl (Nat.le_of_ble_eq_true rfl) (Nat.le_of_ble_eq_true rfl) (fun x241 μ241 => ?_)
            refine E_if_lt C 251 dX3_isDone_244 (by decide) ?_ ?_
            · refine E_iconst C 0 dX3_isDone_251 (by decide) ?_
              exact E_zret C dX3_isDone_252
            · refine E_at (pc2 := 247) rfl ?_
              refine E_iconst C 1 dX3_isDone_247 (by decide) ?_
              refine E_goto C 252 dX3_isDone_248 (by decide) ?_
              exact E_zret C dX3_isDone_252
          · refine E_ite (fun h45_105 => ?_) (fun h45_105 => ?_)
            · refine E_tabIn (kx := 105) (off := 193) C 238 h45_105 dX3_isDone_45 (by decide +kernel) (by decide) ?_
              refine E_aload_n C dX3_isDone_238 5 rfl ?_
              refine E_iconst C 0 dX3_isDone_239 (by decide) ?_
              refine E_iload_n C dX3_isDone_240 3 rfl ?_
              refine E_callVI (st := []) C [.int ((0 : Int32)), .int x7] (mX0_changeSetting v1 ((0 : Int32)) x7 μ) cal_X0_changeSetting vir_X0_changeSetting lk_X3_96 dX3_isDone_241 rfl rfl (Nat.le_of_ble_eq_true rfl) (Nat.le_of_ble_eq_true rfl) (fun x241 μ241 => ?_)
              refine E_if_lt C 251 dX3_isDone_244 (by decide) ?_ ?_
              · refine E_iconst C 0 dX3_isDone_251 (by decide) ?_
                exact E_zret C dX3_isDone_252
              · refine E_at (pc2 := 247) rfl ?_
                refine E_iconst C 1 dX3_isDone_247 (by decide) ?_
                refine E_goto C 252 dX3_isDone_248 (by decide) ?_
                exact E_zret C dX3_isDone_252
            · refine E_ite (fun h45_106 => ?_) (fun h45_106 => ?_)
              · refine E_tabIn (kx := 106) (off := 193) C 238 h45_106 dX3_isDone_45 (by decide +kernel) (by decide) ?_
                refine E_aload_n C dX3_isDone_238 5 rfl ?_
                refine E_iconst C 0 dX3_isDone_239 (by decide) ?_
                refine E_iload_n C dX3_isDone_240 3 rfl ?_
                refine E_callVI (st := []) C [.int ((0 : Int32)), .int x7] (mX0_changeSetting v1 ((0 : Int32)) x7 μ) cal_X0_changeSetting vir_X0_changeSetting lk_X3_96 dX3_isDone_241 rfl rfl (Nat.le_of_ble_eq_true rfl) (Nat.le_of_ble_eq_true rfl) (fun x241 μ241 => ?_)
                refine E_if_lt C 251 dX3_isDone_244 (by decide) ?_ ?_
                · refine E_iconst C 0 dX3_isDone_251 (by decide) ?_
                  exact E_zret C dX3_isDone_252
                · refine E_at (pc2 := 247) rfl ?_
                  refine E_iconst C 1 dX3_isDone_247 (by decide) ?_
                  refine E_goto C 252 dX3_isDone_248 (by decide) ?_
                  exact E_zret C dX3_isDone_252
              · refine E_ite (fun h45_107 => ?_) (fun h45_107 => ?_)
                · refine E_tabIn (kx := 107) (off := 193) C 238 h45_107 dX3_isDone_45 (by decide +kernel) (by decide) ?_
                  refine E_aload_n C dX3_isDone_238 5 rfl ?_
                  refine E_iconst C 0 dX3_isDone_239 (by decide) ?_
                  refine E_iload_n C dX3_isDone_240 3 rfl ?_
                  refine E_callVI (st := []) C [.int ((0 : Int32)), .int x7] (mX0_changeSetting v1 ((0 : Int32)) x7 μ) cal_X0_changeSetting vir_X0_changeSetting lk_X3_96 dX3_isDone_241 rfl rfl (Nat.le_of_ble_eq_true rfl) (Nat.le_of_ble_eq_true rfl) (fun x241 μ241 => ?_)
                  refine E_if_lt C 251 dX3_isDone_244 (by decide) ?_ ?_
                  · refine E_iconst C 0 dX3_isDone_251 (by decide) ?_
                    exact E_zret C dX3_isDone_252
                  · refine E_at (pc2 := 247) rfl ?_
                    refine E_iconst C 1 dX3_isDone_247 (by decide) ?_
                    refine E_goto C 252 dX3_isDone_248 (by decide) ?_
                    exact E_zret C dX3_isDone_252
                · refine E_ite (fun h45_108 => ?_) (fun h45_108 => ?_)
                  · refine E_tabIn (kx := 108) (off := 193) C 238 h45_108 dX3_isDone_45 (by decide +kernel) (by decide) ?_
                    refine E_aload_n C dX3_isDone_238 5 rfl ?_
                    refine E_iconst C 0 dX3_isDone_239 (by decide) ?_
                    refine E_iload_n C dX3_isDone_240 3 rfl ?_
                    refine E_callVI (st := []) C [.int ((0 : Int32)), .int x7] (mX0_changeSetting v1 ((0 : Int32)) x7 μ) cal_X0_changeSetting vir_X0_changeSetting lk_X3_96 dX3_isDone_241 rfl rfl (Nat.le_of_ble_eq_true rfl) (Nat.le_of_ble_eq_true rfl) (fun x241 μ241 => ?_)
                    refine E_if_lt C 251 dX3_isDone_244 (by decide) ?_ ?_
                    · refine E_iconst C 0 dX3_isDone_251 (by decide) ?_
                      exact E_zret C dX3_isDone_252
                    · refine E_at (pc2 := 247) rfl ?_
                      refine E_iconst C 1 dX3_isDone_247 (by decide) ?_
                      refine E_goto C 252 dX3_isDone_248 (by decide) ?_
                      exact E_zret C dX3_isDone_252
                  · refine E_ite (fun h45_109 => ?_) (fun h45_109 => ?_)
                    · refine E_tabIn (kx := 109) (off := 193) C 238 h45_109 dX3_isDone_45 (by decide +kernel) (by decide) ?_
                      refine E_aload_n C dX3_isDone_238 5 rfl ?_
                      refine E_iconst C 0 dX3_isDone_239 (by decide) ?_
                      refine E_iload_n C dX3_isDone_240 3 rfl ?_
                      refine E_callVI (st := []) C [.int ((0 : Int32)), .int x7] (mX0_changeSetting v1 ((0 : Int32)) x7 μ) cal_X0_changeSetting vir_X0_changeSetting lk_X3_96 dX3_isDone_241 rfl rfl (Nat.le_of_ble_eq_true rfl) (Nat.le_of_ble_eq_true rfl) (fun x241 μ241 => ?_)
                      refine E_if_lt C 251 dX3_isDone_244 (by decide) ?_ ?_
                      · refine E_iconst C 0 dX3_isDone_251 (by decide) ?_
                        exact E_zret C dX3_isDone_252
                      · refine E_at (pc2 := 247) rfl ?_
                        refine E_iconst C 1 dX3_isDone_247 (by decide) ?_
                        refine E_goto C 252 dX3_isDone_248 (by decide) ?_
                        exact E_zret C dX3_isDone_252
                    · refine E_ite (fun h45_110 => ?_) (fun h45_110 => ?_)
                      · refine E_tabIn (kx := 110) (off := 193) C 238 h45_110 dX3_isDone_45 (by decide +kernel) (by decide) ?_
                        refine E_aload_n C dX3_isDone_238 5 rfl ?_
                        refine E_iconst C 0 dX3_isDone_239 (by decide) ?_
                        refine E_iload_n C dX3_isDone_240 3 rfl ?_
                        refine E_callVI (st := []) C [.int ((0 : Int32)), .int x7] (mX0_changeSetting v1 ((0 : Int32)) x7 μ) cal_X0_changeSetting vir_X0_changeSetting lk_X3_96 dX3_isDone_241 rfl rfl (Nat.le_of_ble_eq_true rfl) (Nat.le_of_ble_eq_true rfl) (fun x241 μ241 => ?_)
                        refine E_if_lt C 251 dX3_isDone_244 (by decide) ?_ ?_
                        · refine E_iconst C 0 dX3_isDone_251 (by decide) ?_
                          exact E_zret C dX3_isDone_252
                        · refine E_at (pc2 := 247) rfl ?_
                          refine E_iconst C 1 dX3_isDone_247 (by decide) ?_
                          refine E_goto C 252 dX3_isDone_248 (by decide) ?_
                          exact E_zret C dX3_isDone_252
                      · refine E_ite (fun h45_111 => ?_) (fun h45_111 => ?_)
                        · refine E_tabIn (kx := 111) (off := 193) C 238 h45_111 dX3_isDone_45 (by decide +kernel) (by decide) ?_
                          refine E_aload_n C dX3_isDone_238 5 rfl ?_
                          refine E_iconst C 0 dX3_isDone_239 (by decide) ?_
                          refine E_iload_n C dX3_isDone_240 3 rfl ?_
                          refine E_callVI (st := []) C [.int ((0 : Int32)), .int x7] (mX0_changeSetting v1 ((0 : Int32)) x7 μ) cal_X0_changeSetting vir_X0_changeSetting lk_X3_96 dX3_isDone_241 rfl rfl (Nat.le_of_ble_eq_true rfl) (Nat.le_of_ble_eq_true rfl) (fun x241 μ241 => ?_)
                          refine E_if_lt C 251 dX3_isDone_244 (by decide) ?_ ?_
                          · refine E_iconst C 0 dX3_isDone_251 (by decide) ?_
                            exact E_zret C dX3_isDone_252
                          · refine E_at (pc2 := 247) rfl ?_
                            refine E_iconst C 1 dX3_isDone_247 (by decide) ?_
                            refine E_goto C 252 dX3_isDone_248 (by decide) ?_
                            exact E_zret C dX3_isDone_252
                        · refine E_ite (fun h45_112 => ?_) (fun h45_112 => ?_)
                          · refine E_tabIn (kx := 112) (off := 147) C 192 h45_112 dX3_isDone_45 (by decide +kernel) (by decide) ?_
                            refine E_aload_n C dX3_isDone_192 5 rfl ?_
                            refine E_iload_n C dX3_isDone_193 3 rfl ?_
                            refine E_iload C dX3_isDone_194 2 rfl ?_
                            refine E_iload C dX3_isDone_196 1 rfl ?_
                            refine E_iload C dX3_isDone_198 0 rfl ?_
                            refine E_callVI (st := []) C [.int x7, .int x16, .int x26, .int x36] (mX0_changeParts v1 x7 x16 x26 x36 μ) cal_X0_changeParts vir_X0_changeParts lk_X3_89 dX3_isDone_200 rfl rfl (Nat.le_of_ble_eq_true rfl) (Nat.le_of_ble_eq_true rfl) (fun x200 μ200 => ?_)
                            exact E_zret C dX3_isDone_203
                          · refine E_ite (fun h45_113 => ?_) (fun h45_113 => ?_)
                            · refine E_tabIn (kx := 113) (off := 108) C 153 h45_113 dX3_isDone_45 (by decide +kernel) (by decide) ?_
                              refine E_aload_n C dX3_isDone_153 5 rfl ?_
                              refine E_iload_n C dX3_isDone_154 3 rfl ?_
                              refine E_iconst C 0 dX3_isDone_155 (by decide) ?_
                              refine E_iload C dX3_isDone_156 2 rfl ?_
                              refine E_callVI (st := []) C [.int x7, .int ((0 : Int32)), .int x16] (mX0_changeInflow v1 x7 ((0 : Int32)) x16 μ) cal_X0_changeInflow vir_X0_changeInflow lk_X3_85 dX3_isDone_158 rfl rfl (Nat.le_of_ble_eq_true rfl) (Nat.le_of_ble_eq_true rfl) (fun x158 μ158 => ?_)
                              refine E_if_lt C 190 dX3_isDone_161 (by decide) ?_ ?_
                              · refine E_iconst C 0 dX3_isDone_190 (by decide) ?_
                                exact E_zret C dX3_isDone_191
                              · refine E_at (pc2 := 164) rfl ?_
                                refine E_aload_n C dX3_isDone_164 5 rfl ?_
                                refine E_iload_n C dX3_isDone_165 3 rfl ?_
                                refine E_iconst C 1 dX3_isDone_166 (by decide) ?_
                                refine E_iload C dX3_isDone_167 1 rfl ?_
                                refine E_callVI (st := []) C [.int x7, .int ((1 : Int32)), .int x26] (mX0_changeInflow v1 x7 ((1 : Int32)) x26 μ158) cal_X0_changeInflow vir_X0_changeInflow lk_X3_85 dX3_isDone_169 rfl rfl (Nat.le_of_ble_eq_true rfl) (Nat.le_of_ble_eq_true rfl) (fun x169 μ169 => ?_)
                                refine E_if_lt C 190 dX3_isDone_172 (by decide) ?_ ?_
                                · refine E_iconst C 0 dX3_isDone_190 (by decide) ?_
                                  exact E_zret C dX3_isDone_191
                                · refine E_at (pc2 := 175) rfl ?_
                                  refine E_aload_n C dX3_isDone_175 5 rfl ?_
                                  refine E_iload_n C dX3_isDone_176 3 rfl ?_
                                  refine E_iconst C 2 dX3_isDone_177 (by decide) ?_
                                  refine E_iload C dX3_isDone_178 0 rfl ?_
                                  refine E_callVI (st := []) C [.int x7, .int ((2 : Int32)), .int x36] (mX0_changeInflow v1 x7 ((2 : Int32)) x36 μ169) cal_X0_changeInflow vir_X0_changeInflow lk_X3_85 dX3_isDone_180 rfl rfl (Nat.le_of_ble_eq_true rfl) (Nat.le_of_ble_eq_true rfl) (fun x180 μ180 => ?_)
                                  refine E_if_lt C 190 dX3_isDone_183 (by decide) ?_ ?_
                                  · refine E_iconst C 0 dX3_isDone_190 (by decide) ?_
                                    exact E_zret C dX3_isDone_191
                                  · refine E_at (pc2 := 186) rfl ?_
                                    refine E_iconst C 1 dX3_isDone_186 (by decide) ?_
                                    refine E_goto C 191 dX3_isDone_187 (by decide) ?_
                                    exact E_zret C dX3_isDone_191
                            · refine E_tabOut C 238 dX3_isDone_45 (by have q0 := i32_ne h45_100 (n := 100) rfl; have q1 := i32_ne h45_101 (n := 101) rfl; have q2 := i32_ne h45_102 (n := 102) rfl; have q3 := i32_ne h45_103 (n := 103) rfl; have q4 := i32_ne h45_104 (n := 104) rfl; have q5 := i32_ne h45_105 (n := 105) rfl; have q6 := i32_ne h45_106 (n := 106) rfl; have q7 := i32_ne h45_107 (n := 107) rfl; have q8 := i32_ne h45_108 (n := 108) rfl; have q9 := i32_ne h45_109 (n := 109) rfl; have q10 := i32_ne h45_110 (n := 110) rfl; have q11 := i32_ne h45_111 (n := 111) rfl; have q12 := i32_ne h45_112 (n := 112) rfl; have q13 := i32_ne h45_113 (n := 113) rfl; omega) (by decide) ?_
                              refine E_aload_n C dX3_isDone_238 5 rfl ?_
                              refine E_iconst C 0 dX3_isDone_239 (by decide) ?_
                              refine E_iload_n C dX3_isDone_240 3 rfl ?_
                              refine E_callVI (st := []) C [.int ((0 : Int32)), .int x7] (mX0_changeSetting v1 ((0 : Int32)) x7 μ) cal_X0_changeSetting vir_X0_changeSetting lk_X3_96 dX3_isDone_241 rfl rfl (Nat.le_of_ble_eq_true rfl) (Nat.le_of_ble_eq_true rfl) (fun x241 μ241 => ?_)
                              refine E_if_lt C 251 dX3_isDone_244 (by decide) ?_ ?_
                              · refine E_iconst C 0 dX3_isDone_251 (by decide) ?_
                                exact E_zret C dX3_isDone_252
                              · refine E_at (pc2 := 247) rfl ?_
                                refine E_iconst C 1 dX3_isDone_247 (by decide) ?_
                                refine E_goto C 252 dX3_isDone_248 (by decide) ?_
                                exact E_zret C dX3_isDone_252
def X3_doAll_L4 (G : Int32 → Mem → Option (Int32 × Mem)) (v0 : Nat) (v1 : Nat) : Nat → Int32 → Int32 → Mem → Option (Int32 × Mem)
  | 0, _, _, _ => none
  | n + 1, v2, v3, μ => (gI μ v0 3 1).bind fun x6 => if x6 ≤ v3 then (G v2 μ) else ((isC μ v0 3).bind fun _ => bd (fX3_isDone v0 v1 ((v3 * (7 : Int32))) μ) fun x18 μ18 => if x18 = 0 then (X3_doAll_L4 G v0 v1 n v2 ((v3 + 1)) μ18) else (X3_doAll_L4 G v0 v1 n ((v2 + 1)) ((v3 + 1)) μ18))
set_option maxHeartbeats 4000000 in
set_option maxRecDepth 100000 in
theorem X3_doAll_L4_ok {p : Program} {l : Launch} {e : Env} {R : Room} {s : State} {m : MethodId} {args : Array Value} {below : List Frame} {meth : Method} {c : Code} {D : va_G} {ca : Nat → ClassId} {ad : Nat → Nat} {A : Nat → Prop} {X : State → Prop} (C : CX p R s m args meth c D ca ad A X cX3_doAll RX3 4 (some .int) 4) {G : Int32 → Mem → Option (Int32 × Mem)} (v0 : Nat) (v1 : Nat) (hG : ∀ (v2x : Int32) (μx : Mem), Sm p l e R s m args below meth c D ca ad A 4 0 0 wI (KQ below args s D ca ad A) 33 [(2, .int v2x)] [] μx (G v2x μx)) : ∀ (n : Nat) (v2 : Int32) (v3 : Int32) (μ : Mem), Sm p l e R s m args below meth c D ca ad A 4 0 0 wI (KQ below args s D ca ad A) 4 [(0, .ref v0), (1, .ref v1), (2, .int v2), (3, .int v3)] [] μ (X3_doAll_L4 G v0 v1 n v2 v3 μ) := by
  intro n
  induction n with
  | zero =>
    intro v2 v3 μ
    rw [X3_doAll_L4]
    exact E_none
  | succ n ih =>
    intro v2 v3 μ
    rw [X3_doAll_L4]
    refine E_iload_n C dX3_doAll_4 3 rfl ?_
    refine E_aload_n C dX3_doAll_5 0 rfl ?_
    refine E_getI C F_X3_15 dX3_doAll_6 (fun x6 => ?_)
    refine E_icmp_ge C 33 dX3_doAll_9 (by decide) ?_ ?_
    · exact E_pick [2] rfl (hG v2 μ)
    · refine E_at (pc2 := 12) rfl ?_
      refine E_aload_n C dX3_doAll_12 0 rfl ?_
      refine E_aload_n C dX3_doAll_13 1 rfl ?_
      refine E_iload_n C dX3_doAll_14 3 rfl ?_
      refine E_bipush C 7 dX3_doAll_15 (by decide) ?_
      refine E_imul C dX3_doAll_17 ?_
      refine E_callVI (st := []) C [.ref v1, .int ((v3 * (7 : Int32)))] (mX3_isDone v0 v1 ((v3 * (7 : Int32))) μ) cal_X3_isDone vir_X3_isDone lk_X3_75 dX3_doAll_18 rfl rfl (Nat.le_of_ble_eq_true rfl) (Nat.le_of_ble_eq_true rfl) (fun x18 μ18 => ?_)
      refine E_if_eq C 27 dX3_doAll_21 (by decide) ?_ ?_
      · refine E_iinc (lv' := [(3, .int ((v3 + 1))), (0, .ref v0), (1, .ref v1), (2, .int v2)]) C (v3 + 1) dX3_doAll_27 3 rfl rfl (by decide) rfl ?_
        refine E_goto C 4 dX3_doAll_30 (by decide) ?_
        exact E_pick [1, 2, 3, 0] rfl (ih v2 ((v3 + 1)) μ18)
      · refine E_at (pc2 := 24) rfl ?_
        refine E_iinc (lv' := [(2, .int ((v2 + 1))), (0, .ref v0), (1, .ref v1), (3, .int v3)]) C (v2 + 1) dX3_doAll_24 2 rfl rfl (by decide) rfl ?_
        refine E_at (pc2 := 27) rfl ?_
        refine E_iinc (lv' := [(3, .int ((v3 + 1))), (2, .int ((v2 + 1))), (0, .ref v0), (1, .ref v1)]) C (v3 + 1) dX3_doAll_27 3 rfl rfl (by decide) rfl ?_
        refine E_goto C 4 dX3_doAll_30 (by decide) ?_
        exact E_pick [2, 3, 1, 0] rfl (ih ((v2 + 1)) ((v3 + 1)) μ18)
def fX3_doAll (v0 : Nat) (v1 : Nat) (μ : Mem) : Option (Int32 × Mem) :=
  X3_doAll_L4 (fun v2_33 μ_33 => some (v2_33, μ_33)) v0 v1 FU ((0 : Int32)) ((0 : Int32)) μ
set_option maxHeartbeats 4000000 in
set_option maxRecDepth 100000 in
theorem mX3_doAll (v0 : Nat) (v1 : Nat) (μ : Mem) : Meth wI yX3_doAll cX3_doAll 4 (some .int) 4 [.ref v0, .ref v1] μ (fX3_doAll v0 v1 μ) := by
  refine Meth.of (by decide) [(0, .ref v0), (1, .ref v1)] rfl (Nat.le_of_ble_eq_true rfl) ?_
  intro p l e R s m args below meth c D ca ad A X C
  have C : CX p R s m args meth c D ca ad A X cX3_doAll RX3 4 (some .int) 4 := C
  unfold fX3_doAll
  refine E_iconst C 0 dX3_doAll_0 (by decide) ?_
  refine E_istore_n (lv' := [(2, .int ((0 : Int32))), (0, .ref v0), (1, .ref v1)]) C dX3_doAll_1 (by decide) rfl ?_
  refine E_iconst C 0 dX3_doAll_2 (by decide) ?_
  refine E_istore_n (lv' := [(3, .int ((0 : Int32))), (2, .int ((0 : Int32))), (0, .ref v0), (1, .ref v1)]) C dX3_doAll_3 (by decide) rfl ?_
  refine E_at (pc2 := 4) rfl ?_
  refine E_pick (lv' := [(0, .ref v0), (1, .ref v1), (2, .int ((0 : Int32))), (3, .int ((0 : Int32)))]) [2, 3, 1, 0] rfl ?_
  refine X3_doAll_L4_ok C v0 v1 (fun v2_33 μ_33 => ?_) FU ((0 : Int32)) ((0 : Int32)) μ
  refine E_iload_n C dX3_doAll_33 0 rfl ?_
  exact E_iret C dX3_doAll_34
def fX4_bestRelease (v0 : Nat) (v1 : Nat) (v2 : Int32) (v3 : Int32) (v4 : Int32) (μ : Mem) : Option (Int32 × Mem) :=
  (isC μ v0 0).bind fun _ => bd (fX0_isAhead v0 v2 v3 μ) fun x3 μ3 => if x3 = 0 then (some ((0 : Int32), μ3)) else ((isC μ3 v0 0).bind fun _ => bd (fX0_nearestState v0 v2 v4 μ3) fun x18 μ18 => (isC μ18 v1 1).bind fun _ => bd (fX1_releaseAt v1 v2 v3 x18 μ18) fun x21 μ21 => some (x21, μ21))
set_option maxHeartbeats 4000000 in
set_option maxRecDepth 100000 in
theorem mX4_bestRelease (v0 : Nat) (v1 : Nat) (v2 : Int32) (v3 : Int32) (v4 : Int32) (μ : Mem) : Meth wI yX4_bestRelease cX4_bestRelease 5 (some .int) 2 [.ref v0, .ref v1, .int v2, .int v3, .int v4] μ (fX4_bestRelease v0 v1 v2 v3 v4 μ) := by
  refine Meth.of (by decide) [(0, .ref v0), (1, .ref v1), (2, .int v2), (3, .int v3), (4, .int v4)] rfl (Nat.le_of_ble_eq_true rfl) ?_
  intro p l e R s m args below meth c D ca ad A X C
  have C : CX p R s m args meth c D ca ad A X cX4_bestRelease RX4 5 (some .int) 2 := C
  unfold fX4_bestRelease
  refine E_aload_n C dX4_bestRelease_0 0 rfl ?_
  refine E_iload_n C dX4_bestRelease_1 2 rfl ?_
  refine E_iload_n C dX4_bestRelease_2 3 rfl ?_
  refine E_callVI (st := []) C [.int v2, .int v3] (mX0_isAhead v0 v2 v3 μ) cal_X0_isAhead vir_X0_isAhead lk_X4_70 dX4_bestRelease_3 rfl rfl (Nat.le_of_ble_eq_true rfl) (Nat.le_of_ble_eq_true rfl) (fun x3 μ3 => ?_)
  refine E_if_ne C 11 dX4_bestRelease_6 (by decide) ?_ ?_
  · refine E_aload_n C dX4_bestRelease_11 1 rfl ?_
    refine E_iload_n C dX4_bestRelease_12 2 rfl ?_
    refine E_iload_n C dX4_bestRelease_13 3 rfl ?_
    refine E_aload_n C dX4_bestRelease_14 0 rfl ?_
    refine E_iload_n C dX4_bestRelease_15 2 rfl ?_
    refine E_iload C dX4_bestRelease_16 4 rfl ?_
    refine E_callVI (st := [.int v3, .int v2, .ref v1]) C [.int v2, .int v4] (mX0_nearestState v0 v2 v4 μ3) cal_X0_nearestState vir_X0_nearestState lk_X4_76 dX4_bestRelease_18 rfl rfl (Nat.le_of_ble_eq_true rfl) (Nat.le_of_ble_eq_true rfl) (fun x18 μ18 => ?_)
    refine E_callVI (st := []) C [.int v2, .int v3, .int x18] (mX1_releaseAt v1 v2 v3 x18 μ18) cal_X1_releaseAt vir_X1_releaseAt lk_X4_79 dX4_bestRelease_21 rfl rfl (Nat.le_of_ble_eq_true rfl) (Nat.le_of_ble_eq_true rfl) (fun x21 μ21 => ?_)
    exact E_iret C dX4_bestRelease_24
  · refine E_at (pc2 := 9) rfl ?_
    refine E_iconst C 0 dX4_bestRelease_9 (by decide) ?_
    exact E_iret C dX4_bestRelease_10
def fX7_go (v0 : Nat) (v1 : Nat) (v2 : Int32) (v3 : Int32) (v4 : Int32) (v5 : Int32) (μ : Mem) : Option (Unit × Mem) :=
  (isC μ v1 0).bind fun _ => bd (fX0_driedIn v1 v2 v3 μ) fun x4 μ4 => (pV μ4 v0 7 0 (.int x4)).bind fun μ7 => (gI μ7 v0 7 0).bind fun x13 => (pV μ7 v0 7 1 (.int (((v3 - x13) + v4)))).bind fun μ20 => (gI μ20 v0 7 1).bind fun x27 => (pV μ20 v0 7 2 (.int ((mnI v5 x27)))).bind fun μ33 => (gI μ33 v0 7 1).bind fun x37 => (gI μ33 v0 7 2).bind fun x41 => (isC μ33 v1 0).bind fun _ => bd (fX0_topOf v1 v2 μ33) fun x52 μ52 => (pV μ52 v0 7 4 (.int ((mnI ((x37 - x41)) x52)))).bind fun μ58 => (gI μ58 v0 7 4).bind fun x65 => (pV μ58 v0 7 3 (.int (((x37 - x41) - x65)))).bind fun μ69 => (gI μ69 v0 7 2).bind fun x76 => (isC μ69 v1 0).bind fun _ => bd (fX0_gainsOf v1 v2 x76 μ69) fun x79 μ79 => (gI μ79 v1 0 2).bind fun x83 => (gI μ79 v0 7 3).bind fun x87 => (pV μ79 v0 7 5 (.int ((x79 - (x83 * x87))))).bind fun μ92 => some ((), μ92)
set_option maxHeartbeats 4000000 in
set_option maxRecDepth 100000 in
theorem mX7_go (v0 : Nat) (v1 : Nat) (v2 : Int32) (v3 : Int32) (v4 : Int32) (v5 : Int32) (μ : Mem) : Meth wU yX7_go cX7_go 7 none 3 [.ref v0, .ref v1, .int v2, .int v3, .int v4, .int v5] μ (fX7_go v0 v1 v2 v3 v4 v5 μ) := by
  refine Meth.of (by decide) [(0, .ref v0), (1, .ref v1), (2, .int v2), (3, .int v3), (4, .int v4), (5, .int v5)] rfl (Nat.le_of_ble_eq_true rfl) ?_
  intro p l e R s m args below meth c D ca ad A X C
  have C : CX p R s m args meth c D ca ad A X cX7_go RX7 7 none 3 := C
  unfold fX7_go
  refine E_aload_n C dX7_go_0 0 rfl ?_
  refine E_aload_n C dX7_go_1 1 rfl ?_
  refine E_iload_n C dX7_go_2 2 rfl ?_
  refine E_iload_n C dX7_go_3 3 rfl ?_
  refine E_callVI (st := [.ref v0]) C [.int v2, .int v3] (mX0_driedIn v1 v2 v3 μ) cal_X0_driedIn vir_X0_driedIn lk_X7_30 dX7_go_4 rfl rfl (Nat.le_of_ble_eq_true rfl) (Nat.le_of_ble_eq_true rfl) (fun x4 μ4 => ?_)
  refine E_putI C P_X7_9 dX7_go_7 (fun μ7 => ?_)
  refine E_aload_n C dX7_go_10 0 rfl ?_
  refine E_iload_n C dX7_go_11 3 rfl ?_
  refine E_aload_n C dX7_go_12 0 rfl ?_
  refine E_getI C F_X7_9 dX7_go_13 (fun x13 => ?_)
  refine E_isub C dX7_go_16 ?_
  refine E_iload C dX7_go_17 4 rfl ?_
  refine E_iadd C dX7_go_19 ?_
  refine E_putI C P_X7_15 dX7_go_20 (fun μ20 => ?_)
  refine E_aload_n C dX7_go_23 0 rfl ?_
  refine E_iload C dX7_go_24 5 rfl ?_
  refine E_aload_n C dX7_go_26 0 rfl ?_
  refine E_getI C F_X7_15 dX7_go_27 (fun x27 => ?_)
  refine E_mmin C lk_X7_36 st_Math_min in_Math co_Math_min dX7_go_30 (Nat.le_of_ble_eq_true rfl) (Nat.le_of_ble_eq_true rfl) ?_
  refine E_putI C P_X7_18 dX7_go_33 (fun μ33 => ?_)
  refine E_aload_n C dX7_go_36 0 rfl ?_
  refine E_getI C F_X7_15 dX7_go_37 (fun x37 => ?_)
  refine E_aload_n C dX7_go_40 0 rfl ?_
  refine E_getI C F_X7_18 dX7_go_41 (fun x41 => ?_)
  refine E_isub C dX7_go_44 ?_
  refine E_istore (lv' := [(6, .int ((x37 - x41))), (0, .ref v0), (1, .ref v1), (2, .int v2), (3, .int v3), (4, .int v4), (5, .int v5)]) C dX7_go_45 (by decide) rfl ?_
  refine E_aload_n C dX7_go_47 1 rfl ?_
  refine E_iload C dX7_go_48 0 rfl ?_
  refine E_aload_n C dX7_go_50 2 rfl ?_
  refine E_iload_n C dX7_go_51 3 rfl ?_
  refine E_callVI (st := [.int ((x37 - x41)), .ref v0]) C [.int v2] (mX0_topOf v1 v2 μ33) cal_X0_topOf vir_X0_topOf lk_X7_41 dX7_go_52 rfl rfl (Nat.le_of_ble_eq_true rfl) (Nat.le_of_ble_eq_true rfl) (fun x52 μ52 => ?_)
  refine E_mmin C lk_X7_36 st_Math_min in_Math co_Math_min dX7_go_55 (Nat.le_of_ble_eq_true rfl) (Nat.le_of_ble_eq_true rfl) ?_
  refine E_putI C P_X7_24 dX7_go_58 (fun μ58 => ?_)
  refine E_aload_n C dX7_go_61 1 rfl ?_
  refine E_iload C dX7_go_62 0 rfl ?_
  refine E_aload_n C dX7_go_64 1 rfl ?_
  refine E_getI C F_X7_24 dX7_go_65 (fun x65 => ?_)
  refine E_isub C dX7_go_68 ?_
  refine E_putI C P_X7_21 dX7_go_69 (fun μ69 => ?_)
  refine E_aload_n C dX7_go_72 1 rfl ?_
  refine E_aload_n C dX7_go_73 2 rfl ?_
  refine E_iload_n C dX7_go_74 3 rfl ?_
  refine E_aload_n C dX7_go_75 1 rfl ?_
  refine E_getI C F_X7_18 dX7_go_76 (fun x76 => ?_)
  refine E_callVI (st := [.ref v0]) C [.int v2, .int x76] (mX0_gainsOf v1 v2 x76 μ69) cal_X0_gainsOf vir_X0_gainsOf lk_X7_45 dX7_go_79 rfl rfl (Nat.le_of_ble_eq_true rfl) (Nat.le_of_ble_eq_true rfl) (fun x79 μ79 => ?_)
  refine E_aload_n C dX7_go_82 2 rfl ?_
  refine E_getI C F_X7_48 dX7_go_83 (fun x83 => ?_)
  refine E_aload_n C dX7_go_86 1 rfl ?_
  refine E_getI C F_X7_21 dX7_go_87 (fun x87 => ?_)
  refine E_imul C dX7_go_90 ?_
  refine E_isub C dX7_go_91 ?_
  refine E_putI C P_X7_27 dX7_go_92 (fun μ92 => ?_)
  exact E_ret C dX7_go_95
def X4_go_L44 (G : Mem → Option (Unit × Mem)) (v0 : Nat) (v1 : Nat) (v2 : Nat) (v3 : Nat) (v5 : Int32) : Nat → Int32 → Mem → Option (Unit × Mem)
  | 0, _, _ => none
  | n + 1, v7, μ => (gI μ v0 4 3).bind fun x47 => if x47 ≤ v7 then (G μ) else ((rmI v7 ((12 : Int32))).bind fun x57 => (isC μ v3 6).bind fun _ => bd (fX6_at v3 v7 ((0 : Int32)) μ) fun x64 μ64 => jn (fun (s0_95 : Int32) (μ_95 : Mem) => (gR μ_95 v0 4 0).bind fun x98 => (gR μ_95 v0 4 1).bind fun x105 => (aI μ_95 0 x105 v7).bind fun x110 => (isC μ_95 x98 7).bind fun _ => bd (fX7_go x98 v1 x57 x110 x64 s0_95 μ_95) fun _ μ115 => (gI μ115 v0 4 4).bind fun x120 => (gR μ115 v0 4 0).bind fun x124 => (gI μ115 x124 7 5).bind fun x127 => (pV μ115 v0 4 4 (.int ((x120 + x127)))).bind fun μ131 => (gI μ131 v0 4 5).bind fun x136 => (gR μ131 v0 4 0).bind fun x140 => (gI μ131 x140 7 3).bind fun x143 => (pV μ131 v0 4 5 (.int ((x136 + x143)))).bind fun μ147 => (gI μ147 v0 4 6).bind fun x152 => (gR μ147 v0 4 0).bind fun x156 => (gI μ147 x156 7 0).bind fun x159 => (pV μ147 v0 4 6 (.int ((x152 + x159)))).bind fun μ163 => (gI μ163 v0 4 7).bind fun x168 => (gR μ163 v0 4 0).bind fun x172 => (gI μ163 x172 7 2).bind fun x175 => (pV μ163 v0 4 7 (.int ((x168 + x175)))).bind fun μ179 => (gR μ179 v0 4 2).bind fun x183 => (gR μ179 v0 4 0).bind fun x189 => (gI μ179 x189 7 2).bind fun x192 => (sI μ179 x183 v7 x192).bind fun μ195 => (gR μ195 v0 4 1).bind fun x197 => (gR μ195 v0 4 0).bind fun x205 => (gI μ195 x205 7 4).bind fun x208 => (sI μ195 x197 ((v7 + (1 : Int32))) x208).bind fun μ211 => X4_go_L44 G v0 v1 v2 v3 v5 n ((v7 + 1)) μ211) (fun j95 => if v5 = 0 then ((gR μ64 v0 4 1).bind fun x79 => (aI μ64 0 x79 v7).bind fun x84 => bd (fX4_bestRelease v1 v2 x57 x84 x64 μ64) fun x87 μ87 => j95 x87 μ87) else (j95 v5 μ64)))
set_option maxHeartbeats 4000000 in
set_option maxRecDepth 100000 in
theorem X4_go_L44_ok {p : Program} {l : Launch} {e : Env} {R : Room} {s : State} {m : MethodId} {args : Array Value} {below : List Frame} {meth : Method} {c : Code} {D : va_G} {ca : Nat → ClassId} {ad : Nat → Nat} {A : Nat → Prop} {X : State → Prop} (C : CX p R s m args meth c D ca ad A X cX4_go RX4 11 none 4) {G : Mem → Option (Unit × Mem)} (v0 : Nat) (v1 : Nat) (v2 : Nat) (v3 : Nat) (v5 : Int32) (hG : ∀  (μx : Mem), Sm p l e R s m args below meth c D ca ad A 11 0 0 wU (KQ below args s D ca ad A) 218 [] [] μx (G  μx)) : ∀ (n : Nat) (v7 : Int32) (μ : Mem), Sm p l e R s m args below meth c D ca ad A 11 0 0 wU (KQ below args s D ca ad A) 44 [(0, .ref v0), (1, .ref v1), (2, .ref v2), (3, .ref v3), (5, .int v5), (7, .int v7)] [] μ (X4_go_L44 G v0 v1 v2 v3 v5 n v7 μ) := by
  intro n
  induction n with
  | zero =>
    intro v7 μ
    rw [X4_go_L44]
    exact E_none
  | succ n ih =>
    intro v7 μ
    rw [X4_go_L44]
    refine E_iload C dX4_go_44 5 rfl ?_
    refine E_aload_n C dX4_go_46 0 rfl ?_
    refine E_getI C F_X4_25 dX4_go_47 (fun x47 => ?_)
    refine E_icmp_ge C 218 dX4_go_50 (by decide) ?_ ?_
    · exact E_pick [] rfl (hG μ)
    · refine E_at (pc2 := 53) rfl ?_
      refine E_iload C dX4_go_53 5 rfl ?_
      refine E_bipush C 12 dX4_go_55 (by decide) ?_
      refine E_irem C dX4_go_57 (fun x57 => ?_)
      refine E_istore (lv' := [(8, .int x57), (0, .ref v0), (1, .ref v1), (2, .ref v2), (3, .ref v3), (5, .int v5), (7, .int v7)]) C dX4_go_58 (by decide) rfl ?_
      refine E_aload_n C dX4_go_60 4 rfl ?_
      refine E_iload C dX4_go_61 6 rfl ?_
      refine E_iconst C 0 dX4_go_63 (by decide) ?_
      refine E_callVI (st := []) C [.int v7, .int ((0 : Int32))] (mX6_at v3 v7 ((0 : Int32)) μ) cal_X6_at vir_X6_at lk_X4_52 dX4_go_64 rfl rfl (Nat.le_of_ble_eq_true rfl) (Nat.le_of_ble_eq_true rfl) (fun x64 μ64 => ?_)
      refine E_istore (lv' := [(9, .int x64), (8, .int x57), (0, .ref v0), (1, .ref v1), (2, .ref v2), (3, .ref v3), (5, .int v5), (7, .int v7)]) C dX4_go_67 (by decide) rfl ?_
      refine E_iload C dX4_go_69 6 rfl ?_
      refine E_jn (fun j95 => ∀ (s0_95 : Int32) (μ_95 : Mem), Sm p l e R s m args below meth c D ca ad A 11 0 0 wU (KQ below args s D ca ad A) 95 [(0, .ref v0), (1, .ref v1), (2, .ref v2), (3, .ref v3), (5, .int v5), (7, .int v7), (8, .int x57), (9, .int x64)] [.int s0_95] μ_95 (j95 s0_95 μ_95)) ?_ (fun j95 hj95 => ?_)
      · intro s0_95 μ_95
        refine E_istore (lv' := [(10, .int s0_95), (0, .ref v0), (1, .ref v1), (2, .ref v2), (3, .ref v3), (5, .int v5), (7, .int v7), (8, .int x57), (9, .int x64)]) C dX4_go_95 (by decide) rfl ?_
        refine E_aload_n C dX4_go_97 1 rfl ?_
        refine E_getR C F_X4_12 dX4_go_98 (fun x98 => ?_)
        refine E_aload_n C dX4_go_101 2 rfl ?_
        refine E_iload C dX4_go_102 7 rfl ?_
        refine E_aload_n C dX4_go_104 1 rfl ?_
        refine E_getR C F_X4_18 dX4_go_105 (fun x105 => ?_)
        refine E_iload C dX4_go_108 6 rfl ?_
        refine E_iaload C dX4_go_110 (fun x110 => ?_)
        refine E_iload C dX4_go_111 8 rfl ?_
        refine E_iload C dX4_go_113 0 rfl ?_
        refine E_callVU (st := []) C [.ref v1, .int x57, .int x110, .int x64, .int s0_95] (mX7_go x98 v1 x57 x110 x64 s0_95 μ_95) cal_X7_go vir_X7_go lk_X4_59 dX4_go_115 rfl rfl (Nat.le_of_ble_eq_true rfl) (Nat.le_of_ble_eq_true rfl) (fun _ μ115 => ?_)
        refine E_aload_n C dX4_go_118 1 rfl ?_
        refine E_dup_r C dX4_go_119 ?_
        refine E_getI C F_X4_29 dX4_go_120 (fun x120 => ?_)
        refine E_aload_n C dX4_go_123 1 rfl ?_
        refine E_getR C F_X4_12 dX4_go_124 (fun x124 => ?_)
        refine E_getI C F_X4_63 dX4_go_127 (fun x127 => ?_)
        refine E_iadd C dX4_go_130 ?_
        refine E_putI C P_X4_29 dX4_go_131 (fun μ131 => ?_)
        refine E_aload_n C dX4_go_134 1 rfl ?_
        refine E_dup_r C dX4_go_135 ?_
        refine E_getI C F_X4_32 dX4_go_136 (fun x136 => ?_)
        refine E_aload_n C dX4_go_139 1 rfl ?_
        refine E_getR C F_X4_12 dX4_go_140 (fun x140 => ?_)
        refine E_getI C F_X4_64 dX4_go_143 (fun x143 => ?_)
        refine E_iadd C dX4_go_146 ?_
        refine E_putI C P_X4_32 dX4_go_147 (fun μ147 => ?_)
        refine E_aload_n C dX4_go_150 1 rfl ?_
        refine E_dup_r C dX4_go_151 ?_
        refine E_getI C F_X4_35 dX4_go_152 (fun x152 => ?_)
        refine E_aload_n C dX4_go_155 1 rfl ?_
        refine E_getR C F_X4_12 dX4_go_156 (fun x156 => ?_)
        refine E_getI C F_X4_65 dX4_go_159 (fun x159 => ?_)
        refine E_iadd C dX4_go_162 ?_
        refine E_putI C P_X4_35 dX4_go_163 (fun μ163 => ?_)
        refine E_aload_n C dX4_go_166 1 rfl ?_
        refine E_dup_r C dX4_go_167 ?_
        refine E_getI C F_X4_38 dX4_go_168 (fun x168 => ?_)
        refine E_aload_n C dX4_go_171 1 rfl ?_
        refine E_getR C F_X4_12 dX4_go_172 (fun x172 => ?_)
        refine E_getI C F_X4_66 dX4_go_175 (fun x175 => ?_)
        refine E_iadd C dX4_go_178 ?_
        refine E_putI C P_X4_38 dX4_go_179 (fun μ179 => ?_)
        refine E_aload_n C dX4_go_182 1 rfl ?_
        refine E_getR C F_X4_22 dX4_go_183 (fun x183 => ?_)
        refine E_iload C dX4_go_186 6 rfl ?_
        refine E_aload_n C dX4_go_188 1 rfl ?_
        refine E_getR C F_X4_12 dX4_go_189 (fun x189 => ?_)
        refine E_getI C F_X4_66 dX4_go_192 (fun x192 => ?_)
        refine E_iastore C dX4_go_195 (fun μ195 => ?_)
        refine E_aload_n C dX4_go_196 1 rfl ?_
        refine E_getR C F_X4_18 dX4_go_197 (fun x197 => ?_)
        refine E_iload C dX4_go_200 6 rfl ?_
        refine E_iconst C 1 dX4_go_202 (by decide) ?_
        refine E_iadd C dX4_go_203 ?_
        refine E_aload_n C dX4_go_204 1 rfl ?_
        refine E_getR C F_X4_12 dX4_go_205 (fun x205 => ?_)
        refine E_getI C F_X4_67 dX4_go_208 (fun x208 => ?_)
        refine E_iastore C dX4_go_211 (fun μ211 => ?_)
        refine E_iinc (lv' := [(7, .int ((v7 + 1))), (10, .int s0_95), (0, .ref v0), (1, .ref v1), (2, .ref v2), (3, .ref v3), (5, .int v5), (8, .int x57), (9, .int x64)]) C (v7 + 1) dX4_go_212 6 rfl rfl (by decide) rfl ?_
        refine E_goto C 44 dX4_go_215 (by decide) ?_
        exact E_pick [2, 3, 4, 5, 6, 0] rfl (ih ((v7 + 1)) μ211)
      · refine E_if_ne C 93 dX4_go_71 (by decide) ?_ ?_
        · refine E_iload C dX4_go_93 6 rfl ?_
          exact E_pick [2, 3, 4, 5, 6, 7, 1, 0] rfl (hj95 v5 μ64)
        · refine E_at (pc2 := 74) rfl ?_
          refine E_aload_n C dX4_go_74 3 rfl ?_
          refine E_aload_n C dX4_go_75 4 rfl ?_
          refine E_iload C dX4_go_76 1 rfl ?_
          refine E_aload_n C dX4_go_78 2 rfl ?_
          refine E_getR C F_X4_18 dX4_go_79 (fun x79 => ?_)
          refine E_iload C dX4_go_82 7 rfl ?_
          refine E_iaload C dX4_go_84 (fun x84 => ?_)
          refine E_iload C dX4_go_85 0 rfl ?_
          refine E_callSI (st := []) C [.ref v1, .ref v2, .int x57, .int x84, .int x64] (mX4_bestRelease v1 v2 x57 x84 x64 μ64) cal_X4_bestRelease st_X4_bestRelease lk_X4_55 dX4_go_87 rfl rfl (Nat.le_of_ble_eq_true rfl) (Nat.le_of_ble_eq_true rfl) (fun x87 μ87 => ?_)
          refine E_goto C 95 dX4_go_90 (by decide) ?_
          exact E_pick [2, 3, 4, 5, 6, 7, 1, 0] rfl (hj95 x87 μ87)
def fX4_go (v0 : Nat) (v1 : Nat) (v2 : Nat) (v3 : Nat) (v4 : Int32) (v5 : Int32) (v6 : Int32) (μ : Mem) : Option (Unit × Mem) :=
  (gI μ v3 6 3).bind fun x4 => (pV μ v0 4 3 (.int ((mnI v6 x4)))).bind fun μ10 => (pV μ10 v0 4 4 (.int ((0 : Int32)))).bind fun μ15 => (pV μ15 v0 4 5 (.int ((0 : Int32)))).bind fun μ20 => (pV μ20 v0 4 6 (.int ((0 : Int32)))).bind fun μ25 => (pV μ25 v0 4 7 (.int ((0 : Int32)))).bind fun μ30 => (gR μ30 v0 4 1).bind fun x34 => (sI μ30 x34 ((0 : Int32)) v4).bind fun μ40 => X4_go_L44 (fun μ_218 => some ((), μ_218)) v0 v1 v2 v3 v5 FU ((0 : Int32)) μ40
set_option maxHeartbeats 4000000 in
set_option maxRecDepth 100000 in
theorem mX4_go (v0 : Nat) (v1 : Nat) (v2 : Nat) (v3 : Nat) (v4 : Int32) (v5 : Int32) (v6 : Int32) (μ : Mem) : Meth wU yX4_go cX4_go 11 none 4 [.ref v0, .ref v1, .ref v2, .ref v3, .int v4, .int v5, .int v6] μ (fX4_go v0 v1 v2 v3 v4 v5 v6 μ) := by
  refine Meth.of (by decide) [(0, .ref v0), (1, .ref v1), (2, .ref v2), (3, .ref v3), (4, .int v4), (5, .int v5), (6, .int v6)] rfl (Nat.le_of_ble_eq_true rfl) ?_
  intro p l e R s m args below meth c D ca ad A X C
  have C : CX p R s m args meth c D ca ad A X cX4_go RX4 11 none 4 := C
  unfold fX4_go
  refine E_aload_n C dX4_go_0 0 rfl ?_
  refine E_iload C dX4_go_1 6 rfl ?_
  refine E_aload_n C dX4_go_3 3 rfl ?_
  refine E_getI C F_X4_41 dX4_go_4 (fun x4 => ?_)
  refine E_mmin C lk_X4_46 st_Math_min in_Math co_Math_min dX4_go_7 (Nat.le_of_ble_eq_true rfl) (Nat.le_of_ble_eq_true rfl) ?_
  refine E_putI C P_X4_25 dX4_go_10 (fun μ10 => ?_)
  refine E_aload_n C dX4_go_13 0 rfl ?_
  refine E_iconst C 0 dX4_go_14 (by decide) ?_
  refine E_putI C P_X4_29 dX4_go_15 (fun μ15 => ?_)
  refine E_aload_n C dX4_go_18 0 rfl ?_
  refine E_iconst C 0 dX4_go_19 (by decide) ?_
  refine E_putI C P_X4_32 dX4_go_20 (fun μ20 => ?_)
  refine E_aload_n C dX4_go_23 0 rfl ?_
  refine E_iconst C 0 dX4_go_24 (by decide) ?_
  refine E_putI C P_X4_35 dX4_go_25 (fun μ25 => ?_)
  refine E_aload_n C dX4_go_28 0 rfl ?_
  refine E_iconst C 0 dX4_go_29 (by decide) ?_
  refine E_putI C P_X4_38 dX4_go_30 (fun μ30 => ?_)
  refine E_aload_n C dX4_go_33 0 rfl ?_
  refine E_getR C F_X4_18 dX4_go_34 (fun x34 => ?_)
  refine E_iconst C 0 dX4_go_37 (by decide) ?_
  refine E_iload C dX4_go_38 4 rfl ?_
  refine E_iastore C dX4_go_40 (fun μ40 => ?_)
  refine E_iconst C 0 dX4_go_41 (by decide) ?_
  refine E_istore (lv' := [(7, .int ((0 : Int32))), (0, .ref v0), (1, .ref v1), (2, .ref v2), (3, .ref v3), (4, .int v4), (5, .int v5), (6, .int v6)]) C dX4_go_42 (by decide) rfl ?_
  refine E_at (pc2 := 44) rfl ?_
  refine E_pick (lv' := [(0, .ref v0), (1, .ref v1), (2, .ref v2), (3, .ref v3), (5, .int v5), (7, .int ((0 : Int32)))]) [1, 2, 3, 4, 6, 0] rfl ?_
  refine X4_go_L44_ok C v0 v1 v2 v3 v5 (fun μ_218 => ?_) FU ((0 : Int32)) μ40
  exact E_ret C dX4_go_218
def X4_leastStore_L9 (G : Int32 → Mem → Option (Int32 × Mem)) (v0 : Nat) : Nat → Int32 → Int32 → Mem → Option (Int32 × Mem)
  | 0, _, _, _ => none
  | n + 1, v1, v2, μ => (gI μ v0 4 3).bind fun x11 => if x11 < v2 then (G v1 μ) else ((gR μ v0 4 1).bind fun x19 => (aI μ 0 x19 v2).bind fun x23 => X4_leastStore_L9 G v0 n ((mnI v1 x23)) ((v2 + 1)) μ)
set_option maxHeartbeats 4000000 in
set_option maxRecDepth 100000 in
theorem X4_leastStore_L9_ok {p : Program} {l : Launch} {e : Env} {R : Room} {s : State} {m : MethodId} {args : Array Value} {below : List Frame} {meth : Method} {c : Code} {D : va_G} {ca : Nat → ClassId} {ad : Nat → Nat} {A : Nat → Prop} {X : State → Prop} (C : CX p R s m args meth c D ca ad A X cX4_leastStore RX4 3 (some .int) 1) {G : Int32 → Mem → Option (Int32 × Mem)} (v0 : Nat) (hG : ∀ (v1x : Int32) (μx : Mem), Sm p l e R s m args below meth c D ca ad A 3 0 0 wI (KQ below args s D ca ad A) 34 [(1, .int v1x)] [] μx (G v1x μx)) : ∀ (n : Nat) (v1 : Int32) (v2 : Int32) (μ : Mem), Sm p l e R s m args below meth c D ca ad A 3 0 0 wI (KQ below args s D ca ad A) 9 [(0, .ref v0), (1, .int v1), (2, .int v2)] [] μ (X4_leastStore_L9 G v0 n v1 v2 μ) := by
  intro n
  induction n with
  | zero =>
    intro v1 v2 μ
    rw [X4_leastStore_L9]
    exact E_none
  | succ n ih =>
    intro v1 v2 μ
    rw [X4_leastStore_L9]
    refine E_iload_n C dX4_leastStore_9 2 rfl ?_
    refine E_aload_n C dX4_leastStore_10 0 rfl ?_
    refine E_getI C F_X4_25 dX4_leastStore_11 (fun x11 => ?_)
    refine E_icmp_gt C 34 dX4_leastStore_14 (by decide) ?_ ?_
    · exact E_pick [1] rfl (hG v1 μ)
    · refine E_at (pc2 := 17) rfl ?_
      refine E_iload_n C dX4_leastStore_17 1 rfl ?_
      refine E_aload_n C dX4_leastStore_18 0 rfl ?_
      refine E_getR C F_X4_18 dX4_leastStore_19 (fun x19 => ?_)
      refine E_iload_n C dX4_leastStore_22 2 rfl ?_
      refine E_iaload C dX4_leastStore_23 (fun x23 => ?_)
      refine E_mmin C lk_X4_46 st_Math_min in_Math co_Math_min dX4_leastStore_24 (Nat.le_of_ble_eq_true rfl) (Nat.le_of_ble_eq_true rfl) ?_
      refine E_istore_n (lv' := [(1, .int ((mnI v1 x23))), (0, .ref v0), (2, .int v2)]) C dX4_leastStore_27 (by decide) rfl ?_
      refine E_iinc (lv' := [(2, .int ((v2 + 1))), (1, .int ((mnI v1 x23))), (0, .ref v0)]) C (v2 + 1) dX4_leastStore_28 2 rfl rfl (by decide) rfl ?_
      refine E_goto C 9 dX4_leastStore_31 (by decide) ?_
      exact E_pick [2, 1, 0] rfl (ih ((mnI v1 x23)) ((v2 + 1)) μ)
def fX4_leastStore (v0 : Nat) (μ : Mem) : Option (Int32 × Mem) :=
  (gR μ v0 4 1).bind fun x1 => (aI μ 0 x1 ((0 : Int32))).bind fun x5 => X4_leastStore_L9 (fun v1_34 μ_34 => some (v1_34, μ_34)) v0 FU x5 ((1 : Int32)) μ
set_option maxHeartbeats 4000000 in
set_option maxRecDepth 100000 in
theorem mX4_leastStore (v0 : Nat) (μ : Mem) : Meth wI yX4_leastStore cX4_leastStore 3 (some .int) 1 [.ref v0] μ (fX4_leastStore v0 μ) := by
  refine Meth.of (by decide) [(0, .ref v0)] rfl (Nat.le_of_ble_eq_true rfl) ?_
  intro p l e R s m args below meth c D ca ad A X C
  have C : CX p R s m args meth c D ca ad A X cX4_leastStore RX4 3 (some .int) 1 := C
  unfold fX4_leastStore
  refine E_aload_n C dX4_leastStore_0 0 rfl ?_
  refine E_getR C F_X4_18 dX4_leastStore_1 (fun x1 => ?_)
  refine E_iconst C 0 dX4_leastStore_4 (by decide) ?_
  refine E_iaload C dX4_leastStore_5 (fun x5 => ?_)
  refine E_istore_n (lv' := [(1, .int x5), (0, .ref v0)]) C dX4_leastStore_6 (by decide) rfl ?_
  refine E_iconst C 1 dX4_leastStore_7 (by decide) ?_
  refine E_istore_n (lv' := [(2, .int ((1 : Int32))), (1, .int x5), (0, .ref v0)]) C dX4_leastStore_8 (by decide) rfl ?_
  refine E_at (pc2 := 9) rfl ?_
  refine E_pick (lv' := [(0, .ref v0), (1, .int x5), (2, .int ((1 : Int32)))]) [2, 1, 0] rfl ?_
  refine X4_leastStore_L9_ok C v0 (fun v1_34 μ_34 => ?_) FU x5 ((1 : Int32)) μ
  refine E_iload_n C dX4_leastStore_34 0 rfl ?_
  exact E_iret C dX4_leastStore_35
def fX4_tell (v0 : Nat) (v1 : Int32) (μ : Mem) : Option (Int64 × Mem) :=
  if v1 = 0 then ((gR μ v0 4 1).bind fun x41 => (gI μ v0 4 3).bind fun x45 => (aI μ 0 x41 x45).bind fun x48 => some (x48.toInt64, μ)) else if v1 = 1 then ((gI μ v0 4 4).bind fun x52 => some (x52.toInt64, μ)) else if v1 = 2 then ((gI μ v0 4 5).bind fun x58 => some (x58.toInt64, μ)) else if v1 = 3 then ((gI μ v0 4 6).bind fun x64 => some (x64.toInt64, μ)) else if v1 = 4 then ((gI μ v0 4 7).bind fun x70 => some (x70.toInt64, μ)) else if v1 = 5 then ((isC μ v0 4).bind fun _ => bd (fX4_leastStore v0 μ) fun x76 μ76 => some (x76.toInt64, μ76)) else (some ((-9223372036854775808 : Int64), μ))
set_option maxHeartbeats 4000000 in
set_option maxRecDepth 100000 in
theorem mX4_tell (v0 : Nat) (v1 : Int32) (μ : Mem) : Meth wJ yX4_tell cX4_tell 2 (some .long) 2 [.ref v0, .int v1] μ (fX4_tell v0 v1 μ) := by
  refine Meth.of (by decide) [(0, .ref v0), (1, .int v1)] rfl (Nat.le_of_ble_eq_true rfl) ?_
  intro p l e R s m args below meth c D ca ad A X C
  have C : CX p R s m args meth c D ca ad A X cX4_tell RX4 2 (some .long) 2 := C
  unfold fX4_tell
  refine E_iload_n C dX4_tell_0 1 rfl ?_
  refine E_ite (fun h1_0 => ?_) (fun h1_0 => ?_)
  · refine E_tabIn (kx := 0) (off := 39) C 40 h1_0 dX4_tell_1 (by decide +kernel) (by decide) ?_
    refine E_aload_n C dX4_tell_40 0 rfl ?_
    refine E_getR C F_X4_18 dX4_tell_41 (fun x41 => ?_)
    refine E_aload_n C dX4_tell_44 0 rfl ?_
    refine E_getI C F_X4_25 dX4_tell_45 (fun x45 => ?_)
    refine E_iaload C dX4_tell_48 (fun x48 => ?_)
    refine E_i2l C dX4_tell_49 ?_
    exact E_lret C dX4_tell_50
  · refine E_ite (fun h1_1 => ?_) (fun h1_1 => ?_)
    · refine E_tabIn (kx := 1) (off := 50) C 51 h1_1 dX4_tell_1 (by decide +kernel) (by decide) ?_
      refine E_aload_n C dX4_tell_51 0 rfl ?_
      refine E_getI C F_X4_29 dX4_tell_52 (fun x52 => ?_)
      refine E_i2l C dX4_tell_55 ?_
      exact E_lret C dX4_tell_56
    · refine E_ite (fun h1_2 => ?_) (fun h1_2 => ?_)
      · refine E_tabIn (kx := 2) (off := 56) C 57 h1_2 dX4_tell_1 (by decide +kernel) (by decide) ?_
        refine E_aload_n C dX4_tell_57 0 rfl ?_
        refine E_getI C F_X4_32 dX4_tell_58 (fun x58 => ?_)
        refine E_i2l C dX4_tell_61 ?_
        exact E_lret C dX4_tell_62
      · refine E_ite (fun h1_3 => ?_) (fun h1_3 => ?_)
        · refine E_tabIn (kx := 3) (off := 62) C 63 h1_3 dX4_tell_1 (by decide +kernel) (by decide) ?_
          refine E_aload_n C dX4_tell_63 0 rfl ?_
          refine E_getI C F_X4_35 dX4_tell_64 (fun x64 => ?_)
          refine E_i2l C dX4_tell_67 ?_
          exact E_lret C dX4_tell_68
        · refine E_ite (fun h1_4 => ?_) (fun h1_4 => ?_)
          · refine E_tabIn (kx := 4) (off := 68) C 69 h1_4 dX4_tell_1 (by decide +kernel) (by decide) ?_
            refine E_aload_n C dX4_tell_69 0 rfl ?_
            refine E_getI C F_X4_38 dX4_tell_70 (fun x70 => ?_)
            refine E_i2l C dX4_tell_73 ?_
            exact E_lret C dX4_tell_74
          · refine E_ite (fun h1_5 => ?_) (fun h1_5 => ?_)
            · refine E_tabIn (kx := 5) (off := 74) C 75 h1_5 dX4_tell_1 (by decide +kernel) (by decide) ?_
              refine E_aload_n C dX4_tell_75 0 rfl ?_
              refine E_callVI (st := []) C [] (mX4_leastStore v0 μ) cal_X4_leastStore vir_X4_leastStore lk_X4_85 dX4_tell_76 rfl rfl (Nat.le_of_ble_eq_true rfl) (Nat.le_of_ble_eq_true rfl) (fun x76 μ76 => ?_)
              refine E_i2l C dX4_tell_79 ?_
              exact E_lret C dX4_tell_80
            · refine E_tabOut C 81 dX4_tell_1 (by have q0 := i32_ne h1_0 (n := 0) rfl; have q1 := i32_ne h1_1 (n := 1) rfl; have q2 := i32_ne h1_2 (n := 2) rfl; have q3 := i32_ne h1_3 (n := 3) rfl; have q4 := i32_ne h1_4 (n := 4) rfl; have q5 := i32_ne h1_5 (n := 5) rfl; omega) (by decide) ?_
              refine E_ldc2 C dX4_tell_81 k_X4_89 ?_
              exact E_lret C dX4_tell_84
def X4_monthsWanting_L5 (G : Int32 → Mem → Option (Int32 × Mem)) (v0 : Nat) (v1 : Nat) (v2 : Int32) : Nat → Int32 → Int32 → Mem → Option (Int32 × Mem)
  | 0, _, _, _ => none
  | n + 1, v3, v4, μ => (gI μ v0 4 3).bind fun x8 => if x8 ≤ v4 then (G v3 μ) else ((gR μ v1 0 8).bind fun x15 => (aR μ 4 x15 v2).bind fun x19 => (rmI v4 ((12 : Int32))).bind fun x24 => (isC μ x19 5).bind fun _ => bd (fX5_wantedIn x19 x24 μ) fun x25 μ25 => if x25 ≤ 0 then (X4_monthsWanting_L5 G v0 v1 v2 n v3 ((v4 + 1)) μ25) else (X4_monthsWanting_L5 G v0 v1 v2 n ((v3 + 1)) ((v4 + 1)) μ25))
set_option maxHeartbeats 4000000 in
set_option maxRecDepth 100000 in
theorem X4_monthsWanting_L5_ok {p : Program} {l : Launch} {e : Env} {R : Room} {s : State} {m : MethodId} {args : Array Value} {below : List Frame} {meth : Method} {c : Code} {D : va_G} {ca : Nat → ClassId} {ad : Nat → Nat} {A : Nat → Prop} {X : State → Prop} (C : CX p R s m args meth c D ca ad A X cX4_monthsWanting RX4 5 (some .int) 2) {G : Int32 → Mem → Option (Int32 × Mem)} (v0 : Nat) (v1 : Nat) (v2 : Int32) (hG : ∀ (v3x : Int32) (μx : Mem), Sm p l e R s m args below meth c D ca ad A 5 0 0 wI (KQ below args s D ca ad A) 40 [(3, .int v3x)] [] μx (G v3x μx)) : ∀ (n : Nat) (v3 : Int32) (v4 : Int32) (μ : Mem), Sm p l e R s m args below meth c D ca ad A 5 0 0 wI (KQ below args s D ca ad A) 5 [(0, .ref v0), (1, .ref v1), (2, .int v2), (3, .int v3), (4, .int v4)] [] μ (X4_monthsWanting_L5 G v0 v1 v2 n v3 v4 μ) := by
  intro n
  induction n with
  | zero =>
    intro v3 v4 μ
    rw [X4_monthsWanting_L5]
    exact E_none
  | succ n ih =>
    intro v3 v4 μ
    rw [X4_monthsWanting_L5]
    refine E_iload C dX4_monthsWanting_5 4 rfl ?_
    refine E_aload_n C dX4_monthsWanting_7 0 rfl ?_
    refine E_getI C F_X4_25 dX4_monthsWanting_8 (fun x8 => ?_)
    refine E_icmp_ge C 40 dX4_monthsWanting_11 (by decide) ?_ ?_
    · exact E_pick [3] rfl (hG v3 μ)
    · refine E_at (pc2 := 14) rfl ?_
      refine E_aload_n C dX4_monthsWanting_14 1 rfl ?_
      refine E_getR C F_X4_91 dX4_monthsWanting_15 (fun x15 => ?_)
      refine E_iload_n C dX4_monthsWanting_18 2 rfl ?_
      refine E_aaload C rfl dX4_monthsWanting_19 (fun x19 => ?_)
      refine E_iload C dX4_monthsWanting_20 4 rfl ?_
      refine E_bipush C 12 dX4_monthsWanting_22 (by decide) ?_
      refine E_irem C dX4_monthsWanting_24 (fun x24 => ?_)
      refine E_callVI (st := []) C [.int x24] (mX5_wantedIn x19 x24 μ) cal_X5_wantedIn vir_X5_wantedIn lk_X4_95 dX4_monthsWanting_25 rfl rfl (Nat.le_of_ble_eq_true rfl) (Nat.le_of_ble_eq_true rfl) (fun x25 μ25 => ?_)
      refine E_if_le C 34 dX4_monthsWanting_28 (by decide) ?_ ?_
      · refine E_iinc (lv' := [(4, .int ((v4 + 1))), (0, .ref v0), (1, .ref v1), (2, .int v2), (3, .int v3)]) C (v4 + 1) dX4_monthsWanting_34 4 rfl rfl (by decide) rfl ?_
        refine E_goto C 5 dX4_monthsWanting_37 (by decide) ?_
        exact E_pick [1, 2, 3, 4, 0] rfl (ih v3 ((v4 + 1)) μ25)
      · refine E_at (pc2 := 31) rfl ?_
        refine E_iinc (lv' := [(3, .int ((v3 + 1))), (0, .ref v0), (1, .ref v1), (2, .int v2), (4, .int v4)]) C (v3 + 1) dX4_monthsWanting_31 3 rfl rfl (by decide) rfl ?_
        refine E_at (pc2 := 34) rfl ?_
        refine E_iinc (lv' := [(4, .int ((v4 + 1))), (3, .int ((v3 + 1))), (0, .ref v0), (1, .ref v1), (2, .int v2)]) C (v4 + 1) dX4_monthsWanting_34 4 rfl rfl (by decide) rfl ?_
        refine E_goto C 5 dX4_monthsWanting_37 (by decide) ?_
        exact E_pick [2, 3, 4, 1, 0] rfl (ih ((v3 + 1)) ((v4 + 1)) μ25)
def fX4_monthsWanting (v0 : Nat) (v1 : Nat) (v2 : Int32) (μ : Mem) : Option (Int32 × Mem) :=
  X4_monthsWanting_L5 (fun v3_40 μ_40 => some (v3_40, μ_40)) v0 v1 v2 FU ((0 : Int32)) ((0 : Int32)) μ
set_option maxHeartbeats 4000000 in
set_option maxRecDepth 100000 in
theorem mX4_monthsWanting (v0 : Nat) (v1 : Nat) (v2 : Int32) (μ : Mem) : Meth wI yX4_monthsWanting cX4_monthsWanting 5 (some .int) 2 [.ref v0, .ref v1, .int v2] μ (fX4_monthsWanting v0 v1 v2 μ) := by
  refine Meth.of (by decide) [(0, .ref v0), (1, .ref v1), (2, .int v2)] rfl (Nat.le_of_ble_eq_true rfl) ?_
  intro p l e R s m args below meth c D ca ad A X C
  have C : CX p R s m args meth c D ca ad A X cX4_monthsWanting RX4 5 (some .int) 2 := C
  unfold fX4_monthsWanting
  refine E_iconst C 0 dX4_monthsWanting_0 (by decide) ?_
  refine E_istore_n (lv' := [(3, .int ((0 : Int32))), (0, .ref v0), (1, .ref v1), (2, .int v2)]) C dX4_monthsWanting_1 (by decide) rfl ?_
  refine E_iconst C 0 dX4_monthsWanting_2 (by decide) ?_
  refine E_istore (lv' := [(4, .int ((0 : Int32))), (3, .int ((0 : Int32))), (0, .ref v0), (1, .ref v1), (2, .int v2)]) C dX4_monthsWanting_3 (by decide) rfl ?_
  refine E_at (pc2 := 5) rfl ?_
  refine E_pick (lv' := [(0, .ref v0), (1, .ref v1), (2, .int v2), (3, .int ((0 : Int32))), (4, .int ((0 : Int32)))]) [2, 3, 4, 1, 0] rfl ?_
  refine X4_monthsWanting_L5_ok C v0 v1 v2 (fun v3_40 μ_40 => ?_) FU ((0 : Int32)) ((0 : Int32)) μ
  refine E_iload_n C dX4_monthsWanting_40 0 rfl ?_
  exact E_iret C dX4_monthsWanting_41
def X4_monthsMet_L5 (G : Int32 → Mem → Option (Int32 × Mem)) (v0 : Nat) (v1 : Nat) (v2 : Int32) : Nat → Int32 → Int32 → Mem → Option (Int32 × Mem)
  | 0, _, _, _ => none
  | n + 1, v3, v4, μ => (gI μ v0 4 3).bind fun x8 => if x8 ≤ v4 then (G v3 μ) else ((gR μ v1 0 8).bind fun x15 => (aR μ 4 x15 v2).bind fun x19 => (rmI v4 ((12 : Int32))).bind fun x24 => (isC μ x19 5).bind fun _ => bd (fX5_wantedIn x19 x24 μ) fun x25 μ25 => if x25 ≤ 0 then (X4_monthsMet_L5 G v0 v1 v2 n v3 ((v4 + 1)) μ25) else ((rmI v4 ((12 : Int32))).bind fun x41 => (gR μ25 v0 4 2).bind fun x43 => (aI μ25 0 x43 v4).bind fun x48 => (isC μ25 v1 0).bind fun _ => bd (fX0_gotBy v1 v2 x41 x48 μ25) fun x49 μ49 => if x49 = x25 then (X4_monthsMet_L5 G v0 v1 v2 n ((v3 + 1)) ((v4 + 1)) μ49) else (X4_monthsMet_L5 G v0 v1 v2 n v3 ((v4 + 1)) μ49)))
set_option maxHeartbeats 4000000 in
set_option maxRecDepth 100000 in
theorem X4_monthsMet_L5_ok {p : Program} {l : Launch} {e : Env} {R : Room} {s : State} {m : MethodId} {args : Array Value} {below : List Frame} {meth : Method} {c : Code} {D : va_G} {ca : Nat → ClassId} {ad : Nat → Nat} {A : Nat → Prop} {X : State → Prop} (C : CX p R s m args meth c D ca ad A X cX4_monthsMet RX4 6 (some .int) 3) {G : Int32 → Mem → Option (Int32 × Mem)} (v0 : Nat) (v1 : Nat) (v2 : Int32) (hG : ∀ (v3x : Int32) (μx : Mem), Sm p l e R s m args below meth c D ca ad A 6 0 0 wI (KQ below args s D ca ad A) 66 [(3, .int v3x)] [] μx (G v3x μx)) : ∀ (n : Nat) (v3 : Int32) (v4 : Int32) (μ : Mem), Sm p l e R s m args below meth c D ca ad A 6 0 0 wI (KQ below args s D ca ad A) 5 [(0, .ref v0), (1, .ref v1), (2, .int v2), (3, .int v3), (4, .int v4)] [] μ (X4_monthsMet_L5 G v0 v1 v2 n v3 v4 μ) := by
  intro n
  induction n with
  | zero =>
    intro v3 v4 μ
    rw [X4_monthsMet_L5]
    exact E_none
  | succ n ih =>
    intro v3 v4 μ
    rw [X4_monthsMet_L5]
    refine E_iload C dX4_monthsMet_5 4 rfl ?_
    refine E_aload_n C dX4_monthsMet_7 0 rfl ?_
    refine E_getI C F_X4_25 dX4_monthsMet_8 (fun x8 => ?_)
    refine E_icmp_ge C 66 dX4_monthsMet_11 (by decide) ?_ ?_
    · exact E_pick [3] rfl (hG v3 μ)
    · refine E_at (pc2 := 14) rfl ?_
      refine E_aload_n C dX4_monthsMet_14 1 rfl ?_
      refine E_getR C F_X4_91 dX4_monthsMet_15 (fun x15 => ?_)
      refine E_iload_n C dX4_monthsMet_18 2 rfl ?_
      refine E_aaload C rfl dX4_monthsMet_19 (fun x19 => ?_)
      refine E_iload C dX4_monthsMet_20 4 rfl ?_
      refine E_bipush C 12 dX4_monthsMet_22 (by decide) ?_
      refine E_irem C dX4_monthsMet_24 (fun x24 => ?_)
      refine E_callVI (st := []) C [.int x24] (mX5_wantedIn x19 x24 μ) cal_X5_wantedIn vir_X5_wantedIn lk_X4_95 dX4_monthsMet_25 rfl rfl (Nat.le_of_ble_eq_true rfl) (Nat.le_of_ble_eq_true rfl) (fun x25 μ25 => ?_)
      refine E_istore (lv' := [(5, .int x25), (0, .ref v0), (1, .ref v1), (2, .int v2), (3, .int v3), (4, .int v4)]) C dX4_monthsMet_28 (by decide) rfl ?_
      refine E_iload C dX4_monthsMet_30 0 rfl ?_
      refine E_if_le C 60 dX4_monthsMet_32 (by decide) ?_ ?_
      · refine E_iinc (lv' := [(4, .int ((v4 + 1))), (5, .int x25), (0, .ref v0), (1, .ref v1), (2, .int v2), (3, .int v3)]) C (v4 + 1) dX4_monthsMet_60 5 rfl rfl (by decide) rfl ?_
        refine E_goto C 5 dX4_monthsMet_63 (by decide) ?_
        exact E_pick [2, 3, 4, 5, 0] rfl (ih v3 ((v4 + 1)) μ25)
      · refine E_at (pc2 := 35) rfl ?_
        refine E_aload_n C dX4_monthsMet_35 2 rfl ?_
        refine E_iload_n C dX4_monthsMet_36 3 rfl ?_
        refine E_iload C dX4_monthsMet_37 5 rfl ?_
        refine E_bipush C 12 dX4_monthsMet_39 (by decide) ?_
        refine E_irem C dX4_monthsMet_41 (fun x41 => ?_)
        refine E_aload_n C dX4_monthsMet_42 1 rfl ?_
        refine E_getR C F_X4_22 dX4_monthsMet_43 (fun x43 => ?_)
        refine E_iload C dX4_monthsMet_46 5 rfl ?_
        refine E_iaload C dX4_monthsMet_48 (fun x48 => ?_)
        refine E_callVI (st := []) C [.int v2, .int x41, .int x48] (mX0_gotBy v1 v2 x41 x48 μ25) cal_X0_gotBy vir_X0_gotBy lk_X4_101 dX4_monthsMet_49 rfl rfl (Nat.le_of_ble_eq_true rfl) (Nat.le_of_ble_eq_true rfl) (fun x49 μ49 => ?_)
        refine E_iload C dX4_monthsMet_52 0 rfl ?_
        refine E_icmp_ne C 60 dX4_monthsMet_54 (by decide) ?_ ?_
        · refine E_iinc (lv' := [(4, .int ((v4 + 1))), (5, .int x25), (0, .ref v0), (1, .ref v1), (2, .int v2), (3, .int v3)]) C (v4 + 1) dX4_monthsMet_60 5 rfl rfl (by decide) rfl ?_
          refine E_goto C 5 dX4_monthsMet_63 (by decide) ?_
          exact E_pick [2, 3, 4, 5, 0] rfl (ih v3 ((v4 + 1)) μ49)
        · refine E_at (pc2 := 57) rfl ?_
          refine E_iinc (lv' := [(3, .int ((v3 + 1))), (5, .int x25), (0, .ref v0), (1, .ref v1), (2, .int v2), (4, .int v4)]) C (v3 + 1) dX4_monthsMet_57 4 rfl rfl (by decide) rfl ?_
          refine E_at (pc2 := 60) rfl ?_
          refine E_iinc (lv' := [(4, .int ((v4 + 1))), (3, .int ((v3 + 1))), (5, .int x25), (0, .ref v0), (1, .ref v1), (2, .int v2)]) C (v4 + 1) dX4_monthsMet_60 5 rfl rfl (by decide) rfl ?_
          refine E_goto C 5 dX4_monthsMet_63 (by decide) ?_
          exact E_pick [3, 4, 5, 1, 0] rfl (ih ((v3 + 1)) ((v4 + 1)) μ49)
def fX4_monthsMet (v0 : Nat) (v1 : Nat) (v2 : Int32) (μ : Mem) : Option (Int32 × Mem) :=
  X4_monthsMet_L5 (fun v3_66 μ_66 => some (v3_66, μ_66)) v0 v1 v2 FU ((0 : Int32)) ((0 : Int32)) μ
set_option maxHeartbeats 4000000 in
set_option maxRecDepth 100000 in
theorem mX4_monthsMet (v0 : Nat) (v1 : Nat) (v2 : Int32) (μ : Mem) : Meth wI yX4_monthsMet cX4_monthsMet 6 (some .int) 3 [.ref v0, .ref v1, .int v2] μ (fX4_monthsMet v0 v1 v2 μ) := by
  refine Meth.of (by decide) [(0, .ref v0), (1, .ref v1), (2, .int v2)] rfl (Nat.le_of_ble_eq_true rfl) ?_
  intro p l e R s m args below meth c D ca ad A X C
  have C : CX p R s m args meth c D ca ad A X cX4_monthsMet RX4 6 (some .int) 3 := C
  unfold fX4_monthsMet
  refine E_iconst C 0 dX4_monthsMet_0 (by decide) ?_
  refine E_istore_n (lv' := [(3, .int ((0 : Int32))), (0, .ref v0), (1, .ref v1), (2, .int v2)]) C dX4_monthsMet_1 (by decide) rfl ?_
  refine E_iconst C 0 dX4_monthsMet_2 (by decide) ?_
  refine E_istore (lv' := [(4, .int ((0 : Int32))), (3, .int ((0 : Int32))), (0, .ref v0), (1, .ref v1), (2, .int v2)]) C dX4_monthsMet_3 (by decide) rfl ?_
  refine E_at (pc2 := 5) rfl ?_
  refine E_pick (lv' := [(0, .ref v0), (1, .ref v1), (2, .int v2), (3, .int ((0 : Int32))), (4, .int ((0 : Int32)))]) [2, 3, 4, 1, 0] rfl ?_
  refine X4_monthsMet_L5_ok C v0 v1 v2 (fun v3_66 μ_66 => ?_) FU ((0 : Int32)) ((0 : Int32)) μ
  refine E_iload_n C dX4_monthsMet_66 0 rfl ?_
  exact E_iret C dX4_monthsMet_67
def fX6_clear (v0 : Nat) (μ : Mem) : Option (Int32 × Mem) :=
  (pV μ v0 6 3 (.int ((0 : Int32)))).bind fun μ2 => (gI μ2 v0 6 3).bind fun x6 => some (x6, μ2)
set_option maxHeartbeats 4000000 in
set_option maxRecDepth 100000 in
theorem mX6_clear (v0 : Nat) (μ : Mem) : Meth wI yX6_clear cX6_clear 1 (some .int) 0 [.ref v0] μ (fX6_clear v0 μ) := by
  refine Meth.of (by decide) [(0, .ref v0)] rfl (Nat.le_of_ble_eq_true rfl) ?_
  intro p l e R s m args below meth c D ca ad A X C
  have C : CX p R s m args meth c D ca ad A X cX6_clear RX6 1 (some .int) 0 := C
  unfold fX6_clear
  refine E_aload_n C dX6_clear_0 0 rfl ?_
  refine E_iconst C 0 dX6_clear_1 (by decide) ?_
  refine E_putI C P_X6_9 dX6_clear_2 (fun μ2 => ?_)
  refine E_aload_n C dX6_clear_5 0 rfl ?_
  refine E_getI C F_X6_9 dX6_clear_6 (fun x6 => ?_)
  exact E_iret C dX6_clear_9
def fX6_setInLast (v0 : Nat) (v1 : Int32) (v2 : Int32) (μ : Mem) : Option (Unit × Mem) :=
  (gI μ v0 6 0).bind fun x2 => if x2 ≤ v1 then (some ((), μ)) else ((gR μ v0 6 2).bind fun x9 => (gI μ v0 6 3).bind fun x13 => (gI μ v0 6 0).bind fun x19 => (sI μ x9 ((((x13 - (1 : Int32)) * x19) + v1)) v2).bind fun μ26 => some ((), μ26))
set_option maxHeartbeats 4000000 in
set_option maxRecDepth 100000 in
theorem mX6_setInLast (v0 : Nat) (v1 : Int32) (v2 : Int32) (μ : Mem) : Meth wU yX6_setInLast cX6_setInLast 3 none 0 [.ref v0, .int v1, .int v2] μ (fX6_setInLast v0 v1 v2 μ) := by
  refine Meth.of (by decide) [(0, .ref v0), (1, .int v1), (2, .int v2)] rfl (Nat.le_of_ble_eq_true rfl) ?_
  intro p l e R s m args below meth c D ca ad A X C
  have C : CX p R s m args meth c D ca ad A X cX6_setInLast RX6 3 none 0 := C
  unfold fX6_setInLast
  refine E_iload_n C dX6_setInLast_0 1 rfl ?_
  refine E_aload_n C dX6_setInLast_1 0 rfl ?_
  refine E_getI C F_X6_15 dX6_setInLast_2 (fun x2 => ?_)
  refine E_icmp_ge C 27 dX6_setInLast_5 (by decide) ?_ ?_
  · exact E_ret C dX6_setInLast_27
  · refine E_at (pc2 := 8) rfl ?_
    refine E_aload_n C dX6_setInLast_8 0 rfl ?_
    refine E_getR C F_X6_21 dX6_setInLast_9 (fun x9 => ?_)
    refine E_aload_n C dX6_setInLast_12 0 rfl ?_
    refine E_getI C F_X6_9 dX6_setInLast_13 (fun x13 => ?_)
    refine E_iconst C 1 dX6_setInLast_16 (by decide) ?_
    refine E_isub C dX6_setInLast_17 ?_
    refine E_aload_n C dX6_setInLast_18 0 rfl ?_
    refine E_getI C F_X6_15 dX6_setInLast_19 (fun x19 => ?_)
    refine E_imul C dX6_setInLast_22 ?_
    refine E_iload_n C dX6_setInLast_23 1 rfl ?_
    refine E_iadd C dX6_setInLast_24 ?_
    refine E_iload_n C dX6_setInLast_25 2 rfl ?_
    refine E_iastore C dX6_setInLast_26 (fun μ26 => ?_)
    exact E_ret C dX6_setInLast_27
def fX6_add___ (v0 : Nat) (v1 : Int32) (v2 : Int32) (v3 : Int32) (v4 : Int32) (μ : Mem) : Option (Int32 × Mem) :=
  (gI μ v0 6 3).bind fun x1 => (gI μ v0 6 1).bind fun x5 => if x1 < x5 then ((gI μ v0 6 3).bind fun x16 => (pV μ v0 6 3 (.int ((x16 + (1 : Int32))))).bind fun μ21 => (isC μ21 v0 6).bind fun _ => bd (fX6_setInLast v0 ((0 : Int32)) v1 μ21) fun _ μ27 => (isC μ27 v0 6).bind fun _ => bd (fX6_setInLast v0 ((1 : Int32)) v2 μ27) fun _ μ33 => (isC μ33 v0 6).bind fun _ => bd (fX6_setInLast v0 ((2 : Int32)) v3 μ33) fun _ μ39 => (isC μ39 v0 6).bind fun _ => bd (fX6_setInLast v0 ((3 : Int32)) v4 μ39) fun _ μ46 => (gI μ46 v0 6 3).bind fun x50 => some (x50, μ46)) else (some ((-4 : Int32), μ))
set_option maxHeartbeats 4000000 in
set_option maxRecDepth 100000 in
theorem mX6_add___ (v0 : Nat) (v1 : Int32) (v2 : Int32) (v3 : Int32) (v4 : Int32) (μ : Mem) : Meth wI yX6_add___ cX6_add___ 5 (some .int) 1 [.ref v0, .int v1, .int v2, .int v3, .int v4] μ (fX6_add___ v0 v1 v2 v3 v4 μ) := by
  refine Meth.of (by decide) [(0, .ref v0), (1, .int v1), (2, .int v2), (3, .int v3), (4, .int v4)] rfl (Nat.le_of_ble_eq_true rfl) ?_
  intro p l e R s m args below meth c D ca ad A X C
  have C : CX p R s m args meth c D ca ad A X cX6_add___ RX6 5 (some .int) 1 := C
  unfold fX6_add___
  refine E_aload_n C dX6_add____0 0 rfl ?_
  refine E_getI C F_X6_9 dX6_add____1 (fun x1 => ?_)
  refine E_aload_n C dX6_add____4 0 rfl ?_
  refine E_getI C F_X6_18 dX6_add____5 (fun x5 => ?_)
  refine E_icmp_lt C 14 dX6_add____8 (by decide) ?_ ?_
  · refine E_aload_n C dX6_add____14 0 rfl ?_
    refine E_dup_r C dX6_add____15 ?_
    refine E_getI C F_X6_9 dX6_add____16 (fun x16 => ?_)
    refine E_iconst C 1 dX6_add____19 (by decide) ?_
    refine E_iadd C dX6_add____20 ?_
    refine E_putI C P_X6_9 dX6_add____21 (fun μ21 => ?_)
    refine E_aload_n C dX6_add____24 0 rfl ?_
    refine E_iconst C 0 dX6_add____25 (by decide) ?_
    refine E_iload_n C dX6_add____26 1 rfl ?_
    refine E_callVU (st := []) C [.int ((0 : Int32)), .int v1] (mX6_setInLast v0 ((0 : Int32)) v1 μ21) cal_X6_setInLast vir_X6_setInLast lk_X6_29 dX6_add____27 rfl rfl (Nat.le_of_ble_eq_true rfl) (Nat.le_of_ble_eq_true rfl) (fun _ μ27 => ?_)
    refine E_aload_n C dX6_add____30 0 rfl ?_
    refine E_iconst C 1 dX6_add____31 (by decide) ?_
    refine E_iload_n C dX6_add____32 2 rfl ?_
    refine E_callVU (st := []) C [.int ((1 : Int32)), .int v2] (mX6_setInLast v0 ((1 : Int32)) v2 μ27) cal_X6_setInLast vir_X6_setInLast lk_X6_29 dX6_add____33 rfl rfl (Nat.le_of_ble_eq_true rfl) (Nat.le_of_ble_eq_true rfl) (fun _ μ33 => ?_)
    refine E_aload_n C dX6_add____36 0 rfl ?_
    refine E_iconst C 2 dX6_add____37 (by decide) ?_
    refine E_iload_n C dX6_add____38 3 rfl ?_
    refine E_callVU (st := []) C [.int ((2 : Int32)), .int v3] (mX6_setInLast v0 ((2 : Int32)) v3 μ33) cal_X6_setInLast vir_X6_setInLast lk_X6_29 dX6_add____39 rfl rfl (Nat.le_of_ble_eq_true rfl) (Nat.le_of_ble_eq_true rfl) (fun _ μ39 => ?_)
    refine E_aload_n C dX6_add____42 0 rfl ?_
    refine E_iconst C 3 dX6_add____43 (by decide) ?_
    refine E_iload C dX6_add____44 4 rfl ?_
    refine E_callVU (st := []) C [.int ((3 : Int32)), .int v4] (mX6_setInLast v0 ((3 : Int32)) v4 μ39) cal_X6_setInLast vir_X6_setInLast lk_X6_29 dX6_add____46 rfl rfl (Nat.le_of_ble_eq_true rfl) (Nat.le_of_ble_eq_true rfl) (fun _ μ46 => ?_)
    refine E_aload_n C dX6_add____49 0 rfl ?_
    refine E_getI C F_X6_9 dX6_add____50 (fun x50 => ?_)
    exact E_iret C dX6_add____53
  · refine E_at (pc2 := 11) rfl ?_
    refine E_bipush C (-4) dX6_add____11 (by decide) ?_
    exact E_iret C dX6_add____13
def fX6_add (v0 : Nat) (v1 : Int32) (μ : Mem) : Option (Int32 × Mem) :=
  (isC μ v0 6).bind fun _ => bd (fX6_add___ v0 v1 ((0 : Int32)) ((0 : Int32)) ((0 : Int32)) μ) fun x5 μ5 => some (x5, μ5)
set_option maxHeartbeats 4000000 in
set_option maxRecDepth 100000 in
theorem mX6_add (v0 : Nat) (v1 : Int32) (μ : Mem) : Meth wI yX6_add cX6_add 2 (some .int) 2 [.ref v0, .int v1] μ (fX6_add v0 v1 μ) := by
  refine Meth.of (by decide) [(0, .ref v0), (1, .int v1)] rfl (Nat.le_of_ble_eq_true rfl) ?_
  intro p l e R s m args below meth c D ca ad A X C
  have C : CX p R s m args meth c D ca ad A X cX6_add RX6 2 (some .int) 2 := C
  unfold fX6_add
  refine E_aload_n C dX6_add_0 0 rfl ?_
  refine E_iload_n C dX6_add_1 1 rfl ?_
  refine E_iconst C 0 dX6_add_2 (by decide) ?_
  refine E_iconst C 0 dX6_add_3 (by decide) ?_
  refine E_iconst C 0 dX6_add_4 (by decide) ?_
  refine E_callVI (st := []) C [.int v1, .int ((0 : Int32)), .int ((0 : Int32)), .int ((0 : Int32))] (mX6_add___ v0 v1 ((0 : Int32)) ((0 : Int32)) ((0 : Int32)) μ) cal_X6_add___ vir_X6_add___ lk_X6_25 dX6_add_5 rfl rfl (Nat.le_of_ble_eq_true rfl) (Nat.le_of_ble_eq_true rfl) (fun x5 μ5 => ?_)
  exact E_iret C dX6_add_8
def fX6_add_ (v0 : Nat) (v1 : Int32) (v2 : Int32) (μ : Mem) : Option (Int32 × Mem) :=
  (isC μ v0 6).bind fun _ => bd (fX6_add___ v0 v1 v2 ((0 : Int32)) ((0 : Int32)) μ) fun x5 μ5 => some (x5, μ5)
set_option maxHeartbeats 4000000 in
set_option maxRecDepth 100000 in
theorem mX6_add_ (v0 : Nat) (v1 : Int32) (v2 : Int32) (μ : Mem) : Meth wI yX6_add_ cX6_add_ 3 (some .int) 2 [.ref v0, .int v1, .int v2] μ (fX6_add_ v0 v1 v2 μ) := by
  refine Meth.of (by decide) [(0, .ref v0), (1, .int v1), (2, .int v2)] rfl (Nat.le_of_ble_eq_true rfl) ?_
  intro p l e R s m args below meth c D ca ad A X C
  have C : CX p R s m args meth c D ca ad A X cX6_add_ RX6 3 (some .int) 2 := C
  unfold fX6_add_
  refine E_aload_n C dX6_add__0 0 rfl ?_
  refine E_iload_n C dX6_add__1 1 rfl ?_
  refine E_iload_n C dX6_add__2 2 rfl ?_
  refine E_iconst C 0 dX6_add__3 (by decide) ?_
  refine E_iconst C 0 dX6_add__4 (by decide) ?_
  refine E_callVI (st := []) C [.int v1, .int v2, .int ((0 : Int32)), .int ((0 : Int32))] (mX6_add___ v0 v1 v2 ((0 : Int32)) ((0 : Int32)) μ) cal_X6_add___ vir_X6_add___ lk_X6_25 dX6_add__5 rfl rfl (Nat.le_of_ble_eq_true rfl) (Nat.le_of_ble_eq_true rfl) (fun x5 μ5 => ?_)
  exact E_iret C dX6_add__8
def fX6_add__ (v0 : Nat) (v1 : Int32) (v2 : Int32) (v3 : Int32) (μ : Mem) : Option (Int32 × Mem) :=
  (isC μ v0 6).bind fun _ => bd (fX6_add___ v0 v1 v2 v3 ((0 : Int32)) μ) fun x5 μ5 => some (x5, μ5)
set_option maxHeartbeats 4000000 in
set_option maxRecDepth 100000 in
theorem mX6_add__ (v0 : Nat) (v1 : Int32) (v2 : Int32) (v3 : Int32) (μ : Mem) : Meth wI yX6_add__ cX6_add__ 4 (some .int) 2 [.ref v0, .int v1, .int v2, .int v3] μ (fX6_add__ v0 v1 v2 v3 μ) := by
  refine Meth.of (by decide) [(0, .ref v0), (1, .int v1), (2, .int v2), (3, .int v3)] rfl (Nat.le_of_ble_eq_true rfl) ?_
  intro p l e R s m args below meth c D ca ad A X C
  have C : CX p R s m args meth c D ca ad A X cX6_add__ RX6 4 (some .int) 2 := C
  unfold fX6_add__
  refine E_aload_n C dX6_add___0 0 rfl ?_
  refine E_iload_n C dX6_add___1 1 rfl ?_
  refine E_iload_n C dX6_add___2 2 rfl ?_
  refine E_iload_n C dX6_add___3 3 rfl ?_
  refine E_iconst C 0 dX6_add___4 (by decide) ?_
  refine E_callVI (st := []) C [.int v1, .int v2, .int v3, .int ((0 : Int32))] (mX6_add___ v0 v1 v2 v3 ((0 : Int32)) μ) cal_X6_add___ vir_X6_add___ lk_X6_25 dX6_add___5 rfl rfl (Nat.le_of_ble_eq_true rfl) (Nat.le_of_ble_eq_true rfl) (fun x5 μ5 => ?_)
  exact E_iret C dX6_add___8
def fX6_copyFrom (v0 : Nat) (v1 : Nat) (μ : Mem) : Option (Unit × Mem) :=
  (gR μ v0 6 2).bind fun x1 => (aLen μ x1).bind fun x4 => (gR μ v1 6 2).bind fun x6 => (aLen μ x6).bind fun x9 => (gR μ v1 6 2).bind fun x15 => (gR μ v0 6 2).bind fun x20 => (cpI μ x15 ((0 : Int32)) x20 ((0 : Int32)) ((mnI x4 x9))).bind fun μ25 => (gI μ25 v1 6 3).bind fun x30 => (gI μ25 v0 6 1).bind fun x34 => (pV μ25 v0 6 3 (.int ((mnI x30 x34)))).bind fun μ40 => some ((), μ40)
set_option maxHeartbeats 4000000 in
set_option maxRecDepth 100000 in
theorem mX6_copyFrom (v0 : Nat) (v1 : Nat) (μ : Mem) : Meth wU yX6_copyFrom cX6_copyFrom 3 none 1 [.ref v0, .ref v1] μ (fX6_copyFrom v0 v1 μ) := by
  refine Meth.of (by decide) [(0, .ref v0), (1, .ref v1)] rfl (Nat.le_of_ble_eq_true rfl) ?_
  intro p l e R s m args below meth c D ca ad A X C
  have C : CX p R s m args meth c D ca ad A X cX6_copyFrom RX6 3 none 1 := C
  unfold fX6_copyFrom
  refine E_aload_n C dX6_copyFrom_0 0 rfl ?_
  refine E_getR C F_X6_21 dX6_copyFrom_1 (fun x1 => ?_)
  refine E_alen C dX6_copyFrom_4 (fun x4 => ?_)
  refine E_aload_n C dX6_copyFrom_5 1 rfl ?_
  refine E_getR C F_X6_21 dX6_copyFrom_6 (fun x6 => ?_)
  refine E_alen C dX6_copyFrom_9 (fun x9 => ?_)
  refine E_mmin C lk_X6_37 st_Math_min in_Math co_Math_min dX6_copyFrom_10 (Nat.le_of_ble_eq_true rfl) (Nat.le_of_ble_eq_true rfl) ?_
  refine E_istore_n (lv' := [(2, .int ((mnI x4 x9))), (0, .ref v0), (1, .ref v1)]) C dX6_copyFrom_13 (by decide) rfl ?_
  refine E_aload_n C dX6_copyFrom_14 2 rfl ?_
  refine E_getR C F_X6_21 dX6_copyFrom_15 (fun x15 => ?_)
  refine E_iconst C 0 dX6_copyFrom_18 (by decide) ?_
  refine E_aload_n C dX6_copyFrom_19 1 rfl ?_
  refine E_getR C F_X6_21 dX6_copyFrom_20 (fun x20 => ?_)
  refine E_iconst C 0 dX6_copyFrom_23 (by decide) ?_
  refine E_iload_n C dX6_copyFrom_24 0 rfl ?_
  refine E_cpI C lk_X6_43 na_arraycopy st_arraycopy in_System dX6_copyFrom_25 (Nat.le_of_ble_eq_true rfl) (Nat.le_of_ble_eq_true rfl) (fun μ25 => ?_)
  refine E_aload_n C dX6_copyFrom_28 1 rfl ?_
  refine E_aload_n C dX6_copyFrom_29 2 rfl ?_
  refine E_getI C F_X6_9 dX6_copyFrom_30 (fun x30 => ?_)
  refine E_aload_n C dX6_copyFrom_33 1 rfl ?_
  refine E_getI C F_X6_18 dX6_copyFrom_34 (fun x34 => ?_)
  refine E_mmin C lk_X6_37 st_Math_min in_Math co_Math_min dX6_copyFrom_37 (Nat.le_of_ble_eq_true rfl) (Nat.le_of_ble_eq_true rfl) ?_
  refine E_putI C P_X6_9 dX6_copyFrom_40 (fun μ40 => ?_)
  exact E_ret C dX6_copyFrom_43
def fX7_tell (v0 : Nat) (v1 : Int32) (μ : Mem) : Option (Int64 × Mem) :=
  if v1 = 0 then ((gI μ v0 7 0).bind fun x41 => some (x41.toInt64, μ)) else if v1 = 1 then ((gI μ v0 7 1).bind fun x47 => some (x47.toInt64, μ)) else if v1 = 2 then ((gI μ v0 7 2).bind fun x53 => some (x53.toInt64, μ)) else if v1 = 3 then ((gI μ v0 7 3).bind fun x59 => some (x59.toInt64, μ)) else if v1 = 4 then ((gI μ v0 7 4).bind fun x65 => some (x65.toInt64, μ)) else if v1 = 5 then ((gI μ v0 7 5).bind fun x71 => some (x71.toInt64, μ)) else (some ((-9223372036854775808 : Int64), μ))
set_option maxHeartbeats 4000000 in
set_option maxRecDepth 100000 in
theorem mX7_tell (v0 : Nat) (v1 : Int32) (μ : Mem) : Meth wJ yX7_tell cX7_tell 2 (some .long) 0 [.ref v0, .int v1] μ (fX7_tell v0 v1 μ) := by
  refine Meth.of (by decide) [(0, .ref v0), (1, .int v1)] rfl (Nat.le_of_ble_eq_true rfl) ?_
  intro p l e R s m args below meth c D ca ad A X C
  have C : CX p R s m args meth c D ca ad A X cX7_tell RX7 2 (some .long) 0 := C
  unfold fX7_tell
  refine E_iload_n C dX7_tell_0 1 rfl ?_
  refine E_ite (fun h1_0 => ?_) (fun h1_0 => ?_)
  · refine E_tabIn (kx := 0) (off := 39) C 40 h1_0 dX7_tell_1 (by decide +kernel) (by decide) ?_
    refine E_aload_n C dX7_tell_40 0 rfl ?_
    refine E_getI C F_X7_9 dX7_tell_41 (fun x41 => ?_)
    refine E_i2l C dX7_tell_44 ?_
    exact E_lret C dX7_tell_45
  · refine E_ite (fun h1_1 => ?_) (fun h1_1 => ?_)
    · refine E_tabIn (kx := 1) (off := 45) C 46 h1_1 dX7_tell_1 (by decide +kernel) (by decide) ?_
      refine E_aload_n C dX7_tell_46 0 rfl ?_
      refine E_getI C F_X7_15 dX7_tell_47 (fun x47 => ?_)
      refine E_i2l C dX7_tell_50 ?_
      exact E_lret C dX7_tell_51
    · refine E_ite (fun h1_2 => ?_) (fun h1_2 => ?_)
      · refine E_tabIn (kx := 2) (off := 51) C 52 h1_2 dX7_tell_1 (by decide +kernel) (by decide) ?_
        refine E_aload_n C dX7_tell_52 0 rfl ?_
        refine E_getI C F_X7_18 dX7_tell_53 (fun x53 => ?_)
        refine E_i2l C dX7_tell_56 ?_
        exact E_lret C dX7_tell_57
      · refine E_ite (fun h1_3 => ?_) (fun h1_3 => ?_)
        · refine E_tabIn (kx := 3) (off := 57) C 58 h1_3 dX7_tell_1 (by decide +kernel) (by decide) ?_
          refine E_aload_n C dX7_tell_58 0 rfl ?_
          refine E_getI C F_X7_21 dX7_tell_59 (fun x59 => ?_)
          refine E_i2l C dX7_tell_62 ?_
          exact E_lret C dX7_tell_63
        · refine E_ite (fun h1_4 => ?_) (fun h1_4 => ?_)
          · refine E_tabIn (kx := 4) (off := 63) C 64 h1_4 dX7_tell_1 (by decide +kernel) (by decide) ?_
            refine E_aload_n C dX7_tell_64 0 rfl ?_
            refine E_getI C F_X7_24 dX7_tell_65 (fun x65 => ?_)
            refine E_i2l C dX7_tell_68 ?_
            exact E_lret C dX7_tell_69
          · refine E_ite (fun h1_5 => ?_) (fun h1_5 => ?_)
            · refine E_tabIn (kx := 5) (off := 69) C 70 h1_5 dX7_tell_1 (by decide +kernel) (by decide) ?_
              refine E_aload_n C dX7_tell_70 0 rfl ?_
              refine E_getI C F_X7_27 dX7_tell_71 (fun x71 => ?_)
              refine E_i2l C dX7_tell_74 ?_
              exact E_lret C dX7_tell_75
            · refine E_tabOut C 76 dX7_tell_1 (by have q0 := i32_ne h1_0 (n := 0) rfl; have q1 := i32_ne h1_1 (n := 1) rfl; have q2 := i32_ne h1_2 (n := 2) rfl; have q3 := i32_ne h1_3 (n := 3) rfl; have q4 := i32_ne h1_4 (n := 4) rfl; have q5 := i32_ne h1_5 (n := 5) rfl; omega) (by decide) ?_
              refine E_ldc2 C dX7_tell_76 k_X7_51 ?_
              exact E_lret C dX7_tell_79
def fX8_copyFrom (v0 : Nat) (v1 : Nat) (μ : Mem) : Option (Unit × Mem) :=
  (gR μ v0 8 0).bind fun x1 => (gR μ v1 8 0).bind fun x5 => (isC μ x1 0).bind fun _ => bd (fX0_copyFrom x1 x5 μ) fun _ μ8 => (gR μ8 v0 8 1).bind fun x12 => (gR μ8 v1 8 1).bind fun x16 => (isC μ8 x12 6).bind fun _ => bd (fX6_copyFrom x12 x16 μ8) fun _ μ19 => (gR μ19 v0 8 2).bind fun x23 => (gR μ19 v1 8 2).bind fun x27 => (isC μ19 x23 6).bind fun _ => bd (fX6_copyFrom x23 x27 μ19) fun _ μ30 => (gR μ30 v0 8 3).bind fun x34 => (gR μ30 v1 8 3).bind fun x38 => (isC μ30 x34 6).bind fun _ => bd (fX6_copyFrom x34 x38 μ30) fun _ μ41 => some ((), μ41)
set_option maxHeartbeats 4000000 in
set_option maxRecDepth 100000 in
theorem mX8_copyFrom (v0 : Nat) (v1 : Nat) (μ : Mem) : Meth wU yX8_copyFrom cX8_copyFrom 2 none 2 [.ref v0, .ref v1] μ (fX8_copyFrom v0 v1 μ) := by
  refine Meth.of (by decide) [(0, .ref v0), (1, .ref v1)] rfl (Nat.le_of_ble_eq_true rfl) ?_
  intro p l e R s m args below meth c D ca ad A X C
  have C : CX p R s m args meth c D ca ad A X cX8_copyFrom RX8 2 none 2 := C
  unfold fX8_copyFrom
  refine E_aload_n C dX8_copyFrom_0 0 rfl ?_
  refine E_getR C F_X8_12 dX8_copyFrom_1 (fun x1 => ?_)
  refine E_aload_n C dX8_copyFrom_4 1 rfl ?_
  refine E_getR C F_X8_12 dX8_copyFrom_5 (fun x5 => ?_)
  refine E_callVU (st := []) C [.ref x5] (mX0_copyFrom x1 x5 μ) cal_X0_copyFrom vir_X0_copyFrom lk_X8_33 dX8_copyFrom_8 rfl rfl (Nat.le_of_ble_eq_true rfl) (Nat.le_of_ble_eq_true rfl) (fun _ μ8 => ?_)
  refine E_aload_n C dX8_copyFrom_11 0 rfl ?_
  refine E_getR C F_X8_23 dX8_copyFrom_12 (fun x12 => ?_)
  refine E_aload_n C dX8_copyFrom_15 1 rfl ?_
  refine E_getR C F_X8_23 dX8_copyFrom_16 (fun x16 => ?_)
  refine E_callVU (st := []) C [.ref x16] (mX6_copyFrom x12 x16 μ8) cal_X6_copyFrom vir_X6_copyFrom lk_X8_37 dX8_copyFrom_19 rfl rfl (Nat.le_of_ble_eq_true rfl) (Nat.le_of_ble_eq_true rfl) (fun _ μ19 => ?_)
  refine E_aload_n C dX8_copyFrom_22 0 rfl ?_
  refine E_getR C F_X8_27 dX8_copyFrom_23 (fun x23 => ?_)
  refine E_aload_n C dX8_copyFrom_26 1 rfl ?_
  refine E_getR C F_X8_27 dX8_copyFrom_27 (fun x27 => ?_)
  refine E_callVU (st := []) C [.ref x27] (mX6_copyFrom x23 x27 μ19) cal_X6_copyFrom vir_X6_copyFrom lk_X8_37 dX8_copyFrom_30 rfl rfl (Nat.le_of_ble_eq_true rfl) (Nat.le_of_ble_eq_true rfl) (fun _ μ30 => ?_)
  refine E_aload_n C dX8_copyFrom_33 0 rfl ?_
  refine E_getR C F_X8_30 dX8_copyFrom_34 (fun x34 => ?_)
  refine E_aload_n C dX8_copyFrom_37 1 rfl ?_
  refine E_getR C F_X8_30 dX8_copyFrom_38 (fun x38 => ?_)
  refine E_callVU (st := []) C [.ref x38] (mX6_copyFrom x34 x38 μ30) cal_X6_copyFrom vir_X6_copyFrom lk_X8_37 dX8_copyFrom_41 rfl rfl (Nat.le_of_ble_eq_true rfl) (Nat.le_of_ble_eq_true rfl) (fun _ μ41 => ?_)
  exact E_ret C dX8_copyFrom_44
def X9_become_L12 (G : Mem → Option (Unit × Mem)) (v0 : Nat) : Nat → Int32 → Mem → Option (Unit × Mem)
  | 0, _, _ => none
  | n + 1, v3, μ => if (60 : Int32) ≤ v3 then (G μ) else ((gR μ v0 9 2).bind fun x19 => (sJ μ x19 v3 ((0 : Int64))).bind fun μ24 => X9_become_L12 G v0 n ((v3 + 1)) μ24)
set_option maxHeartbeats 4000000 in
set_option maxRecDepth 100000 in
theorem X9_become_L12_ok {p : Program} {l : Launch} {e : Env} {R : Room} {s : State} {m : MethodId} {args : Array Value} {below : List Frame} {meth : Method} {c : Code} {D : va_G} {ca : Nat → ClassId} {ad : Nat → Nat} {A : Nat → Prop} {X : State → Prop} (C : CX p R s m args meth c D ca ad A X cX9_become RX9 4 none 0) {G : Mem → Option (Unit × Mem)} (v0 : Nat) (hG : ∀  (μx : Mem), Sm p l e R s m args below meth c D ca ad A 4 0 0 wU (KQ below args s D ca ad A) 31 [] [] μx (G  μx)) : ∀ (n : Nat) (v3 : Int32) (μ : Mem), Sm p l e R s m args below meth c D ca ad A 4 0 0 wU (KQ below args s D ca ad A) 12 [(0, .ref v0), (3, .int v3)] [] μ (X9_become_L12 G v0 n v3 μ) := by
  intro n
  induction n with
  | zero =>
    intro v3 μ
    rw [X9_become_L12]
    exact E_none
  | succ n ih =>
    intro v3 μ
    rw [X9_become_L12]
    refine E_iload_n C dX9_become_12 1 rfl ?_
    refine E_bipush C 60 dX9_become_13 (by decide) ?_
    refine E_icmp_ge C 31 dX9_become_15 (by decide) ?_ ?_
    · exact E_pick [] rfl (hG μ)
    · refine E_at (pc2 := 18) rfl ?_
      refine E_aload_n C dX9_become_18 0 rfl ?_
      refine E_getR C F_X9_18 dX9_become_19 (fun x19 => ?_)
      refine E_iload_n C dX9_become_22 1 rfl ?_
      refine E_lconst C 0 dX9_become_23 (by decide) ?_
      refine E_lastore C dX9_become_24 (fun μ24 => ?_)
      refine E_iinc (lv' := [(3, .int ((v3 + 1))), (0, .ref v0)]) C (v3 + 1) dX9_become_25 1 rfl rfl (by decide) rfl ?_
      refine E_goto C 12 dX9_become_28 (by decide) ?_
      exact E_pick [1, 0] rfl (ih ((v3 + 1)) μ24)
def fX9_become (v0 : Nat) (v1 : Int32) (v2 : Int32) (μ : Mem) : Option (Unit × Mem) :=
  (pV μ v0 9 0 (.int v1)).bind fun μ2 => (pV μ2 v0 9 1 (.int v2)).bind fun μ7 => X9_become_L12 (fun μ_31 => some ((), μ_31)) v0 FU ((0 : Int32)) μ7
set_option maxHeartbeats 4000000 in
set_option maxRecDepth 100000 in
theorem mX9_become (v0 : Nat) (v1 : Int32) (v2 : Int32) (μ : Mem) : Meth wU yX9_become cX9_become 4 none 0 [.ref v0, .int v1, .int v2] μ (fX9_become v0 v1 v2 μ) := by
  refine Meth.of (by decide) [(0, .ref v0), (1, .int v1), (2, .int v2)] rfl (Nat.le_of_ble_eq_true rfl) ?_
  intro p l e R s m args below meth c D ca ad A X C
  have C : CX p R s m args meth c D ca ad A X cX9_become RX9 4 none 0 := C
  unfold fX9_become
  refine E_aload_n C dX9_become_0 0 rfl ?_
  refine E_iload_n C dX9_become_1 1 rfl ?_
  refine E_putI C P_X9_9 dX9_become_2 (fun μ2 => ?_)
  refine E_aload_n C dX9_become_5 0 rfl ?_
  refine E_iload_n C dX9_become_6 2 rfl ?_
  refine E_putI C P_X9_15 dX9_become_7 (fun μ7 => ?_)
  refine E_iconst C 0 dX9_become_10 (by decide) ?_
  refine E_istore_n (lv' := [(3, .int ((0 : Int32))), (0, .ref v0), (1, .int v1), (2, .int v2)]) C dX9_become_11 (by decide) rfl ?_
  refine E_at (pc2 := 12) rfl ?_
  refine E_pick (lv' := [(0, .ref v0), (3, .int ((0 : Int32)))]) [1, 0] rfl ?_
  refine X9_become_L12_ok C v0 (fun μ_31 => ?_) FU ((0 : Int32)) μ7
  exact E_ret C dX9_become_31
def fX9_hasPlace (v0 : Nat) (v1 : Int32) (μ : Mem) : Option (Int32 × Mem) :=
  (gI μ v0 9 1).bind fun x3 => bd (fX10_within v1 ((0 : Int32)) ((x3 - (1 : Int32))) μ) fun x8 μ8 => (zz x8).bind fun z => some (z, μ8)
set_option maxHeartbeats 4000000 in
set_option maxRecDepth 100000 in
theorem mX9_hasPlace (v0 : Nat) (v1 : Int32) (μ : Mem) : Meth wI yX9_hasPlace cX9_hasPlace 2 (some .boolean) 1 [.ref v0, .int v1] μ (fX9_hasPlace v0 v1 μ) := by
  refine Meth.of (by decide) [(0, .ref v0), (1, .int v1)] rfl (Nat.le_of_ble_eq_true rfl) ?_
  intro p l e R s m args below meth c D ca ad A X C
  have C : CX p R s m args meth c D ca ad A X cX9_hasPlace RX9 2 (some .boolean) 1 := C
  unfold fX9_hasPlace
  refine E_iload_n C dX9_hasPlace_0 1 rfl ?_
  refine E_iconst C 0 dX9_hasPlace_1 (by decide) ?_
  refine E_aload_n C dX9_hasPlace_2 0 rfl ?_
  refine E_getI C F_X9_15 dX9_hasPlace_3 (fun x3 => ?_)
  refine E_iconst C 1 dX9_hasPlace_6 (by decide) ?_
  refine E_isub C dX9_hasPlace_7 ?_
  refine E_callNI (st := []) C [.int v1, .int ((0 : Int32)), .int ((x3 - (1 : Int32)))] (mX10_within v1 ((0 : Int32)) ((x3 - (1 : Int32))) μ) cal_X10_within st_X10_within lk_X9_22 dX9_hasPlace_8 rfl rfl (Nat.le_of_ble_eq_true rfl) (Nat.le_of_ble_eq_true rfl) (fun x8 μ8 => ?_)
  exact E_zret C dX9_hasPlace_11
def fX9_hasRange (v0 : Nat) (v1 : Int32) (v2 : Int32) (μ : Mem) : Option (Int32 × Mem) :=
  if v1 < 0 then ((zz ((0 : Int32))).bind fun z => some (z, μ)) else (if v2 < 0 then ((zz ((0 : Int32))).bind fun z => some (z, μ)) else ((gI μ v0 9 1).bind fun x10 => if (x10 - v1) < v2 then ((zz ((0 : Int32))).bind fun z => some (z, μ)) else ((zz ((1 : Int32))).bind fun z => some (z, μ))))
set_option maxHeartbeats 4000000 in
set_option maxRecDepth 100000 in
theorem mX9_hasRange (v0 : Nat) (v1 : Int32) (v2 : Int32) (μ : Mem) : Meth wI yX9_hasRange cX9_hasRange 3 (some .boolean) 0 [.ref v0, .int v1, .int v2] μ (fX9_hasRange v0 v1 v2 μ) := by
  refine Meth.of (by decide) [(0, .ref v0), (1, .int v1), (2, .int v2)] rfl (Nat.le_of_ble_eq_true rfl) ?_
  intro p l e R s m args below meth c D ca ad A X C
  have C : CX p R s m args meth c D ca ad A X cX9_hasRange RX9 3 (some .boolean) 0 := C
  unfold fX9_hasRange
  refine E_iload_n C dX9_hasRange_0 1 rfl ?_
  refine E_if_lt C 22 dX9_hasRange_1 (by decide) ?_ ?_
  · refine E_iconst C 0 dX9_hasRange_22 (by decide) ?_
    exact E_zret C dX9_hasRange_23
  · refine E_at (pc2 := 4) rfl ?_
    refine E_iload_n C dX9_hasRange_4 2 rfl ?_
    refine E_if_lt C 22 dX9_hasRange_5 (by decide) ?_ ?_
    · refine E_iconst C 0 dX9_hasRange_22 (by decide) ?_
      exact E_zret C dX9_hasRange_23
    · refine E_at (pc2 := 8) rfl ?_
      refine E_iload_n C dX9_hasRange_8 2 rfl ?_
      refine E_aload_n C dX9_hasRange_9 0 rfl ?_
      refine E_getI C F_X9_15 dX9_hasRange_10 (fun x10 => ?_)
      refine E_iload_n C dX9_hasRange_13 1 rfl ?_
      refine E_isub C dX9_hasRange_14 ?_
      refine E_icmp_gt C 22 dX9_hasRange_15 (by decide) ?_ ?_
      · refine E_iconst C 0 dX9_hasRange_22 (by decide) ?_
        exact E_zret C dX9_hasRange_23
      · refine E_at (pc2 := 18) rfl ?_
        refine E_iconst C 1 dX9_hasRange_18 (by decide) ?_
        refine E_goto C 23 dX9_hasRange_19 (by decide) ?_
        exact E_zret C dX9_hasRange_23
def fX9_asItem (v0 : Nat) (v1 : Int64) (μ : Mem) : Option (Int64 × Mem) :=
  (gI μ v0 9 0).bind fun x1 => if x1 = 0 then (some (v1.toInt32.toInt8.toInt32.toInt64, μ)) else if x1 = 1 then (some (v1.toInt32.toInt16.toInt32.toInt64, μ)) else if x1 = 2 then (some (v1.toInt32.toInt64, μ)) else if x1 = 3 then (some (v1, μ)) else (if (lg_cmp v1 ((0 : Int64))) = 0 then (some ((0 : Int64), μ)) else (some ((1 : Int64), μ)))
set_option maxHeartbeats 4000000 in
set_option maxRecDepth 100000 in
theorem mX9_asItem (v0 : Nat) (v1 : Int64) (μ : Mem) : Meth wJ yX9_asItem cX9_asItem 3 (some .long) 0 [.ref v0, .long v1] μ (fX9_asItem v0 v1 μ) := by
  refine Meth.of (by decide) [(0, .ref v0), (1, .long v1)] rfl (Nat.le_of_ble_eq_true rfl) ?_
  intro p l e R s m args below meth c D ca ad A X C
  have C : CX p R s m args meth c D ca ad A X cX9_asItem RX9 3 (some .long) 0 := C
  unfold fX9_asItem
  refine E_aload_n C dX9_asItem_0 0 rfl ?_
  refine E_getI C F_X9_9 dX9_asItem_1 (fun x1 => ?_)
  refine E_ite (fun h4_0 => ?_) (fun h4_0 => ?_)
  · refine E_tabIn (kx := 0) (off := 32) C 36 h4_0 dX9_asItem_4 (by decide +kernel) (by decide) ?_
    refine E_lload_n C dX9_asItem_36 1 rfl ?_
    refine E_l2i C dX9_asItem_37 ?_
    refine E_i2b C dX9_asItem_38 ?_
    refine E_i2l C dX9_asItem_39 ?_
    exact E_lret C dX9_asItem_40
  · refine E_ite (fun h4_1 => ?_) (fun h4_1 => ?_)
    · refine E_tabIn (kx := 1) (off := 37) C 41 h4_1 dX9_asItem_4 (by decide +kernel) (by decide) ?_
      refine E_lload_n C dX9_asItem_41 1 rfl ?_
      refine E_l2i C dX9_asItem_42 ?_
      refine E_i2s C dX9_asItem_43 ?_
      refine E_i2l C dX9_asItem_44 ?_
      exact E_lret C dX9_asItem_45
    · refine E_ite (fun h4_2 => ?_) (fun h4_2 => ?_)
      · refine E_tabIn (kx := 2) (off := 42) C 46 h4_2 dX9_asItem_4 (by decide +kernel) (by decide) ?_
        refine E_lload_n C dX9_asItem_46 1 rfl ?_
        refine E_l2i C dX9_asItem_47 ?_
        refine E_i2l C dX9_asItem_48 ?_
        exact E_lret C dX9_asItem_49
      · refine E_ite (fun h4_3 => ?_) (fun h4_3 => ?_)
        · refine E_tabIn (kx := 3) (off := 46) C 50 h4_3 dX9_asItem_4 (by decide +kernel) (by decide) ?_
          refine E_lload_n C dX9_asItem_50 1 rfl ?_
          exact E_lret C dX9_asItem_51
        · refine E_tabOut C 52 dX9_asItem_4 (by have q0 := i32_ne h4_0 (n := 0) rfl; have q1 := i32_ne h4_1 (n := 1) rfl; have q2 := i32_ne h4_2 (n := 2) rfl; have q3 := i32_ne h4_3 (n := 3) rfl; omega) (by decide) ?_
          refine E_lload_n C dX9_asItem_52 1 rfl ?_
          refine E_lconst C 0 dX9_asItem_53 (by decide) ?_
          refine E_lcmp C dX9_asItem_54 ?_
          refine E_if_eq C 62 dX9_asItem_55 (by decide) ?_ ?_
          · refine E_lconst C 0 dX9_asItem_62 (by decide) ?_
            exact E_lret C dX9_asItem_63
          · refine E_at (pc2 := 58) rfl ?_
            refine E_lconst C 1 dX9_asItem_58 (by decide) ?_
            refine E_goto C 63 dX9_asItem_59 (by decide) ?_
            exact E_lret C dX9_asItem_63
