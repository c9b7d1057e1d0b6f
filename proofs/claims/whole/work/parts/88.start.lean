theorem cl_L_7 : Cond.classLink RL 7 RX10 ∈ lw_g := mem_g (List.mem_of_getElem? (i := 76) (by decide +kernel)) (by decide +kernel)
theorem ins_X10 : Cond.instantiable RX10 17 ∈ lw_g := mem_g (List.mem_of_getElem? (i := 77) (by decide +kernel)) (by decide +kernel)
theorem ini_X10 : Cond.initialized RX10 ∈ lw_g := mem_g (List.mem_of_getElem? (i := 57) (by decide +kernel)) (by decide +kernel)
theorem lk_L_9 : Cond.methodLink RL 9 yX10_init ∈ lw_g := mem_g (List.mem_of_getElem? (i := 78) (by decide +kernel)) (by decide +kernel)
theorem im_X10_init : Cond.instanceMethod yX10_init ∈ lw_g := mem_g (List.mem_of_getElem? (i := 79) (by decide +kernel)) (by decide +kernel)
theorem cal_X10_init : CalOK yX10_init cX10_init 2 none 0 := ⟨mem_g (List.mem_of_getElem? (i := 80) (by decide +kernel)) (by decide +kernel), mem_g (List.mem_of_getElem? (i := 57) (by decide +kernel)) (by decide +kernel), ⟨by decide +kernel, by decide +kernel, by decide +kernel⟩, by decide⟩
theorem cl_L_10 : Cond.classLink RL 10 RX11 ∈ lw_g := mem_g (List.mem_of_getElem? (i := 1058) (by decide +kernel)) (by decide +kernel)
theorem ins_X11 : Cond.instantiable RX11 36 ∈ lw_g := mem_g (List.mem_of_getElem? (i := 1059) (by decide +kernel)) (by decide +kernel)
theorem ini_X11 : Cond.initialized RX11 ∈ lw_g := mem_g (List.mem_of_getElem? (i := 68) (by decide +kernel)) (by decide +kernel)
theorem lk_L_12 : Cond.methodLink RL 12 yX11_init ∈ lw_g := mem_g (List.mem_of_getElem? (i := 1060) (by decide +kernel)) (by decide +kernel)
theorem im_X11_init : Cond.instanceMethod yX11_init ∈ lw_g := mem_g (List.mem_of_getElem? (i := 1061) (by decide +kernel)) (by decide +kernel)
theorem cal_X11_init : CalOK yX11_init cX11_init 3 none 0 := ⟨mem_g (List.mem_of_getElem? (i := 1062) (by decide +kernel)) (by decide +kernel), mem_g (List.mem_of_getElem? (i := 68) (by decide +kernel)) (by decide +kernel), ⟨by decide +kernel, by decide +kernel, by decide +kernel⟩, by decide⟩
theorem dfl10_ok (ad : Nat → Nat) : ∀ j, j < 17 → defaultValue (tyX10 j) = vp_V (dfl10.map (cV ad)) j := fun j hj => match j, hj with
  | 0, _ => rfl
  | 1, _ => rfl
  | 2, _ => rfl
  | 3, _ => rfl
  | 4, _ => rfl
  | 5, _ => rfl
  | 6, _ => rfl
  | 7, _ => rfl
  | 8, _ => rfl
  | 9, _ => rfl
  | 10, _ => rfl
  | 11, _ => rfl
  | 12, _ => rfl
  | 13, _ => rfl
  | 14, _ => rfl
  | 15, _ => rfl
  | 16, _ => rfl
  | n + 17, h => absurd h (by omega)
theorem dfl11_ok (ad : Nat → Nat) : ∀ j, j < 36 → defaultValue (tyX11 j) = vp_V (dfl11.map (cV ad)) j := fun j hj => match j, hj with
  | 0, _ => rfl
  | 1, _ => rfl
  | 2, _ => rfl
  | 3, _ => rfl
  | 4, _ => rfl
  | 5, _ => rfl
  | 6, _ => rfl
  | 7, _ => rfl
  | 8, _ => rfl
  | 9, _ => rfl
  | 10, _ => rfl
  | 11, _ => rfl
  | 12, _ => rfl
  | 13, _ => rfl
  | 14, _ => rfl
  | 15, _ => rfl
  | 16, _ => rfl
  | 17, _ => rfl
  | 18, _ => rfl
  | 19, _ => rfl
  | 20, _ => rfl
  | 21, _ => rfl
  | 22, _ => rfl
  | 23, _ => rfl
  | 24, _ => rfl
  | 25, _ => rfl
  | 26, _ => rfl
  | 27, _ => rfl
  | 28, _ => rfl
  | 29, _ => rfl
  | 30, _ => rfl
  | 31, _ => rfl
  | 32, _ => rfl
  | 33, _ => rfl
  | 34, _ => rfl
  | 35, _ => rfl
  | n + 36, h => absurd h (by omega)
/-- the law, from its entry on, over nothing made yet -/
def lawF (L : Nat) (xs : Nat → Int32) : Option (Int32 × Mem) := nw [] (.inr (10, dfl10)) fun q μ1 => bd (fX10_init q μ1) fun _ μ2 => nw μ2 (.inr (11, dfl11)) fun q2 μ3 => bd (fX11_init q2 μ3) fun _ μ4 => L_law_L18 L xs q q2 4000 0 μ4
theorem nw_eq {β : Type} {μ : Mem} {c : AC} {F : Nat → Mem → Option β} : nw μ c F = F μ.length (μ ++ [c]) := Eq.trans rfl rfl
theorem lawF_1 {L : Nat} {xs : Nat → Int32} (hL : L ≤ 3584) : ∃ t, lawF L xs = some (1, lay t) := by
  obtain ⟨t, ht⟩ := law_pure (xs := xs) hL
  refine ⟨t, ?_⟩
  unfold lawF
  rw [nw_eq, List.length_nil, born10]
  simp only [bd_s]
  rw [nw_eq, List.nil_append, min_len, born11]
  simp only [bd_s]
  exact ht
set_option maxRecDepth 100000 in
theorem lawS {p : Program} {l : Launch} {e : Env} {s : State} {m : MethodId} {args : Array Value} {below : List Frame} {meth : Method} {c : Code} {D : va_G} {ca : Nat → ClassId} {ad : Nat → Nat} {L : Nat} {xs : Nat → Int32} {K : Option Value → Mem → State → Prop} (C : CX p room_1 s m args meth c D ca ad (lawA s) (ScrOK ad (lawA s) L xs) cL_law RL 4 ret 20) (hK : LRet p l e room_1 s m args below meth c (lawA s) K) (hB : ∀ k, k < 900 → ad k = s.heap.size + k) : Sm p l e room_1 s m args below meth c D ca ad (lawA s) 4 0 0 wI K 0 [(0, .ref 1000)] [] [] (lawF L xs) := by
  unfold lawF
  refine E_new (mc := 600000) (ms := 7302250) (n0 := 0) (ty := tyX10) C ⟨hB, rfl, Nat.le_refl _, Nat.le_refl _⟩ dfl10 rfl iw10 tyX10_ok (dfl10_ok ad) cl_L_7 ins_X10 ini_X10 rfl (Nat.le_of_ble_eq_true rfl) (Nat.le_of_ble_eq_true rfl) (Nat.le_of_ble_eq_true rfl) dL_law_0 (fun q μ1 _ _ h1 => ?_)
  have h1 : μ1.length = 0 + 1 := h1
  refine E_dup_r C dL_law_3 ?_
  refine E_initL (mc := 600000) (ms := 7302250) (n0 := 0) (st := [.ref q]) C ⟨hB, rfl, Nat.le_refl _, Nat.le_refl _⟩ [] (mX10_init q μ1 (by omega)) cal_X10_init rfl im_X10_init lk_L_9 dL_law_4 rfl rfl (Nat.le_of_ble_eq_true rfl) (Nat.le_of_ble_eq_true rfl) h1 (by omega) (Nat.le_of_ble_eq_true rfl) (Nat.le_of_ble_eq_true rfl) (fun μ2 h2 => ?_)
  have h2 : μ2.length = 0 + 101 := by omega
  refine E_astore_n (lv' := [(1, .ref q), (0, .ref 1000)]) C dL_law_7 (by decide) rfl ?_
  refine E_new (mc := 600000) (ms := 7302250) (n0 := 0) (ty := tyX11) C ⟨hB, rfl, Nat.le_refl _, Nat.le_refl _⟩ dfl11 rfl iw11 tyX11_ok (dfl11_ok ad) cl_L_10 ins_X11 ini_X11 h2 (by omega) (Nat.le_of_ble_eq_true rfl) (Nat.le_of_ble_eq_true rfl) dL_law_8 (fun q2 μ3 _ _ h3 => ?_)
  have h3 : μ3.length = 0 + 102 := by omega
  refine E_dup_r C dL_law_11 ?_
  refine E_initL (mc := 600000) (ms := 7302250) (n0 := 0) (st := [.ref q2]) C ⟨hB, rfl, Nat.le_refl _, Nat.le_refl _⟩ [] (mX11_init q2 μ3 (by omega)) cal_X11_init rfl im_X11_init lk_L_12 dL_law_12 rfl rfl (Nat.le_of_ble_eq_true rfl) (Nat.le_of_ble_eq_true rfl) h3 (by omega) (Nat.le_of_ble_eq_true rfl) (Nat.le_of_ble_eq_true rfl) (fun μ4 h4 => ?_)
  refine E_astore_n (lv' := [(2, .ref q2), (1, .ref q), (0, .ref 1000)]) C dL_law_15 (by decide) rfl ?_
  refine E_iconst C 0 dL_law_16 (by decide) ?_
  refine E_istore_n (lv' := [(3, .int 0), (2, .ref q2), (1, .ref q), (0, .ref 1000)]) C dL_law_17 (by decide) rfl ?_
  exact E_pick [3, 2, 1, 0] rfl (L_law_L18_ok C hK q q2 4000 0 μ4)
