theorem cl_L_7 : Cond.classLink RL 7 RX10 ∈ lw_g := mem_g (List.mem_of_getElem? (i := 77) (by decide +kernel)) (by decide +kernel)
theorem ins_X10 : Cond.instantiable RX10 17 ∈ lw_g := mem_g (List.mem_of_getElem? (i := 78) (by decide +kernel)) (by decide +kernel)
theorem ini_X10 : Cond.initialized RX10 ∈ lw_g := mem_g (List.mem_of_getElem? (i := 58) (by decide +kernel)) (by decide +kernel)
theorem lk_L_9 : Cond.methodLink RL 9 yX10_init ∈ lw_g := mem_g (List.mem_of_getElem? (i := 79) (by decide +kernel)) (by decide +kernel)
theorem im_X10_init : Cond.instanceMethod yX10_init ∈ lw_g := mem_g (List.mem_of_getElem? (i := 80) (by decide +kernel)) (by decide +kernel)
theorem cal_X10_init : CalOK yX10_init cX10_init 2 none 0 := ⟨mem_g (List.mem_of_getElem? (i := 81) (by decide +kernel)) (by decide +kernel), mem_g (List.mem_of_getElem? (i := 58) (by decide +kernel)) (by decide +kernel), ⟨by decide +kernel, by decide +kernel, by decide +kernel⟩, by decide⟩
theorem cl_L_10 : Cond.classLink RL 10 RX11 ∈ lw_g := mem_g (List.mem_of_getElem? (i := 1066) (by decide +kernel)) (by decide +kernel)
theorem ins_X11 : Cond.instantiable RX11 36 ∈ lw_g := mem_g (List.mem_of_getElem? (i := 1067) (by decide +kernel)) (by decide +kernel)
theorem ini_X11 : Cond.initialized RX11 ∈ lw_g := mem_g (List.mem_of_getElem? (i := 69) (by decide +kernel)) (by decide +kernel)
theorem lk_L_12 : Cond.methodLink RL 12 yX11_init ∈ lw_g := mem_g (List.mem_of_getElem? (i := 1068) (by decide +kernel)) (by decide +kernel)
theorem im_X11_init : Cond.instanceMethod yX11_init ∈ lw_g := mem_g (List.mem_of_getElem? (i := 1069) (by decide +kernel)) (by decide +kernel)
theorem cal_X11_init : CalOK yX11_init cX11_init 3 none 0 := ⟨mem_g (List.mem_of_getElem? (i := 1070) (by decide +kernel)) (by decide +kernel), mem_g (List.mem_of_getElem? (i := 69) (by decide +kernel)) (by decide +kernel), ⟨by decide +kernel, by decide +kernel, by decide +kernel⟩, by decide⟩
theorem dfl10_ok (ad : Nat → Nat) : ∀ j, j < 17 → defaultValue (tyX10 j) = vp_V (dfl10.map (cV ad)) j := fun j hj => match j, hj with
  | 0, _ => rfl
  | 1, _ => rfl
  | 2, _ => rfl
  | 3, _ => rfl
  | 4, _ => rfl
  | 5, _ => rfl
  | 6, _ => rfl
  | 7, _ => rfl
  | 8, _ => rfl
  | 9, _ => rfl
  | 10, _ => rfl
  | 11, _ => rfl
  | 12, _ => rfl
  | 13, _ => rfl
  | 14, _ => rfl
  | 15, _ => rfl
  | 16, _ => rfl
  | n + 17, h => absurd h (by omega)
theorem dfl11_ok (ad : Nat → Nat) : ∀ j, j < 36 → defaultValue (tyX11 j) = vp_V (dfl11.map (cV ad)) j := fun j hj => match j, hj with
  | 0, _ => rfl
  | 1, _ => rfl
  | 2, _ => rfl
  | 3, _ => rfl
  | 4, _ => rfl
  | 5, _ => rfl
  | 6, _ => rfl
  | 7, _ => rfl
  | 8, _ => rfl
  | 9, _ => rfl
  | 10, _ => rfl
  | 11, _ => rfl
  | 12, _ => rfl
  | 13, _ => rfl
  | 14, _ => rfl
  | 15, _ => rfl
  | 16, _ => rfl
  | 17, _ => rfl
  | 18, _ => rfl
  | 19, _ => rfl
  | 20, _ => rfl
  | 21, _ => rfl
  | 22, _ => rfl
  | 23, _ => rfl
  | 24, _ => rfl
  | 25, _ => rfl
  | 26, _ => rfl
  | 27, _ => rfl
  | 28, _ => rfl
  | 29, _ => rfl
  | 30, _ => rfl
  | 31, _ => rfl
  | 32, _ => rfl
  | 33, _ => rfl
  | 34, _ => rfl
  | 35, _ => rfl
  | n + 36, h => absurd h (by omega)
/-- the law's loop, over the memory as the constructors lay it: told over the layout -/
noncomputable def lawZ (L : Nat) (xs : Nat → Int32) (q q2 : Nat) (μ : Mem) : Option (Int32 × Mem) := @ite _ (q = 0 ∧ q2 = 102 ∧ μ = mZ) (Classical.propDecidable _) (L_law_L18 L xs 0 101 4000 0 (lay z0)) none
/-- the law, from its entry on, over nothing made yet -/
noncomputable def lawF (L : Nat) (xs : Nat → Int32) : Option (Int32 × Mem) := nw [] (.inr (10, dfl10)) fun q μ1 => bd (fX10_init q μ1) fun _ μ2 => nw μ2 (.inr (11, dfl11)) fun q2 μ3 => bd (fX11_init q2 μ3) fun _ μ4 => lawZ L xs q q2 μ4
theorem nw_eq {β : Type} {μ : Mem} {c : AC} {F : Nat → Mem → Option β} : nw μ c F = F μ.length (μ ++ [c]) := Eq.trans rfl rfl
theorem lawF_1 {L : Nat} {xs : Nat → Int32} (hL : L ≤ 3584) : ∃ t, lawF L xs = some (1, lay t) := by
  obtain ⟨t, ht⟩ := law_pure (xs := xs) hL
  refine ⟨t, ?_⟩
  unfold lawF
  rw [nw_eq, List.length_nil, born10]
  simp only [bd_s]
  rw [nw_eq, List.nil_append, min_len, born11]
  simp only [bd_s]
  unfold lawZ
  rw [if_pos ⟨rfl, rfl, rfl⟩]
  exact ht
/-- what stands behind place 999 isn't renamed: the surroundings stay -/
theorem env_re {D : va_G} {ca : Nat → ClassId} {ad : Nat → Nat} {A : Nat → Prop} {L : Nat} {xs : Nat → Int32} {U : State} (h : EnvOK D ca ad A (ScrOK ad A L xs) U) : EnvOK D ca (fun k => ad (piN k)) A (ScrOK (fun k => ad (piN k)) A L xs) U := by
  obtain ⟨h1, h2, h3, h4, ⟨h5, h6, h7, w, hw, h9⟩, h8⟩ := h
  refine ⟨h1, fun j q hq => ?_, h3, h4, ⟨fun j q hq => ?_, ?_, h7, w, hw, ?_⟩, ?_⟩
  · show va_Z _ _ _ (.ref (ad (piN (1001 + j)))) A U U.heap ∧ va_T .int (ad (piN (1001 + j))) _ _ A U U.heap
    rw [piN_hi (by omega)]
    exact h2 j q hq
  · show vk_R _ _ _ (ad (piN (1011 + j))) U
    rw [piN_hi (by omega)]
    exact h5 j q hq
  · have e1 : (fun i => ad (piN (1011 + i))) = fun i => ad (1011 + i) := funext fun i => by rw [piN_hi (by omega)]
    have e2 : (fun i => ad (piN (1021 + i))) = fun i => ad (1021 + i) := funext fun i => by rw [piN_hi (by omega)]
    show vk_S 6 _ _ (fun i => ad (piN (1011 + i))) (fun i => ad (piN (1021 + i))) A U U.heap
    rw [e1, e2]
    exact h6
  · rcases hw with rfl | rfl
    · exact h9
    · exact h9
  · exact h8
/-- the same body, told over a memory whose places bear other names -/
theorem E_ren {τ : Type} {p : Program} {l : Launch} {e : Env} {R : Room} {s : State} {m : MethodId} {args : Array Value} {below : List Frame} {meth : Method} {c : Code} {D : va_G} {ca : Nat → ClassId} {ad π : Nat → Nat} {A : Nat → Prop} {nL cells slots : Nat} {wr : τ → Option Value} {K : Option Value → Mem → State → Prop} {pc : Nat} {lv lv2 : List (Nat × Value)} {st st2 : List Value} {μ μ2 : Mem} {o : Option (τ × Mem)} (hi : ∀ i j, π i = π j → i = j) (hm : ∀ k c, μ2[k]? = some c → μ[π k]? = some (reC π c)) (hl : lv = lvC π lv2) (hs : st = st2.map (cV π)) (h : Sm p l e R s m args below meth c D ca (fun k => ad (π k)) A nL cells slots wr K pc lv2 st2 μ2 o) : Sm p l e R s m args below meth c D ca ad A nL cells slots wr K pc lv st μ o := by
  have hq : ∀ k q, (conc (fun k => ad (π k)) ca μ2)[k]? = some q → (conc ad ca μ)[π k]? = some q := fun k q hq => by
    unfold conc at hq
    rw [List.getElem?_mapIdx] at hq
    obtain ⟨c, hc, rfl⟩ := Option.map_eq_some_iff.mp hq
    rw [conc_at (hm k c hc), cE_re]
  intro x μ' ho H locs ls hP hD hS hL hc1 hc2
  have hP2 : va_P D vwCl (conc (fun k => ad (π k)) ca μ2) H := fun k q h => hP (π k) q (hq k q h)
  have hD2 : va_D A (conc (fun k => ad (π k)) ca μ2) := ⟨fun i j a b ha hb hab => hi i j (hD.1 (π i) (π j) a b (hq i a ha) (hq j b hb) hab), fun k q h => hD.2 (π k) q (hq k q h)⟩
  have eL : lvC ad lv = lvC (fun k => ad (π k)) lv2 := by
    rw [hl]
    unfold lvC
    rw [List.map_map]
    refine congrArg (fun f => lv2.map f) (funext fun q => ?_)
    show (q.1, cV ad (cV π q.2)) = (q.1, cV (fun k => ad (π k)) q.2)
    rw [cV_re]
  have eS : st.map (cV ad) = st2.map (cV fun k => ad (π k)) := by
    rw [hs, List.map_map]
    exact congrArg (fun f => st2.map f) (funext fun v => cV_re)
  rw [eL] at hL
  rw [eS]
  exact h x μ' ho H locs ls hP2 hD2 hS hL hc1 hc2
set_option maxRecDepth 100000 in
theorem lawS {p : Program} {l : Launch} {e : Env} {s : State} {m : MethodId} {args : Array Value} {below : List Frame} {meth : Method} {c : Code} {D : va_G} {ca : Nat → ClassId} {ad : Nat → Nat} {L : Nat} {xs : Nat → Int32} {K : Option Value → Mem → State → Prop} (C : CX p room_1 s m args meth c D ca ad (lawA s) (ScrOK ad (lawA s) L xs) cL_law RL 4 ret 11) (hK : LRet p l e room_1 s m args below meth c (lawA s) K) (hB : ∀ k, k < 900 → ad k = s.heap.size + k) : Sm p l e room_1 s m args below meth c D ca ad (lawA s) 4 0 0 wI K 0 [(0, .ref 1000)] [] [] (lawF L xs) := by
  unfold lawF
  refine E_new (mc := 600000) (ms := 7302250) (n0 := 0) (ty := tyX10) C ⟨hB, rfl, Nat.le_refl _, Nat.le_refl _⟩ dfl10 rfl iw10 tyX10_ok (dfl10_ok ad) cl_L_7 ins_X10 ini_X10 rfl (Nat.le_of_ble_eq_true rfl) (Nat.le_of_ble_eq_true rfl) (Nat.le_of_ble_eq_true rfl) dL_law_0 (fun q μ1 _ _ h1 => ?_)
  have h1 : μ1.length = 0 + 1 := h1
  refine E_dup_r C dL_law_3 ?_
  refine E_initL (mc := 600000) (ms := 7302250) (n0 := 0) (st := [.ref q]) C ⟨hB, rfl, Nat.le_refl _, Nat.le_refl _⟩ [] (mX10_init q μ1 (by omega)) cal_X10_init rfl im_X10_init lk_L_9 dL_law_4 rfl rfl (Nat.le_of_ble_eq_true rfl) (Nat.le_of_ble_eq_true rfl) h1 (by omega) (Nat.le_of_ble_eq_true rfl) (Nat.le_of_ble_eq_true rfl) (fun μ2 h2 => ?_)
  have h2 : μ2.length = 0 + 102 := by omega
  refine E_astore_n (lv' := [(1, .ref q), (0, .ref 1000)]) C dL_law_7 (by decide) rfl ?_
  refine E_new (mc := 600000) (ms := 7302250) (n0 := 0) (ty := tyX11) C ⟨hB, rfl, Nat.le_refl _, Nat.le_refl _⟩ dfl11 rfl iw11 tyX11_ok (dfl11_ok ad) cl_L_10 ins_X11 ini_X11 h2 (by omega) (Nat.le_of_ble_eq_true rfl) (Nat.le_of_ble_eq_true rfl) dL_law_8 (fun q2 μ3 _ _ h3 => ?_)
  have h3 : μ3.length = 0 + 103 := by omega
  refine E_dup_r C dL_law_11 ?_
  refine E_initL (mc := 600000) (ms := 7302250) (n0 := 0) (st := [.ref q2]) C ⟨hB, rfl, Nat.le_refl _, Nat.le_refl _⟩ [] (mX11_init q2 μ3 (by omega)) cal_X11_init rfl im_X11_init lk_L_12 dL_law_12 rfl rfl (Nat.le_of_ble_eq_true rfl) (Nat.le_of_ble_eq_true rfl) h3 (by omega) (Nat.le_of_ble_eq_true rfl) (Nat.le_of_ble_eq_true rfl) (fun μ4 h4 => ?_)
  refine E_astore_n (lv' := [(2, .ref q2), (1, .ref q), (0, .ref 1000)]) C dL_law_15 (by decide) rfl ?_
  refine E_iconst C 0 dL_law_16 (by decide) ?_
  refine E_istore_n (lv' := [(3, .int 0), (2, .ref q2), (1, .ref q), (0, .ref 1000)]) C dL_law_17 (by decide) rfl ?_
  unfold lawZ
  by_cases hz : q = 0 ∧ q2 = 102 ∧ μ4 = mZ
  · rw [if_pos hz]
    obtain ⟨rfl, rfl, rfl⟩ := hz
    have C2 : CX p room_1 s m args meth c D ca (fun k => ad (piN k)) (lawA s) (ScrOK (fun k => ad (piN k)) (lawA s) L xs) cL_law RL 4 ret 11 := ⟨C.1, C.2.1, C.2.2.1, C.2.2.2.1, C.2.2.2.2.1, env_re C.2.2.2.2.2.1, C.2.2.2.2.2.2.1, C.2.2.2.2.2.2.2.1, ScrOK.steady, C.2.2.2.2.2.2.2.2.2.1, C.2.2.2.2.2.2.2.2.2.2⟩
    exact E_ren (π := piN) (lv2 := [(3, .int 0), (2, .ref 101), (1, .ref 0), (0, .ref 1000)]) (st2 := []) (fun i j h => piN_inj h) (fun k c h => mZ_at h) rfl rfl (E_pick [3, 2, 1, 0] rfl (L_law_L18_ok C2 hK 0 101 4000 0 (lay z0)))
  · rw [if_neg hz]
    exact E_none
