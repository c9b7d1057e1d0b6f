section RULES4
variable {p : Program} {l : Launch} {e : Env} {R : Room} {s : State} {m : MethodId} {args : Array Value} {below : List Frame} {meth : Method} {c : Code} {D : va_G} {ca : Nat → ClassId} {ad : Nat → Nat} {A : Nat → Prop} {X : State → Prop} {cc : ByteArray} {own : String} {nL cells slots : Nat} {ret : Option FieldType} {d : Nat} {τ : Type} {wr : τ → Option Value} {K : Option Value → Mem → State → Prop} {pc : Nat} {lv lv' : List (Nat × Value)} {st : List Value} {μ : Mem} {o o1 o2 : Option (τ × Mem)}
theorem lv_ldcwf {H : Heap} {locs : List Loc} {cells slots : Nat} {Q : State → Prop} {ls : Array Slot} {rest : List Value} (hexec : p.tables.exec = Jvm.exec) (hb : c.code = cc) {own : String} {index : Nat} {v : UInt32} (hown : s.vm.findClass own = some m.cls) (hconst : (Jvm.Cond.constantFloat own index v).before args s = true) (hdg : decode cc pc = .ok (.ldc_w index, 3)) (k : W p l e R s m args below meth c H locs cells slots Q (F0 m (pc + 3) ls (.float v :: rest))) : W p l e R s m args below meth c H locs cells slots Q (F0 m pc ls rest) := by
  intro T hT X
  obtain ⟨t, a, b⟩ := k T hT X
  refine ⟨t, ?_, b⟩
  obtain ⟨k, cf, hk, hcf, hcp⟩ := Cond.constantFloat_spec hown hconst
  obtain ⟨k', hk', he⟩ := X.warmed.alike.2.2 _ _ hk
  have hdg : decode c.code (F0 m pc ls rest).pc = .ok (.ldc_w index, 3) := by rw [hb]; exact hdg
  jvm_step X.here [hexec, hdg, ldc_w.wp_float (s := T) (f := F0 m pc ls rest) X.here.top hk' (by rw [he]; exact hcf) hcp]
  exact a
theorem E_ldcwF (C : CX p R s m args meth c D ca ad A X cc own nL ret d) {index : Nat} {v : UInt32} (hd : decode cc pc = .ok (.ldc_w index, 3)) (hw : Cond.constantFloat own index v ∈ lw_g) (k : Sm p l e R s m args below meth c D ca ad A nL cells slots wr K (pc + 3) lv (.float v :: st) μ (o)) : Sm p l e R s m args below meth c D ca ad A nL cells slots wr K (pc) lv (st) μ (o) := fun a μ2 h H locs ls hP hD hS hl hc1 hc2 => lv_ldcwf C.1 C.2.1 C.2.2.2.1 (C.2.2.2.2.1 _ hw) hd (k a μ2 h H locs ls hP hD hS hl hc1 hc2)
theorem E_ldcS (C : CX p R s m args meth c D ca ad A X cc "ReservoirMind$Clauses" nL ret d) {j : Nat} {q : Nat × String × List Int32} (hj : textA[j]? = some q) (hd : decode cc pc = .ok (.ldc q.1, 2)) (k : Sm p l e R s m args below meth c D ca ad A nL cells slots wr K (pc + 2) lv (.ref (1011 + j) :: st) μ (o)) : Sm p l e R s m args below meth c D ca ad A nL cells slots wr K (pc) lv (st) μ (o) := fun a μ2 h H locs ls hP hD hS hl hc1 hc2 => va_ldcS C.1 C.2.1 C.2.2.2.1 (C.2.2.2.2.2.1.2.2.2.2.1.1 j q hj) hd (k a μ2 h H locs ls hP hD hS hl hc1 hc2)
theorem E_cs (C : CX p R s m args meth c D ca ad A X cc own nL ret d) {index : Nat} (hw : Cond.fieldLink own index "java/lang/String" "COMPACT_STRINGS" "Z" ∈ lw_g) (hd : decode cc pc = .ok (.getstatic index, 3)) (k : Sm p l e R s m args below meth c D ca ad A nL cells slots wr K (pc + 3) lv (.int 1 :: st) μ (o)) : Sm p l e R s m args below meth c D ca ad A nL cells slots wr K (pc) lv (st) μ (o) := fun a μ2 h H locs ls hP hD hS hl hc1 hc2 => va_gets C.1 C.2.1 C.2.2.2.2.2.1.2.2.2.2.1.2.2.1 hS C.2.2.2.1 (C.2.2.2.2.1 _ hw) (fun _ h => h) hd (k a μ2 h H locs ls hP hD hS hl hc1 hc2)
theorem E_fmt (C : CX p R s m args meth c D ca ad A X cc own nL ret d) {index : Nat} (hw : Cond.fieldLink own index "jdk/internal/util/Preconditions" "SIOOBE_FORMATTER" "Ljava/util/function/BiFunction;" ∈ lw_g) (hd : decode cc pc = .ok (.getstatic index, 3)) (k : ∀ w : Value, (w = .null ∨ w = .ref 1031) → Sm p l e R s m args below meth c D ca ad A nL cells slots wr K (pc + 3) lv (w :: st) μ (o)) : Sm p l e R s m args below meth c D ca ad A nL cells slots wr K (pc) lv (st) μ (o) := by
  obtain ⟨w, hw2, hZ⟩ := C.2.2.2.2.2.1.2.2.2.2.1.2.2.2
  exact fun a μ2 h H locs ls hP hD hS hl hc1 hc2 => va_gets C.1 C.2.1 hZ hS C.2.2.2.1 (C.2.2.2.2.1 _ hw) (fun _ h => h) hd (k w hw2 a μ2 h H locs ls hP hD hS hl hc1 hc2)
theorem txt_at {q : Nat} (h : 1011 ≤ q ∧ q < 1017) : ∃ i, i < 6 ∧ q = 1011 + i ∧ q - 1011 = i := ⟨q - 1011, by omega, by omega, rfl⟩
theorem btt_at {q : Nat} (h : 1021 ≤ q ∧ q < 1027) : ∃ i, i < 6 ∧ q = 1021 + i ∧ q - 1021 = i := ⟨q - 1021, by omega, by omega, rfl⟩
theorem E_txV (C : CX p R s m args meth c D ca ad A X cc own nL ret d) {index q : Nat} (hw : Cond.fieldLink own index "java/lang/String" "value" "[B" ∈ lw_g) (hd : decode cc pc = .ok (.getfield index, 3)) {G : Nat → Option (τ × Mem)} (k : ∀ z : Nat, Sm p l e R s m args below meth c D ca ad A nL cells slots wr K (pc + 3) lv (.ref z :: st) μ (G z)) : Sm p l e R s m args below meth c D ca ad A nL cells slots wr K (pc) lv (.ref q :: st) μ ((txV q).bind G) := by
  intro a μ2 h H locs ls hP hD hS hl hc1 hc2
  obtain ⟨z, hz, h5⟩ := Option.bind_eq_some_iff.mp h
  clear h
  have h := h5
  clear h5
  unfold txV at hz
  split at hz
  · rename_i hq
    have hz := Option.some.inj hz
    subst hz
    obtain ⟨i, hi, rfl, e⟩ := txt_at hq
    rw [e] at h
    exact vk_getf C.1 C.2.1 (C.2.2.2.2.2.1.2.2.2.2.1.2.1.1 i hi).2.2.1 hS C.2.2.2.1 (C.2.2.2.2.1 _ hw) (fun _ h => h) hd (k _ a μ2 h H locs ls hP hD hS hl hc1 hc2)
  · cases hz
theorem E_txK (C : CX p R s m args meth c D ca ad A X cc own nL ret d) {index q : Nat} (hw : Cond.fieldLink own index "java/lang/String" "coder" "B" ∈ lw_g) (hd : decode cc pc = .ok (.getfield index, 3)) {G : Int32 → Option (τ × Mem)} (k : ∀ z : Int32, Sm p l e R s m args below meth c D ca ad A nL cells slots wr K (pc + 3) lv (.int z :: st) μ (G z)) : Sm p l e R s m args below meth c D ca ad A nL cells slots wr K (pc) lv (.ref q :: st) μ ((txK q).bind G) := by
  intro a μ2 h H locs ls hP hD hS hl hc1 hc2
  obtain ⟨z, hz, h5⟩ := Option.bind_eq_some_iff.mp h
  clear h
  have h := h5
  clear h5
  unfold txK at hz
  split at hz
  · rename_i hq
    have hz := Option.some.inj hz
    subst hz
    obtain ⟨i, hi, rfl, e⟩ := txt_at hq
    exact vk_getf C.1 C.2.1 (C.2.2.2.2.2.1.2.2.2.2.1.2.1.1 i hi).2.1 hS C.2.2.2.1 (C.2.2.2.2.1 _ hw) (fun _ h => h) hd (k _ a μ2 h H locs ls hP hD hS hl hc1 hc2)
  · cases hz
theorem E_btL (C : CX p R s m args meth c D ca ad A X cc own nL ret d) {q : Nat} (hd : decode cc pc = .ok (.arraylength, 1)) {G : Int32 → Option (τ × Mem)} (k : ∀ z : Int32, Sm p l e R s m args below meth c D ca ad A nL cells slots wr K (pc + 1) lv (.int z :: st) μ (G z)) : Sm p l e R s m args below meth c D ca ad A nL cells slots wr K (pc) lv (.ref q :: st) μ ((btL q).bind G) := by
  intro a μ2 h H locs ls hP hD hS hl hc1 hc2
  obtain ⟨z, hz, h5⟩ := Option.bind_eq_some_iff.mp h
  clear h
  have h := h5
  clear h5
  unfold btL at hz
  split at hz
  · rename_i hq
    have hz := Option.some.inj hz
    subst hz
    obtain ⟨i, hi, rfl, e⟩ := btt_at hq
    rw [e] at h
    exact va_tlen C.1 C.2.1 (C.2.2.2.2.2.1.2.2.2.2.1.2.1.1 i hi).2.2.2 hS rfl hd (k _ a μ2 h H locs ls hP hD hS hl hc1 hc2)
  · cases hz
theorem E_btA (C : CX p R s m args meth c D ca ad A X cc own nL ret d) {q : Nat} {i : Int32} (hd : decode cc pc = .ok (.baload, 1)) {G : Int32 → Option (τ × Mem)} (k : ∀ z : Int32, Sm p l e R s m args below meth c D ca ad A nL cells slots wr K (pc + 1) lv (.int z :: st) μ (G z)) : Sm p l e R s m args below meth c D ca ad A nL cells slots wr K (pc) lv (.int i :: .ref q :: st) μ ((btA q i).bind G) := by
  intro a μ2 h H locs ls hP hD hS hl hc1 hc2
  obtain ⟨z, hz, h5⟩ := Option.bind_eq_some_iff.mp h
  clear h
  have h := h5
  clear h5
  unfold btA at hz
  split at hz
  · rename_i hq
    have hz := Option.some.inj hz
    subst hz
    obtain ⟨hq, hin⟩ := hq
    obtain ⟨j, hj, rfl, e⟩ := btt_at hq
    rw [e] at h hin
    exact va_tb C.1 C.2.1 (C.2.2.2.2.2.1.2.2.2.2.1.2.1.1 j hj).2.2.2 hS hin rfl hd (k _ a μ2 h H locs ls hP hD hS hl hc1 hc2)
  · cases hz
theorem E_bret (C : CX p R s m args meth c D ca ad A X cc own nL (some .byte) d) {x : Int32} (hd : decode cc pc = .ok (.ireturn, 1)) : Sm p l e R s m args below meth c D ca ad A nL 0 0 wI (KQ below args s D ca ad A) (pc) lv ([.int x]) μ ((zz x).bind fun z => some (z, μ)) := by
  intro a μ2 h H locs ls hP hD hS hl hc1 hc2
  obtain ⟨z, hz, h⟩ := Option.bind_eq_some_iff.mp h
  cases h
  unfold zz at hz
  split at hz
  · rename_i hx
    cases hz
    refine W.zret C.1 C.2.1 C.2.2.2.2.2.2.1 ?_ (fun t ht hW => ⟨⟨rfl, by rw [ht]; exact hP, hD⟩, hS.F ht⟩) (fun q hq => hS.2.2 q hq) hd (hlocks := C.2.2.2.2.2.2.2.1)
    rcases hx with rfl | rfl <;> rfl
  · cases hz
theorem E_cret (C : CX p R s m args meth c D ca ad A X cc own nL (some .char) d) {x : Int32} (hd : decode cc pc = .ok (.ireturn, 1)) : Sm p l e R s m args below meth c D ca ad A nL 0 0 wI (KQ below args s D ca ad A) (pc) lv ([.int x]) μ ((cz x).bind fun z => some (z, μ)) := by
  intro a μ2 h H locs ls hP hD hS hl hc1 hc2
  obtain ⟨z, hz, h⟩ := Option.bind_eq_some_iff.mp h
  cases h
  unfold cz at hz
  split at hz
  · rename_i hx
    cases hz
    refine W.zret C.1 C.2.1 C.2.2.2.2.2.2.1 ?_ (fun t ht hW => ⟨⟨rfl, by rw [ht]; exact hP, hD⟩, hS.F ht⟩) (fun q hq => hS.2.2 q hq) hd (hlocks := C.2.2.2.2.2.2.2.1)
    have h1 := pk_nc x
    rw [hx] at h1
    exact h1
  · cases hz
theorem run_T (C : CX p R s m args meth c D ca ad A X cc own nL ret d) {index n d2 maxL2 q : Nat} {y : MethodName} {bytes : ByteArray} {ret2 : Option FieldType} {as2 sti : List Value} {σ : Type} {wr2 : σ → Option Value} {g : Option (σ × Mem)} (hM : Meth wr2 y bytes maxL2 ret2 d2 (.ref q :: as2) μ g) (hc : CalOK y bytes maxL2 ret2 n) (hy : y.cls = "java/lang/String") (h2 : Cond.instanceMethod y ∈ lw_g) (h3 : Cond.selects y.cls y y ∈ lw_g) (hw : Cond.methodLink own index y ∈ lw_g) (hd : decode cc pc = .ok (.invokevirtual index, 3)) (hsti : sti = as2.reverse ++ .ref q :: st) (hn : as2.length = n) (hdd : d2 + 1 ≤ d) (hcat : (st.map fun v => v.category).sum ≤ 8) {u : Unit} (hr : isT q = some u) :
    ∀ (x1 : σ) (μ1 : Mem), g = some (x1, μ1) → ∀ (H : Heap) (locs : List Loc) (ls : Array Slot), va_P D vwCl (conc ad ca μ) H → va_D A (conc ad ca μ) → va_S A s.heap H locs → lv_has ls nL (lvC ad lv) → cells ≤ R.cells → slots ≤ R.slots → va_Run p l e R s m args below meth c H locs cells slots 0 0 (F0 m pc ls (sti.map (cV ad))) (st.map (cV ad)) (Qcc D ca ad A (wr2 x1) μ1 (((Value.ref q :: as2).map (cV ad)).toArray)) A := by
  intro x1 μ1 hg H locs ls hP hD hS hl hc1 hc2
  obtain ⟨c1, c2, c3, c4⟩ := hc
  obtain ⟨hx, hb, hml, hown, hts, hE, -, -, hX, hdf, hdl⟩ := id C
  have hMet := hM l D ca ad A X hX x1 μ1 hg
  have hrc : ∃ cell : Cell, H[ad q]? = some cell ∧ cell.vm.isStatics = false ∧ s.vm.findClass y.cls = some cell.cls := by
    unfold isT at hr
    split at hr
    · rename_i hq
      obtain ⟨i, hi, rfl, -⟩ := txt_at hq
      rw [hy]
      exact vk_recv (adK := fun i => ad (1011 + i)) (i := i) C.2.2.2.2.2.1.2.2.2.2.1.2.1 hi hS
    · cases hr
  subst hsti
  have e1 : (as2.reverse ++ Value.ref q :: st).map (cV ad) = (as2.map (cV ad)).reverse ++ .ref (ad q) :: st.map (cV ad) := by simp [cV]
  rw [e1]
  exact va_runV (C := y.cls) (As := as2.map (cV ad)) (rest := st.map (cV ad)) ⟨hx, hb, hml, hown, hts⟩ hMet ⟨callB_of n hts (lw_goodC c1) rfl rfl rfl (hts _ c2) (hts _ hw) c3 ⟨Nat.le_trans hdd hdf, by have : (rmD d2).locals = 40 * d2 := rfl; omega⟩, hts _ h2, hts _ h3⟩
    ⟨Pcc_blind hX, hrc, fun U hU hW => Pcc_of hX hE hP hD hS hU hW rfl⟩ rfl (by simpa using hn) hl.1 rfl (lv_room (by rw [catC]; exact hcat)) hd ⟨hc1, hc2⟩
theorem E_callT (C : CX p R s m args meth c D ca ad A X cc own nL ret d) {index n d2 maxL2 q : Nat} {y : MethodName} {bytes : ByteArray} {ret2 : Option FieldType} (as2 : List Value) {sti : List Value} {g : Option (Int32 × Mem)} (hM : Meth wI y bytes maxL2 ret2 d2 (.ref q :: as2) μ g) (hc : CalOK y bytes maxL2 ret2 n) (hy : y.cls = "java/lang/String") (h2 : Cond.instanceMethod y ∈ lw_g) (h3 : Cond.selects y.cls y y ∈ lw_g) (hw : Cond.methodLink own index y ∈ lw_g) (hd : decode cc pc = .ok (.invokevirtual index, 3)) (hsti : sti = as2.reverse ++ .ref q :: st) (hn : as2.length = n) (hdd : d2 + 1 ≤ d) (hcat : (st.map fun v => v.category).sum ≤ 8) {G : Int32 → Mem → Option (τ × Mem)}
    (k : ∀ (z : Int32) (μ1 : Mem), Sm p l e R s m args below meth c D ca ad A nL cells slots wr K (pc + 3) lv (.int z :: st) μ1 (G z μ1)) : Sm p l e R s m args below meth c D ca ad A nL cells slots wr K (pc) lv (sti) μ ((isT q).bind fun _ => bd g G) := by
  intro a μ2 h
  obtain ⟨u, hr, h⟩ := Option.bind_eq_some_iff.mp h
  exact E_run (run_T (lv := lv) C hM hc hy h2 h3 hw hd hsti hn hdd hcat hr) (fun z μ1 => k z μ1) a μ2 h
end RULES4
theorem Meth.ofF {τ : Type} {wr : τ → Option Value} {y : MethodName} {cc : ByteArray} {maxL : Nat} {ret : Option FieldType} {d : Nat} {as : List Value} {μ : Mem} {o : Option (τ × Mem)} (hy : plainFor y = true) (lv : List (Nat × Value)) (hlv : lv_args 0 as = lv) (hn : (lg_sl as).length ≤ maxL)
    (body : ∀ (p : Program) (l : Launch) (e : Env) (R : Room) (s : State) (m : MethodId) (args : Array Value) (below : List Frame) (meth : Method) (c : Code) (D : va_G) (ca : Nat → ClassId) (ad : Nat → Nat) (A : Nat → Prop) (X : State → Prop), CX p R s m args meth c D ca ad A X cc y.cls maxL ret d → Sm p l e R s m args below meth c D ca ad A maxL 0 0 wr (KQ below args s D ca ad A) 0 lv [] μ o) : Meth wr y cc maxL ret d as μ o := by
  intro l D ca ad A X hX x μ' ho
  refine va_MetF (cc := cc) (maxL := maxL) (ret := ret) hy rfl ?_
  intro p e s m args below meth c s₁ B hml hv
  obtain ⟨rfl, hP, hD, hE⟩ := hv
  have hts0 := atoms_spec (ws := Cond.code y cc maxL ret :: lw_g) B.pre
  have hts : ∀ w ∈ lw_g, w.before _ s = true := fun w h => hts0 w (List.mem_cons_of_mem _ h)
  have C : CX p (rmD d) s m _ meth c D ca ad A X cc y.cls maxL ret d := ⟨B.exec, B.bytes, hml, findClass_of_methodNamed B.named, hts, hE, B.returns, B.notSynchronized, hX, Nat.le_refl _, Nat.le_refl _⟩
  have hl := lv_entry (as.map (cV ad)) (n := maxL) (by
    have : (lg_sl (as.map (cV ad))).length = (lg_sl as).length := by
      clear hlv hn body ho hP B C hts hts0
      induction as with
      | nil => rfl
      | cons v vs ih =>
        simp only [lg_sl, List.map_cons, List.flatMap_cons, List.length_append, cV_cat] at ih ⊢
        rw [ih]
        split <;> simp
    omega)
  rw [lvC_args, hlv] at hl
  rw [lg_entry_eq]
  exact body p l e (rmD d) s m _ below meth c D ca ad A X C x μ' ho s.heap [] _ hP hD va_S.rf hl (Nat.zero_le _) (Nat.zero_le _)
