section RULES3
variable {p : Program} {l : Launch} {e : Env} {R : Room} {s : State} {m : MethodId} {args : Array Value} {below : List Frame} {meth : Method} {c : Code} {D : va_G} {ca : Nat → ClassId} {ad : Nat → Nat} {A : Nat → Prop} {X : State → Prop} {cc : ByteArray} {own : String} {nL cells slots : Nat} {ret : Option FieldType} {d : Nat} {τ : Type} {wr : τ → Option Value} {K : Option Value → Mem → State → Prop} {pc : Nat} {lv lv' : List (Nat × Value)} {st : List Value} {μ : Mem} {o o1 o2 : Option (τ × Mem)}
def mxI (x y : Int32) : Int32 := if x < y then y else x
/-- what a call answers, and goes on -/
def bd {σ β : Type} (o : Option (σ × Mem)) (F : σ → Mem → Option β) : Option β := match o with
  | some (x, μ) => F x μ
  | none => none
theorem bd_some {σ β : Type} {o : Option (σ × Mem)} {F : σ → Mem → Option β} {y : β} (h : bd o F = some y) : ∃ x μ, o = some (x, μ) ∧ F x μ = some y := by
  unfold bd at h
  split at h
  · rename_i x μ
    exact ⟨x, μ, rfl, h⟩
  · cases h
theorem E_iret (C : CX p R s m args meth c D ca ad A X cc own nL (some .int) d) {x : Int32} (hd : decode cc pc = .ok (.ireturn, 1)) : Sm p l e R s m args below meth c D ca ad A nL 0 0 wI (KQ below args s D ca ad A) (pc) lv ([.int x]) μ (some (x, μ)) := by
  intro a μ2 h H locs ls hP hD hS hl hc1 hc2
  cases h
  exact W.iret C.1 C.2.1 C.2.2.2.2.2.2.1 (fun t ht hW => ⟨⟨rfl, by rw [ht]; exact hP, hD⟩, hS.F ht⟩) (fun q hq => hS.2.2 q hq) hd (hlocks := C.2.2.2.2.2.2.2.1)
theorem E_lret (C : CX p R s m args meth c D ca ad A X cc own nL (some .long) d) {x : Int64} (hd : decode cc pc = .ok (.lreturn, 1)) : Sm p l e R s m args below meth c D ca ad A nL 0 0 wJ (KQ below args s D ca ad A) (pc) lv ([.long x]) μ (some (x, μ)) := by
  intro a μ2 h H locs ls hP hD hS hl hc1 hc2
  cases h
  exact W.lret C.1 C.2.1 C.2.2.2.2.2.2.1 (fun t ht hW => ⟨⟨rfl, by rw [ht]; exact hP, hD⟩, hS.F ht⟩) (fun q hq => hS.2.2 q hq) hd (hlocks := C.2.2.2.2.2.2.2.1)
theorem E_fret (C : CX p R s m args meth c D ca ad A X cc own nL (some .float) d) {x : UInt32} (hd : decode cc pc = .ok (.freturn, 1)) : Sm p l e R s m args below meth c D ca ad A nL 0 0 wF (KQ below args s D ca ad A) (pc) lv ([.float x]) μ (some (x, μ)) := by
  intro a μ2 h H locs ls hP hD hS hl hc1 hc2
  cases h
  exact W.fret C.1 C.2.1 C.2.2.2.2.2.2.1 (fun t ht hW => ⟨⟨rfl, by rw [ht]; exact hP, hD⟩, hS.F ht⟩) (fun q hq => hS.2.2 q hq) hd (hlocks := C.2.2.2.2.2.2.2.1)
theorem E_ret (C : CX p R s m args meth c D ca ad A X cc own nL none d) (hd : decode cc pc = .ok (.return_, 1)) : Sm p l e R s m args below meth c D ca ad A nL 0 0 wU (KQ below args s D ca ad A) (pc) lv ([]) μ (some ((), μ)) := by
  intro a μ2 h H locs ls hP hD hS hl hc1 hc2
  cases h
  exact W.vret C.1 C.2.1 C.2.2.2.2.2.2.1 (fun t ht hW => ⟨⟨rfl, by rw [ht]; exact hP, hD⟩, hS.F ht⟩) (fun q hq => hS.2.2 q hq) hd (hlocks := C.2.2.2.2.2.2.2.1)
theorem E_zret (C : CX p R s m args meth c D ca ad A X cc own nL (some .boolean) d) {x : Int32} (hd : decode cc pc = .ok (.ireturn, 1)) : Sm p l e R s m args below meth c D ca ad A nL 0 0 wI (KQ below args s D ca ad A) (pc) lv ([.int x]) μ ((zz x).bind fun z => some (z, μ)) := by
  intro a μ2 h H locs ls hP hD hS hl hc1 hc2
  obtain ⟨z, hz, h⟩ := Option.bind_eq_some_iff.mp h
  cases h
  unfold zz at hz
  split at hz
  · rename_i hx
    cases hz
    refine W.zret C.1 C.2.1 C.2.2.2.2.2.2.1 ?_ (fun t ht hW => ⟨⟨rfl, by rw [ht]; exact hP, hD⟩, hS.F ht⟩) (fun q hq => hS.2.2 q hq) hd (hlocks := C.2.2.2.2.2.2.2.1)
    rcases hx with rfl | rfl <;> rfl
  · cases hz
theorem E_aret {Cn : String} (C : CX p R s m args meth c D ca ad A X cc own nL (some (.object Cn)) d) {x : Nat} (hd : decode cc pc = .ok (.areturn, 1)) : Sm p l e R s m args below meth c D ca ad A nL 0 0 wR (KQ below args s D ca ad A) (pc) lv ([.ref x]) μ (some (x, μ)) := by
  intro a μ2 h H locs ls hP hD hS hl hc1 hc2
  cases h
  exact W.aret C.1 C.2.1 C.2.2.2.2.2.2.1 (Or.inl ⟨_, rfl⟩) (Or.inr ⟨_, rfl⟩) (fun t ht hW => ⟨⟨rfl, by rw [ht]; exact hP, hD⟩, hS.F ht⟩) (fun q hq => hS.2.2 q hq) hd (hlocks := C.2.2.2.2.2.2.2.1)
theorem catC (ad : Nat → Nat) (st : List Value) : ((st.map (cV ad)).map fun v => v.category).sum = (st.map fun v => v.category).sum := by
  rw [List.map_map]
  congr 1
  apply List.map_congr_left
  intro v _
  exact cV_cat ad v
theorem Pcc_blind {D : va_G} {ca : Nat → ClassId} {ad : Nat → Nat} {A : Nat → Prop} {X : State → Prop} {as : List Value} {μ : Mem} (hX : Steady A X) : FrameBlind (Pcc D ca ad A X as μ) := by
  intro a U g mk ⟨h1, h2, h3, h4⟩
  exact ⟨h1, h2, h3, h4.step hX (State.WarmedH.refl U) (Nat.le_refl _) (fun _ _ _ => rfl)⟩
theorem Pcc_of {D : va_G} {ca : Nat → ClassId} {ad : Nat → Nat} {A : Nat → Prop} {X : State → Prop} {as : List Value} {μ : Mem} {s U : State} {H : Heap} {locs : List Loc} (hX : Steady A X) (hE : EnvOK D ca ad A X s) (hP : va_P D vwCl (conc ad ca μ) H) (hD : va_D A (conc ad ca μ)) (hS : va_S A s.heap H locs) (hU : U.heap = H) (hW : s.WarmedH U.vm) {av : Array Value} (hav : av = (as.map (cV ad)).toArray) : Pcc D ca ad A X as μ av U := by
  subst hU
  exact ⟨hav, hP, hD, hE.step hX hW hS.1 (fun q h1 h2 => hS.2.1 q h1 h2)⟩
theorem E_run {σ : Type} {wr2 : σ → Option Value} {g : Option (σ × Mem)} {G : σ → Mem → Option (τ × Mem)} {sti : List Value} {av : Array Value}
    (hrun : ∀ (x1 : σ) (μ1 : Mem), g = some (x1, μ1) → ∀ (H : Heap) (locs : List Loc) (ls : Array Slot), va_P D vwCl (conc ad ca μ) H → va_D A (conc ad ca μ) → va_S A s.heap H locs → lv_has ls nL (lvC ad lv) → cells ≤ R.cells → slots ≤ R.slots → va_Run p l e R s m args below meth c H locs cells slots 0 0 (F0 m pc ls (sti.map (cV ad))) (st.map (cV ad)) (Qcc D ca ad A (wr2 x1) μ1 av) A)
    (k : ∀ (x1 : σ) (μ1 : Mem), Sm p l e R s m args below meth c D ca ad A nL cells slots wr K (pc + 3) lv ((wr2 x1).toList ++ st) μ1 (G x1 μ1)) : Sm p l e R s m args below meth c D ca ad A nL cells slots wr K (pc) lv (sti) μ (bd g G) := by
  intro a μ2 h H locs ls hP hD hS hl hc1 hc2 T hT X
  obtain ⟨x1, μ1, hg, h⟩ := bd_some h
  obtain ⟨v, st₀, t, T', L, h0, X', hL, e1, e2, ⟨⟨hv, hP1, hD1⟩, hz, hk⟩, go⟩ := hrun x1 μ1 hg H locs ls hP hD hS hl hc1 hc2 T hT X
  have hv : v = (wr2 x1).map (cV ad) := by injection hv
  subst hv
  rw [h0] at hz hk
  have hS1 : va_S A s.heap t.heap (locs ++ L) := ⟨Nat.le_trans hS.1 hz, fun q h1 h2 => by rw [hk q (Nat.lt_of_lt_of_le h1 hS.1) h2]; exact hS.2.1 q h1 h2, fun q hq => by
    rcases List.mem_append.mp hq with h | h
    · exact hS.2.2 q h
    · exact hL q h⟩
  obtain ⟨t2, a1, b1⟩ := k x1 μ1 a μ2 h t.heap (locs ++ L) ls hP1 hD1 hS1 hl hc1 hc2 T' e1 X'
  refine ⟨t2, go t2 ?_, b1⟩
  have e3 : ((wr2 x1).toList ++ st).map (cV ad) = ((wr2 x1).map (cV ad)).toList ++ st.map (cV ad) := by cases wr2 x1 <;> rfl
  rw [e3] at a1
  exact a1
/-- what the tables say of a call: the callee's words -/
def CalOK (y : MethodName) (bytes : ByteArray) (maxL : Nat) (ret : Option FieldType) (n : Nat) : Prop := Cond.code y bytes maxL ret ∈ lw_g ∧ Cond.initialized y.cls ∈ lw_g ∧ (y.cls ≠ "java/lang/invoke/MethodHandle" ∧ y.cls ≠ "java/lang/invoke/VarHandle" ∧ (parseMethodDescriptor y.desc).map (fun d => d.parameters.length) = some n) ∧ maxL ≤ 21
def VirOK (y : MethodName) (ci : Nat) : Prop := ∃ (T : u_T) (N : Nat), vwCl[ci]? = some (y.cls, T, N) ∧ Cond.instanceMethod y ∈ lw_g ∧ Cond.selects y.cls y y ∈ lw_g
theorem run_V (C : CX p R s m args meth c D ca ad A X cc own nL ret d) {index n d2 maxL2 ci q : Nat} {y : MethodName} {bytes : ByteArray} {ret2 : Option FieldType} {as2 sti : List Value} {σ : Type} {wr2 : σ → Option Value} {g : Option (σ × Mem)} (hM : Meth wr2 y bytes maxL2 ret2 d2 (.ref q :: as2) μ g) (hc : CalOK y bytes maxL2 ret2 n) (hv : VirOK y ci) (hw : Cond.methodLink own index y ∈ lw_g) (hd : decode cc pc = .ok (.invokevirtual index, 3)) (hsti : sti = as2.reverse ++ .ref q :: st) (hn : as2.length = n) (hdd : d2 + 1 ≤ d) (hcat : (st.map fun v => v.category).sum ≤ 8) {u : Unit} (hr : isC μ q ci = some u) :
    ∀ (x1 : σ) (μ1 : Mem), g = some (x1, μ1) → ∀ (H : Heap) (locs : List Loc) (ls : Array Slot), va_P D vwCl (conc ad ca μ) H → va_D A (conc ad ca μ) → va_S A s.heap H locs → lv_has ls nL (lvC ad lv) → cells ≤ R.cells → slots ≤ R.slots → va_Run p l e R s m args below meth c H locs cells slots 0 0 (F0 m pc ls (sti.map (cV ad))) (st.map (cV ad)) (Qcc D ca ad A (wr2 x1) μ1 (((Value.ref q :: as2).map (cV ad)).toArray)) A := by
  intro x1 μ1 hg H locs ls hP hD hS hl hc1 hc2
  obtain ⟨T, N, h1, h2, h3⟩ := hv
  obtain ⟨c1, c2, c3, c4⟩ := hc
  obtain ⟨fs, hm⟩ := isC_spec hr
  obtain ⟨hx, hb, hml, hown, hts, hE, -, -, hX, hdf, hdl⟩ := id C
  have hMet := hM l D ca ad A X hX x1 μ1 hg
  subst hsti
  have e1 : (as2.reverse ++ Value.ref q :: st).map (cV ad) = (as2.map (cV ad)).reverse ++ .ref (ad q) :: st.map (cV ad) := by simp [cV]
  rw [e1]
  exact va_runV (C := y.cls) (As := as2.map (cV ad)) (rest := st.map (cV ad)) ⟨hx, hb, hml, hown, hts⟩ hMet ⟨callB_of n hts (lw_goodC c1) rfl rfl rfl (hts _ c2) (hts _ hw) c3 ⟨Nat.le_trans hdd hdf, by have : (rmD d2).locals = 40 * d2 := rfl; omega⟩, hts _ h2, hts _ h3⟩
    ⟨Pcc_blind hX, va_recv hE.1 hP h1 (conc_at hm), fun U hU hW => Pcc_of hX hE hP hD hS hU hW rfl⟩ rfl (by simpa using hn) hl.1 rfl (lv_room (by rw [catC]; exact hcat)) hd ⟨hc1, hc2⟩
theorem run_S (C : CX p R s m args meth c D ca ad A X cc own nL ret d) {index n d2 maxL2 : Nat} {y : MethodName} {bytes : ByteArray} {ret2 : Option FieldType} {as2 sti : List Value} {σ : Type} {wr2 : σ → Option Value} {g : Option (σ × Mem)} (hM : Meth wr2 y bytes maxL2 ret2 d2 as2 μ g) (hc : CalOK y bytes maxL2 ret2 n) (hst : Cond.static y ∈ lw_g) (hw : Cond.methodLink own index y ∈ lw_g) (hd : decode cc pc = .ok (.invokestatic index, 3)) (hsti : sti = as2.reverse ++ st) (hn : as2.length = n) (hdd : d2 + 1 ≤ d) (hcat : (st.map fun v => v.category).sum ≤ 8) :
    ∀ (x1 : σ) (μ1 : Mem), g = some (x1, μ1) → ∀ (H : Heap) (locs : List Loc) (ls : Array Slot), va_P D vwCl (conc ad ca μ) H → va_D A (conc ad ca μ) → va_S A s.heap H locs → lv_has ls nL (lvC ad lv) → cells ≤ R.cells → slots ≤ R.slots → va_Run p l e R s m args below meth c H locs cells slots 0 0 (F0 m pc ls (sti.map (cV ad))) (st.map (cV ad)) (Qcc D ca ad A (wr2 x1) μ1 ((as2.map (cV ad)).toArray)) A := by
  intro x1 μ1 hg H locs ls hP hD hS hl hc1 hc2
  obtain ⟨c1, c2, c3, c4⟩ := hc
  obtain ⟨hx, hb, hml, hown, hts, hE, -, -, hX, hdf, hdl⟩ := id C
  have hMet := hM l D ca ad A X hX x1 μ1 hg
  subst hsti
  have e1 : (as2.reverse ++ st).map (cV ad) = (as2.map (cV ad)).reverse ++ st.map (cV ad) := by simp
  rw [e1]
  exact va_runS (As := as2.map (cV ad)) (rest := st.map (cV ad)) ⟨hx, hb, hml, hown, hts⟩ hMet ⟨callB_of n hts (lw_goodC c1) rfl rfl rfl (hts _ c2) (hts _ hw) c3 ⟨Nat.le_trans hdd hdf, by have : (rmD d2).locals = 40 * d2 := rfl; omega⟩, hts _ hst⟩ ⟨Pcc_blind hX, fun U hU hW => Pcc_of hX hE hP hD hS hU hW rfl⟩ rfl (by simpa using hn) hl.1 rfl (lv_room (by rw [catC]; exact hcat)) hd ⟨hc1, hc2⟩
theorem run_N (C : CX p R s m args meth c D ca ad A X cc own nL ret d) {index n d2 maxL2 : Nat} {y : MethodName} {bytes : ByteArray} {ret2 : Option FieldType} {as2 sti : List Value} {σ : Type} {wr2 : σ → Option Value} {g : Option (σ × Mem)} (hM : Meth wr2 y bytes maxL2 ret2 d2 as2 μ g) (hc : CalOK y bytes maxL2 ret2 n) (hst : Cond.static y ∈ lw_g) {host : String} (hw : Cond.methodLinkNest own index y host ∈ lw_tbl) (hd : decode cc pc = .ok (.invokestatic index, 3)) (hsti : sti = as2.reverse ++ st) (hn : as2.length = n) (hdd : d2 + 1 ≤ d) (hcat : (st.map fun v => v.category).sum ≤ 8) :
    ∀ (x1 : σ) (μ1 : Mem), g = some (x1, μ1) → ∀ (H : Heap) (locs : List Loc) (ls : Array Slot), va_P D vwCl (conc ad ca μ) H → va_D A (conc ad ca μ) → va_S A s.heap H locs → lv_has ls nL (lvC ad lv) → cells ≤ R.cells → slots ≤ R.slots → va_Run p l e R s m args below meth c H locs cells slots 0 0 (F0 m pc ls (sti.map (cV ad))) (st.map (cV ad)) (Qcc D ca ad A (wr2 x1) μ1 ((as2.map (cV ad)).toArray)) A := by
  intro x1 μ1 hg H locs ls hP hD hS hl hc1 hc2
  obtain ⟨c1, c2, c3, c4⟩ := hc
  obtain ⟨hx, hb, hml, hown, hts, hE, -, -, hX, hdf, hdl⟩ := id C
  have hMet := hM l D ca ad A X hX x1 μ1 hg
  subst hsti
  have e1 : (as2.reverse ++ st).map (cV ad) = (as2.map (cV ad)).reverse ++ st.map (cV ad) := by simp
  rw [e1]
  exact va_runSN (As := as2.map (cV ad)) (rest := st.map (cV ad)) ⟨hx, hb, hml, hown, hts⟩ hMet ⟨va_cnB n hts (lw_goodC c1) rfl rfl rfl (hE.2.2.2.1 _ hw rfl) (hts _ c2) c3 ⟨Nat.le_trans hdd hdf, by have : (rmD d2).locals = 40 * d2 := rfl; omega⟩, hts _ hst, trivial⟩ ⟨Pcc_blind hX, fun U hU hW => Pcc_of hX hE hP hD hS hU hW rfl⟩ rfl (by simpa using hn) hl.1 rfl (lv_room (by rw [catC]; exact hcat)) hd ⟨hc1, hc2⟩
theorem E_callVI (C : CX p R s m args meth c D ca ad A X cc own nL ret d) {index n d2 maxL2 ci q : Nat} {y : MethodName} {bytes : ByteArray} {ret2 : Option FieldType} (as2 : List Value) {sti : List Value} {g : Option (Int32 × Mem)} (hM : Meth wI y bytes maxL2 ret2 d2 (.ref q :: as2) μ g) (hc : CalOK y bytes maxL2 ret2 n) (hv : VirOK y ci) (hw : Cond.methodLink own index y ∈ lw_g) (hd : decode cc pc = .ok (.invokevirtual index, 3)) (hsti : sti = as2.reverse ++ .ref q :: st) (hn : as2.length = n) (hdd : d2 + 1 ≤ d) (hcat : (st.map fun v => v.category).sum ≤ 8) {G : Int32 → Mem → Option (τ × Mem)}
    (k : ∀ (z : Int32) (μ1 : Mem), Sm p l e R s m args below meth c D ca ad A nL cells slots wr K (pc + 3) lv (.int z :: st) μ1 (G z μ1)) : Sm p l e R s m args below meth c D ca ad A nL cells slots wr K (pc) lv (sti) μ ((isC μ q ci).bind fun _ => bd g G) := by
  intro a μ2 h
  obtain ⟨u, hr, h⟩ := Option.bind_eq_some_iff.mp h
  exact E_run (run_V (lv := lv) C hM hc hv hw hd hsti hn hdd hcat hr) (fun z μ1 => k z μ1) a μ2 h
theorem E_callSI (C : CX p R s m args meth c D ca ad A X cc own nL ret d) {index n d2 maxL2 : Nat} {y : MethodName} {bytes : ByteArray} {ret2 : Option FieldType} (as2 : List Value) {sti : List Value} {g : Option (Int32 × Mem)} (hM : Meth wI y bytes maxL2 ret2 d2 as2 μ g) (hc : CalOK y bytes maxL2 ret2 n) (hst : Cond.static y ∈ lw_g) (hw : Cond.methodLink own index y ∈ lw_g) (hd : decode cc pc = .ok (.invokestatic index, 3)) (hsti : sti = as2.reverse ++ st) (hn : as2.length = n) (hdd : d2 + 1 ≤ d) (hcat : (st.map fun v => v.category).sum ≤ 8) {G : Int32 → Mem → Option (τ × Mem)}
    (k : ∀ (z : Int32) (μ1 : Mem), Sm p l e R s m args below meth c D ca ad A nL cells slots wr K (pc + 3) lv (.int z :: st) μ1 (G z μ1)) : Sm p l e R s m args below meth c D ca ad A nL cells slots wr K (pc) lv (sti) μ (bd g G) :=
  E_run (run_S (lv := lv) C hM hc hst hw hd hsti hn hdd hcat) (fun z μ1 => k z μ1)
theorem E_callNI (C : CX p R s m args meth c D ca ad A X cc own nL ret d) {index n d2 maxL2 : Nat} {y : MethodName} {bytes : ByteArray} {ret2 : Option FieldType} (as2 : List Value) {sti : List Value} {g : Option (Int32 × Mem)} (hM : Meth wI y bytes maxL2 ret2 d2 as2 μ g) (hc : CalOK y bytes maxL2 ret2 n) (hst : Cond.static y ∈ lw_g) {host : String} (hw : Cond.methodLinkNest own index y host ∈ lw_tbl) (hd : decode cc pc = .ok (.invokestatic index, 3)) (hsti : sti = as2.reverse ++ st) (hn : as2.length = n) (hdd : d2 + 1 ≤ d) (hcat : (st.map fun v => v.category).sum ≤ 8) {G : Int32 → Mem → Option (τ × Mem)}
    (k : ∀ (z : Int32) (μ1 : Mem), Sm p l e R s m args below meth c D ca ad A nL cells slots wr K (pc + 3) lv (.int z :: st) μ1 (G z μ1)) : Sm p l e R s m args below meth c D ca ad A nL cells slots wr K (pc) lv (sti) μ (bd g G) :=
  E_run (run_N (lv := lv) C hM hc hst hw hd hsti hn hdd hcat) (fun z μ1 => k z μ1)
theorem E_callVJ (C : CX p R s m args meth c D ca ad A X cc own nL ret d) {index n d2 maxL2 ci q : Nat} {y : MethodName} {bytes : ByteArray} {ret2 : Option FieldType} (as2 : List Value) {sti : List Value} {g : Option (Int64 × Mem)} (hM : Meth wJ y bytes maxL2 ret2 d2 (.ref q :: as2) μ g) (hc : CalOK y bytes maxL2 ret2 n) (hv : VirOK y ci) (hw : Cond.methodLink own index y ∈ lw_g) (hd : decode cc pc = .ok (.invokevirtual index, 3)) (hsti : sti = as2.reverse ++ .ref q :: st) (hn : as2.length = n) (hdd : d2 + 1 ≤ d) (hcat : (st.map fun v => v.category).sum ≤ 8) {G : Int64 → Mem → Option (τ × Mem)}
    (k : ∀ (z : Int64) (μ1 : Mem), Sm p l e R s m args below meth c D ca ad A nL cells slots wr K (pc + 3) lv (.long z :: st) μ1 (G z μ1)) : Sm p l e R s m args below meth c D ca ad A nL cells slots wr K (pc) lv (sti) μ ((isC μ q ci).bind fun _ => bd g G) := by
  intro a μ2 h
  obtain ⟨u, hr, h⟩ := Option.bind_eq_some_iff.mp h
  exact E_run (run_V (lv := lv) C hM hc hv hw hd hsti hn hdd hcat hr) (fun z μ1 => k z μ1) a μ2 h
theorem E_callSJ (C : CX p R s m args meth c D ca ad A X cc own nL ret d) {index n d2 maxL2 : Nat} {y : MethodName} {bytes : ByteArray} {ret2 : Option FieldType} (as2 : List Value) {sti : List Value} {g : Option (Int64 × Mem)} (hM : Meth wJ y bytes maxL2 ret2 d2 as2 μ g) (hc : CalOK y bytes maxL2 ret2 n) (hst : Cond.static y ∈ lw_g) (hw : Cond.methodLink own index y ∈ lw_g) (hd : decode cc pc = .ok (.invokestatic index, 3)) (hsti : sti = as2.reverse ++ st) (hn : as2.length = n) (hdd : d2 + 1 ≤ d) (hcat : (st.map fun v => v.category).sum ≤ 8) {G : Int64 → Mem → Option (τ × Mem)}
    (k : ∀ (z : Int64) (μ1 : Mem), Sm p l e R s m args below meth c D ca ad A nL cells slots wr K (pc + 3) lv (.long z :: st) μ1 (G z μ1)) : Sm p l e R s m args below meth c D ca ad A nL cells slots wr K (pc) lv (sti) μ (bd g G) :=
  E_run (run_S (lv := lv) C hM hc hst hw hd hsti hn hdd hcat) (fun z μ1 => k z μ1)
theorem E_callNJ (C : CX p R s m args meth c D ca ad A X cc own nL ret d) {index n d2 maxL2 : Nat} {y : MethodName} {bytes : ByteArray} {ret2 : Option FieldType} (as2 : List Value) {sti : List Value} {g : Option (Int64 × Mem)} (hM : Meth wJ y bytes maxL2 ret2 d2 as2 μ g) (hc : CalOK y bytes maxL2 ret2 n) (hst : Cond.static y ∈ lw_g) {host : String} (hw : Cond.methodLinkNest own index y host ∈ lw_tbl) (hd : decode cc pc = .ok (.invokestatic index, 3)) (hsti : sti = as2.reverse ++ st) (hn : as2.length = n) (hdd : d2 + 1 ≤ d) (hcat : (st.map fun v => v.category).sum ≤ 8) {G : Int64 → Mem → Option (τ × Mem)}
    (k : ∀ (z : Int64) (μ1 : Mem), Sm p l e R s m args below meth c D ca ad A nL cells slots wr K (pc + 3) lv (.long z :: st) μ1 (G z μ1)) : Sm p l e R s m args below meth c D ca ad A nL cells slots wr K (pc) lv (sti) μ (bd g G) :=
  E_run (run_N (lv := lv) C hM hc hst hw hd hsti hn hdd hcat) (fun z μ1 => k z μ1)
theorem E_callVF (C : CX p R s m args meth c D ca ad A X cc own nL ret d) {index n d2 maxL2 ci q : Nat} {y : MethodName} {bytes : ByteArray} {ret2 : Option FieldType} (as2 : List Value) {sti : List Value} {g : Option (UInt32 × Mem)} (hM : Meth wF y bytes maxL2 ret2 d2 (.ref q :: as2) μ g) (hc : CalOK y bytes maxL2 ret2 n) (hv : VirOK y ci) (hw : Cond.methodLink own index y ∈ lw_g) (hd : decode cc pc = .ok (.invokevirtual index, 3)) (hsti : sti = as2.reverse ++ .ref q :: st) (hn : as2.length = n) (hdd : d2 + 1 ≤ d) (hcat : (st.map fun v => v.category).sum ≤ 8) {G : UInt32 → Mem → Option (τ × Mem)}
    (k : ∀ (z : UInt32) (μ1 : Mem), Sm p l e R s m args below meth c D ca ad A nL cells slots wr K (pc + 3) lv (.float z :: st) μ1 (G z μ1)) : Sm p l e R s m args below meth c D ca ad A nL cells slots wr K (pc) lv (sti) μ ((isC μ q ci).bind fun _ => bd g G) := by
  intro a μ2 h
  obtain ⟨u, hr, h⟩ := Option.bind_eq_some_iff.mp h
  exact E_run (run_V (lv := lv) C hM hc hv hw hd hsti hn hdd hcat hr) (fun z μ1 => k z μ1) a μ2 h
theorem E_callSF (C : CX p R s m args meth c D ca ad A X cc own nL ret d) {index n d2 maxL2 : Nat} {y : MethodName} {bytes : ByteArray} {ret2 : Option FieldType} (as2 : List Value) {sti : List Value} {g : Option (UInt32 × Mem)} (hM : Meth wF y bytes maxL2 ret2 d2 as2 μ g) (hc : CalOK y bytes maxL2 ret2 n) (hst : Cond.static y ∈ lw_g) (hw : Cond.methodLink own index y ∈ lw_g) (hd : decode cc pc = .ok (.invokestatic index, 3)) (hsti : sti = as2.reverse ++ st) (hn : as2.length = n) (hdd : d2 + 1 ≤ d) (hcat : (st.map fun v => v.category).sum ≤ 8) {G : UInt32 → Mem → Option (τ × Mem)}
    (k : ∀ (z : UInt32) (μ1 : Mem), Sm p l e R s m args below meth c D ca ad A nL cells slots wr K (pc + 3) lv (.float z :: st) μ1 (G z μ1)) : Sm p l e R s m args below meth c D ca ad A nL cells slots wr K (pc) lv (sti) μ (bd g G) :=
  E_run (run_S (lv := lv) C hM hc hst hw hd hsti hn hdd hcat) (fun z μ1 => k z μ1)
theorem E_callNF (C : CX p R s m args meth c D ca ad A X cc own nL ret d) {index n d2 maxL2 : Nat} {y : MethodName} {bytes : ByteArray} {ret2 : Option FieldType} (as2 : List Value) {sti : List Value} {g : Option (UInt32 × Mem)} (hM : Meth wF y bytes maxL2 ret2 d2 as2 μ g) (hc : CalOK y bytes maxL2 ret2 n) (hst : Cond.static y ∈ lw_g) {host : String} (hw : Cond.methodLinkNest own index y host ∈ lw_tbl) (hd : decode cc pc = .ok (.invokestatic index, 3)) (hsti : sti = as2.reverse ++ st) (hn : as2.length = n) (hdd : d2 + 1 ≤ d) (hcat : (st.map fun v => v.category).sum ≤ 8) {G : UInt32 → Mem → Option (τ × Mem)}
    (k : ∀ (z : UInt32) (μ1 : Mem), Sm p l e R s m args below meth c D ca ad A nL cells slots wr K (pc + 3) lv (.float z :: st) μ1 (G z μ1)) : Sm p l e R s m args below meth c D ca ad A nL cells slots wr K (pc) lv (sti) μ (bd g G) :=
  E_run (run_N (lv := lv) C hM hc hst hw hd hsti hn hdd hcat) (fun z μ1 => k z μ1)
theorem E_callVR (C : CX p R s m args meth c D ca ad A X cc own nL ret d) {index n d2 maxL2 ci q : Nat} {y : MethodName} {bytes : ByteArray} {ret2 : Option FieldType} (as2 : List Value) {sti : List Value} {g : Option (Nat × Mem)} (hM : Meth wR y bytes maxL2 ret2 d2 (.ref q :: as2) μ g) (hc : CalOK y bytes maxL2 ret2 n) (hv : VirOK y ci) (hw : Cond.methodLink own index y ∈ lw_g) (hd : decode cc pc = .ok (.invokevirtual index, 3)) (hsti : sti = as2.reverse ++ .ref q :: st) (hn : as2.length = n) (hdd : d2 + 1 ≤ d) (hcat : (st.map fun v => v.category).sum ≤ 8) {G : Nat → Mem → Option (τ × Mem)}
    (k : ∀ (z : Nat) (μ1 : Mem), Sm p l e R s m args below meth c D ca ad A nL cells slots wr K (pc + 3) lv (.ref z :: st) μ1 (G z μ1)) : Sm p l e R s m args below meth c D ca ad A nL cells slots wr K (pc) lv (sti) μ ((isC μ q ci).bind fun _ => bd g G) := by
  intro a μ2 h
  obtain ⟨u, hr, h⟩ := Option.bind_eq_some_iff.mp h
  exact E_run (run_V (lv := lv) C hM hc hv hw hd hsti hn hdd hcat hr) (fun z μ1 => k z μ1) a μ2 h
theorem E_callSR (C : CX p R s m args meth c D ca ad A X cc own nL ret d) {index n d2 maxL2 : Nat} {y : MethodName} {bytes : ByteArray} {ret2 : Option FieldType} (as2 : List Value) {sti : List Value} {g : Option (Nat × Mem)} (hM : Meth wR y bytes maxL2 ret2 d2 as2 μ g) (hc : CalOK y bytes maxL2 ret2 n) (hst : Cond.static y ∈ lw_g) (hw : Cond.methodLink own index y ∈ lw_g) (hd : decode cc pc = .ok (.invokestatic index, 3)) (hsti : sti = as2.reverse ++ st) (hn : as2.length = n) (hdd : d2 + 1 ≤ d) (hcat : (st.map fun v => v.category).sum ≤ 8) {G : Nat → Mem → Option (τ × Mem)}
    (k : ∀ (z : Nat) (μ1 : Mem), Sm p l e R s m args below meth c D ca ad A nL cells slots wr K (pc + 3) lv (.ref z :: st) μ1 (G z μ1)) : Sm p l e R s m args below meth c D ca ad A nL cells slots wr K (pc) lv (sti) μ (bd g G) :=
  E_run (run_S (lv := lv) C hM hc hst hw hd hsti hn hdd hcat) (fun z μ1 => k z μ1)
theorem E_callNR (C : CX p R s m args meth c D ca ad A X cc own nL ret d) {index n d2 maxL2 : Nat} {y : MethodName} {bytes : ByteArray} {ret2 : Option FieldType} (as2 : List Value) {sti : List Value} {g : Option (Nat × Mem)} (hM : Meth wR y bytes maxL2 ret2 d2 as2 μ g) (hc : CalOK y bytes maxL2 ret2 n) (hst : Cond.static y ∈ lw_g) {host : String} (hw : Cond.methodLinkNest own index y host ∈ lw_tbl) (hd : decode cc pc = .ok (.invokestatic index, 3)) (hsti : sti = as2.reverse ++ st) (hn : as2.length = n) (hdd : d2 + 1 ≤ d) (hcat : (st.map fun v => v.category).sum ≤ 8) {G : Nat → Mem → Option (τ × Mem)}
    (k : ∀ (z : Nat) (μ1 : Mem), Sm p l e R s m args below meth c D ca ad A nL cells slots wr K (pc + 3) lv (.ref z :: st) μ1 (G z μ1)) : Sm p l e R s m args below meth c D ca ad A nL cells slots wr K (pc) lv (sti) μ (bd g G) :=
  E_run (run_N (lv := lv) C hM hc hst hw hd hsti hn hdd hcat) (fun z μ1 => k z μ1)
theorem E_callVU (C : CX p R s m args meth c D ca ad A X cc own nL ret d) {index n d2 maxL2 ci q : Nat} {y : MethodName} {bytes : ByteArray} {ret2 : Option FieldType} (as2 : List Value) {sti : List Value} {g : Option (Unit × Mem)} (hM : Meth wU y bytes maxL2 ret2 d2 (.ref q :: as2) μ g) (hc : CalOK y bytes maxL2 ret2 n) (hv : VirOK y ci) (hw : Cond.methodLink own index y ∈ lw_g) (hd : decode cc pc = .ok (.invokevirtual index, 3)) (hsti : sti = as2.reverse ++ .ref q :: st) (hn : as2.length = n) (hdd : d2 + 1 ≤ d) (hcat : (st.map fun v => v.category).sum ≤ 8) {G : Unit → Mem → Option (τ × Mem)}
    (k : ∀ (z : Unit) (μ1 : Mem), Sm p l e R s m args below meth c D ca ad A nL cells slots wr K (pc + 3) lv (st) μ1 (G z μ1)) : Sm p l e R s m args below meth c D ca ad A nL cells slots wr K (pc) lv (sti) μ ((isC μ q ci).bind fun _ => bd g G) := by
  intro a μ2 h
  obtain ⟨u, hr, h⟩ := Option.bind_eq_some_iff.mp h
  exact E_run (run_V (lv := lv) C hM hc hv hw hd hsti hn hdd hcat hr) (fun z μ1 => k z μ1) a μ2 h
theorem E_callSU (C : CX p R s m args meth c D ca ad A X cc own nL ret d) {index n d2 maxL2 : Nat} {y : MethodName} {bytes : ByteArray} {ret2 : Option FieldType} (as2 : List Value) {sti : List Value} {g : Option (Unit × Mem)} (hM : Meth wU y bytes maxL2 ret2 d2 as2 μ g) (hc : CalOK y bytes maxL2 ret2 n) (hst : Cond.static y ∈ lw_g) (hw : Cond.methodLink own index y ∈ lw_g) (hd : decode cc pc = .ok (.invokestatic index, 3)) (hsti : sti = as2.reverse ++ st) (hn : as2.length = n) (hdd : d2 + 1 ≤ d) (hcat : (st.map fun v => v.category).sum ≤ 8) {G : Unit → Mem → Option (τ × Mem)}
    (k : ∀ (z : Unit) (μ1 : Mem), Sm p l e R s m args below meth c D ca ad A nL cells slots wr K (pc + 3) lv (st) μ1 (G z μ1)) : Sm p l e R s m args below meth c D ca ad A nL cells slots wr K (pc) lv (sti) μ (bd g G) :=
  E_run (run_S (lv := lv) C hM hc hst hw hd hsti hn hdd hcat) (fun z μ1 => k z μ1)
theorem E_callNU (C : CX p R s m args meth c D ca ad A X cc own nL ret d) {index n d2 maxL2 : Nat} {y : MethodName} {bytes : ByteArray} {ret2 : Option FieldType} (as2 : List Value) {sti : List Value} {g : Option (Unit × Mem)} (hM : Meth wU y bytes maxL2 ret2 d2 as2 μ g) (hc : CalOK y bytes maxL2 ret2 n) (hst : Cond.static y ∈ lw_g) {host : String} (hw : Cond.methodLinkNest own index y host ∈ lw_tbl) (hd : decode cc pc = .ok (.invokestatic index, 3)) (hsti : sti = as2.reverse ++ st) (hn : as2.length = n) (hdd : d2 + 1 ≤ d) (hcat : (st.map fun v => v.category).sum ≤ 8) {G : Unit → Mem → Option (τ × Mem)}
    (k : ∀ (z : Unit) (μ1 : Mem), Sm p l e R s m args below meth c D ca ad A nL cells slots wr K (pc + 3) lv (st) μ1 (G z μ1)) : Sm p l e R s m args below meth c D ca ad A nL cells slots wr K (pc) lv (sti) μ (bd g G) :=
  E_run (run_N (lv := lv) C hM hc hst hw hd hsti hn hdd hcat) (fun z μ1 => k z μ1)
theorem E_mmin (C : CX p R s m args meth c D ca ad A X cc own nL ret d) {index : Nat} {x y : Int32} (hw : Cond.methodLink own index Lib.Math.min.name ∈ lw_g) (hst : Cond.static Lib.Math.min.name ∈ lw_g) (hi : Cond.initialized "java/lang/Math" ∈ lw_g) (hc : Cond.code Lib.Math.min.name Lib.Math.min.code 2 (some .int) ∈ lw_g) (hd : decode cc pc = .ok (.invokestatic index, 3)) (hdd : 1 ≤ d) (hcat : (st.map fun v => v.category).sum ≤ 8) (k : Sm p l e R s m args below meth c D ca ad A nL cells slots wr K (pc + 3) lv (.int (mnI x y) :: st) μ (o)) : Sm p l e R s m args below meth c D ca ad A nL cells slots wr K (pc) lv (.int y :: .int x :: st) μ (o) := fun a μ2 h H locs ls hP hD hS hl hc1 hc2 =>
  va_mmin C.1 C.2.1 (by rw [C.2.2.1]; exact hl.1.symm) C.2.2.2.1 (C.2.2.2.2.1 _ hw) (C.2.2.2.2.1 _ hst) (C.2.2.2.2.1 _ hi) (C.2.2.2.2.1 _ hc) (Nat.le_trans hdd C.2.2.2.2.2.2.2.2.2.1) (by rw [catC]; have h1 := C.2.2.2.2.2.2.2.2.2.2; omega) hc1 hc2 hd (k a μ2 h H locs ls hP hD hS hl hc1 hc2)
theorem E_mmax (C : CX p R s m args meth c D ca ad A X cc own nL ret d) {index : Nat} {x y : Int32} (hw : Cond.methodLink own index Lib.Math.max.name ∈ lw_g) (hst : Cond.static Lib.Math.max.name ∈ lw_g) (hi : Cond.initialized "java/lang/Math" ∈ lw_g) (hc : Cond.code Lib.Math.max.name Lib.Math.max.code 2 (some .int) ∈ lw_g) (hd : decode cc pc = .ok (.invokestatic index, 3)) (hdd : 1 ≤ d) (hcat : (st.map fun v => v.category).sum ≤ 8) (k : Sm p l e R s m args below meth c D ca ad A nL cells slots wr K (pc + 3) lv (.int (mxI x y) :: st) μ (o)) : Sm p l e R s m args below meth c D ca ad A nL cells slots wr K (pc) lv (.int y :: .int x :: st) μ (o) := fun a μ2 h H locs ls hP hD hS hl hc1 hc2 =>
  va_mmax C.1 C.2.1 (by rw [C.2.2.1]; exact hl.1.symm) C.2.2.2.1 (C.2.2.2.2.1 _ hw) (C.2.2.2.2.1 _ hst) (C.2.2.2.2.1 _ hi) (C.2.2.2.2.1 _ hc) (Nat.le_trans hdd C.2.2.2.2.2.2.2.2.2.1) (by rw [catC]; have h1 := C.2.2.2.2.2.2.2.2.2.2; omega) hc1 hc2 hd (k a μ2 h H locs ls hP hD hS hl hc1 hc2)
theorem E_mabs (C : CX p R s m args meth c D ca ad A X cc own nL ret d) {index : Nat} {x : Int32} (hw : Cond.methodLink own index Lib.Math.abs.name ∈ lw_g) (hst : Cond.static Lib.Math.abs.name ∈ lw_g) (hi : Cond.initialized "java/lang/Math" ∈ lw_g) (hc : Cond.code Lib.Math.abs.name Lib.Math.abs.code 1 (some .int) ∈ lw_g) (hd : decode cc pc = .ok (.invokestatic index, 3)) (hdd : 1 ≤ d) (hcat : (st.map fun v => v.category).sum ≤ 8) (k : Sm p l e R s m args below meth c D ca ad A nL cells slots wr K (pc + 3) lv (.int (abI x) :: st) μ (o)) : Sm p l e R s m args below meth c D ca ad A nL cells slots wr K (pc) lv (.int x :: st) μ (o) := fun a μ2 h H locs ls hP hD hS hl hc1 hc2 =>
  va_mabs C.1 C.2.1 (by rw [C.2.2.1]; exact hl.1.symm) C.2.2.2.1 (C.2.2.2.2.1 _ hw) (C.2.2.2.2.1 _ hst) (C.2.2.2.2.1 _ hi) (C.2.2.2.2.1 _ hc) (Nat.le_trans hdd C.2.2.2.2.2.2.2.2.2.1) (by rw [catC]; have h1 := C.2.2.2.2.2.2.2.2.2.2; omega) hc1 hc2 hd (k a μ2 h H locs ls hP hD hS hl hc1 hc2)
theorem cpI_spec {μ μ1 : Mem} {a0 a1 : Nat} {sp dp n : Int32} (h : cpI μ a0 sp a1 dp n = some μ1) : ∃ n0 n1 f g, μ[a0]? = some (.inl (0, n0, .inl (f))) ∧ μ[a1]? = some (.inl (0, n1, .inl (g))) ∧ (¬ sp < 0 ∧ ¬ dp < 0 ∧ ¬ n < 0 ∧ sp.toNatClampNeg + n.toNatClampNeg ≤ n0 ∧ dp.toNatClampNeg + n.toNatClampNeg ≤ n1) ∧ μ.set a1 (.inl (0, n1, .inl (va_cpy f g sp.toNatClampNeg dp.toNatClampNeg n.toNatClampNeg))) = μ1 := by
  unfold cpI at h
  split at h
  · rename_i t0 n0 f t1 n1 g h0 h1
    split at h
    · rename_i hc
      obtain ⟨rfl, rfl, hc⟩ := hc
      exact ⟨n0, n1, f, g, h0, h1, hc, Option.some.inj h⟩
    · cases h
  · cases h
theorem E_cpI (C : CX p R s m args meth c D ca ad A X cc own nL ret d) {index a0 a1 : Nat} {sp dp n : Int32} (hw : Cond.methodLink own index arraycopyName ∈ lw_g) (hna : Cond.native arraycopyName ∈ lw_g) (hst : Cond.static arraycopyName ∈ lw_g) (hi : Cond.initialized "java/lang/System" ∈ lw_g) (hd : decode cc pc = .ok (.invokestatic index, 3)) (hdd : 1 ≤ d) (hcat : (st.map fun v => v.category).sum ≤ 8) {G : Mem → Option (τ × Mem)} (k : ∀ μ1 : Mem, Sm p l e R s m args below meth c D ca ad A nL cells slots wr K (pc + 3) lv (st) μ1 (G μ1)) : Sm p l e R s m args below meth c D ca ad A nL cells slots wr K (pc) lv (.int n :: .int dp :: .ref a1 :: .int sp :: .ref a0 :: st) μ ((cpI μ a0 sp a1 dp n).bind G) := by
  intro a μ2 h H locs ls hP hD hS hl hc1 hc2
  obtain ⟨μ1, hz, h⟩ := Option.bind_eq_some_iff.mp h
  obtain ⟨n0, n1, f, g, h0, h1, ⟨q1, q2, q3, q4, q5⟩, rfl⟩ := cpI_spec hz
  have h60 : 40 ≤ R.locals := Nat.le_trans (by omega) C.2.2.2.2.2.2.2.2.2.2
  have hnw : nativeFrameWords "java/lang/System" "arraycopy" 5 + 11 ≤ 32 := by decide +kernel
  refine va_copyi C.1 C.2.1 (by rw [C.2.2.1]; exact hl.1.symm) C.2.2.2.1 (C.2.2.2.2.1 _ hw) (C.2.2.2.2.1 _ hna) (C.2.2.2.2.1 _ hst) (C.2.2.2.2.1 _ hi) C.2.2.2.2.2.1.1 hP hD hS a0 a1 0 0 (conc_at h0) (conc_at h1) (tysC_at rfl) (tysC_at rfl) rfl q1 q2 q3 q4 q5 (fun _ _ => rfl) (Nat.le_trans hdd C.2.2.2.2.2.2.2.2.2.1) (by rw [catC]; omega) hd (fun H1 locs1 hP hD hS => ?_)
  have e1 : (conc ad ca μ).set a1 (ad a1, .inl (ca 0, n1, .inl (va_cpy f g sp.toNatClampNeg dp.toNatClampNeg n.toNatClampNeg))) = conc ad ca (μ.set a1 (.inl (0, n1, .inl (va_cpy f g sp.toNatClampNeg dp.toNatClampNeg n.toNatClampNeg)))) := by
    rw [← conc_set]
    rfl
  rw [e1] at hP hD
  exact k _ a μ2 h H1 locs1 ls hP hD hS hl hc1 hc2
theorem cpJ_spec {μ μ1 : Mem} {a0 a1 : Nat} {sp dp n : Int32} (h : cpJ μ a0 sp a1 dp n = some μ1) : ∃ n0 n1 f g, μ[a0]? = some (.inl (1, n0, .inr (.inl (f)))) ∧ μ[a1]? = some (.inl (1, n1, .inr (.inl (g)))) ∧ (¬ sp < 0 ∧ ¬ dp < 0 ∧ ¬ n < 0 ∧ sp.toNatClampNeg + n.toNatClampNeg ≤ n0 ∧ dp.toNatClampNeg + n.toNatClampNeg ≤ n1) ∧ μ.set a1 (.inl (1, n1, .inr (.inl (va_cpy f g sp.toNatClampNeg dp.toNatClampNeg n.toNatClampNeg)))) = μ1 := by
  unfold cpJ at h
  split at h
  · rename_i t0 n0 f t1 n1 g h0 h1
    split at h
    · rename_i hc
      obtain ⟨rfl, rfl, hc⟩ := hc
      exact ⟨n0, n1, f, g, h0, h1, hc, Option.some.inj h⟩
    · cases h
  · cases h
theorem E_cpJ (C : CX p R s m args meth c D ca ad A X cc own nL ret d) {index a0 a1 : Nat} {sp dp n : Int32} (hw : Cond.methodLink own index arraycopyName ∈ lw_g) (hna : Cond.native arraycopyName ∈ lw_g) (hst : Cond.static arraycopyName ∈ lw_g) (hi : Cond.initialized "java/lang/System" ∈ lw_g) (hd : decode cc pc = .ok (.invokestatic index, 3)) (hdd : 1 ≤ d) (hcat : (st.map fun v => v.category).sum ≤ 8) {G : Mem → Option (τ × Mem)} (k : ∀ μ1 : Mem, Sm p l e R s m args below meth c D ca ad A nL cells slots wr K (pc + 3) lv (st) μ1 (G μ1)) : Sm p l e R s m args below meth c D ca ad A nL cells slots wr K (pc) lv (.int n :: .int dp :: .ref a1 :: .int sp :: .ref a0 :: st) μ ((cpJ μ a0 sp a1 dp n).bind G) := by
  intro a μ2 h H locs ls hP hD hS hl hc1 hc2
  obtain ⟨μ1, hz, h⟩ := Option.bind_eq_some_iff.mp h
  obtain ⟨n0, n1, f, g, h0, h1, ⟨q1, q2, q3, q4, q5⟩, rfl⟩ := cpJ_spec hz
  have h60 : 40 ≤ R.locals := Nat.le_trans (by omega) C.2.2.2.2.2.2.2.2.2.2
  have hnw : nativeFrameWords "java/lang/System" "arraycopy" 5 + 11 ≤ 32 := by decide +kernel
  refine va_copyl C.1 C.2.1 (by rw [C.2.2.1]; exact hl.1.symm) C.2.2.2.1 (C.2.2.2.2.1 _ hw) (C.2.2.2.2.1 _ hna) (C.2.2.2.2.1 _ hst) (C.2.2.2.2.1 _ hi) C.2.2.2.2.2.1.1 hP hD hS a0 a1 1 1 (conc_at h0) (conc_at h1) (tysC_at rfl) (tysC_at rfl) rfl q1 q2 q3 q4 q5 (fun _ _ => rfl) (Nat.le_trans hdd C.2.2.2.2.2.2.2.2.2.1) (by rw [catC]; omega) hd (fun H1 locs1 hP hD hS => ?_)
  have e1 : (conc ad ca μ).set a1 (ad a1, .inl (ca 1, n1, .inr (.inl (va_cpy f g sp.toNatClampNeg dp.toNatClampNeg n.toNatClampNeg)))) = conc ad ca (μ.set a1 (.inl (1, n1, .inr (.inl (va_cpy f g sp.toNatClampNeg dp.toNatClampNeg n.toNatClampNeg))))) := by
    rw [← conc_set]
    rfl
  rw [e1] at hP hD
  exact k _ a μ2 h H1 locs1 ls hP hD hS hl hc1 hc2
theorem E_rawI (C : CX p R s m args meth c D ca ad A X cc own nL ret d) {index : Nat} {x : UInt32} (hw : Cond.methodLink own index ⟨"java/lang/Float", "floatToRawIntBits", "(F)I"⟩ ∈ lw_g) (hna : Cond.native ⟨"java/lang/Float", "floatToRawIntBits", "(F)I"⟩ ∈ lw_g) (hst : Cond.static ⟨"java/lang/Float", "floatToRawIntBits", "(F)I"⟩ ∈ lw_g) (hi : Cond.initialized "java/lang/Float" ∈ lw_g) (hd : decode cc pc = .ok (.invokestatic index, 3)) (hdd : 1 ≤ d) (hcat : (st.map fun v => v.category).sum ≤ 8) (k : Sm p l e R s m args below meth c D ca ad A nL cells slots wr K (pc + 3) lv (.int x.toInt32 :: st) μ (o)) : Sm p l e R s m args below meth c D ca ad A nL cells slots wr K (pc) lv (.float x :: st) μ (o) := fun a μ2 h H locs ls hP hD hS hl hc1 hc2 =>
  vn_f2i C.1 C.2.1 (by rw [C.2.2.1]; exact hl.1.symm) C.2.2.2.1 (C.2.2.2.2.1 _ hw) (C.2.2.2.2.1 _ hna) (C.2.2.2.2.1 _ hst) (C.2.2.2.2.1 _ hi) (Nat.le_trans hdd C.2.2.2.2.2.2.2.2.2.1) (by rw [catC]; have h1 := C.2.2.2.2.2.2.2.2.2.2; omega) hd (k a μ2 h H locs ls hP hD hS hl hc1 hc2)
/-- a point where ways come together -/
def jn {φ β : Type} (J : φ) (B : φ → β) : β := B J
theorem E_jn {φ : Type} {J : φ} {B : φ → Option (τ × Mem)} (Ok : φ → Prop) (hJ : Ok J) (hB : ∀ j, Ok j → Sm p l e R s m args below meth c D ca ad A nL cells slots wr K (pc) lv (st) μ (B j)) : Sm p l e R s m args below meth c D ca ad A nL cells slots wr K (pc) lv (st) μ (jn J B) := hB J hJ
theorem E_none : Sm p l e R s m args below meth c D ca ad A nL cells slots wr K (pc) lv (st) μ (none) := fun a μ2 h => by cases h
end RULES3
