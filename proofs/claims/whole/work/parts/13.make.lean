section RULES5
variable {p : Program} {l : Launch} {e : Env} {R : Room} {s : State} {m : MethodId} {args : Array Value} {below : List Frame} {meth : Method} {c : Code} {D : va_G} {ca : Nat → ClassId} {ad : Nat → Nat} {A : Nat → Prop} {X : State → Prop} {cc : ByteArray} {own : String} {nL cells slots : Nat} {ret : Option FieldType} {d : Nat} {τ : Type} {wr : τ → Option Value} {K : Option Value → Mem → State → Prop} {pc : Nat} {lv lv' : List (Nat × Value)} {st : List Value} {μ : Mem} {o o1 o2 : Option (τ × Mem)}
/-- making: places are made one behind the other, from the base B on -/
def nw {β : Type} (μ : Mem) (c : AC) (F : Nat → Mem → Option β) : Option β := F μ.length (μ ++ [c])
theorem conc_app {ad : Nat → Nat} {ca : Nat → ClassId} {μ : Mem} {c : AC} : conc ad ca (μ ++ [c]) = conc ad ca μ ++ [(ad μ.length, cE ad ca c)] := by
  simp [conc, List.mapIdx_append]
def rmA (d mc ms : Nat) : Room := { frames := d, cells := mc, slots := ms, locals := 40 * d }
def PccA (D : va_G) (ca : Nat → ClassId) (ad : Nat → Nat) (A : Nat → Prop) (X : State → Prop) (B : Nat) (as : List Value) (μ : Mem) : Array Value → State → Prop :=
  va_Pc (as.map (cV ad)) (fun U => va_P D vwCl (conc ad ca μ) U.heap ∧ va_D A (conc ad ca μ) ∧ EnvOK D ca ad A X U ∧ U.heap.size = B + μ.length)
def QccA (D : va_G) (ca : Nat → ClassId) (ad : Nat → Nat) (A : Nat → Prop) (n : Nat) (μ : Mem) : Array Value → State → Outcome → State → Prop := fun a st oc t =>
  Qcc D ca ad A none μ a st oc t ∧ μ.length = n
/-- a constructor: mc cells of ms slots are made -/
def MethA (y : MethodName) (cc : ByteArray) (maxL d mc ms : Nat) (as : List Value) (μ : Mem) (o : Option (Unit × Mem)) : Prop :=
  ∀ (l : Launch) (D : va_G) (ca : Nat → ClassId) (ad : Nat → Nat) (A : Nat → Prop) (X : State → Prop), Steady A X → ∀ B : Nat, (∀ k, k < 900 → ad k = B + k) → ∀ (x : Unit) (μ' : Mem), o = some (x, μ') →
    Met l y (.code y cc maxL none :: lw_g) (rmA d mc ms) (PccA D ca ad A X B as μ) (QccA D ca ad A (μ.length + mc) μ') mc ms A
def KQA (below : List Frame) (args : Array Value) (s : State) (D : va_G) (ca : Nat → ClassId) (ad : Nat → Nat) (A : Nat → Prop) (n mc ms : Nat) : Option Value → Mem → State → Prop := fun _ μ => MQ below (QccA D ca ad A n μ) args s mc ms A
def CXA (R : Room) (s : State) (meth : Method) (ad : Nat → Nat) (B n0 mc ms : Nat) : Prop := (∀ k, k < 900 → ad k = B + k) ∧ s.heap.size = B + n0 ∧ meth.name = "<init>" ∧ mc ≤ R.cells ∧ ms ≤ R.slots
theorem MethA.of {y : MethodName} {cc : ByteArray} {maxL d mc ms : Nat} {as : List Value} {μ : Mem} {o : Option (Unit × Mem)} (hy : plainName y.cls = true) (hyn : y.name = "<init>") (lv : List (Nat × Value)) (hlv : lv_args 0 as = lv) (hn : (lg_sl as).length ≤ maxL)
    (body : ∀ (p : Program) (l : Launch) (e : Env) (R : Room) (s : State) (m : MethodId) (args : Array Value) (below : List Frame) (meth : Method) (c : Code) (D : va_G) (ca : Nat → ClassId) (ad : Nat → Nat) (A : Nat → Prop) (X : State → Prop) (B n0 : Nat), CX p R s m args meth c D ca ad A X cc y.cls maxL none d → CXA R s meth ad B n0 mc ms → μ.length = n0 → Sm p l e R s m args below meth c D ca ad A maxL 0 0 wU (KQA below args s D ca ad A (n0 + mc) mc ms) 0 lv [] μ o) : MethA y cc maxL d mc ms as μ o := by
  intro l D ca ad A X hX B hB x μ' ho
  refine Met.ofW (cc := cc) (maxL := maxL) (ret := none) hy rfl ?_
  intro p e s m args below meth c s₁ B0 hml hv
  obtain ⟨rfl, hP, hD, hE, hsz⟩ := hv
  have hts0 := atoms_spec (ws := Cond.code y cc maxL none :: lw_g) B0.pre
  have hts : ∀ w ∈ lw_g, w.before _ s = true := fun w h => hts0 w (List.mem_cons_of_mem _ h)
  have C : CX p (rmA d mc ms) s m _ meth c D ca ad A X cc y.cls maxL none d := ⟨B0.exec, B0.bytes, hml, findClass_of_methodNamed B0.named, hts, hE, B0.returns, B0.notSynchronized, hX, Nat.le_refl _, Nat.le_refl _⟩
  have CA : CXA (rmA d mc ms) s meth ad B μ.length mc ms := ⟨hB, hsz, (name_of_methodNamed B0.named B0.method).1.trans hyn, Nat.le_refl _, Nat.le_refl _⟩
  have hl := lv_entry (as.map (cV ad)) (n := maxL) (by
    have : (lg_sl (as.map (cV ad))).length = (lg_sl as).length := by
      clear hlv hn body ho hP B0 C hts hts0
      induction as with
      | nil => rfl
      | cons v vs ih =>
        simp only [lg_sl, List.map_cons, List.flatMap_cons, List.length_append, cV_cat] at ih ⊢
        rw [ih]
        split <;> simp
    omega)
  rw [lvC_args, hlv] at hl
  rw [lg_entry_eq]
  exact body p l e (rmA d mc ms) s m _ below meth c D ca ad A X B μ.length C CA rfl x μ' ho s.heap [] _ hP hD va_S.rf hl (Nat.zero_le _) (Nat.zero_le _)
theorem heap_now {T : State} {H : Heap} {locs : List Loc} (X0 : Stand p l e R s m args below meth c T locs cells slots) (hT : T.heap = H) (hP : va_P D vwCl (conc ad ca μ) H) (hS : va_S A s.heap H locs) {B n0 : Nat} (hB : ∀ k, k < 900 → ad k = B + k) (hs : s.heap.size = B + n0) (hlen : μ.length = n0 + cells) (hlt : μ.length < 900) : H.size = B + μ.length := by
  have h1 := X0.heapSize
  rw [hT] at h1
  have h2 : B + μ.length ≤ H.size := by
    by_cases h0 : cells = 0
    · have := hS.1
      omega
    · have hk : μ.length - 1 < μ.length := by omega
      have h3 := (hP (μ.length - 1) _ (conc_at (List.getElem?_eq_getElem hk))).lt
      have h4 : ad (μ.length - 1) < H.size := h3
      rw [hB _ (by omega)] at h4
      omega
  omega
theorem W_st {H : Heap} {locs : List Loc} {Q : State → Prop} {g : JFrame} (h : ∀ T : State, T.heap = H → Stand p l e R s m args below meth c T locs cells slots → W p l e R s m args below meth c H locs cells slots Q g) : W p l e R s m args below meth c H locs cells slots Q g := fun T hT X => h T hT X T hT X
set_option maxHeartbeats 60000 in
theorem E_new (C : CX p R s m args meth c D ca ad A X cc own nL ret d) {B n0 mc ms index ci N : Nat} {Cn : String} {T : u_T} {ty : Nat → FieldType} (CA : (∀ k, k < 900 → ad k = B + k) ∧ s.heap.size = B + n0 ∧ mc ≤ R.cells ∧ ms ≤ R.slots) (fs : List Value) (hc : vwCl[ci]? = some (Cn, T, N)) (hin : ∀ w ∈ u_ws Cn T N, w ∈ lw_g) (hty : ∀ k, k < N → parseFieldDescriptor (T k).2.2.1 = some (ty k)) (hfs : ∀ j, j < N → defaultValue (ty j) = vp_V (fs.map (cV ad)) j) (hw1 : Cond.classLink own index Cn ∈ lw_g) (hw2 : Cond.instantiable Cn N ∈ lw_g) (hw3 : Cond.initialized Cn ∈ lw_g) (hlen : μ.length = n0 + cells) (hlt : μ.length < 900) (hmc : cells + 1 ≤ mc) (hms : slots + N ≤ ms) (hd : decode cc pc = .ok (.new index, 3)) {G : Nat → Mem → Option (τ × Mem)}
    (k : ∀ (q : Nat) (μ1 : Mem), q = μ.length → μ1 = μ ++ [.inr (ci, fs)] → μ1.length = μ.length + 1 → Sm p l e R s m args below meth c D ca ad A nL (cells + 1) (slots + N) wr K (pc + 3) lv (.ref q :: st) μ1 (G q μ1)) : Sm p l e R s m args below meth c D ca ad A nL cells slots wr K (pc) lv (st) μ (nw μ (.inr (ci, fs)) G) := by
  intro a μ2 h H locs ls hP hD hS hl hc1 hc2
  refine W_st (fun T0 hT0 X0 => ?_)
  have hsz := heap_now X0 hT0 hP hS CA.1 CA.2.1 hlen hlt
  have hq : H.size = ad μ.length := by rw [CA.1 _ hlt, hsz]
  have hKn := C.2.2.2.2.2.1.1.1 ci _ hc
  refine W.newcK C.1 C.2.1 C.2.2.2.1 (C.2.2.2.2.1 _ hw1) (C.2.2.2.2.1 _ hw2) (C.2.2.2.2.1 _ hw3) rfl hd (Nat.le_trans hmc CA.2.2.1 ) (Nat.le_trans hms CA.2.2.2) hKn.2.1 rfl fun H1 kC hkC e1 z1 o1 => ?_
  have hk : ∀ (k : Nat) (x : Nat × va_E), (conc ad ca μ)[k]? = some x → H1[x.1]? = H[x.1]? := fun k x hx => o1 x.1 ((hP k x hx).lt)
  have e2 : conc ad ca (μ ++ [.inr (ci, fs)]) = conc ad ca μ ++ [(H.size, .inr (ci, fs.map (cV ad)))] := by rw [conc_app, hq]; rfl
  have hP2 : va_P D vwCl (conc ad ca (μ ++ [.inr (ci, fs)])) H1 := by
    rw [e2]
    refine (hP.kept hk).app (fun k x hx => ?_)
    have hz : k < 1 := (List.getElem?_eq_some_iff.mp hx).1
    rw [show k = 0 by omega] at hx
    cases hx
    exact ⟨_, hc, (u_born ty C.2.2.2.2.1 hin hKn hkC e1 hty).to hfs⟩
  have hD2 : va_D A (conc ad ca (μ ++ [.inr (ci, fs)])) := by
    rw [e2]
    exact hD.push hP rfl (C.2.2.2.2.2.1.2.2.1 _ hS.1)
  have hS2 : va_S A s.heap H1 locs := ⟨Nat.le_trans hS.1 (by omega), fun x h1 h2 => (o1 x (Nat.lt_of_lt_of_le h1 hS.1)).trans (hS.2.1 x h1 h2), hS.2.2⟩
  rw [hq]
  have hk2 := k μ.length _ rfl rfl (by simp) a μ2 h H1 locs ls hP2 hD2 hS2 hl (Nat.le_trans hmc CA.2.2.1 ) (Nat.le_trans hms CA.2.2.2)
  exact hk2
set_option maxHeartbeats 60000 in
theorem E_newa (C : CX p R s m args meth c D ca ad A X cc own nL ret d) {B n0 mc ms t N : Nat} {n : Int32} {atype : ArrayType} (CA : (∀ k, k < 900 → ad k = B + k) ∧ s.heap.size = B + n0 ∧ mc ≤ R.cells ∧ ms ≤ R.slots) (a0 : vp_A) (ht : tagT[t]? = some (newarray.typeOf atype)) (hprim : va_RA s (ca t) (newarray.typeOf atype) → s.vm.findClass ("[" ++ (newarray.typeOf atype).toString) = some (ca t)) (ha : ∀ k1 : ClassId, vp_cell k1 (cA ad a0) = arrV k1 N (fun _ => defaultValue (newarray.typeOf atype))) (hw : Cond.arrayClass (newarray.typeOf atype) ∈ lw_g) (hn : ¬ n < 0) (hN : n.toNatClampNeg = N) (hb : N * componentBytes (newarray.typeOf atype) ≤ 536870912) (hlen : μ.length = n0 + cells) (hlt : μ.length < 900) (hmc : cells + 1 ≤ mc) (hms : slots + N ≤ ms) (hd : decode cc pc = .ok (.newarray atype, 2)) {G : Nat → Mem → Option (τ × Mem)}
    (k : ∀ (q : Nat) (μ1 : Mem), q = μ.length → μ1 = μ ++ [.inl (t, a0)] → μ1.length = μ.length + 1 → Sm p l e R s m args below meth c D ca ad A nL (cells + 1) (slots + N) wr K (pc + 2) lv (.ref q :: st) μ1 (G q μ1)) : Sm p l e R s m args below meth c D ca ad A nL cells slots wr K (pc) lv (.int n :: st) μ (nw μ (.inl (t, a0)) G) := by
  intro a μ2 h H locs ls hP hD hS hl hc1 hc2
  refine W_st (fun T0 hT0 X0 => ?_)
  have hsz := heap_now X0 hT0 hP hS CA.1 CA.2.1 hlen hlt
  have hq : H.size = ad μ.length := by rw [CA.1 _ hlt, hsz]
  have hK := (C.2.2.2.2.2.1.1.2 t _ (tysC_at ht)).2
  refine va_newaK C.1 C.2.1 (C.2.2.2.2.1 _ hw) rfl hd rfl hn hN hb (Nat.le_trans hmc CA.2.2.1 ) (Nat.le_trans hms CA.2.2.2) rfl fun H1 cA1 e1 z1 o1 hAr hNm => ?_
  have hcA : cA1 = ca t := Option.some.inj (hNm.symm.trans (hprim hK))
  subst hcA
  have hk : ∀ (k : Nat) (x : Nat × va_E), (conc ad ca μ)[k]? = some x → H1[x.1]? = H[x.1]? := fun k x hx => o1 x.1 ((hP k x hx).lt)
  have e2 : conc ad ca (μ ++ [.inl (t, a0)]) = conc ad ca μ ++ [(H.size, .inl (ca t, cA ad a0))] := by rw [conc_app, hq]; rfl
  have hP2 : va_P D vwCl (conc ad ca (μ ++ [.inl (t, a0)])) H1 := by
    rw [e2]
    refine (hP.kept hk).app (fun k x hx => ?_)
    have hz : k < 1 := (List.getElem?_eq_some_iff.mp hx).1
    rw [show k = 0 by omega] at hx
    cases hx
    show H1[H.size]? = some (vp_cell _ _)
    rw [ha]
    exact e1
  have hD2 : va_D A (conc ad ca (μ ++ [.inl (t, a0)])) := by
    rw [e2]
    exact hD.push hP rfl (C.2.2.2.2.2.1.2.2.1 _ hS.1)
  have hS2 : va_S A s.heap H1 locs := ⟨Nat.le_trans hS.1 (by omega), fun x h1 h2 => (o1 x (Nat.lt_of_lt_of_le h1 hS.1)).trans (hS.2.1 x h1 h2), hS.2.2⟩
  rw [hq]
  have hk2 := k μ.length _ rfl rfl (by simp) a μ2 h H1 locs ls hP2 hD2 hS2 hl (Nat.le_trans hmc CA.2.2.1 ) (Nat.le_trans hms CA.2.2.2)
  exact hk2
set_option maxHeartbeats 60000 in
theorem E_newq (C : CX p R s m args meth c D ca ad A X cc own nL ret d) {B n0 mc ms t N index : Nat} {n : Int32} {Cn : String} (CA : (∀ k, k < 900 → ad k = B + k) ∧ s.heap.size = B + n0 ∧ mc ≤ R.cells ∧ ms ≤ R.slots) (ht : tagT[t]? = some (.object Cn)) (hw1 : Cond.classLink own index Cn ∈ lw_g) (hw2 : Cond.arrayOver (.object Cn) ∈ lw_tbl) (hn : ¬ n < 0) (hN : n.toNatClampNeg = N) (hb : N * 4 ≤ 536870912) (hlen : μ.length = n0 + cells) (hlt : μ.length < 900) (hmc : cells + 1 ≤ mc) (hms : slots + N ≤ ms) (hd : decode cc pc = .ok (.anewarray index, 3)) {G : Nat → Mem → Option (τ × Mem)}
    (k : ∀ (q : Nat) (μ1 : Mem), q = μ.length → μ1 = μ ++ [.inl (t, N, .inr (.inr (.inr (.inr (fun _ => none)))))] → μ1.length = μ.length + 1 → Sm p l e R s m args below meth c D ca ad A nL (cells + 1) (slots + N) wr K (pc + 3) lv (.ref q :: st) μ1 (G q μ1)) : Sm p l e R s m args below meth c D ca ad A nL cells slots wr K (pc) lv (.int n :: st) μ (nw μ (.inl (t, N, .inr (.inr (.inr (.inr (fun _ => none)))))) G) := by
  intro a μ2 h H locs ls hP hD hS hl hc1 hc2
  refine W_st (fun T0 hT0 X0 => ?_)
  have hsz := heap_now X0 hT0 hP hS CA.1 CA.2.1 hlen hlt
  have hq : H.size = ad μ.length := by rw [CA.1 _ hlt, hsz]
  obtain ⟨kA0, comp0, -, -, -, hK⟩ := (C.2.2.2.2.2.1.1.2 t _ (tysC_at ht)).2
  subst hN
  have hao : va_AO Cn s := C.2.2.2.2.2.1.2.2.2.1 _ hw2 rfl
  refine W.anew C.1 C.2.1 C.2.2.2.1 (C.2.2.2.2.1 _ hw1) (va_AO.use hao) rfl hd rfl hn hb (Nat.le_trans hmc CA.2.2.1 ) (Nat.le_trans hms CA.2.2.2) fun cA1 kA comp f1 f2 f3 f4 => ?_
  have hcA : cA1 = ca t := Option.some.inj (f1.symm.trans hK)
  subst hcA
  generalize hH1 : H.push ({ cls := ca t, slots := Array.replicate n.toNatClampNeg .null, vm := .none } : Cell) = H1
  have z1 : H1.size = H.size + 1 := by rw [← hH1, Array.size_push]
  have e1 : H1[H.size]? = some (arrV (ca t) n.toNatClampNeg (fun _ => .null)) := by rw [← hH1, Array.getElem?_push_size, ← arrV_new]
  have o1 : ∀ q : Nat, q < H.size → H1[q]? = H[q]? := fun q hq => by rw [← hH1, Array.getElem?_push, if_neg (Nat.ne_of_lt hq)]
  have hk : ∀ (k : Nat) (x : Nat × va_E), (conc ad ca μ)[k]? = some x → H1[x.1]? = H[x.1]? := fun k x hx => o1 x.1 ((hP k x hx).lt)
  have e2 : conc ad ca (μ ++ [.inl (t, n.toNatClampNeg, .inr (.inr (.inr (.inr (fun _ => none)))))]) = conc ad ca μ ++ [(H.size, .inl (ca t, n.toNatClampNeg, .inr (.inr (.inr (.inr (fun _ => none))))))] := by rw [conc_app, hq]; rfl
  have hP2 : va_P D vwCl (conc ad ca (μ ++ [.inl (t, n.toNatClampNeg, .inr (.inr (.inr (.inr (fun _ => none)))))])) H1 := by
    rw [e2]
    refine (hP.kept hk).app (fun k x hx => ?_)
    have hz : k < 1 := (List.getElem?_eq_some_iff.mp hx).1
    rw [show k = 0 by omega] at hx
    cases hx
    exact e1
  have hD2 : va_D A (conc ad ca (μ ++ [.inl (t, n.toNatClampNeg, .inr (.inr (.inr (.inr (fun _ => none)))))])) := by
    rw [e2]
    exact hD.push hP rfl (C.2.2.2.2.2.1.2.2.1 _ hS.1)
  have hS2 : va_S A s.heap H1 locs := ⟨Nat.le_trans hS.1 (by omega), fun x h1 h2 => (o1 x (Nat.lt_of_lt_of_le h1 hS.1)).trans (hS.2.1 x h1 h2), hS.2.2⟩
  have hk2 := k μ.length _ rfl rfl (by simp) a μ2 h H1 locs ls hP2 hD2 hS2 hl (Nat.le_trans hmc CA.2.2.1 ) (Nat.le_trans hms CA.2.2.2)
  rw [hq]
  exact hk2
theorem E_oinit (C : CX p R s m args meth c D ca ad A X cc own nL ret d) {index q : Nat} (hw1 : Cond.methodLink own index Lib.objectInit ∈ lw_g) (hw2 : Cond.instanceMethod Lib.objectInit ∈ lw_g) (hw3 : Cond.code Lib.objectInit ⟨#[0xb1]⟩ 1 none ∈ lw_g) (hd : decode cc pc = .ok (.invokespecial index, 3)) (hdd : 1 ≤ d) (hcat : (st.map fun v => v.category).sum ≤ 8) (k : Sm p l e R s m args below meth c D ca ad A nL cells slots wr K (pc + 3) lv (st) μ (o)) : Sm p l e R s m args below meth c D ca ad A nL cells slots wr K (pc) lv (.ref q :: st) μ (o) := fun a μ2 h H locs ls hP hD hS hl hc1 hc2 =>
  W.objInit C.1 C.2.1 C.2.2.2.1 (C.2.2.2.2.1 _ hw1) (C.2.2.2.2.1 _ hw2) (C.2.2.2.2.1 _ hw3) rfl (by rw [C.2.2.1]; exact hl.1) rfl hd (Nat.le_trans hdd C.2.2.2.2.2.2.2.2.2.1) (by
    have h1 := C.2.2.2.2.2.2.2.2.2.2
    have h2 := lv_room (m := m) (pc := pc) (ls := ls) (rest := .ref (ad q) :: st.map (cV ad)) (st := st.map (cV ad)) (by rw [catC]; exact hcat)
    have h3 : 2 * (F0 m pc ls ((Value.ref q :: st).map (cV ad))).monitorRoom + ((st.map (cV ad)).map fun v => v.category).sum ≤ 8 := h2
    omega) (k a μ2 h H locs ls hP hD hS hl hc1 hc2)
theorem pV_len {μ μ1 : Mem} {q ci k : Nat} {v : Value} (h : pV μ q ci k v = some μ1) : μ1.length = μ.length := by
  obtain ⟨fs, -, -, rfl⟩ := pV_spec h
  simp
theorem sI_len {μ μ1 : Mem} {q : Nat} {i x : Int32} (h : sI μ q i x = some μ1) : μ1.length = μ.length := by
  obtain ⟨n, f, -, -, rfl⟩ := sI_spec h
  simp
theorem EL_putI (C : CX p R s m args meth c D ca ad A X cc own nL ret d) {index ci kf q : Nat} {x : Int32} (hf : PutOK own index ci kf .int) (hd : decode cc pc = .ok (.putfield index, 3)) {G : Mem → Option (τ × Mem)} (k : ∀ μ1 : Mem, μ1.length = μ.length → Sm p l e R s m args below meth c D ca ad A nL cells slots wr K (pc + 3) lv (st) μ1 (G μ1)) : Sm p l e R s m args below meth c D ca ad A nL cells slots wr K (pc) lv (.int x :: .ref q :: st) μ ((pV μ q ci kf (.int x)).bind G) := by
  intro a μ2 h
  obtain ⟨μ1, hz, h⟩ := Option.bind_eq_some_iff.mp h
  exact E_putV C hf hd rfl rfl hz (k μ1 (pV_len hz)) a μ2 h
theorem EL_putF (C : CX p R s m args meth c D ca ad A X cc own nL ret d) {index ci kf q : Nat} {x : UInt32} (hf : PutOK own index ci kf .float) (hd : decode cc pc = .ok (.putfield index, 3)) {G : Mem → Option (τ × Mem)} (k : ∀ μ1 : Mem, μ1.length = μ.length → Sm p l e R s m args below meth c D ca ad A nL cells slots wr K (pc + 3) lv (st) μ1 (G μ1)) : Sm p l e R s m args below meth c D ca ad A nL cells slots wr K (pc) lv (.float x :: .ref q :: st) μ ((pV μ q ci kf (.float x)).bind G) := by
  intro a μ2 h
  obtain ⟨μ1, hz, h⟩ := Option.bind_eq_some_iff.mp h
  exact E_putV C hf hd rfl rfl hz (k μ1 (pV_len hz)) a μ2 h
theorem EL_putZ (C : CX p R s m args meth c D ca ad A X cc own nL ret d) {index ci kf q : Nat} {x : Int32} (hf : PutOK own index ci kf .boolean) (hd : decode cc pc = .ok (.putfield index, 3)) {G : Mem → Option (τ × Mem)} (k : ∀ μ1 : Mem, μ1.length = μ.length → Sm p l e R s m args below meth c D ca ad A nL cells slots wr K (pc + 3) lv (st) μ1 (G μ1)) : Sm p l e R s m args below meth c D ca ad A nL cells slots wr K (pc) lv (.int x :: .ref q :: st) μ ((pZ μ q ci kf x).bind G) := by
  intro a μ2 h
  obtain ⟨μ1, hz, h5⟩ := Option.bind_eq_some_iff.mp h
  clear h
  unfold pZ at hz
  split at hz
  · rename_i hx
    rcases hx with rfl | rfl
    · exact E_putV C hf hd rfl rfl hz (k μ1 (pV_len hz)) a μ2 h5
    · exact E_putV C hf hd rfl rfl hz (k μ1 (pV_len hz)) a μ2 h5
  · cases hz
def PutFin (own : String) (index ci k : Nat) (ty : FieldType) : Prop := ∃ (C : String) (T : u_T) (N : Nat) (ty0 : Nat → FieldType), vwCl[ci]? = some (C, T, N) ∧ k < N ∧ (∀ w ∈ u_ws C T N, w ∈ lw_g) ∧ Cond.fieldLink own index (T k).1 (T k).2.1 (T k).2.2.1 ∈ lw_g ∧ (∀ k, k < N → parseFieldDescriptor (T k).2.2.1 = some (ty0 k)) ∧ (∀ a, a < N → ∀ b, b < N → a ≠ b → (T a).2.1 ≠ (T b).2.1) ∧ (T k).2.2.2 = true ∧ parseFieldDescriptor (T k).2.2.1 = some ty ∧ (T k).1 = own
theorem E_putVF (C : CX p R s m args meth c D ca ad A X cc own nL ret d) {B n0 mc ms index ci kf q : Nat} {ty : FieldType} (CA : CXA R s meth ad B n0 mc ms) (hf : PutFin own index ci kf ty) (hd : decode cc pc = .ok (.putfield index, 3)) {v : Value} (hn : narrow ty (cV ad v) = cV ad v) (hfit : fits ty (cV ad v) = true) {μ1 : Mem} (hv : pV μ q ci kf v = some μ1) (k : Sm p l e R s m args below meth c D ca ad A nL cells slots wr K (pc + 3) lv (st) μ1 (o)) : Sm p l e R s m args below meth c D ca ad A nL cells slots wr K (pc) lv (v :: .ref q :: st) μ (o) := by
  obtain ⟨Cn, T, N, ty0, h1, h2, h3, h4, h5, h6, h7, h8, h9⟩ := hf
  obtain ⟨fs, hm, hk, rfl⟩ := pV_spec hv
  intro a μ2 h H locs ls hP hD hS hl hc1 hc2
  refine va_putF C.1 C.2.1 C.2.2.2.2.1 h3 ty0 h5 h6 C.2.2.2.1 C.2.2.2.2.2.1.1 hP hD hS q (conc_at hm) h1 kf h2 (C.2.2.2.2.1 _ h4) (fun _ h => h) h7 CA.2.2.1 h9 h8 hn hfit (by simpa using hk) hd (fun H1 locs1 hP hD hS => ?_)
  have e1 : (conc ad ca μ).set q (ad q, .inr (ci, (fs.map (cV ad)).set kf (cV ad v))) = conc ad ca (μ.set q (.inr (ci, fs.set kf v))) := by
    rw [← conc_set]
    simp [cE, List.map_set]
  rw [e1] at hP hD
  exact k a μ2 h H1 locs1 ls hP hD hS hl hc1 hc2
theorem EF_putI (C : CX p R s m args meth c D ca ad A X cc own nL ret d) {B n0 mc ms index ci kf q : Nat} {x : Int32} (CA : CXA R s meth ad B n0 mc ms) (hf : PutFin own index ci kf .int) (hd : decode cc pc = .ok (.putfield index, 3)) {G : Mem → Option (τ × Mem)} (k : ∀ μ1 : Mem, μ1.length = μ.length → Sm p l e R s m args below meth c D ca ad A nL cells slots wr K (pc + 3) lv (st) μ1 (G μ1)) : Sm p l e R s m args below meth c D ca ad A nL cells slots wr K (pc) lv (.int x :: .ref q :: st) μ ((pV μ q ci kf (.int x)).bind G) := by
  intro a μ2 h
  obtain ⟨μ1, hz, h⟩ := Option.bind_eq_some_iff.mp h
  exact E_putVF C CA hf hd rfl rfl hz (k μ1 (pV_len hz)) a μ2 h
theorem EF_putA (C : CX p R s m args meth c D ca ad A X cc own nL ret d) {B n0 mc ms index ci kf q : Nat} {x : Nat} {t : FieldType} (CA : CXA R s meth ad B n0 mc ms) (hf : PutFin own index ci kf (.array t)) (hd : decode cc pc = .ok (.putfield index, 3)) {G : Mem → Option (τ × Mem)} (k : ∀ μ1 : Mem, μ1.length = μ.length → Sm p l e R s m args below meth c D ca ad A nL cells slots wr K (pc + 3) lv (st) μ1 (G μ1)) : Sm p l e R s m args below meth c D ca ad A nL cells slots wr K (pc) lv (.ref x :: .ref q :: st) μ ((pV μ q ci kf (.ref x)).bind G) := by
  intro a μ2 h
  obtain ⟨μ1, hz, h⟩ := Option.bind_eq_some_iff.mp h
  exact E_putVF C CA hf hd rfl rfl hz (k μ1 (pV_len hz)) a μ2 h
theorem EF_putO (C : CX p R s m args meth c D ca ad A X cc own nL ret d) {B n0 mc ms index ci kf q : Nat} {x : Nat} {Cn : String} (CA : CXA R s meth ad B n0 mc ms) (hf : PutFin own index ci kf (.object Cn)) (hd : decode cc pc = .ok (.putfield index, 3)) {G : Mem → Option (τ × Mem)} (k : ∀ μ1 : Mem, μ1.length = μ.length → Sm p l e R s m args below meth c D ca ad A nL cells slots wr K (pc + 3) lv (st) μ1 (G μ1)) : Sm p l e R s m args below meth c D ca ad A nL cells slots wr K (pc) lv (.ref x :: .ref q :: st) μ ((pV μ q ci kf (.ref x)).bind G) := by
  intro a μ2 h
  obtain ⟨μ1, hz, h⟩ := Option.bind_eq_some_iff.mp h
  exact E_putVF C CA hf hd rfl rfl hz (k μ1 (pV_len hz)) a μ2 h
theorem EL_putR (C : CX p R s m args meth c D ca ad A X cc own nL ret d) {index ci kf q : Nat} {x : Nat} {t : FieldType} (hf : PutOK own index ci kf (.array t)) (hd : decode cc pc = .ok (.putfield index, 3)) {G : Mem → Option (τ × Mem)} (k : ∀ μ1 : Mem, μ1.length = μ.length → Sm p l e R s m args below meth c D ca ad A nL cells slots wr K (pc + 3) lv (st) μ1 (G μ1)) : Sm p l e R s m args below meth c D ca ad A nL cells slots wr K (pc) lv (.ref x :: .ref q :: st) μ ((pV μ q ci kf (.ref x)).bind G) := by
  intro a μ2 h
  obtain ⟨μ1, hz, h⟩ := Option.bind_eq_some_iff.mp h
  exact E_putV C hf hd rfl rfl hz (k μ1 (pV_len hz)) a μ2 h
theorem EL_iastore (C : CX p R s m args meth c D ca ad A X cc own nL ret d) {q : Nat} {i : Int32} {x : Int32} (hd : decode cc pc = .ok (.iastore, 1)) {G : Mem → Option (τ × Mem)} (k : ∀ μ1 : Mem, μ1.length = μ.length → Sm p l e R s m args below meth c D ca ad A nL cells slots wr K (pc + 1) lv (st) μ1 (G μ1)) : Sm p l e R s m args below meth c D ca ad A nL cells slots wr K (pc) lv (.int x :: .int i :: .ref q :: st) μ ((sI μ q i x).bind G) := by
  intro a μ2 h H locs ls hP hD hS hl hc1 hc2
  obtain ⟨μ1, hz, h⟩ := Option.bind_eq_some_iff.mp h
  have hlen := sI_len hz
  obtain ⟨n, f, hm, hin, rfl⟩ := sI_spec hz
  refine va_iast C.1 C.2.1 C.2.2.2.2.2.1.1 hP hD hS q 0 (conc_at hm) (tysC_at rfl) hin hd (fun H1 locs1 hP hD hS => ?_)
  have e1 : (conc ad ca μ).set q (ad q, .inl (ca 0, n, .inl (upd f i.toNatClampNeg x))) = conc ad ca (μ.set q (.inl (0, n, .inl (upd f i.toNatClampNeg x)))) := by
    rw [← conc_set]
    rfl
  rw [e1] at hP hD
  exact k _ hlen a μ2 h H1 locs1 ls hP hD hS hl hc1 hc2
/-- an object goes into a row of objects -/
def sR (μ : Mem) (t a : Nat) (i : Int32) (v ci : Nat) : Option Mem := match μ[a]?, μ[v]? with
  | some (.inl (t', n, .inr (.inr (.inr (.inr f))))), some (.inr (c, _)) => if t' = t ∧ c = ci ∧ ¬ (i < 0 ∨ n ≤ i.toNatClampNeg) then some (μ.set a (.inl (t, n, .inr (.inr (.inr (.inr (va_up f i.toNatClampNeg (some v)))))))) else none
  | _, _ => none
theorem E_aastore (C : CX p R s m args meth c D ca ad A X cc own nL ret d) {q v t ci N : Nat} {i : Int32} {Cn : String} {T : u_T} (ht : tagT[t]? = some (.object Cn)) (hc : vwCl[ci]? = some (Cn, T, N)) (hd : decode cc pc = .ok (.aastore, 1)) {G : Mem → Option (τ × Mem)} (k : ∀ μ1 : Mem, μ1.length = μ.length → Sm p l e R s m args below meth c D ca ad A nL cells slots wr K (pc + 1) lv (st) μ1 (G μ1)) : Sm p l e R s m args below meth c D ca ad A nL cells slots wr K (pc) lv (.ref v :: .int i :: .ref q :: st) μ ((sR μ t q i v ci).bind G) := by
  intro a μ2 h H locs ls hP hD hS hl hc1 hc2
  obtain ⟨μ1, hz, h5⟩ := Option.bind_eq_some_iff.mp h
  clear h
  unfold sR at hz
  split at hz
  · rename_i t' n f c1 vs hm hv
    split at hz
    · rename_i hx
      obtain ⟨rfl, rfl, hin⟩ := hx
      have hz := Option.some.inj hz
      subst hz
      refine va_astq C.1 C.2.1 C.2.2.2.2.2.1.1 hP hD hS q t' v c1 (conc_at hm) (r := (Cn, T, N)) (tysC_at ht) (conc_at hv) hc hin hd (fun H1 locs1 hP hD hS => ?_)
      have e1 : (conc ad ca μ).set q (ad q, .inl (ca t', n, .inr (.inr (.inr (.inr (va_up (fun j => (f j).map ad) i.toNatClampNeg (some (ad v)))))))) = conc ad ca (μ.set q (.inl (t', n, .inr (.inr (.inr (.inr (va_up f i.toNatClampNeg (some v)))))))) := by
        rw [← conc_set]
        have e3 : va_up (fun j => (f j).map ad) i.toNatClampNeg (some (ad v)) = fun j => (va_up f i.toNatClampNeg (some v) j).map ad := by
          funext j
          unfold va_up
          split <;> rfl
        rw [e3]
        rfl
      rw [e1] at hP hD
      exact k _ (by simp) a μ2 h5 H1 locs1 ls hP hD hS hl hc1 hc2
    · cases hz
  · cases hz
set_option maxHeartbeats 400000 in
theorem E_initL (C : CX p R s m args meth c D ca ad A X cc own nL ret d) {B n0 mc ms index n d2 maxL2 mc2 ms2 q : Nat} {y : MethodName} {bytes : ByteArray} (CA : (∀ k, k < 900 → ad k = B + k) ∧ s.heap.size = B + n0 ∧ mc ≤ R.cells ∧ ms ≤ R.slots) (as2 : List Value) {sti : List Value} {g : Option (Unit × Mem)} (hM : MethA y bytes maxL2 d2 mc2 ms2 (.ref q :: as2) μ g) (hc : CalOK y bytes maxL2 none n) (hyn : y.name = "<init>") (hin : Cond.instanceMethod y ∈ lw_g) (hw : Cond.methodLink own index y ∈ lw_g) (hd : decode cc pc = .ok (.invokespecial index, 3)) (hsti : sti = as2.reverse ++ .ref q :: st) (hn : as2.length = n) (hdd : d2 + 1 ≤ d) (hcat : (st.map fun v => v.category).sum ≤ 8) (hlen : μ.length = n0 + cells) (hlt : μ.length < 900) (hmc : cells + mc2 ≤ mc) (hms : slots + ms2 ≤ ms) {G : Unit → Mem → Option (τ × Mem)}
    (k : ∀ μ1 : Mem, μ1.length = μ.length + mc2 → Sm p l e R s m args below meth c D ca ad A nL (cells + mc2) (slots + ms2) wr K (pc + 3) lv st μ1 (G () μ1)) : Sm p l e R s m args below meth c D ca ad A nL cells slots wr K (pc) lv (sti) μ (bd g G) := by
  intro a μ2 h H locs ls hP hD hS hl hc1 hc2
  obtain ⟨x1, μ1, hg, h⟩ := bd_some h
  refine W_st (fun T0 hT0 X0 => ?_)
  have hsz := heap_now X0 hT0 hP hS CA.1 CA.2.1 hlen hlt
  obtain ⟨c1, c2, c3, c4⟩ := hc
  obtain ⟨hx, hb, hml, hown, hts, hE, -, -, hX, hdf, hdl⟩ := id C
  have hMet := hM l D ca ad A X hX B CA.1 x1 μ1 hg
  subst hsti
  have e1 : (as2.reverse ++ Value.ref q :: st).map (cV ad) = (as2.map (cV ad)).reverse ++ .ref (ad q) :: st.map (cV ad) := by simp [cV]
  have hbl : FrameBlind (PccA D ca ad A X B (.ref q :: as2) μ) := by
    intro a U g mk hq
    obtain ⟨h1, h2, h3, h4, h5⟩ := hq
    exact ⟨h1, h2, h3, h4.step hX (State.WarmedH.refl U) (Nat.le_refl _) (fun _ _ _ => rfl), h5⟩
  have hrun : va_Run p l e R s m args below meth c H locs cells slots mc2 ms2 (F0 m pc ls ((as2.map (cV ad)).reverse ++ .ref (ad q) :: st.map (cV ad))) (st.map (cV ad)) (QccA D ca ad A (μ.length + mc2) μ1 ((Value.ref (ad q) :: as2.map (cV ad)).toArray)) A :=
    va_runI (As := as2.map (cV ad)) (rest := st.map (cV ad)) ⟨hx, hb, hml, hown, hts⟩ hMet ⟨callB_of n hts (lw_goodC c1) rfl rfl rfl (hts _ c2) (hts _ hw) c3 ⟨Nat.le_trans hdd hdf, by have : (rmA d2 mc2 ms2).locals = 40 * d2 := rfl; omega⟩, hyn, hts _ hin⟩
      ⟨hbl, fun U hU hW => ⟨rfl, by rw [hU]; exact hP, hD, hE.step hX hW (by rw [hU]; exact hS.1) (fun z h1 h2 => by rw [hU]; exact hS.2.1 z h1 h2), by rw [hU]; exact hsz⟩⟩ rfl (by simpa using hn) hl.1 rfl (lv_room (by rw [catC]; exact hcat)) hd ⟨Nat.le_trans hmc CA.2.2.1, Nat.le_trans hms CA.2.2.2⟩
  rw [e1]
  intro T hT X9
  obtain ⟨v, st₀, t, T', L, h0, X', hL, e2, e3, ⟨⟨⟨hv, hP1, hD1⟩, hz, hk⟩, hle⟩, go⟩ := hrun T hT X9
  have hv : v = none := by injection hv
  subst hv
  rw [h0] at hz hk
  have hS1 : va_S A s.heap t.heap (locs ++ L) := ⟨Nat.le_trans hS.1 hz, fun q h1 h2 => by rw [hk q (Nat.lt_of_lt_of_le h1 hS.1) h2]; exact hS.2.1 q h1 h2, fun q hq => by
    rcases List.mem_append.mp hq with h | h
    · exact hS.2.2 q h
    · exact hL q h⟩
  obtain ⟨t2, a1, b1⟩ := k μ1 hle a μ2 h t.heap (locs ++ L) ls hP1 hD1 hS1 hl (Nat.le_trans hmc CA.2.2.1) (Nat.le_trans hms CA.2.2.2) T' e2 X'
  exact ⟨t2, go t2 a1, b1⟩
set_option maxHeartbeats 400000 in
theorem E_initN (C : CX p R s m args meth c D ca ad A X cc own nL ret d) {B n0 mc ms index n d2 maxL2 mc2 ms2 q : Nat} {y : MethodName} {bytes : ByteArray} (CA : (∀ k, k < 900 → ad k = B + k) ∧ s.heap.size = B + n0 ∧ mc ≤ R.cells ∧ ms ≤ R.slots) (as2 : List Value) {sti : List Value} {g : Option (Unit × Mem)} (hM : MethA y bytes maxL2 d2 mc2 ms2 (.ref q :: as2) μ g) (hc : CalOK y bytes maxL2 none n) (hyn : y.name = "<init>") (hin : Cond.instanceMethod y ∈ lw_g) {host : String} (hw : Cond.methodLinkNest own index y host ∈ lw_tbl) (hd : decode cc pc = .ok (.invokespecial index, 3)) (hsti : sti = as2.reverse ++ .ref q :: st) (hn : as2.length = n) (hdd : d2 + 1 ≤ d) (hcat : (st.map fun v => v.category).sum ≤ 8) (hlen : μ.length = n0 + cells) (hlt : μ.length < 900) (hmc : cells + mc2 ≤ mc) (hms : slots + ms2 ≤ ms) {G : Unit → Mem → Option (τ × Mem)}
    (k : ∀ μ1 : Mem, μ1.length = μ.length + mc2 → Sm p l e R s m args below meth c D ca ad A nL (cells + mc2) (slots + ms2) wr K (pc + 3) lv st μ1 (G () μ1)) : Sm p l e R s m args below meth c D ca ad A nL cells slots wr K (pc) lv (sti) μ (bd g G) := by
  intro a μ2 h H locs ls hP hD hS hl hc1 hc2
  obtain ⟨x1, μ1, hg, h⟩ := bd_some h
  refine W_st (fun T0 hT0 X0 => ?_)
  have hsz := heap_now X0 hT0 hP hS CA.1 CA.2.1 hlen hlt
  obtain ⟨c1, c2, c3, c4⟩ := hc
  obtain ⟨hx, hb, hml, hown, hts, hE, -, -, hX, hdf, hdl⟩ := id C
  have hMet := hM l D ca ad A X hX B CA.1 x1 μ1 hg
  subst hsti
  have e1 : (as2.reverse ++ Value.ref q :: st).map (cV ad) = (as2.map (cV ad)).reverse ++ .ref (ad q) :: st.map (cV ad) := by simp [cV]
  have hbl : FrameBlind (PccA D ca ad A X B (.ref q :: as2) μ) := by
    intro a U g mk hq
    obtain ⟨h1, h2, h3, h4, h5⟩ := hq
    exact ⟨h1, h2, h3, h4.step hX (State.WarmedH.refl U) (Nat.le_refl _) (fun _ _ _ => rfl), h5⟩
  have hrun : va_Run p l e R s m args below meth c H locs cells slots mc2 ms2 (F0 m pc ls ((as2.map (cV ad)).reverse ++ .ref (ad q) :: st.map (cV ad))) (st.map (cV ad)) (QccA D ca ad A (μ.length + mc2) μ1 ((Value.ref (ad q) :: as2.map (cV ad)).toArray)) A :=
    va_runIN (As := as2.map (cV ad)) (rest := st.map (cV ad)) ⟨hx, hb, hml, hown, hts⟩ hMet ⟨va_cnB n hts (lw_goodC c1) rfl rfl rfl (hE.2.2.2.1 _ hw rfl) (hts _ c2) c3 ⟨Nat.le_trans hdd hdf, by have : (rmA d2 mc2 ms2).locals = 40 * d2 := rfl; omega⟩, hyn, hts _ hin⟩
      ⟨hbl, fun U hU hW => ⟨rfl, by rw [hU]; exact hP, hD, hE.step hX hW (by rw [hU]; exact hS.1) (fun z h1 h2 => by rw [hU]; exact hS.2.1 z h1 h2), by rw [hU]; exact hsz⟩⟩ rfl (by simpa using hn) hl.1 rfl (lv_room (by rw [catC]; exact hcat)) hd ⟨Nat.le_trans hmc CA.2.2.1, Nat.le_trans hms CA.2.2.2⟩
  rw [e1]
  intro T hT X9
  obtain ⟨v, st₀, t, T', L, h0, X', hL, e2, e3, ⟨⟨⟨hv, hP1, hD1⟩, hz, hk⟩, hle⟩, go⟩ := hrun T hT X9
  have hv : v = none := by injection hv
  subst hv
  rw [h0] at hz hk
  have hS1 : va_S A s.heap t.heap (locs ++ L) := ⟨Nat.le_trans hS.1 hz, fun q h1 h2 => by rw [hk q (Nat.lt_of_lt_of_le h1 hS.1) h2]; exact hS.2.1 q h1 h2, fun q hq => by
    rcases List.mem_append.mp hq with h | h
    · exact hS.2.2 q h
    · exact hL q h⟩
  obtain ⟨t2, a1, b1⟩ := k μ1 hle a μ2 h t.heap (locs ++ L) ls hP1 hD1 hS1 hl (Nat.le_trans hmc CA.2.2.1) (Nat.le_trans hms CA.2.2.2) T' e2 X'
  exact ⟨t2, go t2 a1, b1⟩
theorem E_retA (C : CX p R s m args meth c D ca ad A X cc own nL none d) {mc ms n0 : Nat} (hd : decode cc pc = .ok (.return_, 1)) (hlen : μ.length = n0 + mc) (h1 : cells = mc) (h2 : slots ≤ ms) : Sm p l e R s m args below meth c D ca ad A nL cells slots wU (KQA below args s D ca ad A (n0 + mc) mc ms) pc lv [] μ (some ((), μ)) := by
  intro a μ2 h H locs ls hP hD hS hl hc1 hc2
  cases h
  subst h1
  refine W.widen (Nat.le_refl _) h2 ?_
  exact W.vret C.1 C.2.1 C.2.2.2.2.2.2.1 (fun t ht hW => ⟨⟨⟨rfl, by rw [ht]; exact hP, hD⟩, hS.F ht⟩, hlen⟩) (fun q hq => hS.2.2 q hq) hd (hlocks := C.2.2.2.2.2.2.2.1)
end RULES5
