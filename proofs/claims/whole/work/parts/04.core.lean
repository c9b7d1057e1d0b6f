/-! ===== the abstract memory: cells by their places; a reference is a place; 'ad' says where a place lies ===== -/
abbrev AC : Type := (Nat × vp_A) ⊕ (Nat × List Value)
abbrev Mem : Type := List AC
def cV (ad : Nat → Nat) : Value → Value
  | .ref k => .ref (ad k)
  | v => v
def cA (ad : Nat → Nat) : vp_A → vp_A
  | (n, .inr (.inr (.inr (.inr f)))) => (n, .inr (.inr (.inr (.inr (fun j => (f j).map ad)))))
  | a => a
def cE (ad : Nat → Nat) (ca : Nat → ClassId) : AC → va_E
  | .inl (t, a) => .inl (ca t, cA ad a)
  | .inr (ci, fs) => .inr (ci, fs.map (cV ad))
def conc (ad : Nat → Nat) (ca : Nat → ClassId) (μ : Mem) : va_W := μ.mapIdx (fun k c => (ad k, cE ad ca c))
theorem conc_at {ad : Nat → Nat} {ca : Nat → ClassId} {μ : Mem} {k : Nat} {c : AC} (h : μ[k]? = some c) : (conc ad ca μ)[k]? = some (ad k, cE ad ca c) := by
  simp [conc, h]
theorem conc_set {ad : Nat → Nat} {ca : Nat → ClassId} {μ : Mem} {k : Nat} {c : AC} : (conc ad ca μ).set k (ad k, cE ad ca c) = conc ad ca (μ.set k c) := by
  apply List.ext_getElem?
  intro i
  simp only [conc, List.getElem?_set, List.getElem?_mapIdx, List.length_mapIdx]
  by_cases h : k = i
  · subst h
    by_cases hk : k < μ.length <;> simp [hk]
  · simp [h]
theorem cV_cat (ad : Nat → Nat) (v : Value) : (cV ad v).category = v.category := by cases v <;> rfl
def lvC (ad : Nat → Nat) (lv : List (Nat × Value)) : List (Nat × Value) := lv.map (fun q => (q.1, cV ad q.2))
theorem lvC_at {ad : Nat → Nat} {lv : List (Nat × Value)} {j i : Nat} {v : Value} (h : lv[j]? = some (i, v)) : (lvC ad lv)[j]? = some (i, cV ad v) := by simp [lvC, h]
theorem lvC_filter (ad : Nat → Nat) (i : Nat) (lv : List (Nat × Value)) : (lvC ad lv).filter (fun q => !(q.1 == i) && !(q.1 + 1 == i && q.2.category == 2)) = lvC ad (lv.filter (fun q => !(q.1 == i) && !(q.1 + 1 == i && q.2.category == 2))) := by
  simp only [lvC, List.filter_map]
  congr 1
  apply List.filter_congr
  intro q _
  simp [Function.comp, cV_cat]
theorem lvC_args (ad : Nat → Nat) : ∀ (vs : List Value) (i : Nat), lv_args i (vs.map (cV ad)) = lvC ad (lv_args i vs)
  | [], _ => rfl
  | v :: vs, i => by
    show (i, cV ad v) :: lv_args _ _ = (i, cV ad v) :: lvC ad (lv_args _ vs)
    rw [cV_cat, lvC_args ad vs]
/-- the types of the arrays: by the tag that an array's cell has -/
def tagT : List FieldType := [.int, .long, .float, .byte, .object "ReservoirMind$Demand", .object "ReservoirMind$Lines", .object "ReservoirMind$Tape"]
def tysC (ca : Nat → ClassId) : List (ClassId × FieldType) := tagT.mapIdx (fun k t => (ca k, t))
/-- the constant rows of the class: name, contents; the place that stands for it is 1001 and on -/
def statA : List (String × List Int32) := [("KIND_ABOVE", [-1, 0, 0, 1, 0]), ("SETTING_LEAST", [1, 1, 0, 0]), ("SETTING_MOST", [12, 12, 9, 99]), ("RENEW_LEAST", [0, 1, 0]), ("RENEW_MOST", [9, 9, 99])]
/-- the texts of the class: entry in Clauses' file, the text, its bytes; the place that stands for it is 1011 and on -/
def textA : List (Nat × String × List Int32) := [(33, "1112.2.2", [49, 49, 49, 50, 46, 50, 46, 50]), (35, "2.111", [50, 46, 49, 49, 49]), (37, "1111", [49, 49, 49, 49]), (39, "2.1", [50, 46, 49]), (41, "2", [50]), (43, "", [])]
def StatOK (ad : Nat → Nat) (A : Nat → Prop) (U : State) : Prop := ∀ (j : Nat) (q : String × List Int32), statA[j]? = some q → va_Z "ReservoirMind" q.1 "[I" (.ref (ad (1001 + j))) A U U.heap ∧ va_T .int (ad (1001 + j)) q.2.length (fun i => .int (q.2.getD i 0)) A U U.heap
def TextOK (ad : Nat → Nat) (A : Nat → Prop) (U : State) : Prop := (∀ (j : Nat) (q : Nat × String × List Int32), textA[j]? = some q → vk_R "ReservoirMind$Clauses" q.1 q.2.1 (ad (1011 + j)) U) ∧ vk_S 6 (textA.map (fun q => q.2.2.length)) (textA.map (fun q => q.2.2)) (fun i => ad (1011 + i)) (fun i => ad (1021 + i)) A U U.heap ∧ va_Z "java/lang/String" "COMPACT_STRINGS" "Z" (.int 1) A U U.heap ∧ ∃ w : Value, (w = .null ∨ w = .ref 1031) ∧ va_Z "jdk/internal/util/Preconditions" "SIOOBE_FORMATTER" "Ljava/util/function/BiFunction;" (cV ad w) A U U.heap
def isNest : Cond → Bool
  | .fieldLinkNest .. => true
  | .methodLinkNest .. => true
  | .arrayOver (.object _) => true
  | _ => false
def NestOK (U : State) : Prop := ∀ w ∈ lw_tbl, isNest w = true → va_Nw w U
theorem NestOK.warm {u U : State} (hW : u.WarmedH U.vm) (h : NestOK u) : NestOK U := by
  intro w hw hn
  have h1 := h w hw hn
  cases w <;> first | exact h1.warmF hW | exact h1.warmM hW | (simp [isNest] at hn; done) | (rename_i ty; cases ty <;> first | exact va_AO.moved hW.alike h1 | (simp [isNest] at hn; done))
def EnvOK (D : va_G) (ca : Nat → ClassId) (ad : Nat → Nat) (A : Nat → Prop) (X : State → Prop) (U : State) : Prop :=
  va_K D vwCl (tysC ca) U ∧ StatOK ad A U ∧ (∀ q, U.heap.size ≤ q → A q) ∧ NestOK U ∧ TextOK ad A U ∧ X U
/-- what else is known of the start: it stays when the tables warm and when only cells of A change -/
def Steady (A : Nat → Prop) (X : State → Prop) : Prop := ∀ (u U : State), u.WarmedH U.vm → u.heap.size ≤ U.heap.size → (∀ q : Nat, q < u.heap.size → ¬ A q → U.heap[q]? = u.heap[q]?) → X u → X U
theorem EnvOK.step {D : va_G} {ca : Nat → ClassId} {ad : Nat → Nat} {A : Nat → Prop} {X : State → Prop} {u U : State} (hX : Steady A X) (hW : u.WarmedH U.vm) (hz : u.heap.size ≤ U.heap.size) (hk : ∀ q : Nat, q < u.heap.size → ¬ A q → U.heap[q]? = u.heap[q]?) (h : EnvOK D ca ad A X u) : EnvOK D ca ad A X U := by
  obtain ⟨h1, h2, h3, h4, ⟨h5, h6, h7, w, hw, h9⟩, h8⟩ := h
  exact ⟨h1.moved hW.alike, fun j q hq => ⟨((h2 j q hq).1.moved hW.alike).kept hk, ((h2 j q hq).2.moved hW.alike).kept hk⟩, fun q hq => h3 q (Nat.le_trans hz hq), h4.warm hW,
    ⟨fun j q hq => (h5 j q hq).warm hW, (h6.moved hW.alike).kept hk, (h7.moved hW.alike).kept hk, w, hw, (h9.moved hW.alike).kept hk⟩, hX u U hW hz hk h8⟩
/-- the words that stay as the tables warm -/
def lw_g : List Cond := lw_tbl.filter goodWord
theorem mem_g {w : Cond} (h : w ∈ lw_tbl) (hg : goodWord w = true) : w ∈ lw_g := List.mem_filter.mpr ⟨h, hg⟩
theorem lw_good : GoodIn lw_g lw_g := fun w h => ⟨h, good_of_word (List.mem_filter.mp h).2⟩
theorem lw_goodC {y : MethodName} {cc : ByteArray} {n : Nat} {ret : Option FieldType} (h : Cond.code y cc n ret ∈ lw_g) : GoodIn lw_g (.code y cc n ret :: lw_g) := fun w hw => by
  rcases List.mem_cons.mp hw with rfl | hw
  · exact lw_good _ h
  · exact lw_good _ hw
def rmD (d : Nat) : Room := { frames := d, cells := 0, slots := 0, locals := 40 * d }
def Pcc (D : va_G) (ca : Nat → ClassId) (ad : Nat → Nat) (A : Nat → Prop) (X : State → Prop) (as : List Value) (μ : Mem) : Array Value → State → Prop :=
  va_Pc (as.map (cV ad)) (fun U => va_P D vwCl (conc ad ca μ) U.heap ∧ va_D A (conc ad ca μ) ∧ EnvOK D ca ad A X U)
def Qcc (D : va_G) (ca : Nat → ClassId) (ad : Nat → Nat) (A : Nat → Prop) (r : Option Value) (μ : Mem) : Array Value → State → Outcome → State → Prop := fun _ st oc t =>
  (oc = .returned (r.map (cV ad)) ∧ va_P D vwCl (conc ad ca μ) t.heap ∧ va_D A (conc ad ca μ)) ∧ va_F A st t
/-- the method y computes o: whenever that is an answer r and a memory, y returns r and leaves that memory; d: how deep its calls go -/
def Meth {τ : Type} (wr : τ → Option Value) (y : MethodName) (cc : ByteArray) (maxL : Nat) (ret : Option FieldType) (d : Nat) (as : List Value) (μ : Mem) (o : Option (τ × Mem)) : Prop :=
  ∀ (l : Launch) (D : va_G) (ca : Nat → ClassId) (ad : Nat → Nat) (A : Nat → Prop) (X : State → Prop), Steady A X → ∀ (x : τ) (μ' : Mem), o = some (x, μ') →
    Met l y (.code y cc maxL ret :: lw_g) (rmD d) (Pcc D ca ad A X as μ) (Qcc D ca ad A (wr x) μ') 0 0 A
abbrev wI : Int32 → Option Value := fun x => some (.int x)
abbrev wJ : Int64 → Option Value := fun x => some (.long x)
abbrev wF : UInt32 → Option Value := fun x => some (.float x)
abbrev wR : Nat → Option Value := fun x => some (.ref x)
abbrev wU : Unit → Option Value := fun _ => none
/-! ===== the judgement of a method's body: at pc, with these locals, this stack, this memory, what is left computes o ===== -/
def CX (p : Program) (R : Room) (s : State) (m : MethodId) (args : Array Value) (meth : Method) (c : Code) (D : va_G) (ca : Nat → ClassId) (ad : Nat → Nat) (A : Nat → Prop) (X : State → Prop) (cc : ByteArray) (own : String) (nL : Nat) (ret : Option FieldType) (d : Nat) : Prop :=
  p.tables.exec = Jvm.exec ∧ c.code = cc ∧ c.maxLocals = nL ∧ s.vm.findClass own = some m.cls ∧ (∀ w ∈ lw_g, w.before args s = true) ∧ EnvOK D ca ad A X s ∧ meth.sig.returnType = ret ∧ meth.locks = false ∧ Steady A X ∧ d ≤ R.frames ∧ 40 * d ≤ R.locals
def Sm {τ : Type} (p : Program) (l : Launch) (e : Env) (R : Room) (s : State) (m : MethodId) (args : Array Value) (below : List Frame) (meth : Method) (c : Code) (D : va_G) (ca : Nat → ClassId) (ad : Nat → Nat) (A : Nat → Prop) (nL cells slots : Nat) (wr : τ → Option Value) (K : Option Value → Mem → State → Prop) (pc : Nat) (lv : List (Nat × Value)) (st : List Value) (μ : Mem) (o : Option (τ × Mem)) : Prop :=
  ∀ (x : τ) (μ' : Mem), o = some (x, μ') → ∀ (H : Heap) (locs : List Loc) (ls : Array Slot), va_P D vwCl (conc ad ca μ) H → va_D A (conc ad ca μ) → va_S A s.heap H locs → lv_has ls nL (lvC ad lv) → cells ≤ R.cells → slots ≤ R.slots →
    W p l e R s m args below meth c H locs cells slots (K (wr x) μ') (F0 m pc ls (st.map (cV ad)))
abbrev KQ (below : List Frame) (args : Array Value) (s : State) (D : va_G) (ca : Nat → ClassId) (ad : Nat → Nat) (A : Nat → Prop) : Option Value → Mem → State → Prop := fun r μ => MQ below (Qcc D ca ad A r μ) args s 0 0 A
theorem Meth.of {τ : Type} {wr : τ → Option Value} {y : MethodName} {cc : ByteArray} {maxL : Nat} {ret : Option FieldType} {d : Nat} {as : List Value} {μ : Mem} {o : Option (τ × Mem)} (hy : plainName y.cls = true) (lv : List (Nat × Value)) (hlv : lv_args 0 as = lv) (hn : (lg_sl as).length ≤ maxL)
    (body : ∀ (p : Program) (l : Launch) (e : Env) (R : Room) (s : State) (m : MethodId) (args : Array Value) (below : List Frame) (meth : Method) (c : Code) (D : va_G) (ca : Nat → ClassId) (ad : Nat → Nat) (A : Nat → Prop) (X : State → Prop), CX p R s m args meth c D ca ad A X cc y.cls maxL ret d → Sm p l e R s m args below meth c D ca ad A maxL 0 0 wr (KQ below args s D ca ad A) 0 lv [] μ o) : Meth wr y cc maxL ret d as μ o := by
  intro l D ca ad A X hX x μ' ho
  refine Met.ofW (cc := cc) (maxL := maxL) (ret := ret) hy rfl ?_
  intro p e s m args below meth c s₁ B hml hv
  obtain ⟨rfl, hP, hD, hE⟩ := hv
  have hts0 := atoms_spec (ws := Cond.code y cc maxL ret :: lw_g) B.pre
  have hts : ∀ w ∈ lw_g, w.before _ s = true := fun w h => hts0 w (List.mem_cons_of_mem _ h)
  have C : CX p (rmD d) s m _ meth c D ca ad A X cc y.cls maxL ret d := ⟨B.exec, B.bytes, hml, findClass_of_methodNamed B.named, hts, hE, B.returns, B.notSynchronized, hX, Nat.le_refl _, Nat.le_refl _⟩
  have hl := lv_entry (as.map (cV ad)) (n := maxL) (by
    have : (lg_sl (as.map (cV ad))).length = (lg_sl as).length := by
      clear hlv hn body ho hP B C hts hts0
      induction as with
      | nil => rfl
      | cons v vs ih =>
        simp only [lg_sl, List.map_cons, List.flatMap_cons, List.length_append, cV_cat] at ih ⊢
        rw [ih]
        split <;> simp
    omega)
  rw [lvC_args, hlv] at hl
  rw [lg_entry_eq]
  exact body p l e (rmD d) s m _ below meth c D ca ad A X C x μ' ho s.heap [] _ hP hD va_S.rf hl (Nat.zero_le _) (Nat.zero_le _)
/-! ===== the operations of the memory ===== -/
def gV (μ : Mem) (p ci k : Nat) : Option Value := match μ[p]? with
  | some (.inr (c, fs)) => if c = ci then fs[k]? else none
  | _ => none
def gI (μ : Mem) (p ci k : Nat) : Option Int32 := match gV μ p ci k with
  | some (.int x) => some x
  | _ => none
def gF (μ : Mem) (p ci k : Nat) : Option UInt32 := match gV μ p ci k with
  | some (.float x) => some x
  | _ => none
def gR (μ : Mem) (p ci k : Nat) : Option Nat := match gV μ p ci k with
  | some (.ref x) => some x
  | _ => none
/-- is there an object of that class -/
def isC (μ : Mem) (p ci : Nat) : Option Unit := match μ[p]? with
  | some (.inr (c, _)) => if c = ci then some () else none
  | _ => none
def pV (μ : Mem) (p ci k : Nat) (v : Value) : Option Mem := match μ[p]? with
  | some (.inr (c, fs)) => if c = ci ∧ k < fs.length then some (μ.set p (.inr (ci, fs.set k v))) else none
  | _ => none
def pZ (μ : Mem) (p ci k : Nat) (x : Int32) : Option Mem := if x = 0 ∨ x = 1 then pV μ p ci k (.int x) else none
def aI (μ : Mem) (t a : Nat) (i : Int32) : Option Int32 := match μ[a]? with
  | some (.inl (t', n, .inl f)) => if t' = t ∧ ¬ (i < 0 ∨ n ≤ i.toNatClampNeg) then some (f i.toNatClampNeg) else none
  | _ => none
def aJ (μ : Mem) (a : Nat) (i : Int32) : Option Int64 := match μ[a]? with
  | some (.inl (t', n, .inr (.inl f))) => if t' = 1 ∧ ¬ (i < 0 ∨ n ≤ i.toNatClampNeg) then some (f i.toNatClampNeg) else none
  | _ => none
def aF (μ : Mem) (a : Nat) (i : Int32) : Option UInt32 := match μ[a]? with
  | some (.inl (t', n, .inr (.inr (.inl f)))) => if t' = 2 ∧ ¬ (i < 0 ∨ n ≤ i.toNatClampNeg) then some (f i.toNatClampNeg) else none
  | _ => none
def aR (μ : Mem) (t a : Nat) (i : Int32) : Option Nat := match μ[a]? with
  | some (.inl (t', n, .inr (.inr (.inr (.inr f))))) => if t' = t ∧ ¬ (i < 0 ∨ n ≤ i.toNatClampNeg) then f i.toNatClampNeg else none
  | _ => none
def sI (μ : Mem) (a : Nat) (i x : Int32) : Option Mem := match μ[a]? with
  | some (.inl (t', n, .inl f)) => if t' = 0 ∧ ¬ (i < 0 ∨ n ≤ i.toNatClampNeg) then some (μ.set a (.inl (0, n, .inl (upd f i.toNatClampNeg x)))) else none
  | _ => none
def sB (μ : Mem) (a : Nat) (i x : Int32) : Option Mem := match μ[a]? with
  | some (.inl (t', n, .inl f)) => if t' = 3 ∧ ¬ (i < 0 ∨ n ≤ i.toNatClampNeg) then some (μ.set a (.inl (3, n, .inl (upd f i.toNatClampNeg (vp_nar .byte x))))) else none
  | _ => none
def sJ (μ : Mem) (a : Nat) (i : Int32) (x : Int64) : Option Mem := match μ[a]? with
  | some (.inl (t', n, .inr (.inl f))) => if t' = 1 ∧ ¬ (i < 0 ∨ n ≤ i.toNatClampNeg) then some (μ.set a (.inl (1, n, .inr (.inl (vp_updL f i.toNatClampNeg x))))) else none
  | _ => none
def sF (μ : Mem) (a : Nat) (i : Int32) (x : UInt32) : Option Mem := match μ[a]? with
  | some (.inl (t', n, .inr (.inr (.inl f)))) => if t' = 2 ∧ ¬ (i < 0 ∨ n ≤ i.toNatClampNeg) then some (μ.set a (.inl (2, n, .inr (.inr (.inl (vf_upd f i.toNatClampNeg x)))))) else none
  | _ => none
def cpyOk (sp dp n : Int32) (n0 n1 : Nat) : Prop := ¬ sp < 0 ∧ ¬ dp < 0 ∧ ¬ n < 0 ∧ sp.toNatClampNeg + n.toNatClampNeg ≤ n0 ∧ dp.toNatClampNeg + n.toNatClampNeg ≤ n1
/-- System.arraycopy over ints, over longs -/
def cpI (μ : Mem) (a0 : Nat) (sp : Int32) (a1 : Nat) (dp n : Int32) : Option Mem := match μ[a0]?, μ[a1]? with
  | some (.inl (t0, n0, .inl f)), some (.inl (t1, n1, .inl g)) => if t0 = 0 ∧ t1 = 0 ∧ ¬ sp < 0 ∧ ¬ dp < 0 ∧ ¬ n < 0 ∧ sp.toNatClampNeg + n.toNatClampNeg ≤ n0 ∧ dp.toNatClampNeg + n.toNatClampNeg ≤ n1 then some (μ.set a1 (.inl (0, n1, .inl (va_cpy f g sp.toNatClampNeg dp.toNatClampNeg n.toNatClampNeg)))) else none
  | _, _ => none
def cpJ (μ : Mem) (a0 : Nat) (sp : Int32) (a1 : Nat) (dp n : Int32) : Option Mem := match μ[a0]?, μ[a1]? with
  | some (.inl (t0, n0, .inr (.inl f))), some (.inl (t1, n1, .inr (.inl g))) => if t0 = 1 ∧ t1 = 1 ∧ ¬ sp < 0 ∧ ¬ dp < 0 ∧ ¬ n < 0 ∧ sp.toNatClampNeg + n.toNatClampNeg ≤ n0 ∧ dp.toNatClampNeg + n.toNatClampNeg ≤ n1 then some (μ.set a1 (.inl (1, n1, .inr (.inl (va_cpy f g sp.toNatClampNeg dp.toNatClampNeg n.toNatClampNeg))))) else none
  | _, _ => none
/-- the length of an array -/
def aLen (μ : Mem) (a : Nat) : Option Int32 := match μ[a]? with
  | some (.inl (t, n, _)) => if t < 7 then some (Int32.ofNat n) else none
  | _ => none
/-- an element of a constant row -/
def kI (r : List Int32) (i : Int32) : Option Int32 := if ¬ (i < 0 ∨ r.length ≤ i.toNatClampNeg) then some (r.getD i.toNatClampNeg 0) else none
def dvI (x y : Int32) : Option Int32 := if y = 0 then none else some (x / y)
def rmI (x y : Int32) : Option Int32 := if y = 0 then none else some (x - x / y * y)
/-- a float that is no NaN -/
def nn (x : UInt32) : Option UInt32 := if x &&& 0x7fffffff ≤ 0x7f800000 then some x else none
def zz (x : Int32) : Option Int32 := if x = 0 ∨ x = 1 then some x else none
/-- the texts: where its bytes lie, its coder, how many bytes, a byte -/
def isT (q : Nat) : Option Unit := if 1011 ≤ q ∧ q < 1017 then some () else none
def txV (q : Nat) : Option Nat := if 1011 ≤ q ∧ q < 1017 then some (1021 + (q - 1011)) else none
def txK (q : Nat) : Option Int32 := if 1011 ≤ q ∧ q < 1017 then some 0 else none
def txB (k : Nat) : List Int32 := (textA.map (fun q => q.2.2)).getD k []
def txN (k : Nat) : Nat := (textA.map (fun q => q.2.2.length)).getD k 0
def btL (a : Nat) : Option Int32 := if 1021 ≤ a ∧ a < 1027 then some (Int32.ofNat (txN (a - 1021))) else none
def btA (a : Nat) (i : Int32) : Option Int32 := if (1021 ≤ a ∧ a < 1027) ∧ ¬ (i < 0 ∨ txN (a - 1021) ≤ i.toNatClampNeg) then some ((txB (a - 1021)).getD i.toNatClampNeg 0) else none
def cz (x : Int32) : Option Int32 := if (x.toUInt32 % 65536).toInt32 = x then some x else none
def mnI (x y : Int32) : Int32 := if y < x then y else x
def abI (x : Int32) : Int32 := if 0 ≤ x then x else 0 - x
