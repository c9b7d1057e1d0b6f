section RULES2
variable {p : Program} {l : Launch} {e : Env} {R : Room} {s : State} {m : MethodId} {args : Array Value} {below : List Frame} {meth : Method} {c : Code} {D : va_G} {ca : Nat → ClassId} {ad : Nat → Nat} {A : Nat → Prop} {X : State → Prop} {cc : ByteArray} {own : String} {nL cells slots : Nat} {ret : Option FieldType} {d : Nat} {τ : Type} {wr : τ → Option Value} {K : Option Value → Mem → State → Prop} {pc : Nat} {lv lv' : List (Nat × Value)} {st : List Value} {μ : Mem} {o o1 o2 : Option (τ × Mem)}
theorem gV_spec {μ : Mem} {q ci k : Nat} {v : Value} (h : gV μ q ci k = some v) : ∃ fs, μ[q]? = some (.inr (ci, fs)) ∧ fs[k]? = some v := by
  unfold gV at h
  split at h
  · rename_i c fs hm
    split at h
    · rename_i hc
      subst hc
      exact ⟨fs, hm, h⟩
    · cases h
  · cases h
theorem pV_spec {μ μ1 : Mem} {q ci k : Nat} {v : Value} (h : pV μ q ci k v = some μ1) : ∃ fs, μ[q]? = some (.inr (ci, fs)) ∧ k < fs.length ∧ μ.set q (.inr (ci, fs.set k v)) = μ1 := by
  unfold pV at h
  split at h
  · rename_i c fs hm
    split at h
    · rename_i hc
      obtain ⟨rfl, hk⟩ := hc
      exact ⟨fs, hm, hk, Option.some.inj h⟩
    · cases h
  · cases h
theorem isC_spec {μ : Mem} {q ci : Nat} {u : Unit} (h : isC μ q ci = some u) : ∃ fs, μ[q]? = some (.inr (ci, fs)) := by
  unfold isC at h
  split at h
  · rename_i c fs hm
    split at h
    · rename_i hc
      subst hc
      exact ⟨fs, hm⟩
    · cases h
  · cases h
def FldOK (own : String) (index ci k : Nat) : Prop := ∃ (C : String) (T : u_T) (N : Nat), vwCl[ci]? = some (C, T, N) ∧ k < N ∧ (∀ w ∈ u_ws C T N, w ∈ lw_g) ∧ Cond.fieldLink own index (T k).1 (T k).2.1 (T k).2.2.1 ∈ lw_g
def PutOK (own : String) (index ci k : Nat) (ty : FieldType) : Prop := ∃ (C : String) (T : u_T) (N : Nat) (ty0 : Nat → FieldType), vwCl[ci]? = some (C, T, N) ∧ k < N ∧ (∀ w ∈ u_ws C T N, w ∈ lw_g) ∧ Cond.fieldLink own index (T k).1 (T k).2.1 (T k).2.2.1 ∈ lw_g ∧ (∀ k, k < N → parseFieldDescriptor (T k).2.2.1 = some (ty0 k)) ∧ (∀ a, a < N → ∀ b, b < N → a ≠ b → (T a).2.1 ≠ (T b).2.1) ∧ (T k).2.2.2 = false ∧ parseFieldDescriptor (T k).2.2.1 = some ty
theorem E_getV (C : CX p R s m args meth c D ca ad A X cc own nL ret d) {index ci kf q : Nat} (hf : FldOK own index ci kf) (hd : decode cc pc = .ok (.getfield index, 3)) {v : Value} (hv : gV μ q ci kf = some v) (k : Sm p l e R s m args below meth c D ca ad A nL cells slots wr K (pc + 3) lv (v :: st) μ (o)) : Sm p l e R s m args below meth c D ca ad A nL cells slots wr K (pc) lv (.ref q :: st) μ (o) := by
  obtain ⟨Cn, T, N, h1, h2, h3, h4⟩ := hf
  obtain ⟨fs, hm, hk⟩ := gV_spec hv
  exact fun a μ2 h H locs ls hP hD hS hl hc1 hc2 => va_get C.1 C.2.1 C.2.2.2.2.1 h3 C.2.2.2.1 C.2.2.2.2.2.1.1 hP q (conc_at hm) h1 kf h2 (C.2.2.2.2.1 _ h4) (fun _ h => h) (v := cV ad v) (by simp [hk]) hd (k a μ2 h H locs ls hP hD hS hl hc1 hc2)
theorem E_getI (C : CX p R s m args meth c D ca ad A X cc own nL ret d) {index ci kf q : Nat} (hf : FldOK own index ci kf) (hd : decode cc pc = .ok (.getfield index, 3)) {G : Int32 → Option (τ × Mem)} (k : ∀ z : Int32, Sm p l e R s m args below meth c D ca ad A nL cells slots wr K (pc + 3) lv (.int z :: st) μ (G z)) : Sm p l e R s m args below meth c D ca ad A nL cells slots wr K (pc) lv (.ref q :: st) μ ((gI μ q ci kf).bind G) := by
  intro a μ2 h
  obtain ⟨z, hz, h⟩ := Option.bind_eq_some_iff.mp h
  have hv : gV μ q ci kf = some (.int z) := by
    unfold gI at hz
    split at hz
    · rename_i y hy
      cases hz
      exact hy
    · cases hz
  exact E_getV C hf hd hv (k z) a μ2 h
theorem E_getF (C : CX p R s m args meth c D ca ad A X cc own nL ret d) {index ci kf q : Nat} (hf : FldOK own index ci kf) (hd : decode cc pc = .ok (.getfield index, 3)) {G : UInt32 → Option (τ × Mem)} (k : ∀ z : UInt32, Sm p l e R s m args below meth c D ca ad A nL cells slots wr K (pc + 3) lv (.float z :: st) μ (G z)) : Sm p l e R s m args below meth c D ca ad A nL cells slots wr K (pc) lv (.ref q :: st) μ ((gF μ q ci kf).bind G) := by
  intro a μ2 h
  obtain ⟨z, hz, h⟩ := Option.bind_eq_some_iff.mp h
  have hv : gV μ q ci kf = some (.float z) := by
    unfold gF at hz
    split at hz
    · rename_i y hy
      cases hz
      exact hy
    · cases hz
  exact E_getV C hf hd hv (k z) a μ2 h
theorem E_getR (C : CX p R s m args meth c D ca ad A X cc own nL ret d) {index ci kf q : Nat} (hf : FldOK own index ci kf) (hd : decode cc pc = .ok (.getfield index, 3)) {G : Nat → Option (τ × Mem)} (k : ∀ z : Nat, Sm p l e R s m args below meth c D ca ad A nL cells slots wr K (pc + 3) lv (.ref z :: st) μ (G z)) : Sm p l e R s m args below meth c D ca ad A nL cells slots wr K (pc) lv (.ref q :: st) μ ((gR μ q ci kf).bind G) := by
  intro a μ2 h
  obtain ⟨z, hz, h⟩ := Option.bind_eq_some_iff.mp h
  have hv : gV μ q ci kf = some (.ref z) := by
    unfold gR at hz
    split at hz
    · rename_i y hy
      cases hz
      exact hy
    · cases hz
  exact E_getV C hf hd hv (k z) a μ2 h
theorem E_putV (C : CX p R s m args meth c D ca ad A X cc own nL ret d) {index ci kf q : Nat} {ty : FieldType} (hf : PutOK own index ci kf ty) (hd : decode cc pc = .ok (.putfield index, 3)) {v : Value} (hn : narrow ty (cV ad v) = cV ad v) (hfit : fits ty (cV ad v) = true) {μ1 : Mem} (hv : pV μ q ci kf v = some μ1) (k : Sm p l e R s m args below meth c D ca ad A nL cells slots wr K (pc + 3) lv (st) μ1 (o)) : Sm p l e R s m args below meth c D ca ad A nL cells slots wr K (pc) lv (v :: .ref q :: st) μ (o) := by
  obtain ⟨Cn, T, N, ty0, h1, h2, h3, h4, h5, h6, h7, h8⟩ := hf
  obtain ⟨fs, hm, hk, rfl⟩ := pV_spec hv
  intro a μ2 h H locs ls hP hD hS hl hc1 hc2
  refine va_put C.1 C.2.1 C.2.2.2.2.1 h3 ty0 h5 h6 C.2.2.2.1 C.2.2.2.2.2.1.1 hP hD hS q (conc_at hm) h1 kf h2 (C.2.2.2.2.1 _ h4) (fun _ h => h) h7 h8 hn hfit (by simpa using hk) hd (fun H1 locs1 hP hD hS => ?_)
  have e1 : (conc ad ca μ).set q (ad q, .inr (ci, (fs.map (cV ad)).set kf (cV ad v))) = conc ad ca (μ.set q (.inr (ci, fs.set kf v))) := by
    rw [← conc_set]
    simp [cE, List.map_set]
  rw [e1] at hP hD
  exact k a μ2 h H1 locs1 ls hP hD hS hl hc1 hc2
theorem E_putI (C : CX p R s m args meth c D ca ad A X cc own nL ret d) {index ci kf q : Nat} {x : Int32} (hf : PutOK own index ci kf .int) (hd : decode cc pc = .ok (.putfield index, 3)) {G : Mem → Option (τ × Mem)} (k : ∀ μ1 : Mem, Sm p l e R s m args below meth c D ca ad A nL cells slots wr K (pc + 3) lv (st) μ1 (G μ1)) : Sm p l e R s m args below meth c D ca ad A nL cells slots wr K (pc) lv (.int x :: .ref q :: st) μ ((pV μ q ci kf (.int x)).bind G) := by
  intro a μ2 h
  obtain ⟨μ1, hz, h⟩ := Option.bind_eq_some_iff.mp h
  exact E_putV C hf hd rfl rfl hz (k μ1) a μ2 h
theorem E_putF (C : CX p R s m args meth c D ca ad A X cc own nL ret d) {index ci kf q : Nat} {x : UInt32} (hf : PutOK own index ci kf .float) (hd : decode cc pc = .ok (.putfield index, 3)) {G : Mem → Option (τ × Mem)} (k : ∀ μ1 : Mem, Sm p l e R s m args below meth c D ca ad A nL cells slots wr K (pc + 3) lv (st) μ1 (G μ1)) : Sm p l e R s m args below meth c D ca ad A nL cells slots wr K (pc) lv (.float x :: .ref q :: st) μ ((pV μ q ci kf (.float x)).bind G) := by
  intro a μ2 h
  obtain ⟨μ1, hz, h⟩ := Option.bind_eq_some_iff.mp h
  exact E_putV C hf hd rfl rfl hz (k μ1) a μ2 h
theorem E_putR (C : CX p R s m args meth c D ca ad A X cc own nL ret d) {index ci kf q : Nat} {x : Nat} {t : FieldType} (hf : PutOK own index ci kf (.array t)) (hd : decode cc pc = .ok (.putfield index, 3)) {G : Mem → Option (τ × Mem)} (k : ∀ μ1 : Mem, Sm p l e R s m args below meth c D ca ad A nL cells slots wr K (pc + 3) lv (st) μ1 (G μ1)) : Sm p l e R s m args below meth c D ca ad A nL cells slots wr K (pc) lv (.ref x :: .ref q :: st) μ ((pV μ q ci kf (.ref x)).bind G) := by
  intro a μ2 h
  obtain ⟨μ1, hz, h⟩ := Option.bind_eq_some_iff.mp h
  exact E_putV C hf hd rfl rfl hz (k μ1) a μ2 h
theorem E_putZ (C : CX p R s m args meth c D ca ad A X cc own nL ret d) {index ci kf q : Nat} {x : Int32} (hf : PutOK own index ci kf .boolean) (hd : decode cc pc = .ok (.putfield index, 3)) {G : Mem → Option (τ × Mem)} (k : ∀ μ1 : Mem, Sm p l e R s m args below meth c D ca ad A nL cells slots wr K (pc + 3) lv (st) μ1 (G μ1)) : Sm p l e R s m args below meth c D ca ad A nL cells slots wr K (pc) lv (.int x :: .ref q :: st) μ ((pZ μ q ci kf x).bind G) := by
  intro a μ2 h
  obtain ⟨μ1, hz, h5⟩ := Option.bind_eq_some_iff.mp h
  clear h
  unfold pZ at hz
  split at hz
  · rename_i hx
    rcases hx with rfl | rfl
    · exact E_putV C hf hd rfl rfl hz (k μ1) a μ2 h5
    · exact E_putV C hf hd rfl rfl hz (k μ1) a μ2 h5
  · cases hz
theorem tysC_at {ca : Nat → ClassId} {t : Nat} {ty : FieldType} (h : tagT[t]? = some ty) : (tysC ca)[t]? = some (ca t, ty) := by simp [tysC, h]
theorem aI_spec {μ : Mem} {t q : Nat} {i : Int32} {z : Int32} (h : aI μ t q i = some z) : ∃ n f, μ[q]? = some (.inl (t, n, .inl f)) ∧ vp_in i n ∧ f i.toNatClampNeg = z := by
  unfold aI at h
  split at h
  · rename_i t' n f hm
    split at h
    · rename_i hc
      obtain ⟨rfl, hc⟩ := hc
      exact ⟨n, f, hm, hc, Option.some.inj h⟩
    · cases h
  · cases h
theorem E_iaload (C : CX p R s m args meth c D ca ad A X cc own nL ret d) {q : Nat} {i : Int32} (hd : decode cc pc = .ok (.iaload, 1)) {G : Int32 → Option (τ × Mem)} (k : ∀ z : Int32, Sm p l e R s m args below meth c D ca ad A nL cells slots wr K (pc + 1) lv (.int z :: st) μ (G z)) : Sm p l e R s m args below meth c D ca ad A nL cells slots wr K (pc) lv (.int i :: .ref q :: st) μ ((aI μ 0 q i).bind G) := by
  intro a μ2 h H locs ls hP hD hS hl hc1 hc2
  obtain ⟨z, hz, h⟩ := Option.bind_eq_some_iff.mp h
  obtain ⟨n, f, hm, hin, hz⟩ := aI_spec hz
  subst hz
  exact va_iald C.1 C.2.1 C.2.2.2.2.2.1.1 hP q 0 (conc_at hm) (tysC_at rfl) hin hd (k _ a μ2 h H locs ls hP hD hS hl hc1 hc2)

theorem E_baload (C : CX p R s m args meth c D ca ad A X cc own nL ret d) {q : Nat} {i : Int32} (hd : decode cc pc = .ok (.baload, 1)) {G : Int32 → Option (τ × Mem)} (k : ∀ z : Int32, Sm p l e R s m args below meth c D ca ad A nL cells slots wr K (pc + 1) lv (.int z :: st) μ (G z)) : Sm p l e R s m args below meth c D ca ad A nL cells slots wr K (pc) lv (.int i :: .ref q :: st) μ ((aI μ 3 q i).bind G) := by
  intro a μ2 h H locs ls hP hD hS hl hc1 hc2
  obtain ⟨z, hz, h⟩ := Option.bind_eq_some_iff.mp h
  obtain ⟨n, f, hm, hin, hz⟩ := aI_spec hz
  subst hz
  exact va_bald C.1 C.2.1 C.2.2.2.2.2.1.1 hP q 3 (conc_at hm) (tysC_at rfl) hin hd (k _ a μ2 h H locs ls hP hD hS hl hc1 hc2)

theorem aJ_spec {μ : Mem} {q : Nat} {i : Int32} {z : Int64} (h : aJ μ q i = some z) : ∃ n f, μ[q]? = some (.inl (1, n, .inr (.inl f))) ∧ vp_in i n ∧ f i.toNatClampNeg = z := by
  unfold aJ at h
  split at h
  · rename_i t' n f hm
    split at h
    · rename_i hc
      obtain ⟨rfl, hc⟩ := hc
      exact ⟨n, f, hm, hc, Option.some.inj h⟩
    · cases h
  · cases h
theorem E_laload (C : CX p R s m args meth c D ca ad A X cc own nL ret d) {q : Nat} {i : Int32} (hd : decode cc pc = .ok (.laload, 1)) {G : Int64 → Option (τ × Mem)} (k : ∀ z : Int64, Sm p l e R s m args below meth c D ca ad A nL cells slots wr K (pc + 1) lv (.long z :: st) μ (G z)) : Sm p l e R s m args below meth c D ca ad A nL cells slots wr K (pc) lv (.int i :: .ref q :: st) μ ((aJ μ q i).bind G) := by
  intro a μ2 h H locs ls hP hD hS hl hc1 hc2
  obtain ⟨z, hz, h⟩ := Option.bind_eq_some_iff.mp h
  obtain ⟨n, f, hm, hin, hz⟩ := aJ_spec hz
  subst hz
  exact va_lald C.1 C.2.1 C.2.2.2.2.2.1.1 hP q 1 (conc_at hm) (tysC_at rfl) hin hd (k _ a μ2 h H locs ls hP hD hS hl hc1 hc2)

theorem aF_spec {μ : Mem} {q : Nat} {i : Int32} {z : UInt32} (h : aF μ q i = some z) : ∃ n f, μ[q]? = some (.inl (2, n, .inr (.inr (.inl f)))) ∧ vp_in i n ∧ f i.toNatClampNeg = z := by
  unfold aF at h
  split at h
  · rename_i t' n f hm
    split at h
    · rename_i hc
      obtain ⟨rfl, hc⟩ := hc
      exact ⟨n, f, hm, hc, Option.some.inj h⟩
    · cases h
  · cases h
theorem E_faload (C : CX p R s m args meth c D ca ad A X cc own nL ret d) {q : Nat} {i : Int32} (hd : decode cc pc = .ok (.faload, 1)) {G : UInt32 → Option (τ × Mem)} (k : ∀ z : UInt32, Sm p l e R s m args below meth c D ca ad A nL cells slots wr K (pc + 1) lv (.float z :: st) μ (G z)) : Sm p l e R s m args below meth c D ca ad A nL cells slots wr K (pc) lv (.int i :: .ref q :: st) μ ((aF μ q i).bind G) := by
  intro a μ2 h H locs ls hP hD hS hl hc1 hc2
  obtain ⟨z, hz, h⟩ := Option.bind_eq_some_iff.mp h
  obtain ⟨n, f, hm, hin, hz⟩ := aF_spec hz
  subst hz
  exact va_fald C.1 C.2.1 C.2.2.2.2.2.1.1 hP q 2 (conc_at hm) (tysC_at rfl) hin hd (k _ a μ2 h H locs ls hP hD hS hl hc1 hc2)

theorem aR_spec {μ : Mem} {t q : Nat} {i : Int32} {z : Nat} (h : aR μ t q i = some z) : ∃ n f, μ[q]? = some (.inl (t, n, .inr (.inr (.inr (.inr f))))) ∧ vp_in i n ∧ f i.toNatClampNeg = some z := by
  unfold aR at h
  split at h
  · rename_i t' n f hm
    split at h
    · rename_i hc
      obtain ⟨rfl, hc⟩ := hc
      exact ⟨n, f, hm, hc, h⟩
    · cases h
  · cases h
theorem E_aaload (C : CX p R s m args meth c D ca ad A X cc own nL ret d) {q : Nat} {i : Int32} {t : Nat} {Cn : String} (ht : tagT[t]? = some (.object Cn)) (hd : decode cc pc = .ok (.aaload, 1)) {G : Nat → Option (τ × Mem)} (k : ∀ z : Nat, Sm p l e R s m args below meth c D ca ad A nL cells slots wr K (pc + 1) lv (.ref z :: st) μ (G z)) : Sm p l e R s m args below meth c D ca ad A nL cells slots wr K (pc) lv (.int i :: .ref q :: st) μ ((aR μ t q i).bind G) := by
  intro a μ2 h H locs ls hP hD hS hl hc1 hc2
  obtain ⟨z, hz, h⟩ := Option.bind_eq_some_iff.mp h
  obtain ⟨n, f, hm, hin, hz⟩ := aR_spec hz
  skip
  refine va_aldq C.1 C.2.1 C.2.2.2.2.2.1.1 hP q t (conc_at hm) (tysC_at ht) hin hd ?_
  show W p l e R s m args below meth c H locs cells slots (K (wr a) μ2) (F0 m (pc + 1) ls (va_rf ((f i.toNatClampNeg).map ad) :: st.map (cV ad)))
  rw [hz]
  exact k z a μ2 h H locs ls hP hD hS hl hc1 hc2
theorem sI_spec {μ μ1 : Mem} {q : Nat} {i : Int32} {x : Int32} (h : sI μ q i x = some μ1) : ∃ n f, μ[q]? = some (.inl (0, n, .inl (f))) ∧ vp_in i n ∧ μ.set q (.inl (0, n, .inl (upd f i.toNatClampNeg x))) = μ1 := by
  unfold sI at h
  split at h
  · rename_i t' n f hm
    split at h
    · rename_i hc
      obtain ⟨rfl, hc⟩ := hc
      exact ⟨n, f, hm, hc, Option.some.inj h⟩
    · cases h
  · cases h
theorem E_iastore (C : CX p R s m args meth c D ca ad A X cc own nL ret d) {q : Nat} {i : Int32} {x : Int32} (hd : decode cc pc = .ok (.iastore, 1)) {G : Mem → Option (τ × Mem)} (k : ∀ μ1 : Mem, Sm p l e R s m args below meth c D ca ad A nL cells slots wr K (pc + 1) lv (st) μ1 (G μ1)) : Sm p l e R s m args below meth c D ca ad A nL cells slots wr K (pc) lv (.int x :: .int i :: .ref q :: st) μ ((sI μ q i x).bind G) := by
  intro a μ2 h H locs ls hP hD hS hl hc1 hc2
  obtain ⟨μ1, hz, h⟩ := Option.bind_eq_some_iff.mp h
  obtain ⟨n, f, hm, hin, rfl⟩ := sI_spec hz
  refine va_iast C.1 C.2.1 C.2.2.2.2.2.1.1 hP hD hS q 0 (conc_at hm) (tysC_at rfl) hin hd (fun H1 locs1 hP hD hS => ?_)
  have e1 : (conc ad ca μ).set q (ad q, .inl (ca 0, n, .inl (upd f i.toNatClampNeg x))) = conc ad ca (μ.set q (.inl (0, n, .inl (upd f i.toNatClampNeg x)))) := by
    rw [← conc_set]
    rfl
  rw [e1] at hP hD
  exact k _ a μ2 h H1 locs1 ls hP hD hS hl hc1 hc2
theorem sB_spec {μ μ1 : Mem} {q : Nat} {i : Int32} {x : Int32} (h : sB μ q i x = some μ1) : ∃ n f, μ[q]? = some (.inl (3, n, .inl (f))) ∧ vp_in i n ∧ μ.set q (.inl (3, n, .inl (upd f i.toNatClampNeg (vp_nar .byte x)))) = μ1 := by
  unfold sB at h
  split at h
  · rename_i t' n f hm
    split at h
    · rename_i hc
      obtain ⟨rfl, hc⟩ := hc
      exact ⟨n, f, hm, hc, Option.some.inj h⟩
    · cases h
  · cases h
theorem E_bastore (C : CX p R s m args meth c D ca ad A X cc own nL ret d) {q : Nat} {i : Int32} {x : Int32} (hd : decode cc pc = .ok (.bastore, 1)) {G : Mem → Option (τ × Mem)} (k : ∀ μ1 : Mem, Sm p l e R s m args below meth c D ca ad A nL cells slots wr K (pc + 1) lv (st) μ1 (G μ1)) : Sm p l e R s m args below meth c D ca ad A nL cells slots wr K (pc) lv (.int x :: .int i :: .ref q :: st) μ ((sB μ q i x).bind G) := by
  intro a μ2 h H locs ls hP hD hS hl hc1 hc2
  obtain ⟨μ1, hz, h⟩ := Option.bind_eq_some_iff.mp h
  obtain ⟨n, f, hm, hin, rfl⟩ := sB_spec hz
  refine va_bast C.1 C.2.1 C.2.2.2.2.2.1.1 hP hD hS q 3 (conc_at hm) (tysC_at rfl) hin hd (fun H1 locs1 hP hD hS => ?_)
  have e1 : (conc ad ca μ).set q (ad q, .inl (ca 3, n, .inl (upd f i.toNatClampNeg (vp_nar .byte x)))) = conc ad ca (μ.set q (.inl (3, n, .inl (upd f i.toNatClampNeg (vp_nar .byte x))))) := by
    rw [← conc_set]
    rfl
  rw [e1] at hP hD
  exact k _ a μ2 h H1 locs1 ls hP hD hS hl hc1 hc2
theorem sJ_spec {μ μ1 : Mem} {q : Nat} {i : Int32} {x : Int64} (h : sJ μ q i x = some μ1) : ∃ n f, μ[q]? = some (.inl (1, n, .inr (.inl (f)))) ∧ vp_in i n ∧ μ.set q (.inl (1, n, .inr (.inl (vp_updL f i.toNatClampNeg x)))) = μ1 := by
  unfold sJ at h
  split at h
  · rename_i t' n f hm
    split at h
    · rename_i hc
      obtain ⟨rfl, hc⟩ := hc
      exact ⟨n, f, hm, hc, Option.some.inj h⟩
    · cases h
  · cases h
theorem E_lastore (C : CX p R s m args meth c D ca ad A X cc own nL ret d) {q : Nat} {i : Int32} {x : Int64} (hd : decode cc pc = .ok (.lastore, 1)) {G : Mem → Option (τ × Mem)} (k : ∀ μ1 : Mem, Sm p l e R s m args below meth c D ca ad A nL cells slots wr K (pc + 1) lv (st) μ1 (G μ1)) : Sm p l e R s m args below meth c D ca ad A nL cells slots wr K (pc) lv (.long x :: .int i :: .ref q :: st) μ ((sJ μ q i x).bind G) := by
  intro a μ2 h H locs ls hP hD hS hl hc1 hc2
  obtain ⟨μ1, hz, h⟩ := Option.bind_eq_some_iff.mp h
  obtain ⟨n, f, hm, hin, rfl⟩ := sJ_spec hz
  refine va_last C.1 C.2.1 C.2.2.2.2.2.1.1 hP hD hS q 1 (conc_at hm) (tysC_at rfl) hin hd (fun H1 locs1 hP hD hS => ?_)
  have e1 : (conc ad ca μ).set q (ad q, .inl (ca 1, n, .inr (.inl (vp_updL f i.toNatClampNeg x)))) = conc ad ca (μ.set q (.inl (1, n, .inr (.inl (vp_updL f i.toNatClampNeg x))))) := by
    rw [← conc_set]
    rfl
  rw [e1] at hP hD
  exact k _ a μ2 h H1 locs1 ls hP hD hS hl hc1 hc2
theorem sF_spec {μ μ1 : Mem} {q : Nat} {i : Int32} {x : UInt32} (h : sF μ q i x = some μ1) : ∃ n f, μ[q]? = some (.inl (2, n, .inr (.inr (.inl (f))))) ∧ vp_in i n ∧ μ.set q (.inl (2, n, .inr (.inr (.inl (vf_upd f i.toNatClampNeg x))))) = μ1 := by
  unfold sF at h
  split at h
  · rename_i t' n f hm
    split at h
    · rename_i hc
      obtain ⟨rfl, hc⟩ := hc
      exact ⟨n, f, hm, hc, Option.some.inj h⟩
    · cases h
  · cases h
theorem E_fastore (C : CX p R s m args meth c D ca ad A X cc own nL ret d) {q : Nat} {i : Int32} {x : UInt32} (hd : decode cc pc = .ok (.fastore, 1)) {G : Mem → Option (τ × Mem)} (k : ∀ μ1 : Mem, Sm p l e R s m args below meth c D ca ad A nL cells slots wr K (pc + 1) lv (st) μ1 (G μ1)) : Sm p l e R s m args below meth c D ca ad A nL cells slots wr K (pc) lv (.float x :: .int i :: .ref q :: st) μ ((sF μ q i x).bind G) := by
  intro a μ2 h H locs ls hP hD hS hl hc1 hc2
  obtain ⟨μ1, hz, h⟩ := Option.bind_eq_some_iff.mp h
  obtain ⟨n, f, hm, hin, rfl⟩ := sF_spec hz
  refine va_fast C.1 C.2.1 C.2.2.2.2.2.1.1 hP hD hS q 2 (conc_at hm) (tysC_at rfl) hin hd (fun H1 locs1 hP hD hS => ?_)
  have e1 : (conc ad ca μ).set q (ad q, .inl (ca 2, n, .inr (.inr (.inl (vf_upd f i.toNatClampNeg x))))) = conc ad ca (μ.set q (.inl (2, n, .inr (.inr (.inl (vf_upd f i.toNatClampNeg x)))))) := by
    rw [← conc_set]
    rfl
  rw [e1] at hP hD
  exact k _ a μ2 h H1 locs1 ls hP hD hS hl hc1 hc2
theorem E_gets (C : CX p R s m args meth c D ca ad A X cc own nL ret d) {index j : Nat} {q : String × List Int32} (hj : statA[j]? = some q) (hw : Cond.fieldLink own index "ReservoirMind" q.1 "[I" ∈ lw_g) (hd : decode cc pc = .ok (.getstatic index, 3)) (k : Sm p l e R s m args below meth c D ca ad A nL cells slots wr K (pc + 3) lv (.ref (1001 + j) :: st) μ (o)) : Sm p l e R s m args below meth c D ca ad A nL cells slots wr K (pc) lv (st) μ (o) :=
  fun a μ2 h H locs ls hP hD hS hl hc1 hc2 => va_gets C.1 C.2.1 (C.2.2.2.2.2.1.2.1 j q hj).1 hS C.2.2.2.1 (C.2.2.2.2.1 _ hw) (fun _ h => h) hd (k a μ2 h H locs ls hP hD hS hl hc1 hc2)
theorem E_getsN (C : CX p R s m args meth c D ca ad A X cc own nL ret d) {index j : Nat} {q : String × List Int32} {host : String} (hj : statA[j]? = some q) (hw : Cond.fieldLinkNest own index "ReservoirMind" q.1 "[I" host ∈ lw_tbl) (hd : decode cc pc = .ok (.getstatic index, 3)) (k : Sm p l e R s m args below meth c D ca ad A nL cells slots wr K (pc + 3) lv (.ref (1001 + j) :: st) μ (o)) : Sm p l e R s m args below meth c D ca ad A nL cells slots wr K (pc) lv (st) μ (o) :=
  fun a μ2 h H locs ls hP hD hS hl hc1 hc2 => va_getsN C.1 C.2.1 (C.2.2.2.2.2.1.2.1 j q hj).1 hS C.2.2.2.1 (va_Nw.use rfl (C.2.2.2.2.2.1.2.2.2.1 _ hw rfl)) (fun _ h => h) hd (k a μ2 h H locs ls hP hD hS hl hc1 hc2)
theorem E_kald (C : CX p R s m args meth c D ca ad A X cc own nL ret d) {j : Nat} {q : String × List Int32} {i : Int32} (hj : statA[j]? = some q) (hd : decode cc pc = .ok (.iaload, 1)) {G : Int32 → Option (τ × Mem)} (k : ∀ z : Int32, Sm p l e R s m args below meth c D ca ad A nL cells slots wr K (pc + 1) lv (.int z :: st) μ (G z)) : Sm p l e R s m args below meth c D ca ad A nL cells slots wr K (pc) lv (.int i :: .ref (1001 + j) :: st) μ ((kI q.2 i).bind G) := by
  intro a μ2 h H locs ls hP hD hS hl hc1 hc2
  obtain ⟨z, hz, h⟩ := Option.bind_eq_some_iff.mp h
  unfold kI at hz
  split at hz
  · rename_i hin
    cases hz
    exact va_ti C.1 C.2.1 (C.2.2.2.2.2.1.2.1 j q hj).2 hS hin rfl hd (k _ a μ2 h H locs ls hP hD hS hl hc1 hc2)
  · cases hz
theorem E_klen (C : CX p R s m args meth c D ca ad A X cc own nL ret d) {j : Nat} {q : String × List Int32} (hj : statA[j]? = some q) (v : Int32) (hv : Int32.ofNat q.2.length = v) (hd : decode cc pc = .ok (.arraylength, 1)) (k : Sm p l e R s m args below meth c D ca ad A nL cells slots wr K (pc + 1) lv (.int v :: st) μ (o)) : Sm p l e R s m args below meth c D ca ad A nL cells slots wr K (pc) lv (.ref (1001 + j) :: st) μ (o) :=
  fun a μ2 h H locs ls hP hD hS hl hc1 hc2 => va_tlen C.1 C.2.1 (C.2.2.2.2.2.1.2.1 j q hj).2 hS hv hd (k a μ2 h H locs ls hP hD hS hl hc1 hc2)
theorem E_alen (C : CX p R s m args meth c D ca ad A X cc own nL ret d) {q : Nat} (hd : decode cc pc = .ok (.arraylength, 1)) {G : Int32 → Option (τ × Mem)} (k : ∀ z : Int32, Sm p l e R s m args below meth c D ca ad A nL cells slots wr K (pc + 1) lv (.int z :: st) μ (G z)) : Sm p l e R s m args below meth c D ca ad A nL cells slots wr K (pc) lv (.ref q :: st) μ ((aLen μ q).bind G) := by
  intro a μ2 h H locs ls hP hD hS hl hc1 hc2
  obtain ⟨z, hz, h⟩ := Option.bind_eq_some_iff.mp h
  unfold aLen at hz
  split at hz
  · rename_i t n f hm
    split at hz
    · rename_i ht
      cases hz
      obtain ⟨ty, hty⟩ : ∃ ty, tagT[t]? = some ty := ⟨tagT[t], List.getElem?_eq_getElem ht⟩
      refine va_alen C.1 C.2.1 C.2.2.2.2.2.1.1 hP q t (conc_at hm) (tysC_at hty) (v := Int32.ofNat n) ?_ hd (k _ a μ2 h H locs ls hP hD hS hl hc1 hc2)
      unfold cA
      split <;> first | rfl | simp_all
    · cases hz
  · cases hz
end RULES2
