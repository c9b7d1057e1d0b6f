/-! ===== what holds between calls ===== -/
/-- rows of whole numbers of the class: n of them, their cells f -/
def LI (s : Sto) (l wd n : Nat) (f : Nat → Nat) : Prop := s.1 l 3 = iN n ∧ ∀ i, i < n * wd → s.1 (l + 1) i = iN (f i)
/-- a setting of the class, at place P, holds g -/
def RS (s : Sto) (P : Nat) (g : Nat → Nat) : Prop := RB s (P + 1) g ∧ LI s (P + 14) 4 (g 110) (fun i => g (111 + i)) ∧ LI s (P + 16) 2 (g 131) (fun i => g (132 + i)) ∧ LI s (P + 18) 3 (g 148) (fun i => g (149 + i))
/-- the numbers between calls are as the document lets them be -/
def OKs (g : Nat → Nat) : Prop := OKg g ∧ g 0 ≤ 12 ∧ (∀ k, k < 12 → g (61 + k) ≤ 9) ∧ g 110 ≤ 5 ∧ g 131 ≤ 8 ∧ g 148 ≤ 8 ∧
  (∀ r, r < g 110 → g (111 + 4 * r) ≤ 11 ∧ g (112 + 4 * r) ≤ 12 ∧ g (113 + 4 * r) ≤ 2 ∧ g (114 + 4 * r) ≤ 20) ∧
  (∀ r, r < g 131 → g (132 + 2 * r) ≤ 3 ∧ (g (132 + 2 * r) = 0 → 1 ≤ g (133 + 2 * r) ∧ g (133 + 2 * r) ≤ 12) ∧ (g (132 + 2 * r) = 1 → g (133 + 2 * r) ≤ 9) ∧ (g (132 + 2 * r) = 2 → g (133 + 2 * r) ≤ 9) ∧ (g (132 + 2 * r) = 3 → g (133 + 2 * r) ≤ 5)) ∧
  (∀ r, r < g 148 → g (149 + 3 * r) ≤ 11 ∧ g (150 + 3 * r) ≤ 12 ∧ g (151 + 3 * r) ≤ 20)
def Rg (s : Sto) (q : Nat) (g : Nat → Nat) : Prop := ∀ k, k < 173 → s.1 q k = iN (g k)
def Ig (s : Sto) (g : Nat → Nat) : Prop := OKs g ∧ RS s 1 g ∧ Rg s 102 g ∧ s.1 101 3 = 0
def Ik (s : Sto) (kp : Nat → Nat) (kf : Bool) : Prop := (kf = false ∧ s.1 0 2 = 0 ∧ s.1 101 2 = 0) ∨ (kf = true ∧ s.1 0 2 = 1 ∧ s.1 101 2 = 1 ∧ OKs kp ∧ RS s 21 kp ∧ Rg s 103 kp)
def Ir (s : Sto) (rn : Nat → Nat) (rv : Nat → Nat → Nat) : Prop := ∀ r, r < 4 → rn r ≤ 24 ∧ s.1 (81 + 2 * r) 3 = iN (rn r) ∧ s.1 104 r = iN (rn r) ∧ ∀ t, t < rn r → rv r t ≤ 9 ∧ s.1 (82 + 2 * r) t = iN (rv r t) ∧ s.1 105 (24 * r + t) = iN (rv r t)
def It (s : Sto) (tn : Nat) (tv : Nat → Nat) : Prop := tn ≤ 100 ∧ s.1 76 3 = iN tn ∧ s.1 101 29 = iN tn ∧ ∀ t, t < tn → tv t ≤ 127 ∧ s.1 77 t = iN (tv t) ∧ s.1 113 t = iN (tv t)
def Ip (s : Sto) : Prop := ∀ t, t < 6 → s.1 (89 + 2 * t) 0 = s.1 115 t ∧ (s.1 115 t = -1 ∨ ∃ k, k ≤ 4 ∧ s.1 115 t = iN k) ∧ (∃ n, n ≤ 60 ∧ s.1 (89 + 2 * t) 1 = iN n ∧ s.1 116 t = iN n ∧ (s.1 115 t = -1 → n = 0)) ∧ ∀ i, i < 60 → s.2.2.1 (90 + 2 * t) i = s.2.2.1 117 (60 * t + i)
/-- all but what the class has found out and keeps -/
def IB (s : Sto) (g kp : Nat → Nat) (kf : Bool) (rn : Nat → Nat) (rv : Nat → Nat → Nat) (tn : Nat) (tv : Nat → Nat) : Prop := Ig s g ∧ Ik s kp kf ∧ Ir s rn rv ∧ It s tn tv ∧ Ip s ∧ Tw s
/-- how many of LEFT fit, the least -/
def asSeen (g : Nat → Nat) (v : Nat) : Prop := ∀ r, r < g 110 → g (111 + 4 * r) < g 1 ∧ g (112 + 4 * r) ≤ g 0 ∧ rlsS (fun k => if k = 3 then v else g k) (g 1 - g (111 + 4 * r)) (g (112 + 4 * r)) (g (113 + 4 * r)) = g (114 + 4 * r)
def lfB (g : Nat → Nat) (r v : Nat) : Bool := decide (g (111 + 4 * r) < g 1 ∧ g (112 + 4 * r) ≤ g 0 ∧ rlsS (fun k => if k = 3 then v else g k) (g 1 - g (111 + 4 * r)) (g (112 + 4 * r)) (g (113 + 4 * r)) = g (114 + 4 * r))
/-- the first n rows of what is seen are as the best goes by LEFT v -/
def seenB (g : Nat → Nat) (v : Nat) : Nat → Bool
  | 0 => true
  | n + 1 => seenB g v n && lfB g n v
/-- LEFT 20 and on down, n of them looked at -/
def fitS (g : Nat → Nat) : Nat → Nat × Int
  | 0 => (0, -5)
  | n + 1 => if seenB g (20 - n) (g 110) = true then ((fitS g n).1 + 1, ((20 - n : Nat) : Int)) else fitS g n
/-- what the class has found out and keeps -/
def Ic (s : Sto) (g : Nat → Nat) : Prop := (s.1 0 6 = 0 ∨ (s.1 0 6 = 1 ∧ GNs g 0 (s.1 58) ∧ TBs g 0 (s.2.1 55) (s.2.1 56) (s.1 57))) ∧ (s.1 0 7 = 0 ∨ (s.1 0 7 = 1 ∧ s.1 0 8 = iN (fitS g 21).1 ∧ s.1 0 9 = iZ (fitS g 21).2))
def Inv (s : Sto) : Prop := ∃ g kp kf rn rv tn tv, IB s g kp kf rn rv tn tv ∧ Ic s g
/-- places whose numbers count between calls -/
def SP (q : Nat) : Prop := (1 ≤ q ∧ q ≤ 40) ∨ (75 ≤ q ∧ q ≤ 77) ∨ (80 ≤ q ∧ q ≤ 100) ∨ (102 ≤ q ∧ q ≤ 105) ∨ q = 113 ∨ q = 115 ∨ q = 116
/-- the base stays -/
def Kb (s t : Sto) : Prop := (∀ q, SP q → t.1 q = s.1 q) ∧ t.1 0 2 = s.1 0 2 ∧ (∀ k, k = 2 ∨ k = 3 ∨ k = 29 → t.1 101 k = s.1 101 k) ∧ t.2.2.1 = s.2.2.1 ∧ (Tw s → Tw t)
/-- what is kept stays -/
def Kc (s t : Sto) : Prop := (∀ k, k = 6 ∨ k = 7 ∨ k = 8 ∨ k = 9 → t.1 0 k = s.1 0 k) ∧ t.1 57 = s.1 57 ∧ t.1 58 = s.1 58 ∧ t.2.1 55 = s.2.1 55 ∧ t.2.1 56 = s.2.1 56
section INV
variable {s t : Sto} {g kp : Nat → Nat} {kf : Bool} {rn : Nat → Nat} {rv : Nat → Nat → Nat} {tn : Nat} {tv : Nat → Nat}
theorem Kb.rf : Kb s s := ⟨fun _ _ => rfl, rfl, fun _ _ => rfl, rfl, id⟩
theorem Kc.rf : Kc s s := ⟨fun _ _ => rfl, rfl, rfl, rfl, rfl⟩
theorem Kb.tr {u : Sto} (h1 : Kb s t) (h2 : Kb t u) : Kb s u := ⟨fun q h => (h2.1 q h).trans (h1.1 q h), h2.2.1.trans h1.2.1, fun k h => (h2.2.2.1 k h).trans (h1.2.2.1 k h), h2.2.2.2.1.trans h1.2.2.2.1, fun h => h2.2.2.2.2 (h1.2.2.2.2 h)⟩
theorem Kc.tr {u : Sto} (h1 : Kc s t) (h2 : Kc t u) : Kc s u := ⟨fun k h => (h2.1 k h).trans (h1.1 k h), h2.2.1.trans h1.2.1, h2.2.2.1.trans h1.2.2.1, h2.2.2.2.1.trans h1.2.2.2.1, h2.2.2.2.2.trans h1.2.2.2.2⟩
theorem LI_congr {l wd n : Nat} {f : Nat → Nat} (h : LI s l wd n f) (e1 : t.1 l = s.1 l) (e2 : t.1 (l + 1) = s.1 (l + 1)) : LI t l wd n f := ⟨by rw [e1]; exact h.1, fun i hi => by rw [e2]; exact h.2 i hi⟩
theorem RS_congr {P : Nat} (h : RS s P g) (hg : g 73 ≤ 6) (e : ∀ q, P + 1 ≤ q → q ≤ P + 19 → t.1 q = s.1 q) : RS t P g :=
  ⟨RB_congr h.1 hg (fun q h1 h2 => e q h1 (by omega)), LI_congr h.2.1 (e _ (by omega) (by omega)) (e _ (by omega) (by omega)), LI_congr h.2.2.1 (e _ (by omega) (by omega)) (e _ (by omega) (by omega)), LI_congr h.2.2.2 (e _ (by omega) (by omega)) (e _ (by omega) (by omega))⟩
theorem Rg_congr {q : Nat} (h : Rg s q g) (e : t.1 q = s.1 q) : Rg t q g := fun k hk => by rw [e]; exact h k hk
theorem OKs.m (h : OKs g) : g 73 ≤ 6 := h.1.1.2.2.2.2.2.2
theorem IB_keep (hk : Kb s t) (h : IB s g kp kf rn rv tn tv) : IB t g kp kf rn rv tn tv := by
  obtain ⟨⟨a1, a2, a3, a4⟩, b, c, d, e, f⟩ := h
  obtain ⟨k1, k2, k3, k4, k5⟩ := hk
  refine ⟨⟨a1, RS_congr a2 a1.m (fun q h1 h2 => k1 q (by unfold SP; omega)), Rg_congr a3 (k1 102 (by unfold SP; omega)), by rw [k3 3 (by omega)]; exact a4⟩, ?_, fun r hr => ?_, ?_, fun i hi => ?_, k5 f⟩
  · rcases b with ⟨b1, b2, b3⟩ | ⟨b1, b2, b3, b4, b5, b6⟩
    · exact Or.inl ⟨b1, by rw [k2]; exact b2, by rw [k3 2 (by omega)]; exact b3⟩
    · exact Or.inr ⟨b1, by rw [k2]; exact b2, by rw [k3 2 (by omega)]; exact b3, b4, RS_congr b5 b4.m (fun q h1 h2 => k1 q (by unfold SP; omega)), Rg_congr b6 (k1 103 (by unfold SP; omega))⟩
  · obtain ⟨c1, c2, c3, c4⟩ := c r hr
    rw [k1 (81 + 2 * r) (by unfold SP; omega), k1 104 (by unfold SP; omega), k1 (82 + 2 * r) (by unfold SP; omega), k1 105 (by unfold SP; omega)]
    exact ⟨c1, c2, c3, c4⟩
  · obtain ⟨d1, d2, d3, d4⟩ := d
    unfold It
    rw [k1 76 (by unfold SP; omega), k3 29 (by omega), k1 77 (by unfold SP; omega), k1 113 (by unfold SP; omega)]
    exact ⟨d1, d2, d3, d4⟩
  · have := e i hi
    rw [k1 (89 + 2 * i) (by unfold SP; omega), k1 115 (by unfold SP; omega), k1 116 (by unfold SP; omega), k4]
    exact this
theorem Ic_keep (hk : Kc s t) (h : Ic s g) : Ic t g := by
  obtain ⟨k1, k2, k3, k4, k5⟩ := hk
  unfold Ic
  rw [k1 6 (by omega), k1 7 (by omega), k1 8 (by omega), k1 9 (by omega), k2, k3, k4, k5]
  exact h
theorem Ic_none (h1 : t.1 0 6 = 0) (h2 : t.1 0 7 = 0) : Ic t g := ⟨Or.inl h1, Or.inl h2⟩
theorem RR_of (h : Ig s g) : RR s g (fun _ => false) := ⟨fun k hk _ => h.2.2.1 k hk, fun d hd => by
  rw [h.2.2.2]
  have : ∀ d < 6, ¬ (((0 : Int32) >>> (iN d &&& 31)) &&& 1 = 1) := by decide
  exact propext ⟨fun h => absurd h (this d hd), fun h => (by cases h)⟩, fun d hd h => by cases h⟩
/-- what is answered alike by both -/
def Alike {τ : Type} (s : Sto) (f : Mem → Option (τ × Mem)) (r : Mem → Option (τ × Mem)) : Prop := ∃ a s1 s2, f (lay s) = some (a, lay s1) ∧ r (lay s1) = some (a, lay s2) ∧ Inv s2
/-- a number of the store, and all else that counts, as it was -/
theorem Kb_rI {q : Nat} {f : Nat → Int32} (h : ¬ SP q) (h0 : q ≠ 0) (h1 : q ≠ 101) : Kb s (rI s q f) := ⟨fun k hk => rI_ne (fun e => h (e ▸ hk)), by rw [rI_ne (fun e => h0 e.symm)], fun k _ => by rw [rI_ne (fun e => h1 e.symm)], rfl, id⟩
theorem Kb_rF {q : Nat} {f : Nat → UInt32} : Kb s (rF s q f) := ⟨fun k hk => rfl, rfl, fun k _ => rfl, rfl, id⟩
theorem Kc_rI {q : Nat} {f : Nat → Int32} (h : q ≠ 0 ∧ q ≠ 57 ∧ q ≠ 58) : Kc s (rI s q f) := ⟨fun k _ => by rw [rI_ne (fun e => h.1 e.symm)], rI_ne (fun e => h.2.1 e.symm), rI_ne (fun e => h.2.2 e.symm), rfl, rfl⟩
theorem Kc_rF {q : Nat} {f : Nat → UInt32} (h : q ≠ 55 ∧ q ≠ 56) : Kc s (rF s q f) := ⟨fun k _ => rfl, rfl, rfl, rF_ne (fun e => h.1 e.symm), rF_ne (fun e => h.2 e.symm)⟩
theorem Kb_0 {k : Nat} {x : Int32} (h : k ≠ 2) : Kb s (uI s 0 k x) := ⟨fun q hq => rI_ne (fun e => by subst e; unfold SP at hq; omega), by rw [rI_same, upd_ne (fun e => h e.symm)], fun k _ => by rw [rI_ne (by omega)], rfl, id⟩
theorem Kb_101 {k : Nat} {x : Int32} (h : k ≠ 2 ∧ k ≠ 3 ∧ k ≠ 29) : Kb s (uI s 101 k x) := ⟨fun q hq => rI_ne (fun e => by subst e; unfold SP at hq; omega), by rw [rI_ne (by omega)], fun k' hk => by rw [rI_same, upd_ne (by omega)], rfl, id⟩
theorem Kb_Fx (h : Fx s t) : Kb s t := ⟨fun q hq => h.1 q (by unfold SP at hq; omega) (by unfold SP at hq; omega) (by unfold SP at hq; omega) (by unfold SP at hq; omega), by rw [h.1 0 (by omega) (by omega) (by omega) (by omega)], fun k hk => h.2.2.2 k (by omega), by rw [h.2.2.1], fun ht => by unfold Tw at *; rw [h.2.2.1]; exact ht⟩
theorem Kc_Fx (h : Fx s t) : Kc s t := ⟨fun k _ => by rw [h.1 0 (by omega) (by omega) (by omega) (by omega)], h.1 57 (by omega) (by omega) (by omega) (by omega), h.1 58 (by omega) (by omega) (by omega) (by omega), h.2.1 55 (by omega), h.2.1 56 (by omega)⟩
/-- what the class has found out is forgotten -/
theorem c_forget : fX10_forgetFound 0 (lay s) = some ((), lay (uI (uI s 0 6 0) 0 7 0)) := by
  unfold fX10_forgetFound
  simp only [pZ0_lay (s := s) (p := 0) (ci := 10) (k := 6) rfl, pZ0_lay (p := 0) (ci := 10) (k := 7) rfl, ob]
theorem Kb_forget : Kb s (uI (uI s 0 6 0) 0 7 0) := (Kb_0 (by omega)).tr (Kb_0 (by omega))
theorem forget_0 : (uI (uI s 0 6 0) 0 7 0).1 0 6 = 0 ∧ (uI (uI s 0 6 0) 0 7 0).1 0 7 = 0 := ⟨by simp (disch := first | assumption | omega) only [rI_same, rI_ne, rF_same, rF_ne, rJ_same, rJ_ne, rI_2, rF_1, rF_22, rJ_1, rJ_21, rJ_222, rI_rI, rF_rF, rJ_rJ, upd_same, upd_ne, vfu_same, vfu_ne, vpu_same, vpu_ne], by simp (disch := first | assumption | omega) only [rI_same, rI_ne, rF_same, rF_ne, rJ_same, rJ_ne, rI_2, rF_1, rF_22, rJ_1, rJ_21, rJ_222, rI_rI, rF_rF, rJ_rJ, upd_same, upd_ne, vfu_same, vfu_ne, vpu_same, vpu_ne]⟩
end INV
