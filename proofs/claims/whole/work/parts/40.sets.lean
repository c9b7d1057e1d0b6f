/-! ===== a number of the reservoir becomes another ===== -/
def gs (g : Nat → Nat) (k v : Nat) : Nat → Nat := fun j => if j = k then v else g j
theorem gs_same {g : Nat → Nat} {k v : Nat} : gs g k v k = v := if_pos rfl
theorem gs_ne {g : Nat → Nat} {j k v : Nat} (h : j ≠ k) : gs g k v j = g j := if_neg h
theorem upv {s : Sto} {q j q' j' : Nat} {x : Int32} : (uI s q j x).1 q' j' = if q' = q ∧ j' = j then x else s.1 q' j' := by
  by_cases h1 : q' = q
  · subst h1
    rw [rI_same]
    by_cases h2 : j' = j
    · rw [h2, upd_same, if_pos ⟨rfl, rfl⟩]
    · rw [upd_ne h2, if_neg (fun h => h2 h.2)]
  · rw [rI_ne h1, if_neg (fun h => h1 h.1)]
theorem setv {s : Sto} {q j q' j' k k' : Nat} {v : Nat} {g : Nat → Nat} (h : s.1 q' j' = iN (g k')) (e : (q' = q ∧ j' = j) ↔ k' = k) : (uI s q j (iN v)).1 q' j' = iN (gs g k v k') := by
  rw [upv]
  by_cases c : k' = k
  · rw [if_pos (e.mpr c), c, gs_same]
  · rw [if_neg (fun h => c (e.mp h)), gs_ne c, h]
/-- which number of the class is which of g -/
def Wh (p q j k : Nat) : Prop := (q = p ∧ j = k ∧ k < 4) ∨ (q = p + 1 ∧ k = 4 + j ∧ j < 36) ∨ (q = p + 2 ∧ k = 40 + j ∧ j < 9) ∨ (q = p + 3 ∧ k = 49 + j ∧ j < 12) ∨ (q = p + 4 ∧ k = 61 + j ∧ j < 12) ∨ (∃ d, q = p + 7 + d ∧ k = 74 + 6 * d + j ∧ j < 6 ∧ d < 6)
theorem Wh_le {p q j k : Nat} (w : Wh p q j k) : p ≤ q ∧ q ≤ p + 12 ∧ q ≠ p + 5 ∧ q ≠ p + 6 ∧ k < 110 ∧ k ≠ 73 := by
  rcases w with w | w | w | w | w | ⟨d, w⟩ <;> omega
theorem RC_set {s : Sto} {p q j k v : Nat} {g : Nat → Nat} (hg : g 73 ≤ 6) (h : RC s p g) (w : Wh p q j k) : RC (uI s q j (iN v)) p (gs g k v) := by
  obtain ⟨⟨h0, h1, h2, h3, h10⟩, i1, i2, i3, i4, i5⟩ := h
  have wl := Wh_le w
  have e73 : gs g k v 73 = g 73 := gs_ne (by omega)
  have key : ∀ q' j' k', ((q' = p ∧ j' = k' ∧ k' < 4) ∨ (q' = p ∧ j' = 10 ∧ k' = 73) ∨ (q' = p + 1 ∧ k' = 4 + j' ∧ j' < 36) ∨ (q' = p + 2 ∧ k' = 40 + j' ∧ j' < 9) ∨ (q' = p + 3 ∧ k' = 49 + j' ∧ j' < 12) ∨ (q' = p + 4 ∧ k' = 61 + j' ∧ j' < 12)) → ((q' = q ∧ j' = j) ↔ k' = k) := by
    intro q' j' k' w'
    rcases w with w | w | w | w | w | ⟨d, w⟩ <;> omega
  refine ⟨⟨setv h0 (key _ _ _ (by omega)), setv h1 (key _ _ _ (by omega)), setv h2 (key _ _ _ (by omega)), setv h3 (key _ _ _ (by omega)), setv (k' := 73) h10 (key _ _ _ (by omega))⟩, fun a ha => setv (i1 a ha) (key _ _ _ (by omega)), fun a ha => setv (i2 a ha) (key _ _ _ (by omega)), fun a ha => setv (i3 a ha) (key _ _ _ (by omega)), fun a ha => setv (i4 a ha) (key _ _ _ (by omega)), fun d f hd hf => ?_⟩
  rw [e73] at hd
  refine setv (k' := 74 + 6 * d + f) (i5 d f hd hf) ?_
  rcases w with w | w | w | w | w | ⟨d', w⟩ <;> omega
theorem rkTo_congr {g g' : Nat → Nat} (h : ∀ d, dF g' d 1 = dF g d 1) (d : Nat) : ∀ n, rkTo g' d n = rkTo g d n
  | 0 => rfl
  | n + 1 => by
    unfold rkTo
    rw [rkTo_congr h d n]
    unfold ahS
    rw [h n, h d]
theorem rkS_congr {g g' : Nat → Nat} (h : ∀ d, dF g' d 1 = dF g d 1) (e : g' 73 = g 73) (d : Nat) : rkS g' d = rkS g d := by
  unfold rkS
  rw [e, rkTo_congr h]
theorem lnS_congr {g g' : Nat → Nat} (h : ∀ d, dF g' d 1 = dF g d 1) (e : g' 73 = g 73) (k : Nat) : lnS g' k = lnS g k := by
  unfold lnS
  rw [e]
  have : ∀ n, lnTo g' k n = lnTo g k n := by
    intro n
    induction n with
    | zero => rfl
    | succ n ih =>
      unfold lnTo
      rw [ih, rkS_congr h e]
  exact this _
theorem RK_same {s t : Sto} {p : Nat} {g g' : Nat → Nat} (h : RK s p g) (e : t.1 (p + 6) = s.1 (p + 6)) (h1 : ∀ d, dF g' d 1 = dF g d 1) (h2 : g' 73 = g 73) : RK t p g' := fun k hk => by
  rw [h2] at hk
  rw [e, lnS_congr h1 h2]
  exact h k hk
theorem RB_set {s : Sto} {p q j k v : Nat} {g : Nat → Nat} (hg : g 73 ≤ 6) (h : RB s p g) (w : Wh p q j k) (hk : k < 74 ∨ ∀ d, k ≠ 75 + 6 * d) : RB (uI s q j (iN v)) p (gs g k v) := by
  have wl := Wh_le w
  refine ⟨RC_set hg h.1 w, RK_same h.2 (rI_ne (by omega)) (fun d => ?_) (gs_ne (by omega))⟩
  unfold dF
  rcases hk with hk | hk
  · exact gs_ne (by omega)
  · exact gs_ne (by have := hk d; omega)
theorem OKg_set {g : Nat → Nat} {k v : Nat} (h : OKg g) (hk : k ≠ 73) (c0 : k = 0 → 1 ≤ v ∧ v ≤ 13) (c1 : k = 1 → 1 ≤ v ∧ v ≤ 12) (c2 : k = 2 → v ≤ 9) (c3 : k = 3 → v ≤ 99) (c4 : 4 ≤ k → k < 49 → v ≤ 9) (c5 : ∀ i, i < 3 → 1 ≤ partsS (gs g k v) i) (c6 : 49 ≤ k → k < 61 → v ≤ 9) (c7 : 61 ≤ k → k < 73 → v ≤ 10)
    (c8 : ∀ d, d < g 73 → (k = 74 + 6 * d → v ≤ 4) ∧ (k = 75 + 6 * d → v ≤ 9) ∧ (k = 76 + 6 * d → v ≤ 9) ∧ (k = 77 + 6 * d → v ≤ 99) ∧ (k = 78 + 6 * d → v ≤ 11) ∧ (k = 79 + 6 * d → v ≤ 11)) : OKg (gs g k v) := by
  obtain ⟨h1, h2, h3, h4, h5, h6, h7⟩ := h
  have e73 : gs g k v 73 = g 73 := gs_ne (fun e => hk e.symm)
  have e0 : gs g k v 0 = if 0 = k then v else g 0 := rfl
  have e1 : gs g k v 1 = if 1 = k then v else g 1 := rfl
  have e2 : gs g k v 2 = if 2 = k then v else g 2 := rfl
  have e3 : gs g k v 3 = if 3 = k then v else g 3 := rfl
  refine ⟨?_, fun a ha => ?_, fun a ha => ?_, c5, fun a ha => ?_, fun a ha => ?_, fun d hd => ?_⟩
  · rw [e0, e1, e2, e3, e73]
    refine ⟨?_, ?_, ?_, ?_, ?_, ?_, by omega⟩ <;> split <;> omega
  · have := h2 a ha
    unfold gs
    split <;> omega
  · have := h3 a ha
    unfold gs
    split <;> omega
  · have := h5 a ha
    unfold gs
    split <;> omega
  · have := h6 a ha
    unfold gs
    split <;> omega
  · rw [e73] at hd
    have := h7 d hd
    have c := c8 d hd
    unfold dF at *
    unfold gs
    refine ⟨?_, ?_, ?_, ?_, ?_, ?_⟩ <;> split <;> omega
theorem OKs_set {g : Nat → Nat} {k v : Nat} (h : OKs g) (ho : OKg (gs g k v)) (hk : k < 110) (c0 : k = 0 → v ≤ 12) (c7 : 61 ≤ k → k < 73 → v ≤ 9) : OKs (gs g k v) := by
  obtain ⟨_, h2, h3, h4, h5, h6, h7, h8, h9⟩ := h
  have e : ∀ j, 110 ≤ j → gs g k v j = g j := fun j hj => gs_ne (by omega)
  refine ⟨ho, ?_, fun a ha => ?_, by rw [e _ (by omega)]; exact h4, by rw [e _ (by omega)]; exact h5, by rw [e _ (by omega)]; exact h6, fun r hr => ?_, fun r hr => ?_, fun r hr => ?_⟩
  · unfold gs
    split <;> omega
  · have := h3 a ha
    unfold gs
    split <;> omega
  · rw [e _ (by omega)] at hr
    rw [e _ (by omega), e _ (by omega), e _ (by omega), e _ (by omega)]
    exact h7 r hr
  · rw [e _ (by omega)] at hr
    rw [e _ (by omega), e _ (by omega)]
    exact h8 r hr
  · rw [e _ (by omega)] at hr
    rw [e _ (by omega), e _ (by omega), e _ (by omega)]
    exact h9 r hr
theorem RS_low {s t : Sto} {P : Nat} {g g' : Nat → Nat} (h : RS s P g) (h1 : RB t (P + 1) g') (e : ∀ q, P + 14 ≤ q → q ≤ P + 19 → t.1 q = s.1 q) (e2 : ∀ j, 110 ≤ j → g' j = g j) : RS t P g' := by
  obtain ⟨_, h2, h3, h4⟩ := h
  refine ⟨h1, ⟨?_, fun i hi => ?_⟩, ⟨?_, fun i hi => ?_⟩, ⟨?_, fun i hi => ?_⟩⟩
  · rw [e _ (by omega) (by omega), e2 _ (by omega)]; exact h2.1
  · rw [e2 110 (by omega)] at hi
    rw [e _ (by omega) (by omega)]
    show s.1 _ _ = iN (g' (111 + i))
    rw [e2 _ (by omega)]
    exact h2.2 i hi
  · rw [e _ (by omega) (by omega), e2 _ (by omega)]; exact h3.1
  · rw [e2 131 (by omega)] at hi
    rw [e _ (by omega) (by omega)]
    show s.1 _ _ = iN (g' (132 + i))
    rw [e2 _ (by omega)]
    exact h3.2 i hi
  · rw [e _ (by omega) (by omega), e2 _ (by omega)]; exact h4.1
  · rw [e2 148 (by omega)] at hi
    rw [e _ (by omega) (by omega)]
    show s.1 _ _ = iN (g' (149 + i))
    rw [e2 _ (by omega)]
    exact h4.2 i hi
theorem Rg_set {s : Sto} {g : Nat → Nat} {k v : Nat} (h : Rg s 102 g) (hk : k < 173) : Rg (uI s 102 k (iN v)) 102 (gs g k v) := fun j hj => setv (h j hj) (by omega)
section SETS
variable {s t : Sto} {g g' kp : Nat → Nat} {kf : Bool} {rn : Nat → Nat} {rv : Nat → Nat → Nat} {tn : Nat} {tv : Nat → Nat}
/-- all but the reservoir's own places stay: what is kept, records, the text, tapes -/
def Ko (s t : Sto) : Prop := (∀ q, (21 ≤ q ∧ q ≤ 40) ∨ (75 ≤ q ∧ q ≤ 77) ∨ (80 ≤ q ∧ q ≤ 100) ∨ (103 ≤ q ∧ q ≤ 105) ∨ q = 113 ∨ q = 115 ∨ q = 116 → t.1 q = s.1 q) ∧ t.1 0 2 = s.1 0 2 ∧ (∀ k, k = 2 ∨ k = 29 → t.1 101 k = s.1 101 k) ∧ t.2.2.1 = s.2.2.1 ∧ (Tw s → Tw t)
theorem IB_new (hk : Ko s t) (h : IB s g kp kf rn rv tn tv) (h2 : Ig t g') : IB t g' kp kf rn rv tn tv := by
  obtain ⟨_, b, c, d, e, f⟩ := h
  obtain ⟨k1, k2, k3, k4, k5⟩ := hk
  refine ⟨h2, ?_, fun r hr => ?_, ?_, fun i hi => ?_, k5 f⟩
  · rcases b with ⟨b1, b2, b3⟩ | ⟨b1, b2, b3, b4, b5, b6⟩
    · exact Or.inl ⟨b1, by rw [k2]; exact b2, by rw [k3 2 (by omega)]; exact b3⟩
    · exact Or.inr ⟨b1, by rw [k2]; exact b2, by rw [k3 2 (by omega)]; exact b3, b4, RS_congr b5 b4.m (fun q h1 h2 => k1 q (by omega)), Rg_congr b6 (k1 103 (by omega))⟩
  · obtain ⟨c1, c2, c3, c4⟩ := c r hr
    rw [k1 (81 + 2 * r) (by omega), k1 104 (by omega), k1 (82 + 2 * r) (by omega), k1 105 (by omega)]
    exact ⟨c1, c2, c3, c4⟩
  · obtain ⟨d1, d2, d3, d4⟩ := d
    unfold It
    rw [k1 76 (by omega), k3 29 (by omega), k1 77 (by omega), k1 113 (by omega)]
    exact ⟨d1, d2, d3, d4⟩
  · have := e i hi
    rw [k1 (89 + 2 * i) (by omega), k1 115 (by omega), k1 116 (by omega), k4]
    exact this
theorem Ko.rf : Ko s s := ⟨fun _ _ => rfl, rfl, fun _ _ => rfl, rfl, id⟩
theorem Ko.tr {u : Sto} (h1 : Ko s t) (h2 : Ko t u) : Ko s u := ⟨fun q h => (h2.1 q h).trans (h1.1 q h), h2.2.1.trans h1.2.1, fun k h => (h2.2.2.1 k h).trans (h1.2.2.1 k h), h2.2.2.2.1.trans h1.2.2.2.1, fun h => h2.2.2.2.2 (h1.2.2.2.2 h)⟩
theorem Ko_rI {q : Nat} {f : Nat → Int32} (h : (1 ≤ q ∧ q ≤ 20) ∨ q = 102 ∨ (41 ≤ q ∧ q ≤ 74) ∨ (106 ≤ q ∧ q ≤ 112) ∨ q = 78 ∨ q = 79 ∨ q = 114) : Ko s (rI s q f) := ⟨fun k hk => rI_ne (by omega), by rw [rI_ne (by omega)], fun k _ => by rw [rI_ne (by omega)], rfl, id⟩
theorem Kb.o (h : Kb s t) : Ko s t := ⟨fun q hq => h.1 q (by unfold SP; omega), h.2.1, fun k hk => h.2.2.1 k (by omega), h.2.2.2.1, h.2.2.2.2⟩
/-- a number becomes another, on both sides: all holds anew -/
theorem Inv_set {u : Sto} {q j k v : Nat} (h : IB s g kp kf rn rv tn tv) (hu : Kb s u) (u6 : u.1 0 6 = 0) (u7 : u.1 0 7 = 0) (w : Wh 2 q j k) (hk : k < 74 ∨ ∀ d, k ≠ 75 + 6 * d) (ho : OKs (gs g k v)) : Inv (uI (uI u q j (iN v)) 102 k (iN v)) := by
  have h1 := IB_keep hu h
  have hI := h1.1
  have wl := Wh_le w
  have hq : 2 ≤ q ∧ q ≤ 14 := by omega
  have hk2 : k < 110 := by omega
  refine ⟨gs g k v, kp, kf, rn, rv, tn, tv, IB_new ((Ko_rI (by omega)).tr (Ko_rI (by omega))) h1 ⟨ho, ?_, ?_, ?_⟩, Ic_none ?_ ?_⟩
  · refine RS_low hI.2.1 ?_ (fun q' h1 h2 => by rw [rI_ne (by omega), rI_ne (by omega)]) (fun j' hj => gs_ne (by omega))
    exact RB_rI (RB_set hI.1.m hI.2.1.1 w hk) (by have := ho.m; exact this) (by omega)
  · refine Rg_set (fun j' hj => ?_) (by omega)
    rw [rI_ne (by omega)]
    exact hI.2.2.1 j' hj
  · rw [rI_ne (by omega), rI_ne (by omega)]
    exact hI.2.2.2
  · rw [rI_ne (by omega), rI_ne (by omega)]
    exact u6
  · rw [rI_ne (by omega), rI_ne (by omega)]
    exact u7
/-- nothing becomes of it, but that what was found is forgotten -/
theorem Inv_forget (H : Inv s) : Inv (uI (uI s 0 6 0) 0 7 0) := by
  obtain ⟨g, kp, kf, rn, rv, tn, tv, hB, hC⟩ := H
  exact ⟨g, kp, kf, rn, rv, tn, tv, IB_keep Kb_forget hB, Ic_none forget_0.1 forget_0.2⟩
end SETS
