/-! ===== what a clause does ===== -/
def yesO (o : Int32 × (Nat → Nat)) : Int32 × (Nat → Nat) := if o.1 < 0 then (0, o.2) else (1, o.2)
def andO (o : Int32 × (Nat → Nat)) (f : (Nat → Nat) → Int32 × (Nat → Nat)) : Int32 × (Nat → Nat) := if o.1 < 0 then (0, o.2) else f o.2
def g3 (g : Nat → Nat) (a b c d : Nat) : Nat → Nat := gs (gs (gs g (40 + 3 * a) b) (40 + 3 * a + 1) c) (40 + 3 * a + 2) d
def opPas (g : Nat → Nat) (a b c d : Nat) : Int32 × (Nat → Nat) := if a ≤ 2 ∧ ¬ (b + c + d = 0) then (1, g3 g a b c d) else (0, g)
def opCl (g w : Nat → Nat) : Int32 × (Nat → Nat) := if w 0 = 100 then yesO (opDem g (iN (w 1)) (iN (w 2)) (iN (w 3)) (iN (w 4)) (iN (w 5)) (iN (w 6))) else if w 0 = 113 then andO (opInf g (iN (w 1)) 0 (iN (w 2))) (fun g => andO (opInf g (iN (w 1)) 1 (iN (w 3))) (fun g => yesO (opInf g (iN (w 1)) 2 (iN (w 4))))) else if w 0 = 112 then opPas g (w 1) (w 2) (w 3) (w 4) else if w 0 = 101 then yesO (opMon g (iN (w 1)) 0 (iN (w 2))) else if w 0 = 102 then yesO (opMon g (iN (w 1)) 1 (iN (w 2))) else yesO (opPut g 0 (iN (w 1)))
section DONE
variable {s t : Sto} {g : Nat → Nat} {o : Int32 × (Nat → Nat)}
theorem Ok2_yes (h : Ok2 g o) : Ok2 g (yesO o) := by
  unfold yesO
  split
  · exact h
  · exact h
theorem Ok2_and {f : (Nat → Nat) → Int32 × (Nat → Nat)} (h : Ok2 g o) (k : OKs o.2 → Ok2 o.2 (f o.2)) : Ok2 g (andO o f) := by
  unfold andO
  split
  · exact h
  · have := k h.1
    exact ⟨this.1, fun j hj => (this.2 j hj).trans (h.2 j hj)⟩
theorem g3_ne {a b c d j : Nat} (h : j < 40 + 3 * a ∨ 42 + 3 * a < j) : g3 g a b c d j = g j := by
  unfold g3
  rw [gs_ne (by omega), gs_ne (by omega), gs_ne (by omega)]
theorem g3_v {a b c d j : Nat} (hj : j < 3) : g3 g a b c d (40 + 3 * a + j) = if j = 0 then b else if j = 1 then c else d := by
  unfold g3
  rcases (show j = 0 ∨ j = 1 ∨ j = 2 by omega) with rfl | rfl | rfl
  · rw [gs_ne (by omega), gs_ne (by omega), Nat.add_zero, gs_same]; rfl
  · rw [gs_ne (by omega), gs_same]; rfl
  · rw [gs_same]; rfl
theorem ok_pas {a b c d : Nat} (hg : OKs g) (hb : b ≤ 9) (hc : c ≤ 9) (hd : d ≤ 9) : Ok2 g (opPas g a b c d) := by
  unfold opPas
  by_cases h : a ≤ 2 ∧ ¬ (b + c + d = 0)
  · rw [if_pos h]
    obtain ⟨⟨h1, h2, h3, h4, h5, h6, h7⟩, i2, i3, i4, i5, i6, i7, i8, i9⟩ := hg
    have L : ∀ j, j < 40 ∨ 48 < j → g3 g a b c d j = g j := fun j hj => g3_ne (by omega)
    refine ⟨⟨⟨?_, fun k hk => ?_, fun k hk => ?_, fun i hi => ?_, fun k hk => ?_, fun k hk => ?_, fun e he => ?_⟩, ?_, fun k hk => ?_, ?_, ?_, ?_, fun r hr => ?_, fun r hr => ?_, fun r hr => ?_⟩, fun j hj => L j (by omega)⟩
    · show (1 ≤ g3 g a b c d 0 ∧ g3 g a b c d 0 ≤ 13 ∧ 1 ≤ g3 g a b c d 1 ∧ g3 g a b c d 1 ≤ 12 ∧ g3 g a b c d 2 ≤ 9 ∧ g3 g a b c d 3 ≤ 99 ∧ g3 g a b c d 73 ≤ 6)
      rw [L 0 (by omega), L 1 (by omega), L 2 (by omega), L 3 (by omega), L 73 (by omega)]
      exact h1
    · show g3 g a b c d (4 + k) ≤ 9
      rw [L _ (by omega)]; exact h2 k hk
    · show g3 g a b c d (40 + k) ≤ 9
      by_cases e : 3 * a ≤ k ∧ k < 3 * a + 3
      · obtain ⟨j, rfl⟩ : ∃ j, k = 3 * a + j := ⟨k - 3 * a, by omega⟩
        rw [show 40 + (3 * a + j) = 40 + 3 * a + j by omega, g3_v (by omega)]
        repeat' split
        all_goals omega
      · rw [g3_ne (by omega)]; exact h3 k hk
    · show 1 ≤ partsS (g3 g a b c d) i
      by_cases e : i = a
      · subst e
        have e0 := g3_v (g := g) (a := i) (b := b) (c := c) (d := d) (j := 0) (by omega)
        have e1 := g3_v (g := g) (a := i) (b := b) (c := c) (d := d) (j := 1) (by omega)
        have e2 := g3_v (g := g) (a := i) (b := b) (c := c) (d := d) (j := 2) (by omega)
        rw [if_pos rfl] at e0
        rw [if_neg (by omega), if_pos rfl] at e1
        rw [if_neg (by omega), if_neg (by omega)] at e2
        unfold partsS partS
        rw [e0, e1, e2]
        omega
      · have := h4 i hi
        unfold partsS partS at this ⊢
        rw [g3_ne (by omega), g3_ne (by omega), g3_ne (by omega)]
        exact this
    · show g3 g a b c d (49 + k) ≤ 9
      rw [L _ (by omega)]; exact h5 k hk
    · show g3 g a b c d (61 + k) ≤ 10
      rw [L _ (by omega)]; exact h6 k hk
    · have he : e < g3 g a b c d 73 := he
      rw [L 73 (by omega)] at he
      show dF (g3 g a b c d) e 0 ≤ 4 ∧ dF (g3 g a b c d) e 1 ≤ 9 ∧ dF (g3 g a b c d) e 2 ≤ 9 ∧ dF (g3 g a b c d) e 3 ≤ 99 ∧ dF (g3 g a b c d) e 4 ≤ 11 ∧ dF (g3 g a b c d) e 5 ≤ 11
      have := h7 e he
      unfold dF at *
      rw [L _ (by omega), L _ (by omega), L _ (by omega), L _ (by omega), L _ (by omega), L _ (by omega)]
      exact this
    · show g3 g a b c d 0 ≤ 12
      rw [L 0 (by omega)]; exact i2
    · show g3 g a b c d (61 + k) ≤ 9
      rw [L _ (by omega)]; exact i3 k hk
    · show g3 g a b c d 110 ≤ 5
      rw [L _ (by omega)]; exact i4
    · show g3 g a b c d 131 ≤ 8
      rw [L _ (by omega)]; exact i5
    · show g3 g a b c d 148 ≤ 8
      rw [L _ (by omega)]; exact i6
    · have hr : r < g3 g a b c d 110 := hr
      rw [L 110 (by omega)] at hr
      have := i7 r hr
      simp only [L (111 + 4 * r) (by omega), L (112 + 4 * r) (by omega), L (113 + 4 * r) (by omega), L (114 + 4 * r) (by omega)]
      exact this
    · have hr : r < g3 g a b c d 131 := hr
      rw [L 131 (by omega)] at hr
      have := i8 r hr
      simp only [L (132 + 2 * r) (by omega), L (133 + 2 * r) (by omega)]
      exact this
    · have hr : r < g3 g a b c d 148 := hr
      rw [L 148 (by omega)] at hr
      have := i9 r hr
      simp only [L (149 + 3 * r) (by omega), L (150 + 3 * r) (by omega), L (151 + 3 * r) (by omega)]
      exact this
  · rw [if_neg h]
    exact Ok2_no hg
theorem ok_cl {w : Nat → Nat} (hg : OKs g) (hw : goodW w) : Ok2 g (opCl g w) := by
  unfold opCl
  by_cases h1 : w 0 = 100
  · rw [if_pos h1]; exact Ok2_yes (ok_dem hg)
  · by_cases h2 : w 0 = 113
    · rw [if_neg h1, if_pos h2]
      exact Ok2_and (ok_inf hg) (fun a => Ok2_and (ok_inf a) (fun b => Ok2_yes (ok_inf b)))
    · by_cases h3 : w 0 = 112
      · rw [if_neg h1, if_neg h2, if_pos h3]
        have := hw.2 h3
        exact ok_pas hg this.2.1 this.2.2.1 this.2.2.2
      · by_cases h4 : w 0 = 101
        · rw [if_neg h1, if_neg h2, if_neg h3, if_pos h4]; exact Ok2_yes (ok_mon hg)
        · by_cases h5 : w 0 = 102
          · rw [if_neg h1, if_neg h2, if_neg h3, if_neg h4, if_pos h5]; exact Ok2_yes (ok_mon hg)
          · rw [if_neg h1, if_neg h2, if_neg h3, if_neg h4, if_neg h5]; exact Ok2_yes (ok_put hg)
/-! the class's side -/
theorem CO_eq {f f' : Mem → Option (Int32 × Mem)} (e : f (lay s) = f' (lay s)) (h : CO s f' o) : CO s f o := by
  obtain ⟨t, h1, h2, h3⟩ := h
  exact ⟨t, e.trans h1, h2, h3⟩
theorem RO_eq {f f' : Mem → Option (Int32 × Mem)} (e : f (lay s) = f' (lay s)) (h : RO s f' o) : RO s f o := by
  obtain ⟨t, h1, h2, h3⟩ := h
  exact ⟨t, e.trans h1, h2, h3⟩
theorem CO_yes {f : Mem → Option (Int32 × Mem)} (h : CO s f o) : CO s (fun μ => bd (f μ) fun x μ' => if x < 0 then ((zz ((0 : Int32))).bind fun z => some (z, μ')) else ((zz ((1 : Int32))).bind fun z => some (z, μ'))) (yesO o) := by
  obtain ⟨t, h1, h2, h3⟩ := h
  refine ⟨t, ?_, ?_, h3⟩
  · show bd (f (lay s)) _ = _
    rw [h1]
    unfold yesO
    simp only [bd_s]
    by_cases c : o.1 < 0
    · rw [if_pos c, if_pos c]; rfl
    · rw [if_neg c, if_neg c]; rfl
  · unfold yesO
    split <;> exact h2
theorem RO_yes {f : Mem → Option (Int32 × Mem)} (h : RO s f o) : RO s (fun μ => bd (f μ) fun x μ' => if x < 0 then ((zz ((0 : Int32))).bind fun z => some (z, μ')) else ((zz ((1 : Int32))).bind fun z => some (z, μ'))) (yesO o) := by
  obtain ⟨t, h1, h2, h3⟩ := h
  refine ⟨t, ?_, ?_, h3⟩
  · show bd (f (lay s)) _ = _
    rw [h1]
    unfold yesO
    simp only [bd_s]
    by_cases c : o.1 < 0
    · rw [if_pos c, if_pos c]; rfl
    · rw [if_neg c, if_neg c]; rfl
  · unfold yesO
    split <;> exact h2
theorem CO_and {f : Mem → Option (Int32 × Mem)} {F : Mem → Option (Int32 × Mem)} {q : (Nat → Nat) → Int32 × (Nat → Nat)} (h : CO s f o) (k : ∀ t, RB t 2 o.2 → Kcl s t → CO t F (q o.2)) : CO s (fun μ => bd (f μ) fun x μ' => if x < 0 then ((zz ((0 : Int32))).bind fun z => some (z, μ')) else F μ') (andO o q) := by
  obtain ⟨t, h1, h2, h3⟩ := h
  unfold andO
  by_cases c : o.1 < 0
  · rw [if_pos c]
    refine ⟨t, ?_, h2, h3⟩
    show bd (f (lay s)) _ = _
    rw [h1]
    simp only [bd_s]
    rw [if_pos c]
    rfl
  · rw [if_neg c]
    obtain ⟨u, u1, u2, u3⟩ := k t h2 h3
    refine ⟨u, ?_, u2, h3.tr u3⟩
    show bd (f (lay s)) _ = _
    rw [h1]
    simp only [bd_s]
    rw [if_neg c]
    exact u1
theorem RO_and {f : Mem → Option (Int32 × Mem)} {F : Mem → Option (Int32 × Mem)} {q : (Nat → Nat) → Int32 × (Nat → Nat)} (h : RO s f o) (k : ∀ t, Rg t 102 o.2 → Krf s t → RO t F (q o.2)) : RO s (fun μ => bd (f μ) fun x μ' => if x < 0 then ((zz ((0 : Int32))).bind fun z => some (z, μ')) else F μ') (andO o q) := by
  obtain ⟨t, h1, h2, h3⟩ := h
  unfold andO
  by_cases c : o.1 < 0
  · rw [if_pos c]
    refine ⟨t, ?_, h2, h3⟩
    show bd (f (lay s)) _ = _
    rw [h1]
    simp only [bd_s]
    rw [if_pos c]
    rfl
  · rw [if_neg c]
    obtain ⟨u, u1, u2, u3⟩ := k t h2 h3
    refine ⟨u, ?_, u2, h3.tr u3⟩
    show bd (f (lay s)) _ = _
    rw [h1]
    simp only [bd_s]
    rw [if_neg c]
    exact u1
theorem CO_zz {f : Mem → Option (Int32 × Mem)} (h : CO s f o) (h01 : o.1 = 0 ∨ o.1 = 1) : CO s (fun μ => bd (f μ) fun x μ' => (zz x).bind fun z => some (z, μ')) o := by
  obtain ⟨t, h1, h2, h3⟩ := h
  refine ⟨t, ?_, h2, h3⟩
  show bd (f (lay s)) _ = _
  rw [h1]
  simp only [bd_s]
  unfold zz
  rw [if_pos h01]
  rfl
theorem pas_01 {a b c d : Nat} : (opPas g a b c d).1 = 0 ∨ (opPas g a b c d).1 = 1 := by
  unfold opPas
  split
  · exact Or.inr rfl
  · exact Or.inl rfl
theorem sum_iff {b c d : Nat} (hb : b ≤ 9) (hc : c ≤ 9) (hd : d ≤ 9) : (iN b + iN c + iN d = 0) = (b + c + d = 0) := by
  rw [iN_add, iN_add, iN_eqL (by omega) (by omega)]
theorem co_pas {a b c d : Nat} (hg : OKg g) (h : RB s 2 g) (ha : a ≤ 99) (hb : b ≤ 9) (hc : c ≤ 9) (hd : d ≤ 9) : CO s (fX0_changeParts 2 (iN a) (iN b) (iN c) (iN d)) (opPas g a b c d) := by
  have h2 : Bs 2 := Or.inl rfl
  have g7 : g 73 ≤ 6 := hg.1.2.2.2.2.2.2
  unfold opPas
  by_cases c1 : a ≤ 2
  · have i1 : 0 ≤ iN a ∧ iN a ≤ (2 : Int32) := ⟨by rw [iN_Lle (by omega) (by omega)]; omega, by rw [iN_leL (by omega) (by omega)]; omega⟩
    by_cases c2 : b + c + d = 0
    · rw [if_neg (fun e => e.2 c2)]
      refine CO_no h ?_
      unfold fX0_changeParts
      simp only [c_isState, tI_pos i1, bd_s, i10, if_false]
      rw [if_pos (by rw [sum_iff hb hc hd]; exact c2)]
      rfl
    · rw [if_pos ⟨c1, c2⟩]
      have w : ∀ j, j < 3 → Wh 2 (2 + 2) (3 * a + j) (40 + 3 * a + j) := fun j hj => Or.inr (Or.inr (Or.inl ⟨rfl, by omega, by omega⟩))
      have r1 := RB_set (v := b) g7 h (w 0 (by omega)) (Or.inl (by omega))
      have r2 := RB_set (v := c) (by rw [gs_ne (by omega)]; exact g7) r1 (w 1 (by omega)) (Or.inl (by omega))
      have r3 := RB_set (v := d) (by rw [gs_ne (by omega), gs_ne (by omega)]; exact g7) r2 (w 2 (by omega)) (Or.inl (by omega))
      refine ⟨_, ?_, r3, ((Kcl_rI (by omega)).tr (Kcl_rI (by omega))).tr (Kcl_rI (by omega))⟩
      unfold fX0_changeParts
      simp only [c_isState, tI_pos i1, bd_s, i10, if_false]
      rw [if_neg (by rw [sum_iff hb hc hd]; exact c2)]
      simp only [bs_r5 h2, ob, iN_mulL, iN_addL, bs_s2 h2 (show a * 3 < 9 by omega), bs_s2 h2 (show a * 3 + 1 < 9 by omega), bs_s2 h2 (show a * 3 + 2 < 9 by omega), zz1]
      rw [show a * 3 = 3 * a + 0 by omega]
  · have i1 : ¬ (0 ≤ iN a ∧ iN a ≤ (2 : Int32)) := by
      rw [iN_leL (by omega) (by omega)]
      omega
    rw [if_neg (fun e => c1 e.1)]
    refine CO_no h ?_
    unfold fX0_changeParts
    simp only [c_isState, tI_neg i1, bd_s, i00, if_true]
    rfl
end DONE
