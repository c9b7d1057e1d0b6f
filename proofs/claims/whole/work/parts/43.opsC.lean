/-! ===== a demand comes, goes ===== -/
section OPSC
variable {s t : Sto} {g : Nat → Nat}
/-- a demand more -/
def dmS (g : Nat → Nat) (k r w o f t : Nat) : Nat → Nat := fun j => if j = 73 then g 73 + 1 else if j = 74 + 6 * g 73 then k else if j = 75 + 6 * g 73 then r else if j = 76 + 6 * g 73 then w else if j = 77 + 6 * g 73 then o else if j = 78 + 6 * g 73 then f else if j = 79 + 6 * g 73 then t else g j
abbrev okD (k r w o f t : Int32) : Prop := (0 ≤ k ∧ k ≤ (4 : Int32)) ∧ (0 ≤ r ∧ r ≤ (9 : Int32)) ∧ ((1 : Int32) ≤ w ∧ w ≤ (9 : Int32)) ∧ (0 ≤ o ∧ o ≤ (99 : Int32)) ∧ (0 ≤ f ∧ f ≤ (11 : Int32)) ∧ (0 ≤ t ∧ t ≤ (11 : Int32))
def opDem (g : Nat → Nat) (k r w o f t : Int32) : Int32 × (Nat → Nat) := if okD k r w o f t then (if g 73 = 6 then (-4, g) else (iN (g 73), dmS g (nz k) (nz r) (nz w) (nz o) (nz f) (nz t))) else (-2, g)
theorem okD_n {k r w o f t : Int32} (h : okD k r w o f t) : ∃ k' r' w' o' f' t', k = iN k' ∧ r = iN r' ∧ w = iN w' ∧ o = iN o' ∧ f = iN f' ∧ t = iN t' ∧ k' ≤ 4 ∧ r' ≤ 9 ∧ w' ≤ 9 ∧ o' ≤ 99 ∧ f' ≤ 11 ∧ t' ≤ 11 := by
  obtain ⟨h1, h2, h3, h4, h5, h6⟩ := h
  obtain ⟨k', rfl, a1⟩ := rng (k := 4) h1 (by omega)
  obtain ⟨r', rfl, a2⟩ := rng (k := 9) h2 (by omega)
  obtain ⟨w', rfl, a3⟩ := rng (k := 9) ⟨Int32.le_trans (by decide) h3.1, h3.2⟩ (by omega)
  obtain ⟨o', rfl, a4⟩ := rng (k := 99) h4 (by omega)
  obtain ⟨f', rfl, a5⟩ := rng (k := 11) h5 (by omega)
  obtain ⟨t', rfl, a6⟩ := rng (k := 11) h6 (by omega)
  exact ⟨k', r', w', o', f', t', rfl, rfl, rfl, rfl, rfl, rfl, a1, a2, a3, a4, a5, a6⟩
theorem dm_low {k r w o f t j : Nat} (h : j < 73 ∨ 80 + 6 * g 73 ≤ j ∨ (74 ≤ j ∧ j < 74 + 6 * g 73)) : dmS g k r w o f t j = g j := by
  unfold dmS
  rw [if_neg (by omega), if_neg (by omega), if_neg (by omega), if_neg (by omega), if_neg (by omega), if_neg (by omega), if_neg (by omega)]
theorem dm_73 {k r w o f t : Nat} : dmS g k r w o f t 73 = g 73 + 1 := if_pos rfl
theorem dm_new {k r w o f t : Nat} : dF (dmS g k r w o f t) (g 73) 0 = k ∧ dF (dmS g k r w o f t) (g 73) 1 = r ∧ dF (dmS g k r w o f t) (g 73) 2 = w ∧ dF (dmS g k r w o f t) (g 73) 3 = o ∧ dF (dmS g k r w o f t) (g 73) 4 = f ∧ dF (dmS g k r w o f t) (g 73) 5 = t := by
  unfold dF dmS
  refine ⟨?_, ?_, ?_, ?_, ?_, ?_⟩ <;> (repeat' split) <;> first | rfl | omega
theorem dm_old {k r w o f t d q : Nat} (hd : d < g 73) (hq : q < 6) : dF (dmS g k r w o f t) d q = dF g d q := by
  unfold dF
  exact dm_low (by omega)
theorem ok_dm {k r w o f t : Nat} (hg : OKs g) (hn : g 73 ≠ 6) (a1 : k ≤ 4) (a2 : r ≤ 9) (a3 : w ≤ 9) (a4 : o ≤ 99) (a5 : f ≤ 11) (a6 : t ≤ 11) : OKs (dmS g k r w o f t) ∧ ∀ j, 110 ≤ j → dmS g k r w o f t j = g j := by
  obtain ⟨⟨h1, h2, h3, h4, h5, h6, h7⟩, i2, i3, i4, i5, i6, i7, i8, i9⟩ := hg
  have L : ∀ j, j < 73 ∨ 110 ≤ j → dmS g k r w o f t j = g j := fun j hj => dm_low (by omega)
  refine ⟨⟨⟨?_, fun a ha => ?_, fun a ha => ?_, fun a ha => ?_, fun a ha => ?_, fun a ha => ?_, fun d hd => ?_⟩, ?_, fun a ha => ?_, ?_, ?_, ?_, fun a ha => ?_, fun a ha => ?_, fun a ha => ?_⟩, fun j hj => L j (by omega)⟩
  · rw [L 0 (by omega), L 1 (by omega), L 2 (by omega), L 3 (by omega), dm_73]
    omega
  · rw [L _ (by omega)]; exact h2 a ha
  · rw [L _ (by omega)]; exact h3 a ha
  · unfold partsS partS
    rw [L _ (by omega), L _ (by omega), L _ (by omega)]
    exact h4 a ha
  · rw [L _ (by omega)]; exact h5 a ha
  · rw [L _ (by omega)]; exact h6 a ha
  · rw [dm_73] at hd
    by_cases e : d = g 73
    · subst e
      obtain ⟨n0, n1, n2, n3, n4, n5⟩ := dm_new (g := g) (k := k) (r := r) (w := w) (o := o) (f := f) (t := t)
      rw [n0, n1, n2, n3, n4, n5]
      omega
    · rw [dm_old (by omega) (by omega), dm_old (by omega) (by omega), dm_old (by omega) (by omega), dm_old (by omega) (by omega), dm_old (by omega) (by omega), dm_old (by omega) (by omega)]
      exact h7 d (by omega)
  · rw [L 0 (by omega)]; exact i2
  · rw [L _ (by omega)]; exact i3 a ha
  · rw [L _ (by omega)]; exact i4
  · rw [L _ (by omega)]; exact i5
  · rw [L _ (by omega)]; exact i6
  · rw [L 110 (by omega)] at ha
    rw [L _ (by omega), L _ (by omega), L _ (by omega), L _ (by omega)]
    exact i7 a ha
  · rw [L 131 (by omega)] at ha
    rw [L _ (by omega), L _ (by omega)]
    exact i8 a ha
  · rw [L 148 (by omega)] at ha
    rw [L _ (by omega), L _ (by omega), L _ (by omega)]
    exact i9 a ha
theorem ok_dem {k r w o f t : Int32} (hg : OKs g) : Ok2 g (opDem g k r w o f t) := by
  unfold opDem
  by_cases c1 : okD k r w o f t
  · rw [if_pos c1]
    by_cases c2 : g 73 = 6
    · rw [if_pos c2]
      exact Ok2_no hg
    · rw [if_neg c2]
      obtain ⟨k', r', w', o', f', t', rfl, rfl, rfl, rfl, rfl, rfl, a1, a2, a3, a4, a5, a6⟩ := okD_n c1
      rw [nz_iN (n := k') (by omega), nz_iN (n := r') (by omega), nz_iN (n := w') (by omega), nz_iN (n := o') (by omega), nz_iN (n := f') (by omega), nz_iN (n := t') (by omega)]
      exact ok_dm hg c2 a1 a2 a3 a4 a5 a6
  · rw [if_neg c1]
    exact Ok2_no hg
/-- the demand's own fields, at its place -/
def dfF (F : Nat → Int32) (k r w o f t : Nat) : Nat → Int32 := upd (upd (upd (upd (upd (upd F 0 (iN k)) 1 (iN r)) 2 (iN w)) 3 (iN o)) 4 (iN f)) 5 (iN t)
theorem RC_dm {k r w o f t : Nat} (hn : g 73 < 6) (h : RC s 2 g) : RC (uI (rI s (9 + g 73) (dfF (s.1 (9 + g 73)) k r w o f t)) 2 10 (iN (g 73 + 1))) 2 (dmS g k r w o f t) := by
  obtain ⟨⟨h0, h1, h2, h3, h10⟩, i1, i2, i3, i4, i5⟩ := h
  have L : ∀ j, j < 73 → dmS g k r w o f t j = g j := fun j hj => dm_low (by omega)
  have F : ∀ q, q ≠ 2 → q ≠ 9 + g 73 → (uI (rI s (9 + g 73) (dfF (s.1 (9 + g 73)) k r w o f t)) 2 10 (iN (g 73 + 1))).1 q = s.1 q := fun q a b => by rw [rI_ne a, rI_ne b]
  have F2 : ∀ j, j ≠ 10 → (uI (rI s (9 + g 73) (dfF (s.1 (9 + g 73)) k r w o f t)) 2 10 (iN (g 73 + 1))).1 2 j = s.1 2 j := fun j hj => by rw [rI_same, upd_ne hj, rI_ne (by omega)]
  refine ⟨⟨?_, ?_, ?_, ?_, ?_⟩, fun a ha => ?_, fun a ha => ?_, fun a ha => ?_, fun a ha => ?_, fun d q hd hq => ?_⟩
  · rw [F2 _ (by omega), L 0 (by omega)]; exact h0
  · rw [F2 _ (by omega), L 1 (by omega)]; exact h1
  · rw [F2 _ (by omega), L 2 (by omega)]; exact h2
  · rw [F2 _ (by omega), L 3 (by omega)]; exact h3
  · rw [rI_same, upd_same, dm_73]
  · rw [F _ (by omega) (by omega), L _ (by omega)]; exact i1 a ha
  · rw [F _ (by omega) (by omega), L _ (by omega)]; exact i2 a ha
  · rw [F _ (by omega) (by omega), L _ (by omega)]; exact i3 a ha
  · rw [F _ (by omega) (by omega), L _ (by omega)]; exact i4 a ha
  · rw [dm_73] at hd
    by_cases e : d = g 73
    · subst e
      obtain ⟨n0, n1, n2, n3, n4, n5⟩ := dm_new (g := g) (k := k) (r := r) (w := w) (o := o) (f := f) (t := t)
      rw [rI_ne (by omega), show 2 + 7 + g 73 = 9 + g 73 by omega, rI_same]
      unfold dfF
      rcases (show q = 0 ∨ q = 1 ∨ q = 2 ∨ q = 3 ∨ q = 4 ∨ q = 5 by omega) with rfl | rfl | rfl | rfl | rfl | rfl
      · rw [n0]; simp (disch := first | assumption | omega) only [rI_same, rI_ne, rF_same, rF_ne, rJ_same, rJ_ne, rI_2, rF_1, rF_22, rJ_1, rJ_21, rJ_222, rI_rI, rF_rF, rJ_rJ, upd_same, upd_ne, vfu_same, vfu_ne, vpu_same, vpu_ne]
      · rw [n1]; simp (disch := first | assumption | omega) only [rI_same, rI_ne, rF_same, rF_ne, rJ_same, rJ_ne, rI_2, rF_1, rF_22, rJ_1, rJ_21, rJ_222, rI_rI, rF_rF, rJ_rJ, upd_same, upd_ne, vfu_same, vfu_ne, vpu_same, vpu_ne]
      · rw [n2]; simp (disch := first | assumption | omega) only [rI_same, rI_ne, rF_same, rF_ne, rJ_same, rJ_ne, rI_2, rF_1, rF_22, rJ_1, rJ_21, rJ_222, rI_rI, rF_rF, rJ_rJ, upd_same, upd_ne, vfu_same, vfu_ne, vpu_same, vpu_ne]
      · rw [n3]; simp (disch := first | assumption | omega) only [rI_same, rI_ne, rF_same, rF_ne, rJ_same, rJ_ne, rI_2, rF_1, rF_22, rJ_1, rJ_21, rJ_222, rI_rI, rF_rF, rJ_rJ, upd_same, upd_ne, vfu_same, vfu_ne, vpu_same, vpu_ne]
      · rw [n4]; simp (disch := first | assumption | omega) only [rI_same, rI_ne, rF_same, rF_ne, rJ_same, rJ_ne, rI_2, rF_1, rF_22, rJ_1, rJ_21, rJ_222, rI_rI, rF_rF, rJ_rJ, upd_same, upd_ne, vfu_same, vfu_ne, vpu_same, vpu_ne]
      · rw [n5]; simp (disch := first | assumption | omega) only [rI_same, rI_ne, rF_same, rF_ne, rJ_same, rJ_ne, rI_2, rF_1, rF_22, rJ_1, rJ_21, rJ_222, rI_rI, rF_rF, rJ_rJ, upd_same, upd_ne, vfu_same, vfu_ne, vpu_same, vpu_ne]
    · rw [F _ (by omega) (by omega), dm_old (by omega) hq]
      exact i5 d q (by omega) hq
theorem co_dem (hs : OKs g) (h : RB s 2 g) (k r w o f t : Int32) : CO s (fX0_addDemand 2 k r w o f t) (opDem g k r w o f t) := by
  have hg := hs.1
  have b1 := hg.1
  have hb : Bs 2 := Or.inl rfl
  unfold opDem
  have fit : ∀ v μ, fX0_isFit 0 v μ = some (tI (0 ≤ v ∧ v ≤ (9 : Int32)), μ) ∧ fX0_isFit 1 v μ = some (tI ((1 : Int32) ≤ v ∧ v ≤ (9 : Int32)), μ) ∧ fX0_isFit 2 v μ = some (tI (0 ≤ v ∧ v ≤ (99 : Int32)), μ) := fun v μ => ⟨c_isFit (n := 0) (by omega), c_isFit (n := 1) (by omega), c_isFit (n := 2) (by omega)⟩
  by_cases c1 : okD k r w o f t
  · rw [if_pos c1]
    obtain ⟨e1, e2, e3, e4, e5, e6⟩ := c1
    by_cases c2 : g 73 = 6
    · rw [if_pos c2]
      refine CO_no h ?_
      unfold fX0_addDemand
      simp only [c_within, (fit _ _).1, (fit _ _).2.1, (fit _ _).2.2, tI_pos e1, tI_pos e2, tI_pos e3, tI_pos e4, tI_pos e5, tI_pos e6, bd_s, i10, if_false, bs_g10 hb, ob, h.1.1.2.2.2.2]
      rw [c2]
      rfl
    · rw [if_neg c2]
      obtain ⟨k', r', w', o', f', t', rfl, rfl, rfl, rfl, rfl, rfl, a1, a2, a3, a4, a5, a6⟩ := okD_n ⟨e1, e2, e3, e4, e5, e6⟩
      rw [nz_iN (n := k') (by omega), nz_iN (n := r') (by omega), nz_iN (n := w') (by omega), nz_iN (n := o') (by omega), nz_iN (n := f') (by omega), nz_iN (n := t') (by omega)]
      have n6 : g 73 < 6 := by omega
      have hS := RC_dm (k := k') (r := r') (w := w') (o := o') (f := f') (t := t') n6 h.1
      obtain ⟨F, q1, q2⟩ := c_sort hb (ok_dm hs c2 a1 a2 a3 a4 a5 a6).1.1 hS
      refine ⟨_, ?_, q2, ((Kcl_rI (by omega)).tr (Kcl_rI (by omega))).tr (Kcl_rI (by omega))⟩
      unfold fX0_addDemand
      simp only [c_within, (fit _ _).1, (fit _ _).2.1, (fit _ _).2.2, tI_pos e1, tI_pos e2, tI_pos e3, tI_pos e4, tI_pos e5, tI_pos e6, bd_s, i10, if_false, bs_g10 hb, ob, h.1.1.2.2.2.2]
      simp (disch := first | assumption | omega) only [iN_ltL]
      rw [if_pos n6]
      simp (disch := first | assumption | omega) only [bs_r8 hb, ob, bs_d hb n6, bs_pd hb n6, bs_g10 hb, bs_p10 hb, bs_c hb, rI_same, rI_ne, rF_same, rF_ne, rJ_same, rJ_ne, rI_2, rF_1, rF_22, rJ_1, rJ_21, rJ_222, rI_rI, rF_rF, rJ_rJ, upd_same, upd_ne, vfu_same, vfu_ne, vpu_same, vpu_ne, h.1.1.2.2.2.2, iN_add, iN_addL, iN_Ladd, iN_mul, iN_mulL, iN_Lmul]
      have q1' := q1
      unfold dfF at q1'
      rw [show 9 + g 73 = 2 + 7 + g 73 by omega] at q1'
      rw [q1']
      simp only [bd_s, bs_g10 hb, ob]
      have e73 : (rI (uI (rI s (2 + 7 + g 73) (upd (upd (upd (upd (upd (upd (s.1 (2 + 7 + g 73)) 0 (iN k')) 1 (iN r')) 2 (iN w')) 3 (iN o')) 4 (iN f')) 5 (iN t'))) 2 10 (iN (g 73 + 1))) (2 + 6) F).1 2 10 = iN (g 73 + 1) := by
        rw [rI_ne (by omega), rI_same, upd_same]
      rw [e73, iN_subL (by omega)]
      rw [show 9 + g 73 = 2 + 7 + g 73 by omega]
      rfl
  · rw [if_neg c1]
    refine CO_no h ?_
    unfold fX0_addDemand
    simp only [c_within, (fit _ _).1, (fit _ _).2.1, (fit _ _).2.2, bd_s, tI_eq0]
    by_cases e1 : 0 ≤ k ∧ k ≤ (4 : Int32)
    · rw [if_neg (not_not_intro e1)]
      by_cases e5 : 0 ≤ f ∧ f ≤ (11 : Int32)
      · rw [if_neg (not_not_intro e5)]
        by_cases e6 : 0 ≤ t ∧ t ≤ (11 : Int32)
        · rw [if_neg (not_not_intro e6)]
          by_cases e2 : 0 ≤ r ∧ r ≤ (9 : Int32)
          · rw [if_neg (not_not_intro e2)]
            by_cases e3 : (1 : Int32) ≤ w ∧ w ≤ (9 : Int32)
            · rw [if_neg (not_not_intro e3)]
              by_cases e4 : 0 ≤ o ∧ o ≤ (99 : Int32)
              · exact absurd ⟨e1, e2, e3, e4, e5, e6⟩ c1
              · rw [if_pos e4]
            · rw [if_pos e3]
          · rw [if_pos e2]
        · rw [if_pos e6]
      · rw [if_pos e5]
    · rw [if_pos e1]
theorem Rg_dm {k r w o f t : Nat} (hn : g 73 < 6) (h : Rg s 102 g) : Rg (rI s 102 (upd (upd (upd (upd (upd (upd (upd (s.1 102) (74 + 6 * g 73) (iN k)) (74 + 6 * g 73 + 1) (iN r)) (74 + 6 * g 73 + 2) (iN w)) (74 + 6 * g 73 + 3) (iN o)) (74 + 6 * g 73 + 4) (iN f)) (74 + 6 * g 73 + 5) (iN t)) 73 (iN (g 73 + 1)))) 102 (dmS g k r w o f t) := by
  intro j hj
  rw [rI_same]
  unfold dmS upd
  repeat' split
  all_goals first | rfl | (exfalso; omega) | exact h j hj
theorem ro_dem (hg : OKg g) (hR : RR s g (fun _ => false)) (h : Rg s 102 g) (k r w o f t : Int32) : RO s (fX11_demand 101 k r w o f t) (opDem g k r w o f t) := by
  have b1 := hg.1
  unfold opDem
  have e0 : ∀ u : Sto, (∀ k, k = 73 → u.1 102 k = iN (g k)) → aI (lay u) 0 102 73 = some (iN (g 73)) := fun u hu => by
    rw [show (73 : Int32) = iN 73 from rfl, ai_102 (by omega), hu 73 rfl]
  have e1' : aI (lay s) 0 102 73 = some (iN (g 73)) := e0 s (fun k hk => h k (by omega))
  by_cases c1 : okD k r w o f t
  · rw [if_pos c1]
    obtain ⟨e1, e2, e3, e4, e5, e6⟩ := c1
    have guard : fX11_demand 101 k r w o f t (lay s) = fX11_demand 101 k r w o f t (lay s) := rfl
    by_cases c2 : g 73 = 6
    · rw [if_pos c2]
      refine RO_no h ?_
      unfold fX11_demand
      rw [r_in]
      simp (disch := first | assumption | omega) only [lit64_le, le_lit64, le_64, tI_pos e1, bd_s, i10, if_false]
      rw [r_in]
      simp (disch := first | assumption | omega) only [lit64_le, le_lit64, le_64, tI_pos e2, bd_s, i10, if_false]
      rw [r_in]
      simp (disch := first | assumption | omega) only [lit64_le, le_lit64, le_64, tI_pos e3, bd_s, i10, if_false]
      rw [r_in]
      simp (disch := first | assumption | omega) only [lit64_le, le_lit64, le_64, tI_pos e4, bd_s, i10, if_false]
      simp only [r_isMonth, tI_pos e5, tI_pos e6, bd_s, i10, if_false, rr_101_0, ob, e1']
      rw [c2]
      rfl
    · rw [if_neg c2]
      obtain ⟨k', r', w', o', f', t', rfl, rfl, rfl, rfl, rfl, rfl, a1, a2, a3, a4, a5, a6⟩ := okD_n ⟨e1, e2, e3, e4, e5, e6⟩
      rw [nz_iN (n := k') (by omega), nz_iN (n := r') (by omega), nz_iN (n := w') (by omega), nz_iN (n := o') (by omega), nz_iN (n := f') (by omega), nz_iN (n := t') (by omega)]
      have n6 : g 73 < 6 := by omega
      refine ⟨_, ?_, Rg_dm n6 h, Krf_rI⟩
      unfold fX11_demand
      rw [r_in]
      simp (disch := first | assumption | omega) only [lit64_le, le_lit64, le_64, tI_pos e1, bd_s, i10, if_false]
      rw [r_in]
      simp (disch := first | assumption | omega) only [lit64_le, le_lit64, le_64, tI_pos e2, bd_s, i10, if_false]
      rw [r_in]
      simp (disch := first | assumption | omega) only [lit64_le, le_lit64, le_64, tI_pos e3, bd_s, i10, if_false]
      rw [r_in]
      simp (disch := first | assumption | omega) only [lit64_le, le_lit64, le_64, tI_pos e4, bd_s, i10, if_false]
      simp only [r_isMonth, tI_pos e5, tI_pos e6, bd_s, i10, if_false, rr_101_0, ob, e1']
      simp (disch := first | assumption | omega) only [iN_eqL]
      rw [if_neg c2]
      simp only [show (73 : Int32) = iN 73 from rfl]
      simp (disch := first | assumption | omega) only [iN_add, iN_addL, iN_Ladd, iN_mul, iN_mulL, iN_Lmul, Nat.add_zero, si_102, ai_102, ob, rr_101_0, rI_same, rI_ne, rF_same, rF_ne, rJ_same, rJ_ne, rI_2, rF_1, rF_22, rJ_1, rJ_21, rJ_222, rI_rI, rF_rF, rJ_rJ, upd_same, upd_ne, vfu_same, vfu_ne, vpu_same, vpu_ne, h 73 (by omega)]
      rw [iN_subL (by omega)]
      rfl
  · rw [if_neg c1]
    refine RO_no h ?_
    unfold fX11_demand
    rw [r_in]
    simp (disch := first | assumption | omega) only [lit64_le, le_lit64, le_64, bd_s, tI_eq0]
    by_cases e1 : 0 ≤ k ∧ k ≤ (4 : Int32)
    · rw [if_neg (not_not_intro e1), r_in]
      simp (disch := first | assumption | omega) only [lit64_le, le_lit64, le_64, bd_s, tI_eq0]
      by_cases e2 : 0 ≤ r ∧ r ≤ (9 : Int32)
      · rw [if_neg (not_not_intro e2), r_in]
        simp (disch := first | assumption | omega) only [lit64_le, le_lit64, le_64, bd_s, tI_eq0]
        by_cases e3 : (1 : Int32) ≤ w ∧ w ≤ (9 : Int32)
        · rw [if_neg (not_not_intro e3), r_in]
          simp (disch := first | assumption | omega) only [lit64_le, le_lit64, le_64, bd_s, tI_eq0]
          by_cases e4 : 0 ≤ o ∧ o ≤ (99 : Int32)
          · rw [if_neg (not_not_intro e4), r_isMonth]
            simp only [bd_s, tI_eq0]
            by_cases e5 : 0 ≤ f ∧ f ≤ (11 : Int32)
            · rw [if_neg (not_not_intro e5), r_isMonth]
              simp only [bd_s, tI_eq0]
              by_cases e6 : 0 ≤ t ∧ t ≤ (11 : Int32)
              · exact absurd ⟨e1, e2, e3, e4, e5, e6⟩ c1
              · rw [if_pos e6]
            · rw [if_pos e5]
          · rw [if_pos e4]
        · rw [if_pos e3]
      · rw [if_pos e2]
    · rw [if_pos e1]
end OPSC
