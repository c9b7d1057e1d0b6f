/-! ===== the class: gains, choices, the sweep ===== -/
/-- the gains of months from f on -/
def GNs (g : Nat → Nat) (f : Nat) (fg : Nat → Int32) : Prop := ∀ m y, f ≤ m → m < g 1 → y < 21 → fg (m * 21 + y) = iZ (gainsS g m y)
/-- the rows of the best from month k on -/
def TBs (g : Nat → Nat) (k : Nat) (fb fm : Nat → UInt32) (fr : Nat → Int32) : Prop :=
  (∀ m x i, k ≤ m → m ≤ g 1 → x ≤ g 0 → i < 3 → fb (ix m x i) = bstS g (g 1 - m) x i) ∧ (∀ m x i, k ≤ m → m < g 1 → x ≤ g 0 → i < 3 → fr (ix m x i) = iN (rlsS g (g 1 - m) x i)) ∧ (∀ m x i, k ≤ m → m < g 1 → x ≤ g 0 → i < 3 → fm (ix (m + 1) x i) = meanS g (bstS g (g 1 - (m + 1))) x i)
section SWEEP
variable {s : Sto} {p r : Nat} {g : Nat → Nat} {fb fm : Nat → UInt32} {fr : Nat → Int32}
theorem c_fillG13 {G : Mem → Option (Unit × Mem)} {m : Nat} (hb : Bs p) (hr : Rw r) (hg : OKg g) (h : RB s p g) (hm : m < 12) : ∀ (n y : Nat) (f : Nat → Int32), 21 - y < n → y ≤ 21 → ∃ f', X1_fillGains_L13 G r p (iN m) n (iN y) (lay (rI s (r + 4) f)) = G (lay (rI s (r + 4) f')) ∧ (∀ z, y ≤ z → z < 21 → f' (m * 21 + z) = iZ (gainsS g m z)) ∧ (∀ j, j < m * 21 + y ∨ m * 21 + 21 ≤ j → f' j = f j) := by
  intro n
  have b1 := hg.1
  have e1 := Rw_le hr
  have e2 := Bs_le hb
  induction n with
  | zero => intro y f h1; omega
  | succ n ih =>
    intro y f h1 h2
    rw [X1_fillGains_L13]
    simp (disch := first | assumption | omega) only [iN_Lle]
    by_cases c1 : 21 ≤ y
    · rw [if_pos c1]
      exact ⟨f, rfl, fun z h3 h4 => by omega, fun j _ => rfl⟩
    · rw [if_neg c1]
      have hS : RB (rI s (r + 4) f) p g := RB_rI h (by omega) (by omega)
      have hl : m * 21 + y < 252 := by omega
      simp (disch := first | assumption | omega) only [ob, bd_s, jn_s, zz0, zz1, i10, i00, if_true, if_false, rw_r3 hr, bs_c hb, c_gainsOf hb hg hS hm, rw_s4 hr, iN_add, iN_addL, iN_Ladd, iN_mul, iN_mulL, iN_Lmul, rI_same, rI_ne, rF_same, rF_ne, rJ_same, rJ_ne, rI_2, rF_1, rF_22, rJ_1, rJ_21, rJ_222, rI_rI, rF_rF, rJ_rJ, upd_same, upd_ne, vfu_same, vfu_ne, vpu_same, vpu_ne]
      obtain ⟨f', d1, d2, d3⟩ := ih (y + 1) (upd f (m * 21 + y) (iZ (gainsS g m y))) (by omega) (by omega)
      refine ⟨f', d1, fun z h3 h4 => ?_, fun j hj => ?_⟩
      · by_cases c2 : z = y
        · subst c2
          rw [d3 _ (by omega), upd_same]
        · exact d2 z (by omega) h4
      · rw [d3 j (by omega), upd_ne (by omega)]
theorem c_fillG2 {G : Mem → Option (Unit × Mem)} (hb : Bs p) (hr : Rw r) (hg : OKg g) (h : RB s p g) : ∀ (n m : Nat) (f : Nat → Int32), g 1 - m < n → m ≤ g 1 → ∃ f', X1_fillGains_L2 G r p n (iN m) (lay (rI s (r + 4) f)) = G (lay (rI s (r + 4) f')) ∧ GNs g m f' ∧ (∀ j, j < m * 21 → f' j = f j) := by
  intro n
  have b1 := hg.1
  have e1 := Rw_le hr
  have e2 := Bs_le hb
  induction n with
  | zero => intro m f h1; omega
  | succ n ih =>
    intro m f h1 h2
    have hS : RB (rI s (r + 4) f) p g := RB_rI h (by omega) (by omega)
    rw [X1_fillGains_L2]
    simp (disch := first | assumption | omega) only [ob, bd_s, jn_s, zz0, zz1, i10, i00, if_true, if_false, bs_g1 hb, hS.1.1.2.1, iN_le]
    by_cases c1 : g 1 ≤ m
    · rw [if_pos c1]
      exact ⟨f, rfl, fun m' y h3 h4 => by omega, fun j _ => rfl⟩
    · rw [if_neg c1]
      obtain ⟨f1, d1, d2, d3⟩ := c_fillG13 (G := fun μ_45 => X1_fillGains_L2 G r p n (iN m + 1) μ_45) (m := m) hb hr hg h (by omega) FU 0 f (by unfold FU; omega) (by omega)
      rw [show (0 : Int32) = iN 0 from rfl, d1]
      simp only [iN_add, iN_addL, iN_Ladd, iN_mul, iN_mulL, iN_Lmul]
      obtain ⟨f', k1, k2, k3⟩ := ih (m + 1) f1 (by omega) (by omega)
      refine ⟨f', k1, fun m' y h3 h4 h5 => ?_, fun j hj => ?_⟩
      · by_cases c2 : m' = m
        · subst c2
          rw [k3 _ (by omega), d2 y (by omega) h5]
        · exact k2 m' y (by omega) h4 h5
      · rw [k3 j (by omega), d3 j (by omega)]
theorem c_fillGains (hb : Bs p) (hr : Rw r) (hg : OKg g) (h : RB s p g) {f : Nat} (hf : f ≤ g 1) : ∃ fg, fX1_fillGains r p (iN f) (lay s) = some ((), lay (rI s (r + 4) fg)) ∧ GNs g f fg := by
  have b1 := hg.1
  obtain ⟨fg, h1, h2, _⟩ := c_fillG2 (G := fun μ => some ((), μ)) hb hr hg h FU f (s.1 (r + 4)) (by unfold FU; omega) hf
  rw [rI_self] at h1
  exact ⟨fg, h1, h2⟩
theorem c_chooseL {G : UInt32 → Int32 → Mem → Option (Unit × Mem)} {T : Nat → Nat → UInt32} {m x i B : Nat} (hb : Bs p) (hr : Rw r) (hg : OKg g) (h : RB s p g) (hm : m < 12) (hx : x ≤ 13) (hi : i < 3) (hB : B ≤ 200000) (hT : ∀ x j, x ≤ g 0 → j < 3 → aL B (T x j))
    (hgn : ∀ y, y < 21 → s.1 (r + 4) (m * 21 + y) = iZ (gainsS g m y)) (hmn : ∀ y j, y ≤ g 0 → j < 3 → s.2.1 (r + 2) (ix (m + 1) y j) = meanS g T y j) :
    ∀ (n k : Nat), 20 - k < n → k ≤ min 20 (thereS g m x (g (4 + 3 * m + i))) → X1_choose_L46 G r p (iN m) (iN x) (iN i) (iN (thereS g m x (g (4 + 3 * m + i)))) (iN (min 20 (thereS g m x (g (4 + 3 * m + i))))) n (pickS (valS g T m x i) k).1 (iN (pickS (valS g T m x i) k).2) (iN (k + 1)) (lay s) = G (pickS (valS g T m x i) 20).1 (iN (pickS (valS g T m x i) 20).2) (lay s) := by
  intro n
  have b1 := hg.1
  have hq := inflow_le hg hm hi
  have hth : thereS g m x (g (4 + 3 * m + i)) ≤ 22 := by unfold thereS; omega
  induction n with
  | zero => intro k h1; omega
  | succ n ih =>
    intro k h1 h2
    rw [X1_choose_L46]
    simp (disch := first | assumption | omega) only [iN_lt]
    by_cases c1 : min 20 (thereS g m x (g (4 + 3 * m + i))) < k + 1
    · rw [if_pos c1, show k = min 20 (thereS g m x (g (4 + 3 * m + i))) by omega, pick_there]
    · rw [if_neg c1]
      have hk : k + 1 ≤ 20 := by omega
      have hv := c_valueOf (k := k + 1) hb hr hg h hm hx hi hk hB hT hgn hmn
      have e1 : restoS g m x (g (4 + 3 * m + i)) (k + 1) = thereS g m x (g (4 + 3 * m + i)) - (k + 1) := by unfold restoS; omega
      rw [e1, Nat.min_eq_left (by omega)] at hv
      simp only [rw_c hr, ob]
      rw [iN_sub (by omega), hv]
      simp only [bd_s, cv_le0, iN_addL]
      have i1 := ih (k + 1) (by omega) (by omega)
      unfold pickS at i1
      by_cases c2 : FP.fcmp (valS g T m x i (k + 1)) (pickS (valS g T m x i) k).1 = some .gt
      · rw [if_neg (not_not_intro c2)]
        rw [if_pos c2] at i1
        exact i1
      · rw [if_pos c2]
        rw [if_neg c2] at i1
        exact i1
theorem c_choose {T : Nat → Nat → UInt32} {m x i B : Nat} (hb : Bs p) (hr : Rw r) (hg : OKg g) (h : RB s p g) (hm : m < 12) (hx : x ≤ 13) (hi : i < 3) (hB : B ≤ 200000) (hT : ∀ x j, x ≤ g 0 → j < 3 → aL B (T x j))
    (hgn : ∀ y, y < 21 → s.1 (r + 4) (m * 21 + y) = iZ (gainsS g m y)) (hmn : ∀ y j, y ≤ g 0 → j < 3 → fm (ix (m + 1) y j) = meanS g T y j) :
    fX1_choose r p (iN m) (iN x) (iN i) (lay (st3 s r fb fm fr)) = some ((), lay (st3 s r (vf_upd fb (ix m x i) (pickS (valS g T m x i) 20).1) fm (upd fr (ix m x i) (iN (pickS (valS g T m x i) 20).2)))) := by
  have b1 := hg.1
  have e1 := Rw_le hr
  have hS := st3_RB (fb := fb) (fm := fm) (fr := fr) hb hr hg h
  have hq := inflow_le hg hm hi
  have hd := dried_le (x := x) hg hm
  have hth : thereS g m x (g (4 + 3 * m + i)) ≤ 22 := by unfold thereS; omega
  have hgn' : ∀ y, y < 21 → (st3 s r fb fm fr).1 (r + 4) (m * 21 + y) = iZ (gainsS g m y) := fun y hy => by rw [st3_1 (by omega)]; exact hgn y hy
  have hmn' : ∀ y j, y ≤ g 0 → j < 3 → (st3 s r fb fm fr).2.1 (r + 2) (ix (m + 1) y j) = meanS g T y j := fun y j h1 h2 => by rw [st3_m]; exact hmn y j h1 h2
  have hl := ix_lt (m := m) (x := x) (i := i) (by omega) hx hi
  have hl2 := ix_lt2 (m := m) (x := x) (i := i) hm hx hi
  have hv := c_valueOf (k := 0) hb hr hg hS hm hx hi (by omega) hB hT hgn' hmn'
  have e2 : restoS g m x (g (4 + 3 * m + i)) 0 = thereS g m x (g (4 + 3 * m + i)) := by unfold restoS; omega
  rw [e2, Nat.zero_min] at hv
  unfold fX1_choose
  simp (disch := first | assumption | omega) only [ob, bd_s, jn_s, zz0, zz1, i10, i00, if_true, if_false, bs_c hb, rw_c hr, c_driedIn hb hg hS.1 hm, c_inflowIn hb hS.1 hm hi]
  rw [iN_sub hd, iN_add, show x - driedS g m x + g (4 + 3 * m + i) = thereS g m x (g (4 + 3 * m + i)) from rfl]
  rw [show (0 : Int32) = iN 0 from rfl, hv]
  simp (disch := first | assumption | omega) only [bd_s, Lmn_I]
  have hL := c_chooseL (G := fun v7_92 v8_92 μ_92 => (gR μ_92 r 1 0).bind fun x93 => bd (fX1_spot (iN m) (iN x) (iN i) μ_92) fun x100 μ100 => (sF μ100 x93 x100 v7_92).bind fun μ105 => (gR μ105 r 1 2).bind fun x107 => bd (fX1_spot (iN m) (iN x) (iN i) μ105) fun x114 μ114 => (sI μ114 x107 x114 v8_92).bind fun μ119 => some ((), μ119)) hb hr hg hS hm hx hi hB hT hgn' hmn' FU 0 (by unfold FU; omega) (Nat.zero_le _)
  refine Eq.trans hL ?_
  simp only [rw_r0 hr, rw_r2 hr, c_spot, bd_s, ob, rw_s1 hr hl, rw_s3 hr hl2, st3_ub, st3_b, st3_ur, st3_r]
theorem c_sweep89 {G : Mem → Option (Unit × Mem)} {v2 : Int32} {T : Nat → Nat → UInt32} {m x B : Nat} (hb : Bs p) (hr : Rw r) (hg : OKg g) (h : RB s p g) (hm : m < 12) (hx : x ≤ 13) (hB : B ≤ 200000) (hT : ∀ x j, x ≤ g 0 → j < 3 → aL B (T x j))
    (hgn : ∀ y, y < 21 → s.1 (r + 4) (m * 21 + y) = iZ (gainsS g m y)) (hmn : ∀ y j, y ≤ g 0 → j < 3 → fm (ix (m + 1) y j) = meanS g T y j) :
    ∀ (n i : Nat) (fb : Nat → UInt32) (fr : Nat → Int32), 3 - i < n → i ≤ 3 → ∃ fb' fr', X1_sweep_L89 G r p v2 (iN m) (iN x) n (iN i) (lay (st3 s r fb fm fr)) = G (lay (st3 s r fb' fm fr')) ∧ (∀ k, i ≤ k → k < 3 → fb' (ix m x k) = (pickS (valS g T m x k) 20).1 ∧ fr' (ix m x k) = iN (pickS (valS g T m x k) 20).2) ∧ (∀ j, (∀ k, i ≤ k → k < 3 → j ≠ ix m x k) → fb' j = fb j ∧ fr' j = fr j) := by
  intro n
  induction n with
  | zero => intro i fb fr h1; omega
  | succ n ih =>
    intro i fb fr h1 h2
    rw [X1_sweep_L89]
    simp (disch := first | assumption | omega) only [iN_Lle]
    by_cases c1 : 3 ≤ i
    · rw [if_pos c1]
      exact ⟨fb, fr, rfl, fun k h3 h4 => by omega, fun j _ => ⟨rfl, rfl⟩⟩
    · rw [if_neg c1]
      have hi : i < 3 := by omega
      simp only [rw_c hr, ob]
      rw [c_choose hb hr hg h hm hx hi hB hT hgn hmn]
      simp only [bd_s, iN_add, iN_addL, iN_Ladd, iN_mul, iN_mulL, iN_Lmul]
      obtain ⟨fb', fr', d1, d2, d3⟩ := ih (i + 1) (vf_upd fb (ix m x i) (pickS (valS g T m x i) 20).1) (upd fr (ix m x i) (iN (pickS (valS g T m x i) 20).2)) (by omega) (by omega)
      refine ⟨fb', fr', d1, fun k h3 h4 => ?_, fun j hj => ?_⟩
      · by_cases c2 : k = i
        · subst c2
          have := d3 (ix m x k) (fun k' h5 h6 e => by have := ix_inj (m := m) (m' := m) hx hi hx h6 e; omega)
          rw [this.1, this.2, vfu_same, upd_same]
          exact ⟨rfl, rfl⟩
        · exact d2 k (by omega) h4
      · have := d3 j (fun k h5 h6 => hj k (by omega) h6)
        rw [this.1, this.2, vfu_ne (hj i (by omega) hi), upd_ne (hj i (by omega) hi)]
        exact ⟨rfl, rfl⟩
theorem c_sweep77 {G : Mem → Option (Unit × Mem)} {v2 : Int32} {T : Nat → Nat → UInt32} {m B : Nat} (hb : Bs p) (hr : Rw r) (hg : OKg g) (h : RB s p g) (hm : m < 12) (hB : B ≤ 200000) (hT : ∀ x j, x ≤ g 0 → j < 3 → aL B (T x j))
    (hgn : ∀ y, y < 21 → s.1 (r + 4) (m * 21 + y) = iZ (gainsS g m y)) (hmn : ∀ y j, y ≤ g 0 → j < 3 → fm (ix (m + 1) y j) = meanS g T y j) :
    ∀ (n x : Nat) (fb : Nat → UInt32) (fr : Nat → Int32), g 0 + 1 - x < n → x ≤ g 0 + 1 → ∃ fb' fr', X1_sweep_L77 G r p v2 (iN m) n (iN x) (lay (st3 s r fb fm fr)) = G (lay (st3 s r fb' fm fr')) ∧ (∀ y k, x ≤ y → y ≤ g 0 → k < 3 → fb' (ix m y k) = (pickS (valS g T m y k) 20).1 ∧ fr' (ix m y k) = iN (pickS (valS g T m y k) 20).2) ∧ (∀ j, (∀ y k, x ≤ y → y ≤ g 0 → k < 3 → j ≠ ix m y k) → fb' j = fb j ∧ fr' j = fr j) := by
  intro n
  have b1 := hg.1
  induction n with
  | zero => intro x fb fr h1; omega
  | succ n ih =>
    intro x fb fr h1 h2
    have hS := st3_RB (fb := fb) (fm := fm) (fr := fr) hb hr hg h
    rw [X1_sweep_L77]
    simp (disch := first | assumption | omega) only [ob, bd_s, jn_s, zz0, zz1, i10, i00, if_true, if_false, bs_g0 hb, hS.1.1.1, iN_lt]
    by_cases c1 : g 0 < x
    · rw [if_pos c1]
      exact ⟨fb, fr, rfl, fun y k h3 h4 => by omega, fun j _ => ⟨rfl, rfl⟩⟩
    · rw [if_neg c1]
      obtain ⟨fb1, fr1, e1, e2, e3⟩ := c_sweep89 (G := fun μ_111 => X1_sweep_L77 G r p v2 (iN m) n (iN x + 1) μ_111) (v2 := v2) hb hr hg h hm (show x ≤ 13 by omega) hB hT hgn hmn FU 0 fb fr (by unfold FU; omega) (by omega)
      rw [show (0 : Int32) = iN 0 from rfl, e1]
      simp only [iN_add, iN_addL, iN_Ladd, iN_mul, iN_mulL, iN_Lmul]
      obtain ⟨fb', fr', d1, d2, d3⟩ := ih (x + 1) fb1 fr1 (by omega) (by omega)
      refine ⟨fb', fr', d1, fun y k h3 h4 h5 => ?_, fun j hj => ?_⟩
      · by_cases c2 : y = x
        · subst c2
          have := d3 (ix m y k) (fun z k' h6 h7 h8 e => by have := ix_inj (m := m) (m' := m) (by omega) h5 (by omega) h8 e; omega)
          rw [this.1, this.2]
          exact e2 k (by omega) h5
        · exact d2 y k (by omega) h4 h5
      · have := d3 j (fun y k h5 h6 h7 => hj y k (by omega) h6 h7)
        rw [this.1, this.2]
        exact e3 j (fun k h5 h6 => hj x k (by omega) (by omega) h6)
end SWEEP
