/-! ===== the class: the rows of the best ===== -/
def ix (m x i : Nat) : Nat := (m * 14 + x) * 3 + i
theorem ix_lt {m x i : Nat} (hm : m ≤ 12) (hx : x ≤ 13) (hi : i < 3) : ix m x i < 546 := by unfold ix; omega
theorem ix_lt2 {m x i : Nat} (hm : m < 12) (hx : x ≤ 13) (hi : i < 3) : ix m x i < 504 := by unfold ix; omega
theorem ix_inj {m x i m' x' i' : Nat} (hx : x ≤ 13) (hi : i < 3) (hx' : x' ≤ 13) (hi' : i' < 3) (h : ix m x i = ix m' x' i') : m = m' ∧ x = x' ∧ i = i' := by unfold ix at h; omega
theorem c_spot {m x i : Nat} {μ : Mem} : fX1_spot (iN m) (iN x) (iN i) μ = some (iN (ix m x i), μ) := by
  unfold fX1_spot ix
  simp only [iN_add, iN_addL, iN_Ladd, iN_mul, iN_mulL, iN_Lmul]
/-- the store with three rows of the best anew -/
def st3 (s : Sto) (r : Nat) (fb fm : Nat → UInt32) (fr : Nat → Int32) : Sto := rI (rF (rF s (r + 1) fb) (r + 2) fm) (r + 3) fr
section ROWS
variable {s : Sto} {p r : Nat} {g : Nat → Nat} {fb fm : Nat → UInt32} {fr : Nat → Int32}
theorem st3_b : (st3 s r fb fm fr).2.1 (r + 1) = fb := by
  show (rF (rF s (r + 1) fb) (r + 2) fm).2.1 (r + 1) = fb
  rw [rF_ne (by omega), rF_same]
theorem st3_m : (st3 s r fb fm fr).2.1 (r + 2) = fm := by
  show (rF (rF s (r + 1) fb) (r + 2) fm).2.1 (r + 2) = fm
  rw [rF_same]
theorem st3_r : (st3 s r fb fm fr).1 (r + 3) = fr := rI_same
theorem st3_1 {q : Nat} (h : q ≠ r + 3) : (st3 s r fb fm fr).1 q = s.1 q := rI_ne h
theorem st3_2 {q : Nat} (h : q ≠ r + 1) (h2 : q ≠ r + 2) : (st3 s r fb fm fr).2.1 q = s.2.1 q := by
  show (rF (rF s (r + 1) fb) (r + 2) fm).2.1 q = _
  rw [rF_ne h2, rF_ne h]
theorem st3_22 : (st3 s r fb fm fr).2.2 = s.2.2 := rfl
theorem st3_ub {f : Nat → UInt32} : rF (st3 s r fb fm fr) (r + 1) f = st3 s r f fm fr := by
  unfold st3 rI rF
  congr 2
  · funext q
    by_cases h1 : q = r + 1
    · subst h1
      simp
    · simp [h1]
theorem st3_um {f : Nat → UInt32} : rF (st3 s r fb fm fr) (r + 2) f = st3 s r fb f fr := by
  unfold st3 rI rF
  congr 2
  · funext q
    by_cases h1 : q = r + 2 <;> simp [h1]
theorem st3_ur {f : Nat → Int32} : rI (st3 s r fb fm fr) (r + 3) f = st3 s r fb fm f := rI_rI
theorem st3_self : st3 s r (s.2.1 (r + 1)) (s.2.1 (r + 2)) (s.1 (r + 3)) = s := by
  unfold st3
  rw [rF_self, rF_self, rI_self]
theorem Rw_le (hr : Rw r) : 54 ≤ r ∧ r ≤ 59 := by unfold Rw at hr; omega
theorem st3_RB (hb : Bs p) (hr : Rw r) (hg : OKg g) (h : RB s p g) : RB (st3 s r fb fm fr) p g := by
  have := Rw_le hr
  have := Bs_le hb
  exact RB_congr h hg.1.2.2.2.2.2.2 (fun q h1 h2 => st3_1 (by omega))
theorem c_fillM33 {G : UInt32 → Mem → Option (Unit × Mem)} {v4 : UInt32} {T : Nat → Nat → UInt32} {m x i B : Nat} (hb : Bs p) (hr : Rw r) (hg : OKg g) (h : RB s p g) (hm : m ≤ 12) (hx : x ≤ 13) (hi : i < 3) (hB : B ≤ 200000) (hT : ∀ j, j < 3 → aL B (T x j)) (hf : ∀ j, j < 3 → s.2.1 (r + 1) (ix m x j) = T x j) :
    ∀ (n j : Nat), 3 - j < n → j ≤ 3 → X1_fillMeans_L33 G r p (iN m) (iN i) v4 (iN x) n (smS g T x i j) (iN j) (lay s) = G (smS g T x i 3) (lay s) := by
  intro n
  induction n with
  | zero => intro j h1; omega
  | succ n ih =>
    intro j h1 h2
    rw [X1_fillMeans_L33]
    simp (disch := first | assumption | omega) only [iN_Lle]
    by_cases c1 : 3 ≤ j
    · rw [if_pos c1, show j = 3 by omega]
    · rw [if_neg c1]
      have hj : j < 3 := by omega
      have hl := ix_lt hm hx hj
      have a1 := prod_aL hg hi hj hB (hT j hj)
      have a2 := (smS_aL hg hi hB hT j (by omega))
      have a3 := (smS_aL hg hi hB hT (j + 1) (by omega))
      simp (disch := first | assumption | omega) only [ob, bd_s, jn_s, zz0, zz1, i10, i00, if_true, if_false, bs_r5 hb, bs_a2 hb, rw_r0 hr, c_spot, rw_a1 hr, iN_add, iN_addL, iN_Ladd, iN_mul, iN_mulL, iN_Lmul, hf j hj, c_part h.1 hi hj]
      rw [nn_aL a1]
      simp only [ob]
      have a4 : nn (FP.fadd (smS g T x i j) (FP.fmul (FP.i2f (iN (partS g i j))) (T x j))) = some (smS g T x i (j + 1)) := nn_aL a3.2
      rw [a4]
      simp only [ob]
      exact ih (j + 1) (by omega) (by omega)
theorem c_fillM18 {G : Mem → Option (Unit × Mem)} {T : Nat → Nat → UInt32} {m i B : Nat} (hb : Bs p) (hr : Rw r) (hg : OKg g) (h : RB s p g) (hm : m ≤ 12) (hi : i < 3) (hB : B ≤ 200000) (hT : ∀ x j, x ≤ g 0 → j < 3 → aL B (T x j)) (hf : ∀ x j, x ≤ g 0 → j < 3 → fb (ix m x j) = T x j) :
    ∀ (n x : Nat) (fm : Nat → UInt32), g 0 + 1 - x < n → x ≤ g 0 + 1 → ∃ fm', X1_fillMeans_L18 G r p (iN m) (iN i) (FP.i2f (iN (partsS g i))) n (iN x) (lay (st3 s r fb fm fr)) = G (lay (st3 s r fb fm' fr)) ∧ (∀ y, x ≤ y → y ≤ g 0 → fm' (ix m y i) = meanS g T y i) ∧ (∀ j, (∀ y, x ≤ y → y ≤ g 0 → j ≠ ix m y i) → fm' j = fm j) := by
  intro n
  have b1 := hg.1
  induction n with
  | zero => intro x fm h1; omega
  | succ n ih =>
    intro x fm h1 h2
    have hS := st3_RB (fb := fb) (fm := fm) (fr := fr) hb hr hg h
    rw [X1_fillMeans_L18]
    simp (disch := first | assumption | omega) only [ob, bd_s, jn_s, zz0, zz1, i10, i00, if_true, if_false, bs_g0 hb, hS.1.1.1, iN_lt]
    by_cases c1 : g 0 < x
    · rw [if_pos c1]
      exact ⟨fm, rfl, fun y h3 h4 => by omega, fun j _ => rfl⟩
    · rw [if_neg c1]
      have hx : x ≤ 13 := by omega
      have hl := ix_lt hm hx hi
      have a1 := meanS_aL (x := x) hg hi hB (fun j hj => hT x j (by omega) hj)
      rw [show (0 : Int32) = iN 0 from rfl, show FP.fconst0 = smS g T x i 0 from rfl]
      rw [c_fillM33 hb hr hg hS hm hx hi hB (fun j hj => hT x j (by omega) hj) (fun j hj => by rw [st3_b]; exact hf x j (by omega) hj) FU 0 (by unfold FU; omega) (by omega)]
      simp only [rw_r1 hr, c_spot, ob, bd_s]
      have a2 : nn (FP.fdiv (smS g T x i 3) (FP.i2f (iN (partsS g i)))) = some (meanS g T x i) := nn_aL a1
      rw [a2]
      simp only [ob, rw_s2 hr hl, st3_um, st3_m, iN_add, iN_addL, iN_Ladd, iN_mul, iN_mulL, iN_Lmul]
      obtain ⟨fm', e1, e2, e3⟩ := ih (x + 1) (vf_upd fm (ix m x i) (meanS g T x i)) (by omega) (by omega)
      refine ⟨fm', e1, fun y h3 h4 => ?_, fun j hj => ?_⟩
      · by_cases c2 : y = x
        · subst c2
          rw [e3 _ (fun z h5 h6 e => by have := ix_inj (m := m) (m' := m) (by omega) hi (by omega) hi e; omega), vfu_same]
        · exact e2 y (by omega) h4
      · rw [e3 j (fun y h5 h6 => hj y (by omega) h6), vfu_ne (hj x (Nat.le_refl _) (by omega))]
theorem c_fillM2 {G : Mem → Option (Unit × Mem)} {T : Nat → Nat → UInt32} {m B : Nat} (hb : Bs p) (hr : Rw r) (hg : OKg g) (h : RB s p g) (hm : m ≤ 12) (hB : B ≤ 200000) (hT : ∀ x j, x ≤ g 0 → j < 3 → aL B (T x j)) (hf : ∀ x j, x ≤ g 0 → j < 3 → fb (ix m x j) = T x j) :
    ∀ (n i : Nat) (fm : Nat → UInt32), 3 - i < n → i ≤ 3 → ∃ fm', X1_fillMeans_L2 G r p (iN m) n (iN i) (lay (st3 s r fb fm fr)) = G (lay (st3 s r fb fm' fr)) ∧ (∀ k y, i ≤ k → k < 3 → y ≤ g 0 → fm' (ix m y k) = meanS g T y k) ∧ (∀ j, (∀ k y, k < 3 → y ≤ g 0 → j ≠ ix m y k) → fm' j = fm j) ∧ (∀ k y, k < i → y ≤ g 0 → fm' (ix m y k) = fm (ix m y k)) := by
  intro n
  have b1 := hg.1
  induction n with
  | zero => intro i fm h1; omega
  | succ n ih =>
    intro i fm h1 h2
    have hS := st3_RB (fb := fb) (fm := fm) (fr := fr) hb hr hg h
    rw [X1_fillMeans_L2]
    simp (disch := first | assumption | omega) only [iN_Lle]
    by_cases c1 : 3 ≤ i
    · rw [if_pos c1]
      exact ⟨fm, rfl, fun k y h3 h4 => by omega, fun j _ => rfl, fun _ _ _ _ => rfl⟩
    · rw [if_neg c1]
      have hi : i < 3 := by omega
      simp only [bs_c hb, ob, c_allParts hb hS.1 hi, bd_s, iN_add, iN_addL, iN_Ladd, iN_mul, iN_mulL, iN_Lmul]
      obtain ⟨fm1, e1, e2, e3⟩ := c_fillM18 (G := fun μ_99 => X1_fillMeans_L2 G r p (iN m) n (iN (i + 1)) μ_99) (fr := fr) hb hr hg h hm hi hB hT hf FU 0 fm (by unfold FU; omega) (by omega)
      rw [show (0 : Int32) = iN 0 from rfl, e1]
      obtain ⟨fm2, d1, d2, d3, d4⟩ := ih (i + 1) fm1 (by omega) (by omega)
      refine ⟨fm2, d1, fun k y h3 h4 h5 => ?_, fun j hj => ?_, fun k y hk hy => ?_⟩
      · by_cases c2 : k = i
        · subst c2
          rw [d4 k y (by omega) h5, e2 y (by omega) h5]
        · exact d2 k y (by omega) h4 h5
      · rw [d3 j hj, e3 j (fun y _ h6 => hj i y hi h6)]
      · rw [d4 k y (by omega) hy, e3 _ (fun z h5 h6 e => by have := ix_inj (m := m) (m' := m) (by omega) (by omega) (by omega) hi e; omega)]
theorem c_fillMeans {T : Nat → Nat → UInt32} {m B : Nat} (hb : Bs p) (hr : Rw r) (hg : OKg g) (h : RB s p g) (hm : m ≤ 12) (hB : B ≤ 200000) (hT : ∀ x j, x ≤ g 0 → j < 3 → aL B (T x j)) (hf : ∀ x j, x ≤ g 0 → j < 3 → fb (ix m x j) = T x j) :
    ∃ fm', fX1_fillMeans r p (iN m) (lay (st3 s r fb fm fr)) = some ((), lay (st3 s r fb fm' fr)) ∧ (∀ k y, k < 3 → y ≤ g 0 → fm' (ix m y k) = meanS g T y k) ∧ (∀ j, (∀ k y, k < 3 → y ≤ g 0 → j ≠ ix m y k) → fm' j = fm j) := by
  obtain ⟨fm', e1, e2, e3, _⟩ := c_fillM2 (G := fun μ => some ((), μ)) (fr := fr) hb hr hg h hm hB hT hf FU 0 fm (by unfold FU; omega) (by omega)
  exact ⟨fm', e1, fun k y hk hy => e2 k y (Nat.zero_le _) hk hy, e3⟩
/-- a value, by rows that hold the gains of the month and the means of the next -/
theorem c_valueOf {T : Nat → Nat → UInt32} {m x i k B : Nat} (hb : Bs p) (hr : Rw r) (hg : OKg g) (h : RB s p g) (hm : m < 12) (hx : x ≤ 13) (hi : i < 3) (hk : k ≤ 20) (hB : B ≤ 200000) (hT : ∀ x j, x ≤ g 0 → j < 3 → aL B (T x j))
    (hgn : ∀ y, y < 21 → s.1 (r + 4) (m * 21 + y) = iZ (gainsS g m y)) (hmn : ∀ y j, y ≤ g 0 → j < 3 → s.2.1 (r + 2) (ix (m + 1) y j) = meanS g T y j) :
    fX1_valueOf r p (iN m) (iN i) (iN (restoS g m x (g (4 + 3 * m + i)) k)) (iN (min k (thereS g m x (g (4 + 3 * m + i))))) (lay s) = some (valS g T m x i k, lay s) := by
  have b1 := hg.1
  have hq := inflow_le hg hm hi
  have hth : thereS g m x (g (4 + 3 * m + i)) ≤ 22 := by unfold thereS; omega
  have hre : restoS g m x (g (4 + 3 * m + i)) k ≤ 22 := by unfold restoS; omega
  have htop : topS g m ≤ g 0 := by unfold topS; omega
  have hmk : min k (thereS g m x (g (4 + 3 * m + i))) < 21 := by omega
  have hnx : nextS g m x (g (4 + 3 * m + i)) k ≤ g 0 := next_le
  have hl := ix_lt (m := m + 1) (x := nextS g m x (g (4 + 3 * m + i)) k) (by omega) (by omega) hi
  have hv := (valS_aL (r := k) hg hm hx hi hB hT).1
  unfold fX1_valueOf
  simp (disch := first | assumption | omega) only [ob, bd_s, jn_s, zz0, zz1, i10, i00, if_true, if_false, bs_c hb, c_topOf hb hg h.1 hm, rw_r3 hr, rw_r1 hr, rw_a4 hr, bs_g2 hb, h.1.1.2.2.1, mnI_iN, iN_add, iN_addL, iN_Ladd, iN_mul, iN_mulL, iN_Lmul]
  rw [show min (restoS g m x (g (4 + 3 * m + i)) k) (topS g m) = nextS g m x (g (4 + 3 * m + i)) k from rfl, c_spot, hgn _ hmk]
  simp (disch := first | assumption | omega) only [ob, bd_s, jn_s, zz0, zz1, i10, i00, if_true, if_false, rw_a2 hr, hmn _ i hnx hi]
  rw [iN_sub (by unfold nextS; omega), show restoS g m x (g (4 + 3 * m + i)) k - nextS g m x (g (4 + 3 * m + i)) k = spillS g m x (g (4 + 3 * m + i)) k from rfl, iN_mul, iN_iZ (g 2 * _), iZ_sub, Int.natCast_mul]
  have e : nn (FP.fadd (FP.i2f (iZ (gainsS g m (min k (thereS g m x (g (4 + 3 * m + i)))) - ↑(g 2) * ↑(spillS g m x (g (4 + 3 * m + i)) k)))) (meanS g T (nextS g m x (g (4 + 3 * m + i)) k) i)) = some (valS g T m x i k) := nn_aL hv
  rw [e]
  rfl
end ROWS
