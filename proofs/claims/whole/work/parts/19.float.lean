/-! ===== floats: magnitudes in units of the least number (one32 of them are 1) ===== -/
abbrev mg (x : UInt32) : Nat := FP.Core.zmag FP.Core.b32 (FP.Core.val32 x)
/-- finite, of a magnitude of at most n -/
def aL (n : Nat) (x : UInt32) : Prop := FP.Core.FFin x ∧ mg x ≤ n * FP.Core.one32
theorem aL.mono {n m : Nat} {x : UInt32} (h : aL n x) (hm : n ≤ m) : aL m x := ⟨h.1, Nat.le_trans h.2 (Nat.mul_le_mul_right _ hm)⟩
theorem nn_fin {x : UInt32} (h : FP.Core.FFin x) : nn x = some x := by
  unfold nn
  rw [if_pos]
  rw [UInt32.le_iff_toNat_le, FP.Core.mask_toNat32]
  have := (FP.Core.fin_bits32 x).mp h
  exact Nat.le_of_lt this
theorem nn_aL {n : Nat} {x : UInt32} (h : aL n x) : nn x = some x := nn_fin h.1
theorem fl_qmin : FP.Core.b32.qmin = -149 := by decide
theorem fl_whole (n : Nat) (h : n ≤ 2 ^ 24) : mg (FP.i2f (Int32.ofNat n)) = n * FP.Core.one32 ∧ FP.Core.FFin (FP.i2f (Int32.ofNat n)) := by
  have e : (Int32.ofNat n).toInt = (n : Int) := Int32.toInt_ofNat_of_lt (by omega)
  have h1 : FP.Core.FInt (n : Int) (FP.i2f (Int32.ofNat n)) := by
    have := FP.Core.i2f_int (a := Int32.ofNat n) (by rw [e]; omega)
    rwa [e] at this
  have h2 := FP.Core.FInt_zval h1
  refine ⟨?_, FP.Core.i2f_fin _⟩
  have h3 := congrArg Int.natAbs h2
  unfold FP.Core.zval at h3
  rw [FP.Core.natAbs_signed] at h3
  rw [show ((n : Int) * (FP.Core.one32 : Int)) = ((n * FP.Core.one32 : Nat) : Int) by simp] at h3
  rw [show mg (FP.i2f (Int32.ofNat n)) = FP.Core.zmag FP.Core.b32 (FP.Core.val32 (FP.i2f (Int32.ofNat n))) from rfl, h3]
  rfl
theorem aL_round {x : UInt32} {s : Bool} {A B n : Nat} {e e0 : Int} (hx : FP.Core.val32 x = FP.Core.roundRatio FP.Core.b32 s A B e) (hB : 0 < B) (h0 : e0 ≤ FP.Core.b32.qmin) (h0e : e0 ≤ e) (hn : n ≤ 2 ^ 24)
    (h : FP.Core.inUnits A e e0 ≤ n * FP.Core.one32 * 2 ^ (FP.Core.b32.qmin - e0).toNat * B) : aL n x := by
  obtain ⟨h1, h2⟩ := fl_whole n hn
  have h3 := FP.Core.zmag_roundRatio_le FP.Core.good_b32 (s := s) (V := FP.Core.val32 (FP.i2f (Int32.ofNat n))) hB (FP.Core.val32_fits _) h2.ne_nan h0 h0e (by
    rw [show FP.Core.zmag FP.Core.b32 (FP.Core.val32 (FP.i2f (Int32.ofNat n))) = n * FP.Core.one32 from h1]
    exact h)
  rw [← hx] at h3
  have h4 : mg x ≤ n * FP.Core.one32 := h1 ▸ h3
  refine ⟨?_, h4⟩
  rcases FP.Core.roundRatio_cases FP.Core.b32 s A B e with ⟨c, q, hR⟩ | hR
  · exact ⟨s, c, q, by rw [hx, hR]⟩
  · exfalso
    have h5 : mg x = FP.Core.b32.tails * 2 ^ (FP.Core.b32.exps - 2) := by
      show FP.Core.zmag FP.Core.b32 (FP.Core.val32 x) = _
      rw [hx, hR]
      rfl
    have h6 : n * FP.Core.one32 ≤ 2 ^ 24 * FP.Core.one32 := Nat.mul_le_mul_right _ hn
    have h7 : 2 ^ 24 * FP.Core.one32 < FP.Core.b32.tails * 2 ^ (FP.Core.b32.exps - 2) := by decide +kernel
    omega
theorem aL_add {x y : UInt32} {a b : Nat} (hx : aL a x) (hy : aL b y) (h : a + b ≤ 2 ^ 24) : aL (a + b) (FP.fadd x y) := by
  obtain ⟨⟨s, c, q, e1⟩, m1⟩ := hx
  obtain ⟨⟨t, d, r, e2⟩, m2⟩ := hy
  have f1 := FP.Core.val32_fits x
  have f2 := FP.Core.val32_fits y
  unfold mg at m1 m2
  rw [e1] at f1 m1
  rw [e2] at f2 m2
  obtain ⟨sg, v, e, p1, p2, p3⟩ := FP.Core.sum_units f1 f2
  have hv : FP.Core.val32 (FP.fadd x y) = FP.Core.roundRatio FP.Core.b32 sg v 1 e := by
    rw [FP.Core.val32_fadd, e1, e2, p1]
    rfl
  refine aL_round hv (by decide) (e0 := FP.Core.b32.qmin) (by omega) p2 h ?_
  have h1 : FP.Core.inUnits v e FP.Core.b32.qmin ≤ FP.Core.zmag FP.Core.b32 (.fin s c q) + FP.Core.zmag FP.Core.b32 (.fin t d r) := by
    have := congrArg Int.natAbs p3
    rw [FP.Core.natAbs_signed] at this
    rw [this]
    refine Nat.le_trans (Int.natAbs_add_le _ _) ?_
    unfold FP.Core.zval
    rw [FP.Core.natAbs_signed, FP.Core.natAbs_signed]
    exact Nat.le_refl _
  rw [Int.sub_self, Int.toNat_zero, Nat.pow_zero, Nat.mul_one, Nat.mul_one, Nat.add_mul]
  omega
theorem aL_neg {x : UInt32} {a : Nat} (hx : aL a x) : aL a (FP.Core.fneg x) := by
  obtain ⟨⟨s, c, q, e1⟩, m1⟩ := hx
  have h : FP.Core.val32 (FP.Core.fneg x) = .fin (!s) c q := by
    rw [FP.Core.val32_fneg, e1]
    rfl
  refine ⟨⟨_, _, _, h⟩, ?_⟩
  unfold mg at m1 ⊢
  rw [h]
  rw [e1] at m1
  exact m1
theorem aL_sub {x y : UInt32} {a b : Nat} (hx : aL a x) (hy : aL b y) (h : a + b ≤ 2 ^ 24) : aL (a + b) (FP.fsub x y) := by
  show aL (a + b) (FP.Core.fsub x y)
  rw [FP.Core.fsub_eq]
  exact aL_add hx (aL_neg hy) h
theorem aL_mul {x y : UInt32} {a b : Nat} (hx : aL a x) (hy : aL b y) (h : a * b ≤ 2 ^ 24) : aL (a * b) (FP.fmul x y) := by
  obtain ⟨⟨s, c, q, e1⟩, m1⟩ := hx
  obtain ⟨⟨t, d, r, e2⟩, m2⟩ := hy
  have f1 := FP.Core.val32_fits x
  have f2 := FP.Core.val32_fits y
  unfold mg at m1 m2
  rw [e1] at f1 m1
  rw [e2] at f2 m2
  obtain ⟨p1, p2, p3⟩ := FP.Core.product_units f1 f2
  have hv : FP.Core.val32 (FP.fmul x y) = FP.Core.roundRatio FP.Core.b32 (s != t) (c * d) 1 (q + r) := by
    rw [FP.Core.val32_fmul, e1, e2, p1]
    rfl
  refine aL_round hv (by decide) (e0 := 2 * FP.Core.b32.qmin) (by rw [fl_qmin]; decide) p2 h ?_
  rw [p3, Nat.mul_one]
  have h1 := Nat.mul_le_mul m1 m2
  have h2 : 2 ^ (FP.Core.b32.qmin - 2 * FP.Core.b32.qmin).toNat = FP.Core.one32 := by
    rw [← FP.Core.pow_qmin32]
    rfl
  rw [h2]
  calc FP.Core.zmag FP.Core.b32 (.fin s c q) * FP.Core.zmag FP.Core.b32 (.fin t d r) ≤ a * FP.Core.one32 * (b * FP.Core.one32) := h1
    _ = a * b * FP.Core.one32 * FP.Core.one32 := by ac_rfl
theorem aL_div {x y : UInt32} {D b : Nat} (hx : aL (D * b) x) (hy : FP.Core.FFin y) (hD : mg y = D * FP.Core.one32) (hD0 : 0 < D) (h : b ≤ 2 ^ 24) : aL b (FP.fdiv x y) := by
  obtain ⟨⟨s, c, q, e1⟩, m1⟩ := hx
  obtain ⟨t, d, r, e2⟩ := hy
  have f1 := FP.Core.val32_fits x
  have f2 := FP.Core.val32_fits y
  unfold mg at m1 hD
  rw [e1] at f1 m1
  rw [e2] at f2 hD
  have hpos := FP.Core.one32_pos
  have hd0 : d ≠ 0 := by
    rintro rfl
    have h1 : FP.Core.zmag FP.Core.b32 (.fin t 0 r) = 0 := Nat.zero_mul _
    have := Nat.mul_pos hD0 hpos
    omega
  have hv : FP.Core.val32 (FP.fdiv x y) = FP.Core.roundRatio FP.Core.b32 (s != t) c d (q - r) := by
    rw [FP.Core.val32_fdiv, e1, e2]
    simp only [FP.Core.quotient, if_neg hd0]
  have hx1 := f1.2.1
  have hy1 := f2.2.1
  have hqm := fl_qmin
  refine aL_round hv (by omega) (e0 := 2 * FP.Core.b32.qmin - r) (by omega) (by omega) h ?_
  have e3 : FP.Core.inUnits c (q - r) (2 * FP.Core.b32.qmin - r) = FP.Core.zmag FP.Core.b32 (.fin s c q) * FP.Core.one32 := by
    rw [← FP.Core.pow_qmin32]
    show c * _ = c * _ * _
    rw [Nat.mul_assoc, ← Nat.pow_add]; congr 2; omega
  have e4 : 2 ^ (FP.Core.b32.qmin - (2 * FP.Core.b32.qmin - r)).toNat * d = FP.Core.zmag FP.Core.b32 (.fin t d r) := by
    show _ = d * _
    rw [Nat.mul_comm]; congr 2; omega
  rw [e3, Nat.mul_assoc, e4, hD]
  calc FP.Core.zmag FP.Core.b32 (.fin s c q) * FP.Core.one32 ≤ D * b * FP.Core.one32 * FP.Core.one32 := Nat.mul_le_mul_right _ m1
    _ = b * FP.Core.one32 * (D * FP.Core.one32) := by ac_rfl
theorem aL_int {v : Int32} {n : Nat} (h : v.toInt.natAbs ≤ n) (hn : n ≤ 2 ^ 24) : aL n (FP.i2f v) := by
  have h1 : FP.Core.FInt v.toInt (FP.i2f v) := FP.Core.i2f_int (by omega)
  have h2 := FP.Core.FInt_zval h1
  refine ⟨FP.Core.i2f_fin _, ?_⟩
  have h3 := congrArg Int.natAbs h2
  unfold FP.Core.zval at h3
  rw [FP.Core.natAbs_signed, Int.natAbs_mul] at h3
  show FP.Core.zmag FP.Core.b32 (FP.Core.val32 (FP.i2f v)) ≤ _
  rw [h3]
  exact Nat.mul_le_mul_right _ h
theorem aL_zero : aL 0 FP.fconst0 := by
  have := aL_int (v := 0) (n := 0) (by decide) (by decide)
  have e : FP.i2f 0 = FP.fconst0 := by decide +kernel
  rwa [e] at this
theorem aL_one : aL 1 FP.fconst1 := by
  have := aL_int (v := 1) (n := 1) (by decide) (by decide)
  have e : FP.i2f 1 = FP.fconst1 := by decide +kernel
  rwa [e] at this
/-! ===== the sign of a zero ===== -/
/-- not the zero with a sign -/
def nzr (x : UInt32) : Prop := x ≠ 0x80000000
theorem nzr_of {x : UInt32} (h : ∀ q, FP.Core.val32 x ≠ .fin true 0 q) : nzr x := by
  intro e
  subst e
  exact h FP.Core.b32.qmin FP.Core.val32_fzeroNeg
theorem nzr_spec {x : UInt32} {q : Int} (h : nzr x) : FP.Core.val32 x ≠ .fin true 0 q := by
  intro e
  apply h
  have f := FP.Core.val32_fits x
  rw [e] at f
  have hq := FP.Core.fits_zero_q FP.Core.good_b32 f
  subst hq
  exact FP.Core.val32_inj (by rw [e]; exact FP.Core.Datum.noConfusion) (by rw [e]; exact FP.Core.val32_fzeroNeg.symm)
theorem round_zero {s t : Bool} {A : Nat} {e q : Int} (h : FP.Core.roundRatio FP.Core.b32 s A 1 e = .fin t 0 q) (he : FP.Core.b32.qmin ≤ e) : A = 0 := by
  refine Nat.eq_zero_of_not_pos fun hA => ?_
  have hv : FP.Core.val32 1 = .fin false 1 FP.Core.b32.qmin := by decide +kernel
  have h1 := FP.Core.zmag_roundRatio_ge FP.Core.good_b32 (s := s) (A := A) (B := 1) (e := e) (e0 := FP.Core.b32.qmin) (V := FP.Core.val32 1) (by decide) (FP.Core.val32_fits _) (by omega) he (by
    rw [hv, Int.sub_self, Int.toNat_zero, Nat.pow_zero, Nat.mul_one, Nat.mul_one]
    show 1 * 2 ^ (FP.Core.b32.qmin - FP.Core.b32.qmin).toNat ≤ A * 2 ^ (e - FP.Core.b32.qmin).toNat
    rw [Int.sub_self, Int.toNat_zero, Nat.pow_zero]
    exact Nat.mul_le_mul hA (Nat.two_pow_pos _))
  rw [h, hv] at h1
  have h2 : FP.Core.zmag FP.Core.b32 (.fin false 1 FP.Core.b32.qmin) = 1 := by decide +kernel
  have h3 : FP.Core.zmag FP.Core.b32 (.fin t 0 q) = 0 := Nat.zero_mul _
  omega
theorem nzr_sum {x y z : UInt32} {Y : FP.Core.Datum} (hz : FP.Core.val32 z = FP.Core.round FP.Core.b32 (FP.Core.exactSum (FP.Core.val32 x) Y)) (fY : FP.Core.fits FP.Core.b32 Y) (hx : FP.Core.FFin x) (hy : ∃ t d r, Y = .fin t d r) (hn : nzr x) : nzr z := by
  apply nzr_of
  intro q0 e0
  obtain ⟨s, c, q, e1⟩ := hx
  obtain ⟨t, d, r, rfl⟩ := hy
  have f1 := FP.Core.val32_fits x
  rw [e1] at f1
  rw [e0, e1] at hz
  unfold FP.Core.exactSum FP.Core.round at hz
  have h1 := f1.2.1
  have h2 := fY.2.1
  have hA := round_zero hz.symm (by omega)
  have hv : FP.Core.sumUnits s c q t d r (min q r) = 0 := Int.natAbs_eq_zero.mp hA
  have hs := congrArg FP.Core.sgn hz
  rw [FP.Core.sgn_roundRatio, hv] at hs
  simp only [FP.Core.sgn, FP.Core.sumSign, if_true] at hs
  have hs1 : s = true ∧ t = true := by cases s <;> cases t <;> first | exact ⟨rfl, rfl⟩ | cases hs
  obtain ⟨rfl, rfl⟩ := hs1
  unfold FP.Core.sumUnits at hv
  simp only [FP.Core.signed, if_true] at hv
  have hc : FP.Core.inUnits c q (min q r) = 0 := by omega
  unfold FP.Core.inUnits at hc
  rcases Nat.mul_eq_zero.mp hc with h | h
  · subst h
    exact nzr_spec hn e1
  · have := Nat.two_pow_pos (q - min q r).toNat
    omega
theorem nzr_add {x y : UInt32} (hx : FP.Core.FFin x) (hy : FP.Core.FFin y) (hn : nzr x) : nzr (FP.fadd x y) :=
  nzr_sum (y := y) (FP.Core.val32_fadd x y) (FP.Core.val32_fits y) hx hy hn
theorem nzr_sub {x y : UInt32} (hx : FP.Core.FFin x) (hy : FP.Core.FFin y) (hn : nzr x) : nzr (FP.fsub x y) := by
  refine nzr_sum (y := y) (FP.Core.val32_fsub x y) (FP.Core.negate_fits (FP.Core.val32_fits y)) hx ?_ hn
  obtain ⟨t, d, r, e⟩ := hy
  exact ⟨!t, d, r, by rw [e]; rfl⟩
/-- no sign -/
def pos0 (x : UInt32) : Prop := FP.Core.FFin x ∧ FP.Core.sgn (FP.Core.val32 x) = false
theorem pos0.nz {x : UInt32} (h : pos0 x) : nzr x := nzr_of fun q e => by
  have := h.2
  rw [e] at this
  cases this
theorem nzr_i2f (v : Int32) : nzr (FP.i2f v) := by
  apply nzr_of
  intro q e
  have h1 : FP.Core.val32 (FP.i2f v) = FP.Core.roundRatio FP.Core.b32 (decide (v.toInt < 0)) v.toInt.natAbs 1 0 := FP.Core.val32_i2f v
  rw [e] at h1
  have h2 := round_zero h1.symm (by rw [fl_qmin]; decide)
  have h3 := congrArg FP.Core.sgn h1
  rw [FP.Core.sgn_roundRatio] at h3
  have h4 : v.toInt < 0 := of_decide_eq_true h3.symm
  omega
theorem pos0_i2f {v : Int32} (h : 0 ≤ v.toInt) : pos0 (FP.i2f v) := by
  refine ⟨FP.Core.i2f_fin _, ?_⟩
  have h1 : FP.Core.val32 (FP.i2f v) = FP.Core.roundRatio FP.Core.b32 (decide (v.toInt < 0)) v.toInt.natAbs 1 0 := FP.Core.val32_i2f v
  rw [h1, FP.Core.sgn_roundRatio]
  exact decide_eq_false (by omega)
theorem pos0_mul {x y : UInt32} {n : Nat} (hx : pos0 x) (hy : pos0 y) (h : aL n (FP.fmul x y)) : pos0 (FP.fmul x y) := by
  refine ⟨h.1, ?_⟩
  obtain ⟨⟨s, c, q, e1⟩, s1⟩ := hx
  obtain ⟨⟨t, d, r, e2⟩, s2⟩ := hy
  rw [e1] at s1
  rw [e2] at s2
  simp only [FP.Core.sgn] at s1 s2
  subst s1
  subst s2
  rw [FP.Core.val32_fmul, e1, e2]
  exact FP.Core.sgn_roundRatio ..
theorem pos0_div {x y : UInt32} {n : Nat} (hx : pos0 x) (hy : pos0 y) (h : aL n (FP.fdiv x y)) : pos0 (FP.fdiv x y) := by
  refine ⟨h.1, ?_⟩
  obtain ⟨⟨s0, c0, q0, e0⟩, h0⟩ := h
  obtain ⟨⟨s, c, q, e1⟩, s1⟩ := hx
  obtain ⟨⟨t, d, r, e2⟩, s2⟩ := hy
  rw [e1] at s1
  rw [e2] at s2
  simp only [FP.Core.sgn] at s1 s2
  subst s1
  subst s2
  have h1 := FP.Core.val32_fdiv x y
  rw [e1, e2] at h1
  show FP.Core.sgn (FP.Core.val32 (FP.Core.fdiv x y)) = false
  simp only [FP.Core.quotient] at h1
  split at h1
  · split at h1
    · rw [h1]; rfl
    · rw [h1]; rfl
  · rw [h1]
    exact FP.Core.sgn_roundRatio ..
