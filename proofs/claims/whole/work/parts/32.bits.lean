/-! ===== the bits of a float ===== -/
/-- positive, so many of the least numbers -/
def ps (z : Nat) (r : UInt32) : Prop := pos0 r ∧ mg r = z
theorem ps_zval {z : Nat} {r : UInt32} (h : ps z r) : FP.Core.zval FP.Core.b32 (FP.Core.val32 r) = (z : Int) := by
  unfold FP.Core.zval
  rw [h.1.2]
  show ((mg r : Nat) : Int) = z
  rw [h.2]
theorem one32_eq : FP.Core.one32 = 2 ^ 149 := rfl
theorem zval_two : FP.Core.zval FP.Core.b32 (FP.Core.val32 FP.fconst2) = ((2 ^ 150 : Nat) : Int) := by decide +kernel
theorem zval_one : FP.Core.zval FP.Core.b32 (FP.Core.val32 FP.fconst1) = ((2 ^ 149 : Nat) : Int) := by decide +kernel
theorem nan_two : FP.Core.val32 FP.fconst2 ≠ .nan := by decide +kernel
theorem nan_one : FP.Core.val32 FP.fconst1 ≠ .nan := by decide +kernel
theorem cmp_nat {a b : Nat} : (compare (a : Int) (b : Int) = .lt) = (a < b) ∧ (compare (a : Int) (b : Int) = .gt) = (b < a) ∧ (compare (a : Int) (b : Int) = .eq) = (a = b) := by
  refine ⟨propext ?_, propext ?_, propext ?_⟩
  · rw [FP.Core.compare_lt_iff]; omega
  · rw [FP.Core.compare_gt_iff]; omega
  · rw [FP.Core.compare_eq_iff]; omega
theorem lt_two {z : Nat} {r : UInt32} (h : ps z r) : (Op.cmpValue (FP.fcmp r FP.fconst2) .l < 0) = (z < 2 ^ 150) := by
  have e : FP.fcmp r FP.fconst2 = some (compare (z : Int) ((2 ^ 150 : Nat) : Int)) := by
    rw [← zval_two, ← ps_zval h]
    exact FP.Core.fcmp_zval h.1.1.ne_nan nan_two
  rw [e]
  obtain ⟨h1, h2, h3⟩ := cmp_nat (a := z) (b := 2 ^ 150)
  generalize compare (z : Int) ((2 ^ 150 : Nat) : Int) = o at *
  rw [← h1]
  cases o
  · exact propext ⟨fun _ => rfl, fun _ => (by decide)⟩
  · exact propext ⟨fun h => absurd h (by decide), fun h => (by cases h)⟩
  · exact propext ⟨fun h => absurd h (by decide), fun h => (by cases h)⟩
theorem ge_one {z : Nat} {r : UInt32} (h : ps z r) : (0 ≤ Op.cmpValue (FP.fcmp r FP.fconst1) .g) = (2 ^ 149 ≤ z) := by
  have e : FP.fcmp r FP.fconst1 = some (compare (z : Int) ((2 ^ 149 : Nat) : Int)) := by
    rw [← zval_one, ← ps_zval h]
    exact FP.Core.fcmp_zval h.1.1.ne_nan nan_one
  rw [e]
  obtain ⟨h1, h2, h3⟩ := cmp_nat (a := z) (b := 2 ^ 149)
  generalize compare (z : Int) ((2 ^ 149 : Nat) : Int) = o at *
  have h4 : (2 ^ 149 ≤ z) = ¬ (z < 2 ^ 149) := propext (by omega)
  rw [h4, ← h1]
  cases o
  · exact propext ⟨fun h => absurd h (by decide), fun h => absurd rfl h⟩
  · exact propext ⟨fun _ h => (by cases h), fun _ => (by decide)⟩
  · exact propext ⟨fun _ h => (by cases h), fun _ => (by decide)⟩
theorem fin_mg {s : Bool} {c : Nat} {q : Int} : FP.Core.zmag FP.Core.b32 (.fin s c q) = c * 2 ^ (q + 149).toNat := by
  show c * 2 ^ (q - FP.Core.b32.qmin).toNat = _
  rw [fl_qmin]
  congr 3
theorem ps_fin {z : Nat} {r : UInt32} (h : ps z r) : ∃ c q, FP.Core.val32 r = .fin false c q ∧ c * 2 ^ (q + 149).toNat = z ∧ c < 2 ^ 24 ∧ -149 ≤ q ∧ q ≤ 104 ∧ (q = -149 ∨ 2 ^ 23 ≤ c) := by
  obtain ⟨⟨⟨s, c, q, e⟩, h2⟩, h3⟩ := h
  have f := FP.Core.val32_fits r
  rw [e] at f h2
  simp only [FP.Core.sgn] at h2
  subst h2
  obtain ⟨f1, f2, f3, f4⟩ := f
  rw [fl_qmin] at f2 f4
  have e2 : FP.Core.b32.qmax = 104 := by decide
  rw [e2] at f3
  refine ⟨c, q, e, ?_, f1, f2, f3, f4⟩
  rw [← h3]
  show _ = FP.Core.zmag FP.Core.b32 (FP.Core.val32 r)
  rw [e, fin_mg]
theorem ps_of {r : UInt32} {c : Nat} {q : Int} (h : FP.Core.val32 r = .fin false c q) : ps (c * 2 ^ (q + 149).toNat) r := by
  refine ⟨⟨⟨_, _, _, h⟩, by rw [h]; rfl⟩, ?_⟩
  show FP.Core.zmag FP.Core.b32 (FP.Core.val32 r) = _
  rw [h, fin_mg]
theorem fits_of {c : Nat} {q : Int} (h1 : c < 2 ^ 24) (h2 : -149 ≤ q) (h3 : q ≤ 104) (h4 : q = -149 ∨ 2 ^ 23 ≤ c) : FP.Core.fits FP.Core.b32 (.fin false c q) := by
  have e2 : FP.Core.b32.qmax = 104 := by decide
  refine ⟨h1, ?_, ?_, ?_⟩
  · rw [fl_qmin]; exact h2
  · rw [e2]; exact h3
  · rw [fl_qmin]; exact h4
theorem pow_lt_of {c n k m : Nat} (hc : c < 2 ^ n) (h : 2 ^ m ≤ c * 2 ^ k) : m < n + k := by
  refine Nat.lt_of_not_le fun hle => ?_
  have h1 : c * 2 ^ k < 2 ^ n * 2 ^ k := Nat.mul_lt_mul_of_pos_right hc (Nat.two_pow_pos _)
  rw [← Nat.pow_add] at h1
  have h2 : 2 ^ (n + k) ≤ 2 ^ m := Nat.pow_le_pow_right (by decide) hle
  omega
theorem val_two : FP.Core.val32 FP.fconst2 = .fin false (2 ^ 23) (-22) := by decide +kernel
theorem val_big : FP.Core.val32 1258291200 = .fin false (2 ^ 23) 0 := by decide +kernel
theorem dbl {z : Nat} {r : UInt32} (h : ps z r) (hz : z < 2 ^ 150) : ps (2 * z) (FP.fmul r FP.fconst2) := by
  obtain ⟨c, q, e, ez, f1, f2, f3, f4⟩ := ps_fin h
  have hv : FP.Core.val32 (FP.fmul r FP.fconst2) = FP.Core.roundRatio FP.Core.b32 false (c * 2 ^ 23) 1 (q + -22) := by
    rw [FP.Core.val32_fmul, e, val_two]
    rfl
  by_cases hc : 2 ^ 23 ≤ c
  · have hq : q < 104 := by
      refine Int.lt_of_not_ge fun hge => ?_
      have h1 : 2 ^ (q + 149).toNat * 1 ≤ c * 2 ^ (q + 149).toNat := by
        rw [Nat.mul_comm]
        exact Nat.mul_le_mul_right _ (by omega)
      have h2 : 2 ^ 150 ≤ 2 ^ (q + 149).toNat := Nat.pow_le_pow_right (by decide) (by omega)
      omega
    have hx := FP.Core.roundRatio_exact FP.Core.good_b32 (s := false) (A := c * 2 ^ 23) (B := 1) (c := c) (e := q + -22) (q := q + 1) (by decide) (fits_of f1 (by omega) (by omega) (Or.inr hc)) (by
      rw [show (q + -22 - (q + 1)).toNat = 0 by omega, show (q + 1 - (q + -22)).toNat = 23 by omega, Nat.pow_zero, Nat.mul_one, Nat.mul_one])
    rw [hx] at hv
    have := ps_of hv
    rw [show (q + 1 + 149).toNat = (q + 149).toNat + 1 by omega, Nat.pow_succ, ← Nat.mul_assoc, ez, Nat.mul_comm] at this
    exact this
  · have hq : q = -149 := by omega
    have hx := FP.Core.roundRatio_exact FP.Core.good_b32 (s := false) (A := c * 2 ^ 23) (B := 1) (c := 2 * c) (e := q + -22) (q := q) (by decide) (fits_of (by omega) f2 f3 (Or.inl hq)) (by
      rw [show (q + -22 - q).toNat = 0 by omega, show (q - (q + -22)).toNat = 22 by omega, Nat.pow_zero, Nat.mul_one, Nat.mul_one]
      omega)
    rw [hx] at hv
    have := ps_of hv
    rw [Nat.mul_assoc, ez] at this
    exact this
theorem hlv {z : Nat} {r : UInt32} (h : ps (2 * z) r) (hz : 2 ^ 150 ≤ 2 * z) : ps z (FP.fdiv r FP.fconst2) := by
  obtain ⟨c, q, e, ez, f1, f2, f3, f4⟩ := ps_fin h
  have hq : -22 ≤ q := by
    rw [← ez] at hz
    have := pow_lt_of f1 hz
    omega
  have hc : 2 ^ 23 ≤ c := by omega
  have hv : FP.Core.val32 (FP.fdiv r FP.fconst2) = FP.Core.roundRatio FP.Core.b32 false c (2 ^ 23) (q - -22) := by
    rw [FP.Core.val32_fdiv, e, val_two]
    rfl
  have hx := FP.Core.roundRatio_exact FP.Core.good_b32 (s := false) (A := c) (B := 2 ^ 23) (c := c) (e := q - -22) (q := q - 1) (by decide) (fits_of f1 (by omega) (by omega) (Or.inr hc)) (by
    rw [show (q - -22 - (q - 1)).toNat = 23 by omega, show (q - 1 - (q - -22)).toNat = 0 by omega, Nat.pow_zero, Nat.mul_one])
  rw [hx] at hv
  have := ps_of hv
  have e2 : 2 * (c * 2 ^ (q - 1 + 149).toNat) = 2 * z := by
    rw [← ez, show (q + 149).toNat = (q - 1 + 149).toNat + 1 by omega, Nat.pow_succ]
    generalize 2 ^ (q - 1 + 149).toNat = K
    rw [← Nat.mul_assoc c K 2]
    omega
  rw [show c * 2 ^ (q - 1 + 149).toNat = z by omega] at this
  exact this
theorem big {c0 : Nat} {r : UInt32} (h : ps (c0 * 2 ^ 126) r) (h0 : 0 < c0) (h1 : c0 < 2 ^ 24) : FP.Core.FFin (FP.fmul r 1258291200) ∧ FP.f2i (FP.fmul r 1258291200) = iN c0 := by
  obtain ⟨c, q, e, ez, f1, f2, f3, f4⟩ := ps_fin h
  have hz : 2 ^ 126 ≤ c * 2 ^ (q + 149).toNat := by
    rw [ez]
    have := Nat.mul_le_mul_right (2 ^ 126) h0
    omega
  have hq := pow_lt_of f1 hz
  have hc : 2 ^ 23 ≤ c := by omega
  have hq2 : q < 80 := by
    refine Int.lt_of_not_ge fun hge => ?_
    have h3 : 2 ^ (q + 149).toNat * 1 ≤ c * 2 ^ (q + 149).toNat := by
      rw [Nat.mul_comm]
      exact Nat.mul_le_mul_right _ (by omega)
    have h2 : 2 ^ 229 ≤ 2 ^ (q + 149).toNat := Nat.pow_le_pow_right (by decide) (by omega)
    have h4 : c0 * 2 ^ 126 ≤ 2 ^ 24 * 2 ^ 126 := Nat.mul_le_mul_right _ (by omega)
    omega
  have hv : FP.Core.val32 (FP.fmul r 1258291200) = FP.Core.roundRatio FP.Core.b32 false (c * 2 ^ 23) 1 (q + 0) := by
    rw [FP.Core.val32_fmul, e, val_big]
    rfl
  have hx := FP.Core.roundRatio_exact FP.Core.good_b32 (s := false) (A := c * 2 ^ 23) (B := 1) (c := c) (e := q + 0) (q := q + 23) (by decide) (fits_of f1 (by omega) (by omega) (Or.inr hc)) (by
    rw [show (q + 0 - (q + 23)).toNat = 0 by omega, show (q + 23 - (q + 0)).toNat = 23 by omega, Nat.pow_zero, Nat.mul_one, Nat.mul_one])
  rw [hx] at hv
  have hp := ps_of hv
  have e3 : c * 2 ^ (q + 23 + 149).toNat = c0 * 2 ^ 149 := by
    rw [show (q + 23 + 149).toNat = (q + 149).toNat + 23 by omega, Nat.pow_add, ← Nat.mul_assoc, ez, Nat.mul_assoc, ← Nat.pow_add]
  rw [e3] at hp
  refine ⟨hp.1.1, ?_⟩
  apply Int32.toInt.inj
  have h5 := FP.Core.f2i_val hp.1.1.ne_nan
  rw [hp.1.2] at h5
  have h6 : FP.Core.zmag FP.Core.b32 (FP.Core.val32 (FP.fmul r 1258291200)) / FP.Core.one32 = c0 := by
    rw [show FP.Core.zmag FP.Core.b32 (FP.Core.val32 (FP.fmul r 1258291200)) = c0 * 2 ^ 149 from hp.2, one32_eq]
    exact Nat.mul_div_cancel _ (Nat.two_pow_pos _)
  rw [show FP.Core.zmag FP.Core.b32 (FP.Core.val32 (FP.Core.fmul r 1258291200)) / FP.Core.one32 = c0 from h6] at h5
  rw [iN_toInt (by omega)]
  refine Eq.trans h5 ?_
  simp only [FP.Core.signed, Bool.false_eq_true, if_false]
  omega
theorem b_loop1 {G : UInt32 → Int32 → Mem → Option (Int32 × Mem)} {v0 : UInt32} {c j : Nat} {μ : Mem} (hj : j ≤ 253) (hc0 : 0 < c) (hc : c < 2 ^ 24) (hn : j = 0 ∨ 2 ^ 23 ≤ c) : ∀ (n k : Nat) (r : UInt32), k < n → k ≤ j → (126 ≤ k ∨ k = j) → ps (c * 2 ^ k) r → ∃ r', X10_bitsOf_L24 G v0 n r (iN (127 + (j - k))) μ = G r' (iN (127 + (j - min j 126))) μ ∧ ps (c * 2 ^ (min j 126)) r' := by
  intro n
  induction n with
  | zero => intro k r h; omega
  | succ n ih =>
    intro k r h1 h2 h3 h4
    rw [X10_bitsOf_L24]
    simp only [lt_two h4]
    by_cases c1 : k ≤ 126
    · rw [if_pos]
      · rw [show min j 126 = k by omega]
        exact ⟨r, rfl, h4⟩
      · have q1 : c * 2 ^ k < 2 ^ 24 * 2 ^ k := Nat.mul_lt_mul_of_pos_right hc (Nat.two_pow_pos _)
        have q2 : 2 ^ 24 * 2 ^ k ≤ 2 ^ 24 * 2 ^ 126 := Nat.mul_le_mul_left _ (Nat.pow_le_pow_right (by decide) c1)
        omega
    · obtain ⟨k', rfl⟩ : ∃ k', k = k' + 1 := ⟨k - 1, by omega⟩
      have e1 : c * 2 ^ (k' + 1) = 2 * (c * 2 ^ k') := by
        rw [Nat.pow_succ, ← Nat.mul_assoc, Nat.mul_comm]
      have q3 : 2 ^ 150 ≤ c * 2 ^ (k' + 1) := by
        have q1 : 2 ^ 23 * 2 ^ (k' + 1) ≤ c * 2 ^ (k' + 1) := Nat.mul_le_mul_right _ (by omega)
        have q2 : 2 ^ 23 * 2 ^ 127 ≤ 2 ^ 23 * 2 ^ (k' + 1) := Nat.mul_le_mul_left _ (Nat.pow_le_pow_right (by decide) (by omega))
        omega
      rw [if_neg (by omega)]
      simp (disch := first | assumption | omega) only [iN_Lle]
      rw [if_neg (by omega)]
      rw [e1] at h4 q3
      have h5 := hlv h4 q3
      rw [nn_fin h5.1.1]
      simp only [ob, iN_add, iN_addL, iN_Ladd, iN_mul, iN_mulL, iN_Lmul]
      have i1 := ih k' _ (by omega) (by omega) (by omega) h5
      rw [show 127 + (j - (k' + 1)) + 1 = 127 + (j - k') by omega]
      exact i1
theorem b_loop2 {G : UInt32 → Int32 → Mem → Option (Int32 × Mem)} {v0 : UInt32} {c j : Nat} {μ : Mem} (hc0 : 0 < c) (hc : c < 2 ^ 24) (hn : j = 0 ∨ 2 ^ 23 ≤ c) (hj : j ≤ 126) : ∀ (n k : Nat) (r : UInt32), 126 - k < n → j ≤ k → k ≤ 126 → ps (c * 2 ^ k) r → ∃ r', X10_bitsOf_L47 G v0 n r (iN (127 - (k - j))) μ = G r' (iN (j + 1)) μ ∧ ps (c * 2 ^ 126) r' := by
  intro n
  induction n with
  | zero => intro k r h; omega
  | succ n ih =>
    intro k r h1 h2 h3 h4
    rw [X10_bitsOf_L47]
    simp only [ge_one h4]
    by_cases c1 : k = 126
    · subst c1
      have e1 : 127 - (126 - j) = j + 1 := by omega
      rw [e1]
      by_cases c2 : 2 ^ 149 ≤ c * 2 ^ 126
      · rw [if_pos c2]
        exact ⟨r, rfl, h4⟩
      · rw [if_neg c2]
        have hj0 : j = 0 := by
          rcases hn with hn | hn
          · exact hn
          · exfalso
            have q1 : 2 ^ 23 * 2 ^ 126 ≤ c * 2 ^ 126 := Nat.mul_le_mul_right _ hn
            omega
        subst hj0
        simp (disch := first | assumption | omega) only [iN_leL]
        rw [if_pos (by omega)]
        exact ⟨r, rfl, h4⟩
    · have q1 : c * 2 ^ k < 2 ^ 149 := by
        have q1 : c * 2 ^ k < 2 ^ 24 * 2 ^ k := Nat.mul_lt_mul_of_pos_right hc (Nat.two_pow_pos _)
        have q2 : 2 ^ 24 * 2 ^ k ≤ 2 ^ 24 * 2 ^ 125 := Nat.mul_le_mul_left _ (Nat.pow_le_pow_right (by decide) (by omega))
        omega
      rw [if_neg (by omega)]
      simp (disch := first | assumption | omega) only [iN_leL]
      rw [if_neg (by omega)]
      have h5 := dbl h4 (by omega)
      rw [nn_fin h5.1.1]
      simp only [ob]
      have e1 : c * 2 ^ (k + 1) = 2 * (c * 2 ^ k) := by
        rw [Nat.pow_succ, ← Nat.mul_assoc, Nat.mul_comm]
      rw [← e1] at h5
      have e2 : iN (127 - (k - j)) + -1 = iN (127 - (k + 1 - j)) := by
        rw [iN_iZ, iN_iZ, show (-1 : Int32) = iZ (-1) from rfl, iZ_add]
        congr 1
        omega
      rw [e2]
      exact ih (k + 1) _ (by omega) (by omega) (by omega) h5
theorem bits_ps {a : UInt32} (h0 : 0 < a.toNat) (h1 : a.toNat < 2139095040) : ∃ c j, ps (c * 2 ^ j) a ∧ a.toNat = j * 8388608 + c ∧ 0 < c ∧ c < 2 ^ 24 ∧ j ≤ 253 ∧ (j = 0 ∨ 2 ^ 23 ≤ c) := by
  have hm : a.toNat % 2 ^ 31 = a.toNat := Nat.mod_eq_of_lt (by omega)
  have hf : FP.Core.FFin a := (FP.Core.fin_bits32 a).mpr (by rw [hm]; exact h1)
  have hs : FP.Core.sgn (FP.Core.val32 a) = false := by
    rw [FP.Core.sgn_bits32 hf.ne_nan]
    exact decide_eq_false (by omega)
  have hz := FP.Core.zmag_toNat32 hf.ne_nan
  rw [hm] at hz
  have ht : FP.Core.b32.tails = 8388608 := by decide
  unfold FP.Core.unitsOf at hz
  rw [ht] at hz
  by_cases hc : a.toNat < 8388608
  · rw [if_pos hc] at hz
    refine ⟨a.toNat, 0, ⟨⟨hf, hs⟩, ?_⟩, by omega, h0, by omega, by omega, Or.inl rfl⟩
    rw [Nat.pow_zero, Nat.mul_one]
    exact hz
  · rw [if_neg hc] at hz
    refine ⟨8388608 + a.toNat % 8388608, a.toNat / 8388608 - 1, ⟨⟨hf, hs⟩, hz⟩, by omega, by omega, by omega, by omega, Or.inr (by omega)⟩
theorem shl23 {e : Nat} (h : e < 255) : iN e <<< ((23 : Int32) &&& 31) = iN (e * 8388608) := by
  have : ∀ e < 255, iN e <<< ((23 : Int32) &&& 31) = iN (e * 8388608) := by decide +kernel
  exact this e h
theorem b_main {v0 a : UInt32} {μ : Mem} {K : Int32 → Int32 → Mem → Option (Int32 × Mem)} (h0 : 0 < a.toNat) (h1 : a.toNat < 2139095040) : ∃ e c : Nat, X10_bitsOf_L24 (fun v1_47 v2_47 μ_47 => X10_bitsOf_L47 (fun v1_68 v2_68 μ_68 => (nn (FP.fmul v1_68 ((1258291200 : UInt32)))).bind fun x72 => K v2_68 (FP.f2i x72) μ_68) v0 FU v1_47 v2_47 μ_47) v0 FU a ((127 : Int32)) μ = K (iN e) (iN c) μ ∧ e * 8388608 + c = a.toNat + 8388608 ∧ e < 255 := by
  obtain ⟨c, j, p1, p2, p3, p4, p5, p6⟩ := bits_ps h0 h1
  obtain ⟨r1, q1, q2⟩ := b_loop1 (G := fun v1_47 v2_47 μ_47 => X10_bitsOf_L47 (fun v1_68 v2_68 μ_68 => (nn (FP.fmul v1_68 ((1258291200 : UInt32)))).bind fun x72 => K v2_68 (FP.f2i x72) μ_68) v0 FU v1_47 v2_47 μ_47) (v0 := v0) (μ := μ) p5 p3 p4 p6 FU j a (by unfold FU; omega) (Nat.le_refl _) (Or.inr rfl) p1
  rw [Nat.sub_self] at q1
  refine ⟨j + 1, c, ?_, by omega, by omega⟩
  refine Eq.trans q1 ?_
  by_cases hj : j ≤ 126
  · rw [Nat.min_eq_left hj] at q2 ⊢
    obtain ⟨r2, s1, s2⟩ := b_loop2 (G := fun v1_68 v2_68 μ_68 => (nn (FP.fmul v1_68 ((1258291200 : UInt32)))).bind fun x72 => K v2_68 (FP.f2i x72) μ_68) (v0 := v0) (μ := μ) p3 p4 p6 hj FU j r1 (by unfold FU; omega) (Nat.le_refl _) hj q2
    rw [Nat.sub_self] at s1 ⊢
    refine Eq.trans s1 ?_
    obtain ⟨b1, b2⟩ := big s2 p3 p4
    show (nn (FP.fmul r2 1258291200)).bind _ = _
    rw [nn_fin b1]
    simp only [ob, b2]
  · rw [Nat.min_eq_right (by omega)] at q2 ⊢
    have hc : 2 ^ 23 ≤ c := by omega
    obtain ⟨b1, b2⟩ := big q2 p3 p4
    show X10_bitsOf_L47 _ v0 (9999 + 1) r1 _ μ = _
    rw [X10_bitsOf_L47]
    simp only [ge_one q2]
    rw [if_pos (by have := Nat.mul_le_mul_right (2 ^ 126) hc; omega)]
    rw [nn_fin b1]
    simp only [ob, b2]
    rw [show 127 + (j - 126) = j + 1 by omega]
theorem u32_i (x : UInt32) : x.toInt32 = iN x.toNat := by
  have := UInt32.toInt32_ofNat' (n := x.toNat)
  rw [UInt32.ofNat_toNat] at this
  exact this
theorem cv_eq0 (o : Option Ordering) : (Op.cmpValue o .l = 0) = (o = some .eq) := by
  rcases o with _ | o
  · exact propext ⟨fun h => absurd h (by decide), fun h => (by cases h)⟩
  · cases o
    · exact propext ⟨fun h => absurd h (by decide), fun h => (by cases h)⟩
    · exact propext ⟨fun _ => rfl, fun _ => rfl⟩
    · exact propext ⟨fun h => absurd h (by decide), fun h => (by cases h)⟩
theorem c_bitsOf {x : UInt32} {μ : Mem} (hf : FP.Core.FFin x) (hn : nzr x) : fX10_bitsOf x μ = some (x.toInt32, μ) := by
  have hb := (FP.Core.fin_bits32 x).mp hf
  have hx := x.toNat_lt
  unfold fX10_bitsOf
  simp only [cv_eq0, jn_s]
  by_cases h0 : FP.fcmp x FP.fconst0 = some .eq
  · rw [if_pos h0]
    rcases FP.Core.zero_bits32 (t := x) h0 with rfl | rfl
    · rfl
    · exact absurd rfl hn
  · rw [if_neg h0]
    obtain ⟨o, ho⟩ : ∃ o, FP.fcmp x FP.fconst0 = some o := by
      cases h : FP.fcmp x FP.fconst0 with
      | none =>
        rcases (FP.Core.fcmp_none x FP.fconst0).mp h with h | h
        · exact absurd h hf.ne_nan
        · exact absurd h (by decide +kernel)
      | some o => exact ⟨o, rfl⟩
    rw [ho]
    have hnz : x.toNat % 2 ^ 31 ≠ 0 := by
      intro h
      have h2 : FP.Core.FZero x := (FP.Core.zero_bits232 x).mpr h
      exact h0 (FP.Core.zero_iff32.mpr h2)
    cases o with
    | eq => exact absurd ho h0
    | gt =>
      have hp := FP.Core.abs_pos32 (a := x) ho
      have hm := FP.Core.mask_toNat32 x
      rw [hp] at hm
      obtain ⟨e, c, q1, q2, q3⟩ := b_main (v0 := x) (a := x) (μ := μ) (K := fun v2_68 i μ_68 => some ((((0 : Int32) + (v2_68 <<< ((23 : Int32) &&& 31))) + (i - (8388608 : Int32))), μ_68)) (by omega) (by omega)
      have e1 : (0 : Int32) ≤ Op.cmpValue (some .gt) .g := by decide
      simp only [e1, if_true]
      refine Eq.trans q1 ?_
      rw [shl23 q3, u32_i]
      congr 2
      rw [show (0 : Int32) = iZ 0 from rfl, show (8388608 : Int32) = iZ 8388608 from rfl, iN_iZ, iN_iZ, iN_iZ, iZ_sub, iZ_add, iZ_add]
      congr 1
      omega
    | lt =>
      have hp := FP.Core.abs_neg32 (a := x) ho
      have hm := FP.Core.mask_toNat32 x
      have hneg : (FP.fneg x).toNat = x.toNat % 2 ^ 31 := by
        have e : (x ^^^ 0x80000000).toNat % 2147483648 = x.toNat % 2147483648 := by
          have z : (0x80000000 : UInt32).toNat = 2 ^ 31 := by decide
          rw [UInt32.toNat_xor, z, show (2147483648 : Nat) = 2 ^ 31 from rfl, Nat.xor_mod_two_pow, Nat.mod_self, Nat.xor_zero]
        have e2 : (x ^^^ 0x80000000).toNat < 2147483648 := by
          have hk : 2 ^ 31 ≤ x.toNat := by
            refine Nat.le_of_not_lt fun hlt => ?_
            have hk := (FP.Core.fcmp_lt_key hf.ne_nan (by decide +kernel)).mp ho
            have k1 : FP.Core.fkey FP.fconst0 = 0 := by decide +kernel
            have k2 : FP.Core.fkey x = (x.toNat : Int) := if_neg (by omega)
            rw [k1, k2] at hk
            omega
          have z : (0x80000000 : UInt32).toNat = 2 ^ 31 := by decide
          rw [UInt32.toNat_xor, z]
          have d1 := Nat.xor_div_two_pow (a := x.toNat) (b := 2 ^ 31) (n := 31)
          have d2 : x.toNat / 2 ^ 31 = 1 := by omega
          rw [d2, Nat.div_self (Nat.two_pow_pos _)] at d1
          have d3 : (x.toNat ^^^ 2 ^ 31) / 2 ^ 31 = 0 := d1
          have := Nat.div_eq_zero_iff.mp d3
          omega
        show (x ^^^ 0x80000000).toNat = _
        omega
      have hk : 2 ^ 31 ≤ x.toNat := by
        refine Nat.le_of_not_lt fun hlt => ?_
        have hk := (FP.Core.fcmp_lt_key hf.ne_nan (by decide +kernel)).mp ho
        have k1 : FP.Core.fkey FP.fconst0 = 0 := by decide +kernel
        have k2 : FP.Core.fkey x = (x.toNat : Int) := if_neg (by omega)
        rw [k1, k2] at hk
        omega
      obtain ⟨e, c, q1, q2, q3⟩ := b_main (v0 := x) (a := FP.fneg x) (μ := μ) (K := fun v2_68 i μ_68 => some ((((-2147483648 : Int32) + (v2_68 <<< ((23 : Int32) &&& 31))) + (i - (8388608 : Int32))), μ_68)) (by omega) (by omega)
      have e1 : ¬ ((0 : Int32) ≤ Op.cmpValue (some .lt) .g) := by decide
      simp only [e1, if_false]
      refine Eq.trans q1 ?_
      rw [shl23 q3, u32_i]
      congr 2
      rw [show (-2147483648 : Int32) = iZ 2147483648 from by decide, show (8388608 : Int32) = iZ 8388608 from rfl, iN_iZ, iN_iZ, iN_iZ, iZ_sub, iZ_add, iZ_add]
      congr 1
      omega
theorem r_bits {x : UInt32} {μ : Mem} (hf : FP.Core.FFin x) : fX11_bits x μ = some (x.toInt32.toInt64, μ) := by
  unfold fX11_bits fJxf58ca_floatToIntBits_5c35a fJxf58ca_isNaN_12338
  have h : FP.fcmp x x = some .eq := FP.Core.fcmp_self hf.ne_nan
  rw [h]
  simp only [cv_eq0, if_true, zz0, ob, bd_s]
