/-! ===== the class: a reservoir's own methods, read ===== -/
theorem c_within {v a b : Int32} {μ : Mem} : fX10_within v a b μ = some (tI (a ≤ v ∧ v ≤ b), μ) := by
  unfold fX10_within tI
  by_cases h1 : v < a
  · rw [if_pos h1, if_neg (fun h => absurd h.1 (Int32.not_le.mpr h1))]; rfl
  · rw [if_neg h1]
    by_cases h2 : b < v
    · rw [if_pos h2, if_neg (fun h => absurd h.2 (Int32.not_le.mpr h2))]; rfl
    · rw [if_neg h2, if_pos ⟨Int32.not_lt.mp h1, Int32.not_lt.mp h2⟩]; rfl
theorem c_isState {v : Int32} {μ : Mem} : fX10_isState v μ = some (tI (0 ≤ v ∧ v ≤ 2), μ) := by
  unfold fX10_isState
  rw [c_within]
  simp only [bd_s, zz_tI, ob]
theorem c_isTape {v : Int32} {μ : Mem} : fX10_isTape v μ = some (tI (0 ≤ v ∧ v ≤ 5), μ) := by
  unfold fX10_isTape
  rw [c_within]
  simp only [bd_s, zz_tI, ob]
section READS
variable {s : Sto} {p : Nat} {g : Nat → Nat}
theorem c_inflowIn (hb : Bs p) (h : RC s p g) {m i : Nat} (hm : m < 12) (hi : i < 3) : fX0_inflowIn p (iN m) (iN i) (lay s) = some (iN (g (4 + 3 * m + i)), lay s) := by
  unfold fX0_inflowIn
  simp (disch := first | assumption | omega) only [ob, bd_s, jn_s, zz0, zz1, i10, i00, if_true, if_false, bs_r4, bs_r5, bs_r6, bs_r7, bs_r8, bs_r9, bs_g0, bs_p0, bs_g1, bs_p1, bs_g2, bs_p2, bs_g3, bs_p3, bs_g10, bs_p10, bs_c, bs_a1, bs_s1, bs_a2, bs_s2, bs_a3, bs_s3, bs_a4, bs_s4, bs_a6, bs_s6, bs_d, bs_gd, bs_pd, bs_cd, iN_add, iN_addL, iN_Ladd, iN_mul, iN_mulL, iN_Lmul]
  rw [h.2.1 (m * 3 + i) (by omega), show 4 + (m * 3 + i) = 4 + 3 * m + i by omega]
theorem c_part (h : RC s p g) {i j : Nat} (hi : i < 3) (hj : j < 3) : s.1 (p + 2) (i * 3 + j) = iN (partS g i j) := by
  rw [h.2.2.1 (i * 3 + j) (by omega)]
  unfold partS
  rw [show 40 + (i * 3 + j) = 40 + 3 * i + j by omega]
theorem c_allParts (hb : Bs p) (h : RC s p g) {i : Nat} (hi : i < 3) : fX0_allPartsFrom p (iN i) (lay s) = some (iN (partsS g i), lay s) := by
  unfold fX0_allPartsFrom
  simp (disch := first | assumption | omega) only [ob, bd_s, jn_s, zz0, zz1, i10, i00, if_true, if_false, bs_r4, bs_r5, bs_r6, bs_r7, bs_r8, bs_r9, bs_g0, bs_p0, bs_g1, bs_p1, bs_g2, bs_p2, bs_g3, bs_p3, bs_g10, bs_p10, bs_c, bs_a1, bs_s1, bs_a2, bs_s2, bs_a3, bs_s3, bs_a4, bs_s4, bs_a6, bs_s6, bs_d, bs_gd, bs_pd, bs_cd, iN_add, iN_addL, iN_Ladd, iN_mul, iN_mulL, iN_Lmul]
  have h0 := c_part h hi (j := 0) (by omega)
  have h1 := c_part h hi (j := 1) (by omega)
  have h2 := c_part h hi (j := 2) (by omega)
  simp only [Nat.add_zero] at h0
  rw [h0, h1, h2]
  simp only [iN_add, iN_addL, iN_Ladd, iN_mul, iN_mulL, iN_Lmul]
  rfl
theorem c_topOf (hb : Bs p) (hg : OKg g) (h : RC s p g) {m : Nat} (hm : m < 12) : fX0_topOf p (iN m) (lay s) = some (iN (topS g m), lay s) := by
  unfold fX0_topOf
  have b1 := hg.1
  have b2 := hg.2.2.2.2.2.1 m hm
  simp (disch := first | assumption | omega) only [ob, bd_s, jn_s, zz0, zz1, i10, i00, if_true, if_false, bs_r4, bs_r5, bs_r6, bs_r7, bs_r8, bs_r9, bs_g0, bs_p0, bs_g1, bs_p1, bs_g2, bs_p2, bs_g3, bs_p3, bs_g10, bs_p10, bs_c, bs_a1, bs_s1, bs_a2, bs_s2, bs_a3, bs_s3, bs_a4, bs_s4, bs_a6, bs_s6, bs_d, bs_gd, bs_pd, bs_cd, h.1.1, h.2.2.2.2.1 m hm, iN_le, iN_lt, iN_eq, iN_leL, iN_Lle, iN_ltL, iN_Llt, iN_eqL, iN_Leq]
  unfold topS
  by_cases hc : g 0 ≤ g (61 + m)
  · rw [if_pos hc, show g 0 - g (61 + m) = 0 by omega]
    rfl
  · rw [if_neg hc, iN_sub (by omega)]
theorem c_driedIn (hb : Bs p) (hg : OKg g) (h : RC s p g) {m x : Nat} (hm : m < 12) (hx : x < 100) : fX0_driedIn p (iN m) (iN x) (lay s) = some (iN (driedS g m x), lay s) := by
  unfold fX0_driedIn
  have b2 := hg.2.2.2.2.1 m hm
  have b3 : x * g (49 + m) ≤ 100 * 9 := Nat.mul_le_mul (by omega) b2
  simp (disch := first | assumption | omega) only [ob, bd_s, jn_s, zz0, zz1, i10, i00, if_true, if_false, bs_r4, bs_r5, bs_r6, bs_r7, bs_r8, bs_r9, bs_g0, bs_p0, bs_g1, bs_p1, bs_g2, bs_p2, bs_g3, bs_p3, bs_g10, bs_p10, bs_c, bs_a1, bs_s1, bs_a2, bs_s2, bs_a3, bs_s3, bs_a4, bs_s4, bs_a6, bs_s6, bs_d, bs_gd, bs_pd, bs_cd, h.2.2.2.1 m hm, iN_add, iN_addL, iN_Ladd, iN_mul, iN_mulL, iN_Lmul, dvI_L]
  rfl
theorem c_hasDemand (hb : Bs p) (hg : OKg g) (h : RC s p g) {v : Int32} : fX0_hasDemand p v (lay s) = some (tI (0 ≤ v ∧ v < iN (g 73)), lay s) := by
  have b1 := hg.1
  unfold fX0_hasDemand
  simp (disch := first | assumption | omega) only [ob, bd_s, jn_s, zz0, zz1, i10, i00, if_true, if_false, bs_r4, bs_r5, bs_r6, bs_r7, bs_r8, bs_r9, bs_g0, bs_p0, bs_g1, bs_p1, bs_g2, bs_p2, bs_g3, bs_p3, bs_g10, bs_p10, bs_c, bs_a1, bs_s1, bs_a2, bs_s2, bs_a3, bs_s3, bs_a4, bs_s4, bs_a6, bs_s6, bs_d, bs_gd, bs_pd, bs_cd, h.1.2.2.2.2, c_within, zz_tI]
  congr 2
  unfold tI
  have : (v ≤ iN (g 73) - 1) = (v < iN (g 73)) := by
    rw [Int32.le_iff_toInt_le, Int32.lt_iff_toInt_lt, iN_iZ, show (1 : Int32) = iZ 1 from rfl, iZ_sub, iZ_toInt (by omega) (by omega), iZ_toInt (by omega) (by omega)]
    exact propext (by omega)
  simp only [this]
theorem c_isAhead (hb : Bs p) (hg : OKg g) (h : RC s p g) {u v : Int32} : fX0_isAhead p u v (lay s) = some (tI ((0 ≤ u ∧ u < iN (g 1)) ∧ 0 ≤ v ∧ v ≤ iN (g 0)), lay s) := by
  have b1 := hg.1
  have e : (u ≤ iN (g 1) - 1) = (u < iN (g 1)) := by
    rw [Int32.le_iff_toInt_le, Int32.lt_iff_toInt_lt, iN_iZ, show (1 : Int32) = iZ 1 from rfl, iZ_sub, iZ_toInt (by omega) (by omega), iZ_toInt (by omega) (by omega)]
    exact propext (by omega)
  unfold fX0_isAhead
  simp (disch := first | assumption | omega) only [ob, bd_s, jn_s, zz0, zz1, i10, i00, if_true, if_false, bs_r4, bs_r5, bs_r6, bs_r7, bs_r8, bs_r9, bs_g0, bs_p0, bs_g1, bs_p1, bs_g2, bs_p2, bs_g3, bs_p3, bs_g10, bs_p10, bs_c, bs_a1, bs_s1, bs_a2, bs_s2, bs_a3, bs_s3, bs_a4, bs_s4, bs_a6, bs_s6, bs_d, bs_gd, bs_pd, bs_cd, h.1.1, h.1.2.1, c_within, zz_tI, tI_eq0, e]
  by_cases h1 : 0 ≤ u ∧ u < iN (g 1)
  · by_cases h2 : 0 ≤ v ∧ v ≤ iN (g 0)
    · simp only [h1, h2, tI, and_self, not_true_eq_false, if_false, if_true, zz1, ob]
    · simp only [h1, h2, tI, and_false, and_self, not_true_eq_false, not_false_eq_true, if_false, if_true, zz0, ob]
  · simp only [h1, tI, false_and, not_false_eq_true, if_false, if_true, zz0, ob]
theorem c_dF (h : RC s p g) {d f : Nat} (hd : d < g 73) (hf : f < 6) : s.1 (p + 7 + d) f = iN (dF g d f) := h.2.2.2.2.2 d f hd hf
theorem c_wantedIn (hb : Bs p) (hg : OKg g) (h : RC s p g) {d m : Nat} (hd : d < g 73) (hm : m < 12) : fX5_wantedIn (p + 7 + d) (iN m) (lay s) = some (iN (wantS g d m), lay s) := by
  have b1 := hg.1
  have b2 := hg.2.2.2.2.2.2 d hd
  have hd6 : d < 6 := by omega
  unfold fX5_wantedIn
  simp (disch := first | assumption | omega) only [ob, bd_s, jn_s, zz0, zz1, i10, i00, if_true, if_false, bs_gd hb hd6, c_dF h hd, iN_le, iN_lt, iN_eq, iN_leL, iN_Lle, iN_ltL, iN_Llt, iN_eqL, iN_Leq, iN_add, iN_addL, iN_Ladd, iN_mul, iN_mulL, iN_Lmul, c_within, tI_eq0]
  unfold wantS inB
  repeat' split
  all_goals first | rfl | (exfalso; simp only [decide_eq_true_eq, tI_eq0] at *; omega)
theorem c_trickle {G : Int32 → Mem → Option (Int32 × Mem)} {got : Nat} {μ : Mem} (hgot : got < 1000) : ∀ (k n u : Nat) (a : Nat), got - k < n → k ≤ got → u < 1000 → X5_trickleOf_L10 G (iN got) n (iN a) (iN u) (iN k) μ = G (iN (a + trkS (got - k) u)) μ := by
  intro k n
  induction n generalizing k with
  | zero => intro u a h; omega
  | succ n ih =>
    intro u a h1 h2 h3
    rw [X5_trickleOf_L10]
    simp (disch := first | assumption | omega) only [ob, bd_s, jn_s, zz0, zz1, i10, i00, if_true, if_false, iN_le, iN_lt, iN_eq, iN_leL, iN_Lle, iN_ltL, iN_Llt, iN_eqL, iN_Leq, iN_add, iN_addL, iN_Ladd, iN_mul, iN_mulL, iN_Lmul, dvI_L]
    by_cases c1 : got ≤ k
    · rw [if_pos c1, show got - k = 0 by omega]
      rfl
    · rw [if_neg c1]
      by_cases c2 : u ≤ 0
      · rw [if_pos c2]
        have : trkS (got - k) u = 0 := by have := trkS_le (got - k) u; omega
        rw [this]
        rfl
      · rw [if_neg c2, ih (k + 1) (u / 2) (a + u) (by omega) (by omega) (by omega), show got - k = (got - (k + 1)) + 1 by omega, trkS, Nat.add_assoc]
theorem c_gainOf (hb : Bs p) (hg : OKg g) (h : RC s p g) {d x y : Nat} (hd : d < g 73) (hx : x ≤ y) (hy : y ≤ 18) : fX5_gainOf (p + 7 + d) (iN x) (iN y) (lay s) = some (iZ (gainS g d x y), lay s) := by
  have b1 := hg.1
  have b2 := hg.2.2.2.2.2.2 d hd
  have hd6 : d < 6 := by omega
  unfold fX5_gainOf fX5_trickleOf
  simp (disch := first | assumption | omega) only [ob, bd_s, jn_s, zz0, zz1, i10, i00, if_true, if_false, bs_gd hb hd6, bs_cd hb hd6, c_dF h hd, iN_le, iN_lt, iN_eq, iN_leL, iN_Lle, iN_ltL, iN_Llt, iN_eqL, iN_Leq, dvI_L]
  rw [show (0 : Int32) = iN 0 from rfl, c_trickle (by omega) 0 FU _ 0 (by unfold FU; omega) (by omega) (by omega)]
  unfold gainS
  simp only [iN_iZ, iZ_sub, iZ_mul, iZ_add, bd_s, Nat.sub_zero, Nat.zero_add]
  repeat' split
  all_goals first | rfl | (exfalso; omega) | simp only [Int.add_zero]
end READS
