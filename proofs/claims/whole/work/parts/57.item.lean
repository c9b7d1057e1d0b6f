section ITEM
variable {s : Sto}
theorem c_hasPlace {r n : Nat} (hr : r < 6) (h : s.1 (89 + 2 * r) 1 = iN n) {v : Int32} : fX9_hasPlace (89 + 2 * r) v (lay s) = some (tI (0 ≤ v ∧ v ≤ iN n - 1), lay s) := by
  unfold fX9_hasPlace
  simp only [tp_g1 hr, ob, h, c_within, bd_s]
  by_cases c : 0 ≤ v ∧ v ≤ iN n - 1
  · rw [tI_pos c]; rfl
  · rw [tI_neg c]; rfl
theorem place_n {n : Nat} (hn : n ≤ 60) {v : Int32} (h : 0 ≤ v ∧ v ≤ iN n - 1) : ∃ i, v = iN i ∧ i < n := by
  by_cases c : n = 0
  · subst c
    exfalso
    have h1 := h.1
    have h2 := h.2
    rw [Int32.le_iff_toInt_le] at h1 h2
    have e0 : (0 : Int32).toInt = 0 := by decide
    have e1 : (iN 0 - 1).toInt = -1 := by decide
    omega
  · have h2 := h.2
    rw [show iN n - 1 = iN (n - 1) from iN_sub (b := 1) (by omega)] at h2
    obtain ⟨i, rfl, hi⟩ := rng (k := n - 1) ⟨h.1, h2⟩ (by omega)
    exact ⟨i, rfl, by omega⟩
theorem cut_some (x : Int32) (v : Int64) : ∃ y, ∀ μ, fX11_cutTo x v μ = some (y, μ) := by
  unfold fX11_cutTo
  by_cases h0 : x = 0
  · exact ⟨_, fun μ => by rw [if_pos h0]⟩
  · by_cases h1 : x = 1
    · exact ⟨_, fun μ => by rw [if_neg h0, if_pos h1]⟩
    · by_cases h2 : x = 2
      · exact ⟨_, fun μ => by rw [if_neg h0, if_neg h1, if_pos h2]⟩
      · by_cases h3 : x = 3
        · exact ⟨_, fun μ => by rw [if_neg h0, if_neg h1, if_neg h2, if_pos h3]⟩
        · by_cases h4 : lg_cmp v 0 = 0
          · exact ⟨_, fun μ => by rw [if_neg h0, if_neg h1, if_neg h2, if_neg h3, if_pos h4]⟩
          · exact ⟨_, fun μ => by rw [if_neg h0, if_neg h1, if_neg h2, if_neg h3, if_neg h4]⟩
theorem c_asItem {r : Nat} (hr : r < 6) {v : Int64} : fX9_asItem (89 + 2 * r) v (lay s) = fX11_cutTo (s.1 (89 + 2 * r) 0) v (lay s) := by
  unfold fX9_asItem fX11_cutTo
  simp only [tp_g0 hr, ob]
theorem sort_pos {x : Int32} (h : x = -1 ∨ ∃ k, k ≤ 4 ∧ x = iN k) (h1 : x ≠ -1) : 0 ≤ x := by
  rcases h with h | ⟨k, hk, rfl⟩
  · exact absurd h h1
  · rw [iN_Lle (by omega) (by omega)]; omega
theorem k_peek (H : Inv s) (v1 v2 : Int32) : Alike s (fX10_peek 0 v1 v2) (fX11_peek 101 v1 v2) := by
  have H0 := H
  obtain ⟨g, kp, kf, rn, rv, tn, tv, hB, hC⟩ := H0
  have hI := hB.1
  have hg := hI.1.1
  have b1 := hg.1
  have hR := RR_of hI
  have hc := hI.2.1.1
  have hb : Bs 2 := Or.inl rfl
  have hp := hB.2.2.2.2.1
  by_cases c1 : 0 ≤ v1 ∧ v1 ≤ (5 : Int32)
  · obtain ⟨r, rfl, hr⟩ := rng (k := 5) c1 (by omega)
    have hr6 : r < 6 := by omega
    obtain ⟨h1, h2, ⟨n, hn, h3, h4, h5⟩, h6⟩ := hp r hr6
    by_cases c2 : 0 ≤ v2 ∧ v2 ≤ iN n - 1
    · obtain ⟨i, rfl, hi⟩ := place_n hn c2
      refine Alike_same (a := s.2.2.1 (90 + 2 * r) i) ?_ ?_ H
      · unfold fX10_peek
        simp only [c_isTape, tI_pos c1, bd_s, i10, if_false, rr_0_16, ob, tp_a hr6, tp_c hr6, c_hasPlace hr6 h3, tI_pos c2, tp_r hr6, tp_ai hr6 (show i < 60 by omega)]
      · unfold fX11_peek
        simp only [r_isTape, tI_pos c1, bd_s, i10, if_false, rr_101_34, ob, ai_116 hr6, h4]
        rw [r_in]
        simp (disch := first | assumption | omega) only [lit64_le, le_lit64, le_64, tI_pos c2, bd_s, i10, if_false, rr_101_35, ob]
        simp only [iN_add, iN_addL, iN_Ladd, iN_mul, iN_mulL, iN_Lmul]
        rw [ai_117 (by omega), ← h6 i (by omega)]
        rfl
    · refine Alike_same (a := -9223372036854775808) ?_ ?_ H
      · unfold fX10_peek
        simp only [c_isTape, tI_pos c1, bd_s, i10, i00, if_true, if_false, rr_0_16, ob, tp_a hr6, tp_c hr6, c_hasPlace hr6 h3, tI_neg c2]
      · unfold fX11_peek
        simp only [r_isTape, tI_pos c1, bd_s, i10, if_false, rr_101_34, ob, ai_116 hr6, h4]
        rw [r_in]
        simp (disch := first | assumption | omega) only [lit64_le, le_lit64, le_64, tI_neg c2, bd_s, i00, if_true]
  · refine Alike_same (a := -9223372036854775808) ?_ ?_ H
    · unfold fX10_peek
      simp only [c_isTape, tI_neg c1, bd_s, i00, if_true]
    · unfold fX11_peek
      simp only [r_isTape, tI_neg c1, bd_s, i00, if_true]
theorem k_item (H : Inv s) (v1 v2 : Int32) (v3 : Int64) : Alike s (fX10_item 0 v1 v2 v3) (fX11_item 101 v1 v2 v3) := by
  have H0 := H
  obtain ⟨g, kp, kf, rn, rv, tn, tv, hB, hC⟩ := H0
  have hI := hB.1
  have hg := hI.1.1
  have b1 := hg.1
  have hR := RR_of hI
  have hc := hI.2.1.1
  have hb : Bs 2 := Or.inl rfl
  have hp := hB.2.2.2.2.1
  by_cases c1 : 0 ≤ v1 ∧ v1 ≤ (5 : Int32)
  · obtain ⟨r, rfl, hr⟩ := rng (k := 5) c1 (by omega)
    have hr6 : r < 6 := by omega
    obtain ⟨h1, h2, ⟨n, hn, h3, h4, h5⟩, h6⟩ := hp r hr6
    by_cases c0 : s.1 115 r = -1
    · have nz : ¬ ((0 : Int32) ≤ s.1 115 r) := by rw [c0]; decide
      refine Alike_same (a := -11) ?_ ?_ H
      · unfold fX10_item
        simp only [c_isTape, tI_pos c1, bd_s, i10, if_false, rr_0_16, ob, tp_a hr6, tp_g0 hr6, h1, if_pos c0]
      · unfold fX11_item
        simp only [r_isTape, tI_pos c1, bd_s, i10, if_false, rr_101_33, ob, ai_115 hr6, if_neg nz]
    · have pz := sort_pos h2 c0
      by_cases c2 : 0 ≤ v2 ∧ v2 ≤ iN n - 1
      · obtain ⟨i, rfl, hi⟩ := place_n hn c2
        obtain ⟨y, hy⟩ := cut_some (s.1 115 r) v3
        refine ⟨1, uJ s (90 + 2 * r) i y, uJ (uJ s (90 + 2 * r) i y) 117 (60 * r + i) y, ?_, ?_, ?_⟩
        · unfold fX10_item
          simp only [c_isTape, tI_pos c1, bd_s, i10, if_false, rr_0_16, ob, tp_a hr6, tp_g0 hr6, h1, if_neg c0, tp_c hr6, c_hasPlace hr6 h3, tI_pos c2, tp_r hr6, c_asItem hr6, hy, tp_si hr6 (show i < 60 by omega)]
        · unfold fX11_item
          have k5 : (uJ s (90 + 2 * r) i y).1 115 r = s.1 115 r := by rw [rJ_1]
          have k6 : (uJ s (90 + 2 * r) i y).1 116 r = iN n := by rw [rJ_1]; exact h4
          simp only [r_isTape, tI_pos c1, bd_s, i10, if_false, rr_101_33, rr_101_34, ob, ai_115 hr6, ai_116 hr6, k5, k6, if_pos pz]
          rw [r_in]
          simp (disch := first | assumption | omega) only [lit64_le, le_lit64, le_64, tI_pos c2, bd_s, i10, if_false, rr_101_33, rr_101_35, ob, ai_115 hr6, k5, hy]
          simp only [iN_add, iN_addL, iN_Ladd, iN_mul, iN_mulL, iN_Lmul]
          rw [si_117 (by omega)]
          rfl
        · refine Inv_tape (s := s) (Kp_rJ.tr Kp_rJ) hB hC (fun a ha => ?_)
          obtain ⟨g1, g2, g3, g4⟩ := hp a ha
          simp only [rJ_1]
          refine ⟨g1, g2, g3, fun j hj => ?_⟩
          rw [rJ_same, rJ_ne (by omega), rJ_ne (p := 90 + 2 * r) (q := 117) (by omega)]
          by_cases ca : a = r
          · subst ca
            rw [rJ_same]
            by_cases cj : j = i
            · subst cj
              rw [vpu_same, vpu_same]
            · rw [vpu_ne cj, vpu_ne (by omega)]
              exact g4 j hj
          · rw [rJ_ne (by omega), vpu_ne (by omega)]
            exact g4 j hj
      · refine Alike_same (a := -13) ?_ ?_ H
        · unfold fX10_item
          simp only [c_isTape, tI_pos c1, bd_s, i10, i00, if_true, if_false, rr_0_16, ob, tp_a hr6, tp_g0 hr6, h1, if_neg c0, tp_c hr6, c_hasPlace hr6 h3, tI_neg c2]
        · unfold fX11_item
          simp only [r_isTape, tI_pos c1, bd_s, i10, if_false, rr_101_33, rr_101_34, ob, ai_115 hr6, ai_116 hr6, h4, if_pos pz]
          rw [r_in]
          simp (disch := first | assumption | omega) only [lit64_le, le_lit64, le_64, tI_neg c2, bd_s, i00, if_true]
  · refine Alike_same (a := -1) ?_ ?_ H
    · unfold fX10_item
      simp only [c_isTape, tI_neg c1, bd_s, i00, if_true]
    · unfold fX11_item
      simp only [r_isTape, tI_neg c1, bd_s, i00, if_true]
/-- the places of a range, one by one, as if at once -/
theorem r_shiftL {G : Mem → Option (Int32 × Mem)} {a b n : Nat} (ha : a + n ≤ 360) (hb : b + n ≤ 360) : ∀ (m k : Nat) (f : Nat → Int64), n - k < m → k ≤ n → (∀ j, f j = if (if b ≤ a then b ≤ j ∧ j < b + k else b + (n - k) ≤ j ∧ j < b + n) then s.2.2.1 117 (a + (j - b)) else s.2.2.1 117 j) → X11_shift_L127 G 101 (iN n) (iN a) (iN b) m (iN k) (lay (rJ s 117 f)) = G (lay (rJ s 117 (va_cpy (s.2.2.1 117) (s.2.2.1 117) a b n))) := by
  intro m
  induction m with
  | zero => intro k f h; omega
  | succ m ih =>
    intro k f h1 h2 h3
    rw [X11_shift_L127]
    simp (disch := first | assumption | omega) only [iN_le]
    by_cases c1 : n ≤ k
    · rw [if_pos c1]
      congr 2
      refine congrArg (rJ s 117) (funext fun j => ?_)
      rw [h3 j]
      unfold va_cpy
      have : k = n := by omega
      subst this
      by_cases cd : b ≤ a
      · simp only [if_pos cd]
      · simp only [if_neg cd, Nat.sub_self, Nat.add_zero]
    · rw [if_neg c1]
      by_cases cd : b ≤ a
      · simp only [if_pos cd, jn_s, rr_101_35, ob, iN_add, iN_addL, iN_Ladd, iN_mul, iN_mulL, iN_Lmul]
        rw [ai_117 (by omega)]
        simp only [ob]
        rw [si_117 (by omega)]
        simp only [ob, rJ_rJ, rJ_same]
        refine ih (k + 1) _ (by omega) (by omega) (fun j => ?_)
        have e : f (a + k) = s.2.2.1 117 (a + k) := by
          rw [h3]
          simp only [if_pos cd]
          rw [if_neg (by omega)]
        rw [e]
        simp only [if_pos cd]
        by_cases cj : j = b + k
        · subst cj
          rw [vpu_same, if_pos (by omega), Nat.add_sub_cancel_left]
        · rw [vpu_ne cj, h3 j]
          simp only [if_pos cd]
          by_cases cx : b ≤ j ∧ j < b + k
          · rw [if_pos cx, if_pos (by omega)]
          · rw [if_neg cx, if_neg (by omega)]
      · have es : iN n - (1 : Int32) - iN k = iN (n - 1 - k) := by
          rw [show iN n - (1 : Int32) = iN (n - 1) from iN_sub (b := 1) (by omega), iN_sub (by omega)]
        simp only [if_neg cd, es, jn_s, rr_101_35, ob, iN_add, iN_addL, iN_Ladd, iN_mul, iN_mulL, iN_Lmul]
        rw [ai_117 (by omega)]
        simp only [ob]
        rw [si_117 (by omega)]
        simp only [ob, rJ_rJ, rJ_same]
        refine ih (k + 1) _ (by omega) (by omega) (fun j => ?_)
        have e : f (a + (n - 1 - k)) = s.2.2.1 117 (a + (n - 1 - k)) := by
          rw [h3]
          simp only [if_neg cd]
          rw [if_neg (by omega)]
        rw [e]
        simp only [if_neg cd]
        by_cases cj : j = b + (n - 1 - k)
        · subst cj
          rw [vpu_same, if_pos (by omega), Nat.add_sub_cancel_left]
        · rw [vpu_ne cj, h3 j]
          simp only [if_neg cd]
          by_cases cx : b + (n - k) ≤ j ∧ j < b + n
          · rw [if_pos cx, if_pos (by omega)]
          · rw [if_neg cx, if_neg (by omega)]
theorem r_shift {G : Mem → Option (Int32 × Mem)} {a b n : Nat} (ha : a + n ≤ 360) (hb : b + n ≤ 360) : X11_shift_L127 G 101 (iN n) (iN a) (iN b) FU 0 (lay s) = G (lay (rJ s 117 (va_cpy (s.2.2.1 117) (s.2.2.1 117) a b n))) := by
  have := r_shiftL (s := s) (G := G) ha hb FU 0 (s.2.2.1 117) (by unfold FU; omega) (by omega) (fun j => by
    rw [if_neg]
    split <;> omega)
  rw [rJ_self] at this
  exact this
end ITEM
