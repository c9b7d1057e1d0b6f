section SHIFT
variable {s : Sto}
/-- a range within n -/
abbrev okG (n : Nat) (v w : Int32) : Prop := (0 ≤ v ∧ 0 ≤ w) ∧ v.toInt + w.toInt ≤ (n : Int)
theorem lt0_32 (v : Int32) : (v < 0) = ¬ (0 ≤ v) := propext ⟨fun h => Int32.not_le.mpr h, fun h => Int32.not_le.mp h⟩
theorem c_hasRange {r n : Nat} (hr : r < 6) (hn : n ≤ 60) (h : s.1 (89 + 2 * r) 1 = iN n) {v w : Int32} : fX9_hasRange (89 + 2 * r) v w (lay s) = some (tI (okG n v w), lay s) := by
  unfold fX9_hasRange
  simp only [lt0_32]
  by_cases c1 : 0 ≤ v
  · by_cases c2 : 0 ≤ w
    · rw [if_neg (not_not_intro c1), if_neg (not_not_intro c2)]
      simp only [tp_g1 hr, ob, h]
      obtain ⟨a, rfl, ha⟩ := iN_of c1
      obtain ⟨b, rfl, hb⟩ := iN_of c2
      have e : (iN n - iN a).toInt = (n : Int) - a := by rw [iN_iZ, iN_iZ, iZ_sub, iZ_toInt (by omega) (by omega)]
      have ea := iN_toInt ha
      have eb := iN_toInt hb
      by_cases c3 : okG n (iN a) (iN b)
      · rw [if_neg (by rw [Int32.lt_iff_toInt_lt]; have := c3.2; omega), tI_pos c3]
        rfl
      · rw [if_pos (by rw [Int32.lt_iff_toInt_lt]; have : ¬ ((iN a).toInt + (iN b).toInt ≤ (n : Int)) := fun h => c3 ⟨⟨c1, c2⟩, h⟩; omega), tI_neg c3]
        rfl
    · rw [if_neg (not_not_intro c1), if_pos c2, tI_neg (fun h : okG n v w => c2 h.1.2)]
      rfl
  · rw [if_pos c1, tI_neg (fun h : okG n v w => c1 h.1.1)]
    rfl
theorem r_range {n : Nat} (hn : n ≤ 60) (v w : Int32) : (v.toInt64 + w.toInt64 ≤ (iN n).toInt64) = (v.toInt + w.toInt ≤ (n : Int)) := by
  have h1 := Int32.toInt_lt v
  have h2 := Int32.le_toInt v
  have h3 := Int32.toInt_lt w
  have h4 := Int32.le_toInt w
  rw [Int64.le_iff_toInt_le, Int64.toInt_add, Int32.toInt_toInt64, Int32.toInt_toInt64, Int32.toInt_toInt64, iN_toInt (by omega), Int.bmod_eq_of_le (by omega) (by omega)]
theorem cmp_pos (x y : Int64) : (0 < lg_cmp x y) = ¬ (x ≤ y) := propext ⟨fun h h2 => absurd ((lg_cmp_le x y).mpr h2) (Int32.not_le.mpr h), fun h => Int32.not_le.mp (fun h2 => h ((lg_cmp_le x y).mp h2))⟩
theorem cmp_le0 (x y : Int64) : (lg_cmp x y ≤ 0) = (x ≤ y) := propext (lg_cmp_le x y)
theorem k_shift (H : Inv s) (v1 v2 v3 v4 v5 : Int32) : Alike s (fX10_shift 0 v1 v2 v3 v4 v5) (fX11_shift 101 v1 v2 v3 v4 v5) := by
  have H0 := H
  obtain ⟨g, kp, kf, rn, rv, tn, tv, hB, hC⟩ := H0
  have hI := hB.1
  have hg := hI.1.1
  have b1 := hg.1
  have hR := RR_of hI
  have hc := hI.2.1.1
  have hb : Bs 2 := Or.inl rfl
  have hp := hB.2.2.2.2.1
  by_cases c1 : 0 ≤ v1 ∧ v1 ≤ (5 : Int32)
  · obtain ⟨a, rfl, ha⟩ := rng (k := 5) c1 (by omega)
    have ha6 : a < 6 := by omega
    obtain ⟨h1, h2, ⟨n, hn, h3, h4, h5⟩, h6⟩ := hp a ha6
    by_cases c3 : 0 ≤ v3 ∧ v3 ≤ (5 : Int32)
    · obtain ⟨b, rfl, hb'⟩ := rng (k := 5) c3 (by omega)
      have hb6 : b < 6 := by omega
      obtain ⟨g1, g2, ⟨m, hm, g3, g4, g5⟩, g6⟩ := hp b hb6
      by_cases k1 : s.1 115 a = -1
      · refine Alike_same (a := -11) ?_ ?_ H
        · unfold fX10_shift
          simp only [c_isTape, tI_pos c1, tI_pos c3, bd_s, i10, if_false, rr_0_16, ob, tp_a ha6, tp_a hb6, tp_g0 ha6, h1, if_pos k1]
        · unfold fX11_shift
          simp only [r_isTape, tI_pos c1, tI_pos c3, bd_s, i10, if_false, rr_101_33, ob, ai_115 ha6, lt0_32]
          rw [if_pos (by rw [k1]; decide)]
      · have p1 := sort_pos h2 k1
        by_cases k2 : s.1 115 b = -1
        · have q2 : ¬ ((0 : Int32) ≤ s.1 115 b) := by rw [k2]; decide
          refine Alike_same (a := -11) ?_ ?_ H
          · unfold fX10_shift
            simp only [c_isTape, tI_pos c1, tI_pos c3, bd_s, i10, if_false, rr_0_16, ob, tp_a ha6, tp_a hb6, tp_g0 ha6, tp_g0 hb6, h1, g1, if_neg k1, if_pos k2]
          · unfold fX11_shift
            simp only [r_isTape, tI_pos c1, tI_pos c3, bd_s, i10, if_false, rr_101_33, ob, ai_115 ha6, ai_115 hb6, lt0_32, if_neg (not_not_intro p1), if_neg q2]
        · have p2 := sort_pos g2 k2
          by_cases k3 : s.1 115 a = s.1 115 b
          · by_cases o1 : okG n v2 v5
            · by_cases o2 : okG m v4 v5
              · obtain ⟨x, rfl, hx⟩ := iN_of o1.1.1
                obtain ⟨y, rfl, hy⟩ := iN_of o2.1.1
                obtain ⟨w, rfl, hw⟩ := iN_of o1.1.2
                have e1 := o1.2
                have e2 := o2.2
                rw [iN_toInt hx, iN_toInt hw] at e1
                rw [iN_toInt hy, iN_toInt hw] at e2
                have cp : cpJ (lay s) (90 + 2 * a) (iN x) (90 + 2 * b) (iN y) (iN w) = some (lay (rJ s (90 + 2 * b) (va_cpy (s.2.2.1 (90 + 2 * a)) (s.2.2.1 (90 + 2 * b)) x y w))) := by
                  have na := (tp_k ha6).2.2.2.2
                  have nb := (tp_k hb6).2.2.2.2
                  exact cpJ_lay (by omega) (by omega) (by omega) (by omega)
                refine ⟨iN w, rJ s (90 + 2 * b) (va_cpy (s.2.2.1 (90 + 2 * a)) (s.2.2.1 (90 + 2 * b)) x y w), rJ (rJ s (90 + 2 * b) (va_cpy (s.2.2.1 (90 + 2 * a)) (s.2.2.1 (90 + 2 * b)) x y w)) 117 (va_cpy (s.2.2.1 117) (s.2.2.1 117) (60 * a + x) (60 * b + y) w), ?_, ?_, ?_⟩
                · unfold fX10_shift
                  simp only [c_isTape, tI_pos c1, tI_pos c3, bd_s, i10, if_false, rr_0_16, ob, tp_a ha6, tp_a hb6, tp_g0 ha6, tp_g0 hb6, h1, g1, if_neg k1, if_neg k2, if_pos k3, tp_c ha6, tp_c hb6, c_hasRange ha6 hn h3, c_hasRange hb6 hm g3, tI_pos o1, tI_pos o2, tp_r ha6, tp_r hb6, cp]
                · generalize hz : rJ s (90 + 2 * b) (va_cpy (s.2.2.1 (90 + 2 * a)) (s.2.2.1 (90 + 2 * b)) x y w) = z
                  have z1 : z.1 = s.1 := by rw [← hz, rJ_1]
                  have z2 : z.2.2.1 117 = s.2.2.1 117 := by rw [← hz, rJ_ne (by omega)]
                  unfold fX11_shift
                  simp only [r_isTape, tI_pos c1, tI_pos c3, bd_s, i10, if_false, rr_101_33, rr_101_34, ob, ai_115 ha6, ai_115 hb6, ai_116 ha6, ai_116 hb6, z1, lt0_32, if_neg (not_not_intro p1), if_pos p2, if_pos k3, if_neg (not_not_intro o1.1.1), if_neg (not_not_intro o1.1.2), if_neg (not_not_intro o2.1.1), h4, g4, cmp_pos, cmp_le0, r_range hn, r_range hm, if_neg (not_not_intro o1.2), if_pos o2.2, iN_add, iN_addL, iN_Ladd, iN_mul, iN_mulL, iN_Lmul]
                  rw [r_shift (by omega) (by omega), z2]
                · refine Inv_tape (s := s) (Kp_rJ.tr Kp_rJ) hB hC (fun d hd => ?_)
                  obtain ⟨d1, d2, d3, d4⟩ := hp d hd
                  simp only [rJ_1]
                  refine ⟨d1, d2, d3, fun i hi => ?_⟩
                  rw [rJ_same, rJ_ne (by omega)]
                  by_cases cd : d = b
                  · subst cd
                    rw [rJ_same]
                    unfold va_cpy
                    by_cases ci : y ≤ i ∧ i < y + w
                    · rw [if_pos ci, if_pos (by omega), h6 _ (by omega)]
                      rw [show 60 * a + (x + (i - y)) = 60 * a + x + (60 * d + i - (60 * d + y)) by omega]
                    · rw [if_neg ci, if_neg (by omega)]
                      exact d4 i hi
                  · rw [rJ_ne (by omega)]
                    unfold va_cpy
                    rw [if_neg (by omega)]
                    exact d4 i hi
              · refine Alike_same (a := -13) ?_ ?_ H
                · unfold fX10_shift
                  simp only [c_isTape, tI_pos c1, tI_pos c3, bd_s, i10, i00, if_true, if_false, rr_0_16, ob, tp_a ha6, tp_a hb6, tp_g0 ha6, tp_g0 hb6, h1, g1, if_neg k1, if_neg k2, if_pos k3, tp_c ha6, tp_c hb6, c_hasRange ha6 hn h3, c_hasRange hb6 hm g3, tI_pos o1, tI_neg o2]
                · unfold fX11_shift
                  simp only [r_isTape, tI_pos c1, tI_pos c3, bd_s, i10, if_false, rr_101_33, rr_101_34, ob, ai_115 ha6, ai_115 hb6, ai_116 ha6, ai_116 hb6, lt0_32, if_neg (not_not_intro p1), if_pos p2, if_pos k3, if_neg (not_not_intro o1.1.1), if_neg (not_not_intro o1.1.2), h4, g4, cmp_pos, cmp_le0, r_range hn, r_range hm, if_neg (not_not_intro o1.2)]
                  by_cases o3 : 0 ≤ v4
                  · rw [if_neg (not_not_intro o3), if_neg (fun h => o2 ⟨⟨o3, o1.1.2⟩, h⟩)]
                  · rw [if_pos o3]
            · refine Alike_same (a := -13) ?_ ?_ H
              · unfold fX10_shift
                simp only [c_isTape, tI_pos c1, tI_pos c3, bd_s, i10, i00, if_true, if_false, rr_0_16, ob, tp_a ha6, tp_a hb6, tp_g0 ha6, tp_g0 hb6, h1, g1, if_neg k1, if_neg k2, if_pos k3, tp_c ha6, c_hasRange ha6 hn h3, tI_neg o1]
              · unfold fX11_shift
                simp only [r_isTape, tI_pos c1, tI_pos c3, bd_s, i10, if_false, rr_101_33, rr_101_34, ob, ai_115 ha6, ai_115 hb6, ai_116 ha6, lt0_32, if_neg (not_not_intro p1), if_pos p2, if_pos k3, h4, cmp_pos, r_range hn]
                by_cases q5 : 0 ≤ v5
                · by_cases q2 : 0 ≤ v2
                  · by_cases q4 : 0 ≤ v4
                    · rw [if_neg (not_not_intro q5), if_neg (not_not_intro q2), if_neg (not_not_intro q4), if_pos (fun h => o1 ⟨⟨q2, q5⟩, h⟩)]
                    · rw [if_neg (not_not_intro q5), if_neg (not_not_intro q2), if_pos q4]
                  · rw [if_neg (not_not_intro q5), if_pos q2]
                · rw [if_pos q5]
          · refine Alike_same (a := -12) ?_ ?_ H
            · unfold fX10_shift
              simp only [c_isTape, tI_pos c1, tI_pos c3, bd_s, i10, if_false, rr_0_16, ob, tp_a ha6, tp_a hb6, tp_g0 ha6, tp_g0 hb6, h1, g1, if_neg k1, if_neg k2, if_neg k3]
            · unfold fX11_shift
              simp only [r_isTape, tI_pos c1, tI_pos c3, bd_s, i10, if_false, rr_101_33, ob, ai_115 ha6, ai_115 hb6, lt0_32, if_neg (not_not_intro p1), if_pos p2, if_neg k3]
    · refine Alike_same (a := -1) ?_ ?_ H
      · unfold fX10_shift
        simp only [c_isTape, tI_pos c1, tI_neg c3, bd_s, i10, i00, if_true, if_false]
      · unfold fX11_shift
        simp only [r_isTape, tI_pos c1, tI_neg c3, bd_s, i10, i00, if_true, if_false]
  · refine Alike_same (a := -1) ?_ ?_ H
    · unfold fX10_shift
      simp only [c_isTape, tI_neg c1, bd_s, i00, if_true]
    · unfold fX11_shift
      simp only [r_isTape, tI_neg c1, bd_s, i00, if_true]
end SHIFT
