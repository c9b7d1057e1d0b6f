/-! ===== calls that serve, count ===== -/
section CALLB
variable {s : Sto}
theorem c_isStore {g : Nat → Nat} (h : RB s 2 g) {v : Int32} : fX10_isStore 0 v (lay s) = some (tI (0 ≤ v ∧ v ≤ iN (g 0)), lay s) := by
  have hb : Bs 2 := Or.inl rfl
  unfold fX10_isStore
  simp only [rr_0_0, rr_1_0, ob, bs_g0 hb, h.1.1.1, c_within, bd_s, zz_tI]
theorem Inv_keep {t : Sto} (H : Inv s) (h1 : Kb s t) (h2 : Kc s t) : Inv t := by
  obtain ⟨g, kp, kf, rn, rv, tn, tv, hB, hC⟩ := H
  exact ⟨g, kp, kf, rn, rv, tn, tv, IB_keep h1 hB, Ic_keep h2 hC⟩
theorem k_served (H : Inv s) (u v x w : Int32) : Alike s (fX10_served 0 u v x w) (fX11_served 101 u v x w) := by
  have H0 := H
  obtain ⟨g, kp, kf, rn, rv, tn, tv, hB, hC⟩ := H0
  have hI := hB.1
  have hg := hI.1.1
  have b1 := hg.1
  have hR := RR_of hI
  have hc := hI.2.1.1
  have hb : Bs 2 := Or.inl rfl
  by_cases c1 : 0 ≤ u ∧ u < iN (g 73)
  · obtain ⟨d, rfl, hd⟩ := rnl c1 (by omega)
    have d6 : d < 6 := by omega
    by_cases c2 : 0 ≤ v ∧ v ≤ (11 : Int32)
    · obtain ⟨m, rfl, hm⟩ := rng (k := 11) c2 (by omega)
      have hm12 : m < 12 := by omega
      by_cases c3 : 0 ≤ x
      · have c3' : ¬ (x < 0) := Int32.not_lt.mpr c3
        obtain ⟨y, rfl, hy⟩ := iN_of c3
        by_cases c4 : 0 ≤ w ∧ w ≤ (1 : Int32)
        · have hw := wantS_le (m := m) hg hd
          obtain ⟨f1, l1, l2⟩ := r_ranks hR hg
          have hR1 : RR (rI s 109 f1) g (fun _ => false) := RR_congr hR rfl rfl
          obtain ⟨f2, q1, q2⟩ := r_serves hR1 l2 hg hm12 hy
          have hR2 : RR (rI (rI s 109 f1) 108 f2) g (fun _ => false) := RR_congr hR1 rfl rfl
          have hgw : gotS g m y (rkS g d) ≤ wantS g d m := by
            have := Nat.min_le_left (wantS g (lnS g (rkS g d)) m) (restS g m y (rkS g d))
            rw [lnS_rk hd] at this
            unfold gotS
            rw [lnS_rk hd]
            exact this
          refine ⟨if w = 0 then (iN (gotS g m y (rkS g d))).toInt64 else (iZ (gainS g d (gotS g m y (rkS g d)) (wantS g d m))).toInt64, s, rI (rI s 109 f1) 108 f2, ?_, ?_, ?_⟩
          · unfold fX10_served
            simp (disch := first | assumption | omega) only [rr_0_0, rr_1_0, ob, bs_c hb, c_hasDemand hb hg hc.1, c_within, tI_pos c1, tI_pos c2, tI_pos c4, bd_s, i10, if_false, if_neg c3', c_gotBy hb hg hc hd hm12 hy, bs_r8 hb, bs_d hb d6, bs_cd hb d6, c_wantedIn hb hg hc.1 hd hm12, c_gainOf hb hg hc.1 hd hgw hw]
            split <;> rfl
          · unfold fX11_served
            simp (disch := first | assumption | omega) only [oc_101, ob, r_isDemand hR hg, r_isMonth, r_in, lit64_le, le_lit64, le_64, tI_pos c1, tI_pos c2, tI_pos c4, bd_s, i10, if_false, if_pos c3]
            rw [l1]
            simp only [bd_s, oc_101, ob]
            rw [q1]
            simp (disch := first | assumption | omega) only [bd_s, rr_101_8, oc_101, ob, ai_108, rI_same, q2 d hd, r_wants hR2 hg hd hm12, r_gain hR2 hg hd hgw hw]
            split <;> rfl
          · exact Inv_keep H ((Kb_rI (by unfold SP; omega) (by omega) (by omega)).tr (Kb_rI (by unfold SP; omega) (by omega) (by omega))) ((Kc_rI (by omega)).tr (Kc_rI (by omega)))
        · refine Alike_same (a := -9223372036854775808) ?_ ?_ H
          · unfold fX10_served
            simp (disch := first | assumption | omega) only [rr_0_0, rr_1_0, ob, bs_c hb, c_hasDemand hb hg hc.1, c_within, tI_pos c1, tI_pos c2, tI_neg c4, bd_s, i10, i00, if_true, if_false, if_neg c3']
          · unfold fX11_served
            simp (disch := first | assumption | omega) only [oc_101, ob, r_isDemand hR hg, r_isMonth, r_in, lit64_le, le_lit64, le_64, tI_pos c1, tI_pos c2, tI_neg c4, bd_s, i10, i00, if_false, if_true]
      · have c3' : x < 0 := Int32.not_le.mp c3
        refine Alike_same (a := -9223372036854775808) ?_ ?_ H
        · unfold fX10_served
          simp (disch := first | assumption | omega) only [rr_0_0, rr_1_0, ob, bs_c hb, c_hasDemand hb hg hc.1, c_within, tI_pos c1, tI_pos c2, bd_s, i10, i00, if_true, if_false, if_pos c3']
        · unfold fX11_served
          simp (disch := first | assumption | omega) only [oc_101, ob, r_isDemand hR hg, r_isMonth, r_in, lit64_le, le_lit64, le_64, tI_pos c1, tI_pos c2, bd_s, i10, i00, if_false, if_true, if_neg c3]
          split <;> rfl
    · refine Alike_same (a := -9223372036854775808) ?_ ?_ H
      · unfold fX10_served
        simp (disch := first | assumption | omega) only [rr_0_0, rr_1_0, ob, bs_c hb, c_hasDemand hb hg hc.1, c_within, tI_pos c1, tI_neg c2, bd_s, i10, i00, if_true, if_false]
      · unfold fX11_served
        simp (disch := first | assumption | omega) only [oc_101, ob, r_isDemand hR hg, r_isMonth, tI_pos c1, tI_neg c2, bd_s, i10, i00, if_false, if_true]
  · refine Alike_same (a := -9223372036854775808) ?_ ?_ H
    · unfold fX10_served
      simp (disch := first | assumption | omega) only [rr_0_0, rr_1_0, ob, bs_c hb, c_hasDemand hb hg hc.1, tI_neg c1, bd_s, i00, if_true]
    · unfold fX11_served
      simp (disch := first | assumption | omega) only [oc_101, ob, r_isDemand hR hg, tI_neg c1, bd_s, i00, if_true]
theorem k_step (H : Inv s) (u v x y w : Int32) : Alike s (fX10_step 0 u v x y w) (fX11_step 101 u v x y w) := by
  have H0 := H
  obtain ⟨g, kp, kf, rn, rv, tn, tv, hB, hC⟩ := H0
  have hI := hB.1
  have hg := hI.1.1
  have b1 := hg.1
  have hR := RR_of hI
  have hc := hI.2.1.1
  have hb : Bs 2 := Or.inl rfl
  by_cases c1 : 0 ≤ u ∧ u ≤ (11 : Int32)
  · obtain ⟨m, rfl, hm⟩ := rng (k := 11) c1 (by omega)
    have hm12 : m < 12 := by omega
    by_cases c2 : 0 ≤ w ∧ w ≤ (5 : Int32)
    · obtain ⟨n, rfl, hn⟩ := rng (k := 5) c2 (by omega)
      by_cases c3 : 0 ≤ v ∧ v ≤ iN (g 0)
      · obtain ⟨z, rfl, hz⟩ := rng c3 (by omega)
        by_cases c4 : 0 ≤ x ∧ x ≤ (99 : Int32)
        · obtain ⟨q, rfl, hq⟩ := rng (k := 99) c4 (by omega)
          by_cases c5 : 0 ≤ y
          · obtain ⟨r, rfl, hr⟩ := iN_of c5
            obtain ⟨f, p1, p2⟩ := c_go (a := 70) (Or.inl rfl) hb hg hc hm12 (show z ≤ 13 by omega) hq hr
            have hR1 : RR (rI s 70 f) g (fun _ => false) := RR_congr hR rfl rfl
            obtain ⟨f1, l1, l2⟩ := r_ranks hR1 hg
            have hR2 : RR (rI (rI s 70 f) 109 f1) g (fun _ => false) := RR_congr hR1 rfl rfl
            obtain ⟨t, t1, t2, t3, _⟩ := r_goes hR2 l2 hg hm12 (show z ≤ 13 by omega) hq hr
            refine ⟨(f n).toInt64, rI s 70 f, t, ?_, ?_, ?_⟩
            · unfold fX10_step
              simp only [c_within, c_isStore hc, tI_pos c1, tI_pos c2, tI_pos c3, tI_pos c4, bd_s, i10, if_false, if_pos c5, oc_0, ob, rr_0_11, rr_0_0, rr_1_0, oc_70]
              rw [p1]
              simp only [bd_s, rr_0_11, oc_70, ob]
              unfold fX7_tell
              simp only [gi_70_0, gi_70_1, gi_70_2, gi_70_3, gi_70_4, gi_70_5, ob, rI_same]
              rcases (show n = 0 ∨ n = 1 ∨ n = 2 ∨ n = 3 ∨ n = 4 ∨ n = 5 by omega) with rfl | rfl | rfl | rfl | rfl | rfl <;> rfl
            · unfold fX11_step
              simp (disch := first | assumption | omega) only [r_isMonth, r_isStore hR1, r_in, lit64_le, le_lit64, le_64, tI_pos c1, tI_pos c2, tI_pos c3, tI_pos c4, bd_s, i10, if_false, if_pos c5, oc_101, ob]
              rw [l1]
              simp only [bd_s, oc_101, ob]
              rw [t1]
              simp only [bd_s, ob, gi_101_10, gi_101_11, gi_101_12, gi_101_13, gi_101_14, gi_101_15, t3.1, t3.2.1, t3.2.2.1, t3.2.2.2.1, t3.2.2.2.2.1, t3.2.2.2.2.2]
              obtain ⟨o0, o1, o2, o3, o4, o5⟩ := p2
              rcases (show n = 0 ∨ n = 1 ∨ n = 2 ∨ n = 3 ∨ n = 4 ∨ n = 5 by omega) with rfl | rfl | rfl | rfl | rfl | rfl
              · rw [o0]; rfl
              · rw [o1]; rfl
              · rw [o2]; rfl
              · rw [o3]; rfl
              · rw [o4]; rfl
              · rw [o5]; rfl
            · exact Inv_keep H (((Kb_rI (by unfold SP; omega) (by omega) (by omega)).tr (Kb_rI (by unfold SP; omega) (by omega) (by omega))).tr (Kb_Fx t2.F)) (((Kc_rI (by omega)).tr (Kc_rI (by omega))).tr (Kc_Fx t2.F))
          · refine Alike_same (a := -9223372036854775808) ?_ ?_ H
            · unfold fX10_step
              simp only [c_within, c_isStore hc, tI_pos c1, tI_pos c2, tI_pos c3, tI_pos c4, bd_s, i10, if_false, if_neg c5, oc_0, ob]
            · unfold fX11_step
              simp (disch := first | assumption | omega) only [r_isMonth, r_isStore hR, r_in, lit64_le, le_lit64, le_64, tI_pos c1, tI_pos c2, tI_pos c3, tI_pos c4, bd_s, i10, if_false, if_neg c5, oc_101, ob]
        · refine Alike_same (a := -9223372036854775808) ?_ ?_ H
          · unfold fX10_step
            simp only [c_within, c_isStore hc, tI_pos c1, tI_pos c2, tI_pos c3, tI_neg c4, bd_s, i10, i00, if_true, if_false, oc_0, ob]
          · unfold fX11_step
            simp (disch := first | assumption | omega) only [r_isMonth, r_isStore hR, r_in, lit64_le, le_lit64, le_64, tI_pos c1, tI_pos c2, tI_pos c3, tI_neg c4, bd_s, i10, i00, if_true, if_false, oc_101, ob]
      · refine Alike_same (a := -9223372036854775808) ?_ ?_ H
        · unfold fX10_step
          simp only [c_within, c_isStore hc, tI_pos c1, tI_pos c2, tI_neg c3, bd_s, i10, i00, if_true, if_false, oc_0, ob]
        · unfold fX11_step
          simp only [r_isMonth, tI_pos c1, bd_s, i10, if_false]
          rw [r_in]
          simp (disch := first | assumption | omega) only [lit64_le, le_lit64, le_64, tI_pos c2, bd_s, i10, if_false, oc_101, ob]
          rw [r_isStore hR, tI_neg c3]
          rfl
    · refine Alike_same (a := -9223372036854775808) ?_ ?_ H
      · unfold fX10_step
        simp only [c_within, tI_pos c1, tI_neg c2, bd_s, i10, i00, if_true, if_false]
      · unfold fX11_step
        simp only [r_isMonth, tI_pos c1, bd_s, i10, if_false]
        rw [r_in]
        simp only [bd_s]
        rw [if_pos]
        rw [tI_eq0]
        simp (disch := first | assumption | omega) only [lit64_le, le_lit64, le_64]
        exact c2
  · refine Alike_same (a := -9223372036854775808) ?_ ?_ H
    · unfold fX10_step
      simp only [c_within, tI_neg c1, bd_s, i00, if_true]
    · unfold fX11_step
      simp (disch := first | assumption | omega) only [r_isMonth, tI_neg c1, bd_s, i00, if_true]
theorem ln15 : Ln 15 4 5 := by unfold Ln; decide
theorem ln17 : Ln 17 2 8 := by unfold Ln; decide
theorem ln19 : Ln 19 3 8 := by unfold Ln; decide
theorem ln35 : Ln 35 4 5 := by unfold Ln; decide
theorem ln37 : Ln 37 2 8 := by unfold Ln; decide
theorem ln39 : Ln 39 3 8 := by unfold Ln; decide
theorem ln76 : Ln 76 1 100 := by unfold Ln; decide
theorem k_count (H : Inv s) (v : Int32) : Alike s (fX10_count 0 v) (fX11_count 101 v) := by
  have H0 := H
  obtain ⟨g, kp, kf, rn, rv, tn, tv, hB, hC⟩ := H0
  have hI := hB.1
  have hg := hI.1.1
  have b1 := hg.1
  have hR := RR_of hI
  have hc := hI.2.1.1
  have hb : Bs 2 := Or.inl rfl
  by_cases c1 : 0 ≤ v ∧ v ≤ (4 : Int32)
  · obtain ⟨n, rfl, hn⟩ := rng (k := 4) c1 (by omega)
    have e73 : aI (lay s) 0 102 73 = some (iN (g 73)) := gi_g hI.2.2.1 (k := 73) (by omega)
    have e110 : aI (lay s) 0 102 110 = some (iN (g 110)) := gi_g hI.2.2.1 (k := 110) (by omega)
    have e131 : aI (lay s) 0 102 131 = some (iN (g 131)) := gi_g hI.2.2.1 (k := 131) (by omega)
    have e148 : aI (lay s) 0 102 148 = some (iN (g 148)) := gi_g hI.2.2.1 (k := 148) (by omega)
    have l1 : s.1 15 3 = iN (g 110) := hI.2.1.2.1.1
    have l2 : s.1 17 3 = iN (g 131) := hI.2.1.2.2.1.1
    have l3 : s.1 19 3 = iN (g 148) := hI.2.1.2.2.2.1
    have l4 := hB.2.2.2.1.2.1
    have l5 := hB.2.2.2.1.2.2.1
    refine Alike_same (a := if n = 0 then iN (g 73) else if n = 1 then iN (g 110) else if n = 2 then iN (g 131) else if n = 3 then iN (g 148) else iN tn) ?_ ?_ H
    · unfold fX10_count
      simp only [rr_0_0, rr_0_14, rr_1_0, rr_1_1, rr_1_2, rr_1_3, ob, bs_g10 hb, hc.1.1.2.2.2.2, ln_g3 ln15, ln_g3 ln17, ln_g3 ln19, ln_g3 ln76, l1, l2, l3, l4]
      rcases (show n = 0 ∨ n = 1 ∨ n = 2 ∨ n = 3 ∨ n = 4 by omega) with rfl | rfl | rfl | rfl | rfl <;> rfl
    · unfold fX11_count
      simp only [rr_101_0, ob, e73, e110, e131, e148, gi_101_29, l5]
      rcases (show n = 0 ∨ n = 1 ∨ n = 2 ∨ n = 3 ∨ n = 4 by omega) with rfl | rfl | rfl | rfl | rfl <;> rfl
  · have ne : ∀ k : Nat, k ≤ 4 → v ≠ iN k := fun k hk e => c1 (by
      subst e
      simp (disch := first | assumption | omega) only [iN_Lle, iN_leL]
      omega)
    have n0 : ¬ (v = 0) := ne 0 (by omega)
    have n1 : ¬ (v = 1) := ne 1 (by omega)
    have n2 : ¬ (v = 2) := ne 2 (by omega)
    have n3 : ¬ (v = 3) := ne 3 (by omega)
    have n4 : ¬ (v = 4) := ne 4 (by omega)
    by_cases c2 : (5 : Int32) ≤ v ∧ v ≤ (8 : Int32)
    · have hv0 : (0 : Int32) ≤ v := Int32.le_trans (by decide) c2.1
      obtain ⟨n, rfl, hn⟩ := iN_of hv0
      have hn5 : 5 ≤ n ∧ n ≤ 8 := by
        have := c2
        simp (disch := first | assumption | omega) only [iN_Lle, iN_leL] at this
        exact this
      obtain ⟨r1, r2, r3, r4⟩ := hB.2.2.1 (n - 5) (by omega)
      have hr : n - 5 < 4 := by omega
      refine Alike_same (a := iN (rn (n - 5))) ?_ ?_ H
      · unfold fX10_count
        simp only [if_neg n0, if_neg n1, if_neg n2, if_neg n3, if_neg n4, c_within, tI_pos c2, bd_s, i10, if_false, rr_0_13, ob]
        rw [iN_subL hn5.1]
        simp only [rc_a hr, ob, ln_g3 (rc_l hr), r2]
      · unfold fX11_count
        simp (disch := first | assumption | omega) only [if_neg n0, if_neg n1, if_neg n2, if_neg n3, if_neg n4, r_in, lit64_le, le_lit64, le_64, tI_pos c2, bd_s, i10, if_false, rr_101_4, ob]
        rw [iN_subL hn5.1, ai_104 hr, r3]
        rfl
    · refine Alike_same (a := -2) ?_ ?_ H
      · unfold fX10_count
        simp only [if_neg n0, if_neg n1, if_neg n2, if_neg n3, if_neg n4, c_within, tI_neg c2, bd_s, i00, if_true]
      · unfold fX11_count
        simp (disch := first | assumption | omega) only [if_neg n0, if_neg n1, if_neg n2, if_neg n3, if_neg n4, r_in, lit64_le, le_lit64, le_64, tI_neg c2, bd_s, i00, if_true]
end CALLB
