/-! ===== see, plan, book ===== -/
section SEE
variable {s : Sto}
theorem k_see (H : Inv s) (v1 v2 v3 v4 : Int32) : Alike s (fX10_see 0 v1 v2 v3 v4) (fX11_see 101 v1 v2 v3 v4) := by
  have H0 := H
  obtain ⟨g, kp, kf, rn, rv, tn, tv, hB, hC⟩ := H0
  have hI := hB.1
  have hg := hI.1.1
  have b1 := hg.1
  have hR := RR_of hI
  have hc := hI.2.1.1
  have hb : Bs 2 := Or.inl rfl
  have k0 : Kb s (uI s 0 7 0) := Kb_0 (by omega)
  have hB0 := IB_keep k0 hB
  have hI0 := hB0.1
  have z7 : (uI s 0 7 0).1 0 7 = 0 := by simp (disch := first | assumption | omega) only [rI_same, rI_ne, rF_same, rF_ne, rJ_same, rJ_ne, rI_2, rF_1, rF_22, rJ_1, rJ_21, rJ_222, rI_rI, rF_rF, rJ_rJ, upd_same, upd_ne, vfu_same, vfu_ne, vpu_same, vpu_ne]
  have hC0 : Ic (uI s 0 7 0) g := by
    refine ⟨?_, Or.inl z7⟩
    have e6 : (uI s 0 7 0).1 0 6 = s.1 0 6 := by simp (disch := first | assumption | omega) only [rI_same, rI_ne, rF_same, rF_ne, rJ_same, rJ_ne, rI_2, rF_1, rF_22, rJ_1, rJ_21, rJ_222, rI_rI, rF_rF, rJ_rJ, upd_same, upd_ne, vfu_same, vfu_ne, vpu_same, vpu_ne]
    have e57 : (uI s 0 7 0).1 57 = s.1 57 := rI_ne (by omega)
    have e58 : (uI s 0 7 0).1 58 = s.1 58 := rI_ne (by omega)
    rw [e6, e57, e58]
    exact hC.1
  have H0 : Inv (uI s 0 7 0) := ⟨g, kp, kf, rn, rv, tn, tv, hB0, hC0⟩
  have p7 : ∀ z : Sto, pZ (lay z) 0 10 7 0 = some (lay (uI z 0 7 0)) := fun z => pZ0_lay (s := z) (p := 0) (ci := 10) (k := 7) rfl
  have hR0 := RR_of hI0
  have hc0 := hI0.2.1.1
  have l1 := hI0.2.1.2.1
  have l2 := hI0.2.1.2.2.1
  have l3 := hI0.2.1.2.2.2
  have g5 := hI0.1.2.2.2.1
  generalize hz : uI s 0 7 0 = z at *
  by_cases c0 : v1 = -1
  · refine ⟨0, uI z 15 3 0, uI (uI z 15 3 0) 102 110 0, ?_, ?_, ?_⟩
    · unfold fX10_see
      simp only [p7, hz, ob, if_pos c0, rr_0_0, rr_1_1, ln_c l15, c_clear l15, bd_s]
    · unfold fX11_see
      simp only [if_pos c0, rr_101_0, ob]
      rw [show sI (lay (uI z 15 3 0)) 102 110 0 = some (lay (uI (uI z 15 3 0) 102 110 0)) from si_102 (i := 110) (by omega)]
      rfl
    · have L : Lo (gs g 110 0) g := fun k hk => gs_ne (by omega)
      have q : Rg (uI (uI z 15 3 0) 102 110 (iN 0)) 102 (gs g 110 0) := Rg_set (fun k hk => by rw [rI_ne (by omega)]; exact hI0.2.2.1 k hk) (by omega)
      have o := hI0.1
      refine Inv_row (l := 15) hB0 (by omega) Ol_0 Krf_rI (g' := gs g 110 0) (OKs_rows o L (by rw [gs_same]; omega) (by rw [gs_ne (by omega)]; exact o.2.2.2.2.1) (by rw [gs_ne (by omega)]; exact o.2.2.2.2.2.1) (fun r hr => by rw [gs_same] at hr; omega) (fun r hr => ?_) (fun r hr => ?_)) L ⟨?_, fun i hi => ?_⟩ ⟨?_, fun i hi => ?_⟩ ⟨?_, fun i hi => ?_⟩ q (Ic_see L o (Ic_keep (Kc_row (l := 15) (by omega) Ol_0 Krf_rI) hC0) ?_)
      · rw [gs_ne (by omega)] at hr
        rw [gs_ne (by omega), gs_ne (by omega)]
        exact o.2.2.2.2.2.2.2.1 r hr
      · rw [gs_ne (by omega)] at hr
        rw [gs_ne (by omega), gs_ne (by omega), gs_ne (by omega)]
        exact o.2.2.2.2.2.2.2.2 r hr
      · rw [gs_same, rI_same, upd_same]; rfl
      · rw [gs_same] at hi; omega
      · rw [gs_ne (by omega), rI_ne (by omega)]; exact l2.1
      · rw [gs_ne (by omega)] at hi
        show _ = iN (gs g 110 0 (132 + i))
        rw [gs_ne (by omega), rI_ne (by omega)]
        exact l2.2 i hi
      · rw [gs_ne (by omega), rI_ne (by omega)]; exact l3.1
      · rw [gs_ne (by omega)] at hi
        show _ = iN (gs g 110 0 (149 + i))
        rw [gs_ne (by omega), rI_ne (by omega)]
        exact l3.2 i hi
      · rw [rI_ne (by omega), rI_ne (by omega)]; exact z7
  · by_cases c1 : 0 ≤ v1 ∧ v1 < iN (g 1)
    · by_cases c2 : 0 ≤ v2 ∧ v2 ≤ iN (g 0)
      · by_cases c3 : 0 ≤ v3 ∧ v3 ≤ (2 : Int32)
        · by_cases c4 : 0 ≤ v4 ∧ v4 ≤ (20 : Int32)
          · obtain ⟨a, rfl, ha⟩ := rnl c1 (by omega)
            obtain ⟨b, rfl, hb'⟩ := rng c2 (by omega)
            obtain ⟨c, rfl, hc'⟩ := rng (k := 2) c3 (by omega)
            obtain ⟨d, rfl, hd⟩ := rng (k := 20) c4 (by omega)
            by_cases c5 : g 110 = 5
            · refine ⟨-4, z, z, ?_, ?_, H0⟩
              · unfold fX10_see
                simp only [p7, hz, ob, if_neg c0, rr_0_0, rr_1_0, rr_1_1, bs_c hb, c_isAhead hb hg hc0.1, tI_pos (And.intro c1 c2), c_isState, c_within, tI_pos c3, tI_pos c4, bd_s, i10, if_false, ln_c l15]
                rw [c_full l15 (f := fun i => g (111 + i)) (by rw [← c5]; exact l1)]
                rfl
              · unfold fX11_see
                simp only [if_neg c0, oc_101, ob, r_isAhead hR0 hg, r_isStore hR0, r_isState, tI_pos c1, tI_pos c2, tI_pos c3, bd_s, i10, if_false]
                rw [r_in]
                simp (disch := first | assumption | omega) only [lit64_le, le_lit64, le_64, tI_pos c4, bd_s, i10, if_false, rr_101_0, ob]
                rw [show aI (lay z) 0 102 110 = some (iN (g 110)) from gi_g (k := 110) hI0.2.2.1 (by omega)]
                simp only [ob]
                rw [if_pos (by rw [c5]; rfl)]
            · obtain ⟨t, t1, t2, t3⟩ := c_add l15 l1 (by omega) a b c d
              have hT : Rg t 102 g := Rg_congr hI0.2.2.1 (t2.1 102 (by omega) (by omega))
              have hRt : RR t g (fun _ => false) := RR_congr hR0 (t2.1 102 (by omega) (by omega)) (by rw [t2.1 101 (by omega) (by omega)])
              have q1 := Rg_set (k := 111 + 4 * g 110) (v := a) hT (by omega)
              have q2 := Rg_set (k := 111 + 4 * g 110 + 1) (v := b) q1 (by omega)
              have q3 := Rg_set (k := 111 + 4 * g 110 + 2) (v := c) q2 (by omega)
              have q4 := Rg_set (k := 111 + 4 * g 110 + 3) (v := d) q3 (by omega)
              have q5 := Rg_set (k := 110) (v := g 110 + 1) q4 (by omega)
              have w1 : ∀ y : Sto, sI (lay y) 102 (iN (111 + 4 * g 110)) (iN a) = some (lay (uI y 102 (111 + 4 * g 110) (iN a))) := fun y => si_102 (by omega)
              have w2 : ∀ y : Sto, sI (lay y) 102 (iN (111 + 4 * g 110 + 1)) (iN b) = some (lay (uI y 102 (111 + 4 * g 110 + 1) (iN b))) := fun y => si_102 (by omega)
              have w3 : ∀ y : Sto, sI (lay y) 102 (iN (111 + 4 * g 110 + 2)) (iN c) = some (lay (uI y 102 (111 + 4 * g 110 + 2) (iN c))) := fun y => si_102 (by omega)
              have w4 : ∀ y : Sto, sI (lay y) 102 (iN (111 + 4 * g 110 + 3)) (iN d) = some (lay (uI y 102 (111 + 4 * g 110 + 3) (iN d))) := fun y => si_102 (by omega)
              have w5 : ∀ y : Sto, sI (lay y) 102 110 (iN (g 110 + 1)) = some (lay (uI y 102 110 (iN (g 110 + 1)))) := fun y => si_102 (i := 110) (by omega)
              have r1 : aI (lay t) 0 102 110 = some (iN (g 110)) := gi_g (k := 110) hT (by omega)
              have r4 := gi_g q4 (k := 110) (by omega)
              rw [gs_ne (by omega), gs_ne (by omega), gs_ne (by omega), gs_ne (by omega)] at r4
              have r5 := gi_g q5 (k := 110) (by omega)
              rw [gs_same] at r5
              have n5 : ¬ (iN (g 110) = (5 : Int32)) := by rw [iN_eqL (by omega) (by omega)]; exact c5
              refine ⟨iN (g 110 + 1), t, uI (uI (uI (uI (uI t 102 (111 + 4 * g 110) (iN a)) 102 (111 + 4 * g 110 + 1) (iN b)) 102 (111 + 4 * g 110 + 2) (iN c)) 102 (111 + 4 * g 110 + 3) (iN d)) 102 110 (iN (g 110 + 1)), ?_, ?_, ?_⟩
              rotate_left
              · unfold fX11_see
                simp only [if_neg c0, oc_101, ob, r_isAhead hRt hg, r_isStore hRt, r_isState, tI_pos c1, tI_pos c2, tI_pos c3, bd_s, i10, if_false]
                rw [r_in]
                simp (disch := first | assumption | omega) only [lit64_le, le_lit64, le_64, tI_pos c4, bd_s, i10, if_false, rr_101_0, ob]
                simp only [rr_101_0, r1, ob, if_neg n5, iN_add, iN_addL, iN_Ladd, iN_mul, iN_mulL, iN_Lmul, w1, w2, w3, w4]
                rw [show aI (lay _) 0 102 110 = _ from r4]
                simp only [rr_101_0, ob, iN_add, iN_addL, iN_Ladd, iN_mul, iN_mulL, iN_Lmul, w5]
                rw [show aI (lay _) 0 102 110 = _ from r5]
                rfl
              · have L : Lo (gSee g a b c d) g := fun k hk => see_out (by omega) (by omega)
                have o := hI0.1
                refine Inv_row (l := 15) hB0 (by omega) t2 (((((Krf_rI).tr Krf_rI).tr Krf_rI).tr Krf_rI).tr Krf_rI) (g' := gSee g a b c d) (OKs_rows o L (by rw [see_n]; omega) (by rw [see_out (by omega) (by omega)]; exact o.2.2.2.2.1) (by rw [see_out (by omega) (by omega)]; exact o.2.2.2.2.2.1) (fun r hr => ?_) (fun r hr => ?_) (fun r hr => ?_)) L ?_ ?_ ?_ q5 (Ic_see L o (Ic_keep (Kc_row (l := 15) (by omega) t2 (((((Krf_rI).tr Krf_rI).tr Krf_rI).tr Krf_rI).tr Krf_rI)) hC0) ?_)
                · rw [see_n] at hr
                  have e : ∀ k, k < 4 → gSee g a b c d (111 + k + 4 * r) = if r < g 110 then g (111 + k + 4 * r) else nt4 a b c d k := fun k hk => by
                    rw [show 111 + k + 4 * r = 111 + (r * 4 + k) by omega, see_in (by omega)]
                    by_cases cr : r < g 110
                    · rw [if_pos (by omega), if_pos cr]
                    · rw [if_neg (by omega), if_neg cr, show r * 4 + k - g 110 * 4 = k by omega]
                  have e0 := e 0 (by omega)
                  have e1 := e 1 (by omega)
                  have e2 := e 2 (by omega)
                  have e3 := e 3 (by omega)
                  rw [e0, e1, e2, e3]
                  by_cases cr : r < g 110
                  · simp only [if_pos cr]
                    exact o.2.2.2.2.2.2.1 r cr
                  · simp only [if_neg cr]
                    exact ⟨show a ≤ 11 by omega, show b ≤ 12 by have := o.2.1; omega, show c ≤ 2 by omega, show d ≤ 20 by omega⟩
                · rw [see_out (by omega) (by omega)] at hr
                  rw [see_out (by omega) (by omega), see_out (by omega) (by omega)]
                  exact o.2.2.2.2.2.2.2.1 r hr
                · rw [see_out (by omega) (by omega)] at hr
                  rw [see_out (by omega) (by omega), see_out (by omega) (by omega), see_out (by omega) (by omega)]
                  exact o.2.2.2.2.2.2.2.2 r hr
                · rw [see_n]
                  exact LI_f t3 (fun i hi => see_in hi)
                · rw [see_out (by omega) (by omega)]
                  exact LI_f (LI_congr l2 (t2.1 _ (by omega) (by omega)) (t2.1 _ (by omega) (by omega))) (fun i hi => see_out (by omega) (by omega))
                · rw [see_out (by omega) (by omega)]
                  exact LI_f (LI_congr l3 (t2.1 _ (by omega) (by omega)) (t2.1 _ (by omega) (by omega))) (fun i hi => see_out (by omega) (by omega))
                · rw [rI_ne (by omega), rI_ne (by omega), rI_ne (by omega), rI_ne (by omega), rI_ne (by omega), t2.1 0 (by omega) (by omega)]; exact z7
              · unfold fX10_see
                simp only [p7, hz, ob, if_neg c0, rr_0_0, rr_1_0, rr_1_1, bs_c hb, c_isAhead hb hg hc0.1, tI_pos (And.intro c1 c2), c_isState, c_within, tI_pos c3, tI_pos c4, bd_s, i10, if_false, ln_c l15]
                rw [t1]
                rfl
          · refine ⟨-2, z, z, ?_, ?_, H0⟩
            · unfold fX10_see
              simp only [p7, hz, ob, if_neg c0, rr_0_0, rr_1_0, rr_1_1, bs_c hb, c_isAhead hb hg hc0.1, tI_pos (And.intro c1 c2), c_isState, c_within, tI_pos c3, tI_neg c4, bd_s, i10, i00, if_true, if_false]
            · unfold fX11_see
              simp only [if_neg c0, oc_101, ob, r_isAhead hR0 hg, r_isStore hR0, r_isState, tI_pos c1, tI_pos c2, tI_pos c3, bd_s, i10, if_false]
              rw [r_in]
              simp (disch := first | assumption | omega) only [lit64_le, le_lit64, le_64, tI_neg c4, bd_s, i00, if_true]
        · refine ⟨-1, z, z, ?_, ?_, H0⟩
          · unfold fX10_see
            simp only [p7, hz, ob, if_neg c0, rr_0_0, rr_1_0, rr_1_1, bs_c hb, c_isAhead hb hg hc0.1, tI_pos (And.intro c1 c2), c_isState, tI_neg c3, bd_s, i10, i00, if_true, if_false]
          · unfold fX11_see
            simp only [if_neg c0, oc_101, ob, r_isAhead hR0 hg, r_isStore hR0, r_isState, tI_pos c1, tI_pos c2, tI_neg c3, bd_s, i10, i00, if_true, if_false]
      · refine ⟨-1, z, z, ?_, ?_, H0⟩
        · unfold fX10_see
          simp only [p7, hz, ob, if_neg c0, rr_0_0, rr_1_0, rr_1_1, bs_c hb, c_isAhead hb hg hc0.1, tI_neg (fun h : ((0 ≤ v1 ∧ v1 < iN (g 1)) ∧ 0 ≤ v2 ∧ v2 ≤ iN (g 0)) => c2 h.2), bd_s, i00, if_true]
        · unfold fX11_see
          simp only [if_neg c0, oc_101, ob, r_isAhead hR0 hg, r_isStore hR0, tI_pos c1, tI_neg c2, bd_s, i10, i00, if_true, if_false]
    · refine ⟨-1, z, z, ?_, ?_, H0⟩
      · unfold fX10_see
        simp only [p7, hz, ob, if_neg c0, rr_0_0, rr_1_0, rr_1_1, bs_c hb, c_isAhead hb hg hc0.1, tI_neg (fun h : ((0 ≤ v1 ∧ v1 < iN (g 1)) ∧ 0 ≤ v2 ∧ v2 ≤ iN (g 0)) => c1 h.1), bd_s, i00, if_true]
      · unfold fX11_see
        simp only [if_neg c0, oc_101, ob, r_isAhead hR0 hg, tI_neg c1, bd_s, i00, if_true]
end SEE
