section PLANB
variable {s : Sto}
theorem k_plan (H : Inv s) (v1 v2 : Int32) : Alike s (fX10_plan 0 v1 v2) (fX11_plan 101 v1 v2) := by
  have H0 := H
  obtain ⟨g, kp, kf, rn, rv, tn, tv, hB, hC⟩ := H0
  have hI := hB.1
  have hg := hI.1.1
  have b1 := hg.1
  have hR := RR_of hI
  have hc := hI.2.1.1
  have hb : Bs 2 := Or.inl rfl
  by_cases c0 : v1 = -1
  · refine ⟨0, uI s 17 3 0, uI (uI s 17 3 0) 102 131 0, ?_, ?_, Inv_clear hB hC (Or.inl ⟨rfl, rfl⟩)⟩
    · unfold fX10_plan
      simp only [if_pos c0, rr_0_0, rr_1_2, ob, ln_c l17, c_clear l17, bd_s]
    · unfold fX11_plan
      simp only [if_pos c0, rr_101_0, ob]
      rw [show sI (lay (uI s 17 3 0)) 102 131 0 = some (lay (uI (uI s 17 3 0) 102 131 0)) from si_102 (i := 131) (by omega)]
      rfl
  · by_cases c1 : 0 ≤ v1 ∧ v1 ≤ (3 : Int32)
    · obtain ⟨a, rfl, ha⟩ := rng (k := 3) c1 (by omega)
      by_cases h3 : a = 3
      · have n0 : ¬ a = 0 := by omega
        have n1 : ¬ a = 1 := by omega
        have n2 : ¬ a = 2 := by omega
        by_cases c2 : 0 ≤ v2 ∧ v2 < iN (g 73)
        · obtain ⟨b, hv, hb2⟩ := rnl c2 (by omega)
          obtain ⟨x, t, u, t1, t2, t3, t4⟩ := plan_tail (a := a) (b := b) H hB hC (by omega) (iN a) v2 ⟨rfl, hv⟩
          have hRt : RR t g (fun _ => false) := RR_congr hR (t4.1 102 (by omega) (by omega)) (by rw [t4.1 101 (by omega) (by omega)])
          refine ⟨x, t, u, ?_, ?_, t3⟩
          · unfold fX10_plan
            simp only [if_neg c0, c_within, tI_pos c1, bd_s, i10, if_false, jn_s, rr_0_0, rr_1_0, rr_1_2, ob, bs_c hb, c_hasDemand hb hg hc.1, tI_pos c2, ln_c l17, t1]
            simp (disch := first | assumption | omega) only [iN_eqL, if_pos h3, if_neg n0, if_neg n1, if_neg n2]
          · unfold fX11_plan
            rw [r_in]
            simp (disch := first | assumption | omega) only [if_neg c0, lit64_le, le_lit64, le_64, tI_pos c1, bd_s, i10, if_false]
            simp (disch := first | assumption | omega) only [iN_eqL, if_pos h3, if_neg n0, if_neg n1, if_neg n2]
            simp (disch := first | assumption | omega) only [jn_s, lit64_le, le_lit64, le_64, bd_s, i10, i00, if_true, if_false, oc_101, ob, r_isDemand hRt hg, tI_pos c2]
            exact t2
        · refine Alike_same (a := -1) ?_ ?_ H
          · unfold fX10_plan
            simp only [if_neg c0, c_within, tI_pos c1, bd_s, i10, i00, if_false, if_true, jn_s, rr_0_0, rr_1_0, ob, bs_c hb, c_hasDemand hb hg hc.1, tI_neg c2]
            simp (disch := first | assumption | omega) only [iN_eqL, if_pos h3]
          · unfold fX11_plan
            rw [r_in]
            simp (disch := first | assumption | omega) only [if_neg c0, lit64_le, le_lit64, le_64, tI_pos c1, bd_s, i10, if_false]
            simp (disch := first | assumption | omega) only [iN_eqL, if_pos h3, if_neg n0, if_neg n1, if_neg n2]
            simp (disch := first | assumption | omega) only [jn_s, lit64_le, le_lit64, le_64, bd_s, i10, i00, if_true, if_false, oc_101, ob, r_isDemand hR hg, tI_neg c2]
      · by_cases n0 : a = 0
        · have n1 : ¬ a = 1 := by omega
          have n2 : ¬ a = 2 := by omega
          by_cases c2 : (1 : Int32) ≤ v2 ∧ v2 ≤ (12 : Int32)
          · obtain ⟨b, hv, hb2⟩ := rng (v := v2) (k := 12) ⟨Int32.le_trans (by decide) c2.1, c2.2⟩ (by omega)
            have hb3 : 1 ≤ b := by
              have := c2.1
              rw [hv, iN_Lle (by omega) (by omega)] at this
              exact this
            obtain ⟨x, t, u, t1, t2, t3, t4⟩ := plan_tail (a := a) (b := b) H hB hC (by omega) (iN a) v2 ⟨rfl, hv⟩
            refine ⟨x, t, u, ?_, ?_, t3⟩
            · unfold fX10_plan
              simp only [if_neg c0, c_within, tI_pos c1, bd_s, i10, if_false, jn_s, rr_0_0, rr_1_0, rr_1_2, ob, tI_pos c2, ln_c l17, t1]
              simp (disch := first | assumption | omega) only [iN_eqL, if_neg h3, if_pos n0, if_neg n1, if_neg n2]
            · unfold fX11_plan
              rw [r_in]
              simp (disch := first | assumption | omega) only [if_neg c0, lit64_le, le_lit64, le_64, tI_pos c1, bd_s, i10, if_false]
              simp (disch := first | assumption | omega) only [iN_eqL, if_neg h3, if_pos n0, if_neg n1, if_neg n2]
              simp (disch := first | assumption | omega) only [jn_s, lit64_le, le_lit64, le_64, bd_s, i10, i00, if_true, if_false, oc_101, ob, r_in, tI_pos c2]
              exact t2
          · refine Alike_same (a := -2) ?_ ?_ H
            · unfold fX10_plan
              simp only [if_neg c0, c_within, tI_pos c1, bd_s, i10, i00, if_true, if_false, jn_s, rr_0_0, rr_1_0, rr_1_2, ob, tI_neg c2]
              simp (disch := first | assumption | omega) only [iN_eqL, if_neg h3, if_pos n0]
            · unfold fX11_plan
              rw [r_in]
              simp (disch := first | assumption | omega) only [if_neg c0, lit64_le, le_lit64, le_64, tI_pos c1, bd_s, i10, if_false]
              simp (disch := first | assumption | omega) only [iN_eqL, if_neg h3, if_pos n0]
              simp (disch := first | assumption | omega) only [jn_s, lit64_le, le_lit64, le_64, bd_s, i10, i00, if_true, if_false, oc_101, ob, r_in, tI_neg c2]
        · by_cases c2 : 0 ≤ v2 ∧ v2 ≤ (9 : Int32)
          · obtain ⟨b, hv, hb2⟩ := rng (k := 9) c2 (by omega)
            obtain ⟨x, t, u, t1, t2, t3, t4⟩ := plan_tail (a := a) (b := b) H hB hC (by omega) (iN a) v2 ⟨rfl, hv⟩
            by_cases n1 : a = 1
            · have n2 : ¬ a = 2 := by omega
              refine ⟨x, t, u, ?_, ?_, t3⟩
              · unfold fX10_plan
                simp only [if_neg c0, c_within, tI_pos c1, bd_s, i10, if_false, jn_s, rr_0_0, rr_1_0, rr_1_2, ob, tI_pos c2, ln_c l17, t1]
                simp (disch := first | assumption | omega) only [iN_eqL, if_neg h3, if_neg n0, if_pos n1, if_neg n2]
              · unfold fX11_plan
                rw [r_in]
                simp (disch := first | assumption | omega) only [if_neg c0, lit64_le, le_lit64, le_64, tI_pos c1, bd_s, i10, if_false]
                simp (disch := first | assumption | omega) only [iN_eqL, if_neg h3, if_neg n0, if_pos n1, if_neg n2]
                simp (disch := first | assumption | omega) only [jn_s, lit64_le, le_lit64, le_64, bd_s, i10, i00, if_true, if_false, oc_101, ob, r_in, tI_pos c2]
                exact t2
            · have n2 : a = 2 := by omega
              refine ⟨x, t, u, ?_, ?_, t3⟩
              · unfold fX10_plan
                simp only [if_neg c0, c_within, tI_pos c1, bd_s, i10, if_false, jn_s, rr_0_0, rr_1_0, rr_1_2, ob, tI_pos c2, ln_c l17, t1]
                simp (disch := first | assumption | omega) only [iN_eqL, if_neg h3, if_neg n0, if_neg n1, if_pos n2]
              · unfold fX11_plan
                rw [r_in]
                simp (disch := first | assumption | omega) only [if_neg c0, lit64_le, le_lit64, le_64, tI_pos c1, bd_s, i10, if_false]
                simp (disch := first | assumption | omega) only [iN_eqL, if_neg h3, if_neg n0, if_neg n1, if_pos n2]
                simp (disch := first | assumption | omega) only [jn_s, lit64_le, le_lit64, le_64, bd_s, i10, i00, if_true, if_false, oc_101, ob, r_in, tI_pos c2]
                exact t2
          · by_cases n1 : a = 1
            · have n2 : ¬ a = 2 := by omega
              refine Alike_same (a := -2) ?_ ?_ H
              · unfold fX10_plan
                simp only [if_neg c0, c_within, tI_pos c1, bd_s, i10, i00, if_true, if_false, jn_s, ob, tI_neg c2]
                simp (disch := first | assumption | omega) only [iN_eqL, if_neg h3, if_neg n0, if_pos n1, if_neg n2]
              · unfold fX11_plan
                rw [r_in]
                simp (disch := first | assumption | omega) only [if_neg c0, lit64_le, le_lit64, le_64, tI_pos c1, bd_s, i10, if_false]
                simp (disch := first | assumption | omega) only [iN_eqL, if_neg h3, if_neg n0, if_pos n1, if_neg n2]
                simp (disch := first | assumption | omega) only [jn_s, lit64_le, le_lit64, le_64, bd_s, i10, i00, if_true, if_false, oc_101, ob, r_in, tI_neg c2]
            · have n2 : a = 2 := by omega
              refine Alike_same (a := -2) ?_ ?_ H
              · unfold fX10_plan
                simp only [if_neg c0, c_within, tI_pos c1, bd_s, i10, i00, if_true, if_false, jn_s, ob, tI_neg c2]
                simp (disch := first | assumption | omega) only [iN_eqL, if_neg h3, if_neg n0, if_neg n1, if_pos n2]
              · unfold fX11_plan
                rw [r_in]
                simp (disch := first | assumption | omega) only [if_neg c0, lit64_le, le_lit64, le_64, tI_pos c1, bd_s, i10, if_false]
                simp (disch := first | assumption | omega) only [iN_eqL, if_neg h3, if_neg n0, if_neg n1, if_pos n2]
                simp (disch := first | assumption | omega) only [jn_s, lit64_le, le_lit64, le_64, bd_s, i10, i00, if_true, if_false, oc_101, ob, r_in, tI_neg c2]
    · refine Alike_same (a := -1) ?_ ?_ H
      · unfold fX10_plan
        simp only [if_neg c0, c_within, tI_neg c1, bd_s, i00, if_true]
      · unfold fX11_plan
        rw [r_in]
        simp (disch := first | assumption | omega) only [if_neg c0, lit64_le, le_lit64, le_64, tI_neg c1, bd_s, i00, if_true]
theorem k_book (H : Inv s) (v1 v2 v3 : Int32) : Alike s (fX10_book 0 v1 v2 v3) (fX11_book 101 v1 v2 v3) := by
  have H0 := H
  obtain ⟨g, kp, kf, rn, rv, tn, tv, hB, hC⟩ := H0
  have hI := hB.1
  have hg := hI.1.1
  have b1 := hg.1
  have hR := RR_of hI
  have hc := hI.2.1.1
  have hb : Bs 2 := Or.inl rfl
  have o := hI.1
  have l1 := hI.2.1.2.1
  have l2 := hI.2.1.2.2.1
  have l3 := hI.2.1.2.2.2
  have g5 := o.2.2.2.2.2.1
  by_cases c0 : v1 = -1
  · refine ⟨0, uI s 19 3 0, uI (uI s 19 3 0) 102 148 0, ?_, ?_, Inv_clear hB hC (Or.inr ⟨rfl, rfl⟩)⟩
    · unfold fX10_book
      simp only [if_pos c0, rr_0_0, rr_1_3, ob, ln_c l19, c_clear l19, bd_s]
    · unfold fX11_book
      simp only [if_pos c0, rr_101_0, ob]
      rw [show sI (lay (uI s 19 3 0)) 102 148 0 = some (lay (uI (uI s 19 3 0) 102 148 0)) from si_102 (i := 148) (by omega)]
      rfl
  · by_cases c1 : 0 ≤ v1 ∧ v1 ≤ (11 : Int32)
    · by_cases c2 : 0 ≤ v2 ∧ v2 ≤ (12 : Int32)
      · by_cases c3 : 0 ≤ v3 ∧ v3 ≤ (20 : Int32)
        · obtain ⟨a, rfl, ha⟩ := rng (k := 11) c1 (by omega)
          obtain ⟨b, rfl, hb'⟩ := rng (k := 12) c2 (by omega)
          obtain ⟨c, rfl, hc'⟩ := rng (k := 20) c3 (by omega)
          by_cases c5 : g 148 = 8
          · refine Alike_same (a := -4) ?_ ?_ H
            · unfold fX10_book fX6_add__
              simp only [if_neg c0, c_within, tI_pos c1, tI_pos c2, tI_pos c3, bd_s, i10, if_false, rr_0_0, rr_1_3, ob, ln_c l19]
              rw [c_full l19 (f := fun i => g (149 + i)) (by rw [← c5]; exact l3)]
              rfl
            · unfold fX11_book
              simp only [if_neg c0, r_isMonth, tI_pos c1, bd_s, i10, if_false]
              rw [r_in]
              simp (disch := first | assumption | omega) only [lit64_le, le_lit64, le_64, tI_pos c2, bd_s, i10, if_false]
              rw [r_in]
              simp (disch := first | assumption | omega) only [lit64_le, le_lit64, le_64, tI_pos c3, bd_s, i10, if_false, rr_101_0, ob]
              rw [show aI (lay s) 0 102 148 = some (iN (g 148)) from gi_g (k := 148) hI.2.2.1 (by omega)]
              simp only [ob]
              rw [if_pos (by rw [c5]; rfl)]
          · obtain ⟨t, t1, t2, t3⟩ := c_add l19 l3 (by omega) a b c 0
            have hT : Rg t 102 g := Rg_congr hI.2.2.1 (t2.1 102 (by omega) (by omega))
            have q1 := Rg_set (k := 149 + 3 * g 148) (v := a) hT (by omega)
            have q2 := Rg_set (k := 149 + 3 * g 148 + 1) (v := b) q1 (by omega)
            have q3 := Rg_set (k := 149 + 3 * g 148 + 2) (v := c) q2 (by omega)
            have q5 := Rg_set (k := 148) (v := g 148 + 1) q3 (by omega)
            have w1 : ∀ y : Sto, sI (lay y) 102 (iN (149 + 3 * g 148)) (iN a) = some (lay (uI y 102 (149 + 3 * g 148) (iN a))) := fun y => si_102 (by omega)
            have w2 : ∀ y : Sto, sI (lay y) 102 (iN (149 + 3 * g 148 + 1)) (iN b) = some (lay (uI y 102 (149 + 3 * g 148 + 1) (iN b))) := fun y => si_102 (by omega)
            have w3 : ∀ y : Sto, sI (lay y) 102 (iN (149 + 3 * g 148 + 2)) (iN c) = some (lay (uI y 102 (149 + 3 * g 148 + 2) (iN c))) := fun y => si_102 (by omega)
            have w5 : ∀ y : Sto, sI (lay y) 102 148 (iN (g 148 + 1)) = some (lay (uI y 102 148 (iN (g 148 + 1)))) := fun y => si_102 (i := 148) (by omega)
            have r1 : aI (lay t) 0 102 148 = some (iN (g 148)) := gi_g (k := 148) hT (by omega)
            have r4 := gi_g q3 (k := 148) (by omega)
            rw [gs_ne (by omega), gs_ne (by omega), gs_ne (by omega)] at r4
            have r5 := gi_g q5 (k := 148) (by omega)
            rw [gs_same] at r5
            have n5 : ¬ (iN (g 148) = (8 : Int32)) := by rw [iN_eqL (by omega) (by omega)]; exact c5
            have L : Lo (gBook g a b c) g := fun k hk => book_out (by omega)
            have L2 : ∀ k, k < 131 → gBook g a b c k = g k := fun k hk => book_out (by omega)
            refine ⟨iN (g 148 + 1), t, uI (uI (uI (uI t 102 (149 + 3 * g 148) (iN a)) 102 (149 + 3 * g 148 + 1) (iN b)) 102 (149 + 3 * g 148 + 2) (iN c)) 102 148 (iN (g 148 + 1)), ?_, ?_, ?_⟩
            · unfold fX10_book fX6_add__
              simp only [if_neg c0, c_within, tI_pos c1, tI_pos c2, tI_pos c3, bd_s, i10, if_false, rr_0_0, rr_1_3, ob, ln_c l19]
              rw [show fX6_add___ 19 (iN a) (iN b) (iN c) 0 (lay s) = _ from t1]
              rfl
            · unfold fX11_book
              simp only [if_neg c0, r_isMonth, tI_pos c1, bd_s, i10, if_false]
              rw [r_in]
              simp (disch := first | assumption | omega) only [lit64_le, le_lit64, le_64, tI_pos c2, bd_s, i10, if_false]
              rw [r_in]
              simp (disch := first | assumption | omega) only [lit64_le, le_lit64, le_64, tI_pos c3, bd_s, i10, if_false]
              simp only [rr_101_0, r1, ob, if_neg n5, iN_add, iN_addL, iN_Ladd, iN_mul, iN_mulL, iN_Lmul, w1, w2, w3]
              rw [show aI (lay _) 0 102 148 = _ from r4]
              simp only [rr_101_0, ob, iN_add, iN_addL, iN_Ladd, iN_mul, iN_mulL, iN_Lmul, w5]
              rw [show aI (lay _) 0 102 148 = _ from r5]
              rfl
            · have b1 := o.2.2.2.1
              have b2 := o.2.2.2.2.1
              refine Inv_row (l := 19) hB (by omega) t2 ((((Krf_rI).tr Krf_rI).tr Krf_rI).tr Krf_rI) (g' := gBook g a b c) (OKs_rows o L (by rw [L2 _ (by omega)]; exact b1) (by rw [book_out (by omega)]; exact b2) (by rw [book_n]; omega) (fun r hr => ?_) (fun r hr => ?_) (fun r hr => ?_)) L ?_ ?_ ?_ q5 (Ic_lo L2 o (Ic_keep (Kc_row (l := 19) (by omega) t2 ((((Krf_rI).tr Krf_rI).tr Krf_rI).tr Krf_rI)) hC))
              · rw [book_out (by omega)] at hr
                rw [book_out (by omega), book_out (by omega), book_out (by omega), book_out (by omega)]
                exact o.2.2.2.2.2.2.1 r hr
              · rw [book_out (by omega)] at hr
                rw [book_out (by omega), book_out (by omega)]
                exact o.2.2.2.2.2.2.2.1 r hr
              · rw [book_n] at hr
                have e : ∀ k, k < 3 → gBook g a b c (149 + k + 3 * r) = if r < g 148 then g (149 + k + 3 * r) else nt4 a b c 0 k := fun k hk => by
                  rw [show 149 + k + 3 * r = 149 + (r * 3 + k) by omega, book_in (by omega)]
                  by_cases cr : r < g 148
                  · rw [if_pos (by omega), if_pos cr]
                  · rw [if_neg (by omega), if_neg cr, show r * 3 + k - g 148 * 3 = k by omega]
                have e0 := e 0 (by omega)
                have e1 := e 1 (by omega)
                have e2 := e 2 (by omega)
                rw [e0, e1, e2]
                by_cases cr : r < g 148
                · simp only [if_pos cr]
                  exact o.2.2.2.2.2.2.2.2 r cr
                · simp only [if_neg cr]
                  exact ⟨show a ≤ 11 by omega, show b ≤ 12 by omega, show c ≤ 20 by omega⟩
              · rw [book_out (by omega)]
                exact LI_f (LI_congr l1 (t2.1 _ (by omega) (by omega)) (t2.1 _ (by omega) (by omega))) (fun i hi => book_out (by omega))
              · rw [book_out (by omega)]
                exact LI_f (LI_congr l2 (t2.1 _ (by omega) (by omega)) (t2.1 _ (by omega) (by omega))) (fun i hi => book_out (by omega))
              · rw [book_n]
                exact LI_f t3 (fun i hi => book_in hi)
        · refine Alike_same (a := -2) ?_ ?_ H
          · unfold fX10_book
            simp only [if_neg c0, c_within, tI_pos c1, tI_pos c2, tI_neg c3, bd_s, i10, i00, if_true, if_false]
          · unfold fX11_book
            simp only [if_neg c0, r_isMonth, tI_pos c1, bd_s, i10, if_false]
            rw [r_in]
            simp (disch := first | assumption | omega) only [lit64_le, le_lit64, le_64, tI_pos c2, bd_s, i10, if_false]
            rw [r_in]
            simp (disch := first | assumption | omega) only [lit64_le, le_lit64, le_64, tI_neg c3, bd_s, i00, if_true]
      · refine Alike_same (a := -2) ?_ ?_ H
        · unfold fX10_book
          simp only [if_neg c0, c_within, tI_pos c1, tI_neg c2, bd_s, i10, i00, if_true, if_false]
        · unfold fX11_book
          simp only [if_neg c0, r_isMonth, tI_pos c1, bd_s, i10, if_false]
          rw [r_in]
          simp (disch := first | assumption | omega) only [lit64_le, le_lit64, le_64, tI_neg c2, bd_s, i00, if_true]
    · refine Alike_same (a := -1) ?_ ?_ H
      · unfold fX10_book
        simp only [if_neg c0, c_within, tI_neg c1, bd_s, i00, if_true]
      · unfold fX11_book
        simp only [if_neg c0, r_isMonth, tI_neg c1, bd_s, i00, if_true]
end PLANB
