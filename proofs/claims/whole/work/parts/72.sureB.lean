section SUREB
variable {s : Sto}
theorem k_sure (H : Inv s) (v1 v2 v3 v4 v5 : Int32) : Alike s (fX10_sure 0 v1 v2 v3 v4 v5) (fX11_sure 101 v1 v2 v3 v4 v5) := by
  have H0 := H
  obtain ⟨g, kp, kf, rn, rv, tn, tv, hB, hC⟩ := H0
  have hI := hB.1
  have hg := hI.1.1
  have b1 := hg.1
  have hR := RR_of hI
  have hc := hI.2.1.1
  have hb : Bs 2 := Or.inl rfl
  have hr0 := hB.2.2.1
  by_cases c1 : okRp g v1 v2 v3
  · obtain ⟨r, rfl, hr⟩ := rng (k := 3) c1.1 (by omega)
    have hr4 : r < 4 := by omega
    have hl := rc_l hr4
    have hL := LI_rec hr0 hr4
    obtain ⟨e1, e2, e3, e4⟩ := hr0 r hr4
    by_cases c2 : 0 ≤ v4 ∧ v4 < iN (g 73)
    · by_cases c3 : 0 ≤ v5 ∧ v5 ≤ (1 : Int32)
      · obtain ⟨x, rfl, hx⟩ := rng c1.2.1 (by omega)
        obtain ⟨rl, rfl, hrl⟩ := rng (k := 20) c1.2.2 (by omega)
        obtain ⟨d, rfl, hd⟩ := rnl c2 (by omega)
        obtain ⟨j, rfl, hj⟩ := rng (k := 1) c3 (by omega)
        obtain ⟨t, t1, t2, t3, t4⟩ := c_through (R := rv r) (n := rn r) hg hr4 e1 (Nat.le_refl _) hrl hx (fun i hi => (e4 i hi).1) hc hC hL
        have hBt := IB_keep t2 hB
        have hRt := RR_of hBt.1
        have hct := hBt.1.2.1.1
        obtain ⟨d1, d2, d3, d4⟩ := hBt.2.2.1 r hr4
        obtain ⟨u, u1, u2, u3, u4⟩ := r_replays (R := rv r) (v5 := iN d) (n := rn r) hg hr4 e1 (Nat.le_refl _) hrl hx (fun i hi => (e4 i hi).1) (Or.inr ⟨d, hd, rfl⟩) hRt (fun i hi => (d4 i hi).2.2)
        obtain ⟨p19, p20, p21, p22, p23, p111, pd⟩ := u4
        obtain ⟨p26, p25⟩ := pd d hd rfl
        have wl := wn_le (g := g) (d := d) (rn r)
        have ml := mt_le (g := g) (R := rv r) (rl := rl) (x0 := x) (d := d) (rn r)
        have z0 : (0 : Int32) = iN 0 := rfl
        have cw : fX4_monthsWanting 71 2 (iN d) (lay t) = some (iN (wnC g d (rn r)), lay t) := by
          unfold fX4_monthsWanting
          rw [z0]
          exact c_wantL hg hct hd e1 t4.1 FU 0 (by unfold FU; omega) (by omega)
        have cm : fX4_monthsMet 71 2 (iN d) (lay t) = some (iN (mtC g (rv r) rl x d (rn r)), lay t) := by
          unfold fX4_monthsMet
          rw [z0]
          exact c_metL hg hct hd e1 hrl t4 FU 0 (by unfold FU; omega) (by omega)
        have m1 : ∀ (z : Sto), RR z g (fun _ => false) → fX11_isReplay 101 (iN r) (iN x) (iN rl) (lay z) = some (1, lay z) := fun z hz => by rw [r_isReplay hz, tI_pos c1]
        generalize hw : wnC g d (rn r) = W at *
        generalize hm : mtC g (rv r) rl x d (rn r) = M at *
        by_cases c0 : W = 0
        · refine ⟨-9223372036854775808, t, u, ?_, ?_, Inv_of hBt u2 (Ic_keep u3 t3)⟩
          · unfold fX10_sure
            simp only [oc_0, ob, c_canReplay hc, tI_pos c1, bd_s, i10, if_false, rr_0_0, rr_1_0, bs_c hb, c_hasDemand hb hg hc.1, tI_pos c2, c_within, tI_pos c3, rr_0_13, rc_a hr4, ln_g3 hl, e2]
            rw [t1]
            simp only [bd_s, rr_0_12, rr_0_0, rr_1_0, ob, oc_71, cw, cm]
            rw [if_neg (by rw [c0]; decide)]
          · unfold fX11_sure
            simp only [oc_101, ob, m1 t hRt, bd_s, i10, if_false, r_isDemand hRt hg, tI_pos c2]
            rw [r_in]
            simp (disch := first | assumption | omega) only [lit64_le, le_lit64, le_64, tI_pos c3, bd_s, i10, if_false, rr_101_4, oc_101, ob, ai_104 hr4, d3]
            rw [u1]
            simp only [bd_s, gi_101_26, ob, p26]
            rw [if_pos (by rw [c0]; rfl)]
        · have gp := Nat.gcd_pos_of_pos_left M (show 0 < W by omega)
          have gl := Nat.le_of_dvd (show 0 < W by omega) (Nat.gcd_dvd_left W M)
          have dv : ∀ y : Int32, dvI y (iN (Nat.gcd W M)) = some (y / iN (Nat.gcd W M)) := fun y => by
            unfold dvI
            rw [if_neg (by rw [iN_eqL (by omega) (by omega)]; omega)]
          refine ⟨(if j = 0 then iN M / iN (Nat.gcd W M) else iN W / iN (Nat.gcd W M)).toInt64, t, u, ?_, ?_, Inv_of hBt u2 (Ic_keep u3 t3)⟩
          · unfold fX10_sure
            simp only [oc_0, ob, c_canReplay hc, tI_pos c1, bd_s, i10, if_false, rr_0_0, rr_1_0, bs_c hb, c_hasDemand hb hg hc.1, tI_pos c2, c_within, tI_pos c3, rr_0_13, rc_a hr4, ln_g3 hl, e2]
            rw [t1]
            simp only [bd_s, rr_0_12, rr_0_0, rr_1_0, ob, oc_71, cw, cm]
            rw [if_pos (by rw [iN_Llt (by omega) (by omega)]; omega), c_gcd (by omega) (by omega) (by omega)]
            simp only [bd_s, dv, ob]
            simp (disch := first | assumption | omega) only [iN_eqL]
            by_cases cj : j = 0
            · rw [if_pos cj, if_pos cj]
            · rw [if_neg cj, if_neg cj]
          · unfold fX11_sure
            simp only [oc_101, ob, m1 t hRt, bd_s, i10, if_false, r_isDemand hRt hg, tI_pos c2]
            rw [r_in]
            simp (disch := first | assumption | omega) only [lit64_le, le_lit64, le_64, tI_pos c3, bd_s, i10, if_false, rr_101_4, oc_101, ob, ai_104 hr4, d3]
            rw [u1]
            simp only [bd_s, gi_101_26, gi_101_25, ob, p26, p25]
            rw [if_neg (by rw [iN_eqL (by omega) (by omega)]; exact c0), r_gcd FU W M (by unfold FU; omega) (by omega) (by omega)]
            simp only [gi_101_26, gi_101_25, ob, p26, p25, dv]
            simp (disch := first | assumption | omega) only [iN_eqL]
            by_cases cj : j = 0
            · rw [if_pos cj, if_pos cj]
            · rw [if_neg cj, if_neg cj]
      · refine Alike_same (a := -9223372036854775808) ?_ ?_ H
        · unfold fX10_sure
          simp only [oc_0, ob, c_canReplay hc, tI_pos c1, bd_s, i10, i00, if_true, if_false, rr_0_0, rr_1_0, bs_c hb, c_hasDemand hb hg hc.1, tI_pos c2, c_within, tI_neg c3]
        · unfold fX11_sure
          simp only [oc_101, ob, r_isReplay hR, tI_pos c1, bd_s, i10, if_false, r_isDemand hR hg, tI_pos c2]
          rw [r_in]
          simp (disch := first | assumption | omega) only [lit64_le, le_lit64, le_64, tI_neg c3, bd_s, i00, if_true]
    · refine Alike_same (a := -9223372036854775808) ?_ ?_ H
      · unfold fX10_sure
        simp only [oc_0, ob, c_canReplay hc, tI_pos c1, bd_s, i10, i00, if_true, if_false, rr_0_0, rr_1_0, bs_c hb, c_hasDemand hb hg hc.1, tI_neg c2]
      · unfold fX11_sure
        simp only [oc_101, ob, r_isReplay hR, tI_pos c1, bd_s, i10, i00, if_true, if_false, r_isDemand hR hg, tI_neg c2]
  · refine Alike_same (a := -9223372036854775808) ?_ ?_ H
    · unfold fX10_sure
      simp only [oc_0, ob, c_canReplay hc, tI_neg c1, bd_s, i00, if_true]
    · unfold fX11_sure
      simp only [oc_101, ob, r_isReplay hR, tI_neg c1, bd_s, i00, if_true]
end SUREB
