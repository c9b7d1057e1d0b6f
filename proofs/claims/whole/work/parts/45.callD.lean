/-! ===== calls of the best, of the chain ===== -/
section CALLD
variable {s : Sto}
theorem Kb_st3 {r : Nat} {fb fm : Nat → UInt32} {fr : Nat → Int32} (hr : Rw r) : Kb s (st3 s r fb fm fr) := by
  have := Rw_le hr
  unfold st3
  exact (Kb_rF.tr Kb_rF).tr (Kb_rI (by unfold SP; omega) (by omega) (by omega))
theorem Kc_st3 {fb fm : Nat → UInt32} {fr : Nat → Int32} : Kc s (st3 s 59 fb fm fr) := ((Kc_rF (by omega)).tr (Kc_rF (by omega))).tr (Kc_rI (by omega))
/-- only the rows of the best that are kept have changed, and that they are -/
def Kn (s t : Sto) : Prop := (∀ q, q ≠ 0 → q ≠ 57 → q ≠ 58 → t.1 q = s.1 q) ∧ (∀ k, k ≠ 6 → t.1 0 k = s.1 0 k) ∧ (∀ q, q ≠ 55 → q ≠ 56 → t.2.1 q = s.2.1 q) ∧ t.2.2 = s.2.2
theorem Kn.b {t : Sto} (h : Kn s t) : Kb s t := ⟨fun q hq => h.1 q (by unfold SP at hq; omega) (by unfold SP at hq; omega) (by unfold SP at hq; omega), h.2.1 2 (by omega), fun k _ => by rw [h.1 101 (by omega) (by omega) (by omega)], by rw [h.2.2.2], fun ht => by unfold Tw at *; rw [h.2.2.2]; exact ht⟩
/-- the rows now are those of g -/
def Sv (s : Sto) (g : Nat → Nat) : Prop := s.1 0 6 = 1 ∧ GNs g 0 (s.1 58) ∧ TBs g 0 (s.2.1 55) (s.2.1 56) (s.1 57)
theorem c_solveNow {g : Nat → Nat} (hg : OKg g) (h : RB s 2 g) (hc : Ic s g) : ∃ t, fX10_solveNow 0 (lay s) = some ((), lay t) ∧ Kn s t ∧ Sv t g ∧ Ic t g := by
  have hb : Bs 2 := Or.inl rfl
  have hr : Rw 54 := Or.inl rfl
  have b1 := hg.1
  obtain ⟨hc1, hc2⟩ := hc
  unfold fX10_solveNow
  rcases hc1 with e | ⟨e, h1, h2⟩
  · obtain ⟨fg, q1, q2⟩ := c_fillGains hb hr hg h (f := 0) (Nat.zero_le _)
    have hS : RB (rI s 58 fg) 2 g := RB_rI h (by omega) (by omega)
    obtain ⟨fb, fm, fr, w1, w2⟩ := c_sweep hb hr hg hS (f := 0) (Nat.zero_le _) (by rw [rI_same]; exact q2)
    refine ⟨uI (st3 (rI s 58 fg) 54 fb fm fr) 0 6 1, ?_, ?_, ?_, ?_⟩
    · simp only [gi_0_6, ob, e, if_true, rr_0_4, rr_0_0, rr_1_0, rw_c hr]
      have q1' : fX1_fillGains 54 2 0 (lay s) = some ((), lay (rI s 58 fg)) := q1
      have w1' : fX1_sweep 54 2 0 (lay (rI s 58 fg)) = some ((), lay (st3 (rI s 58 fg) 54 fb fm fr)) := w1
      rw [q1']
      simp only [bd_s, rr_0_4, rr_0_0, rr_1_0, rw_c hr, ob]
      rw [w1']
      simp only [bd_s, pZ1_lay (p := 0) (ci := 10) (k := 6) rfl, ob]
    · refine ⟨fun q a b c => ?_, fun k hk => ?_, fun q a b => ?_, rfl⟩
      · rw [rI_ne a, st3_1 (by omega), rI_ne c]
      · rw [rI_same, upd_ne hk, st3_1 (by omega), rI_ne (by omega)]
      · rw [rI_2, st3_2 a b, rI_2]
    · refine ⟨by rw [rI_same, upd_same], ?_, ?_⟩
      · rw [rI_ne (by omega), st3_1 (by omega), rI_same]
        exact q2
      · rw [rI_2, rI_ne (by omega)]
        have e1 := st3_b (s := rI s 58 fg) (r := 54) (fb := fb) (fm := fm) (fr := fr)
        have e2 := st3_m (s := rI s 58 fg) (r := 54) (fb := fb) (fm := fm) (fr := fr)
        have e3 := st3_r (s := rI s 58 fg) (r := 54) (fb := fb) (fm := fm) (fr := fr)
        rw [e1, e2, e3]
        exact w2
    · refine ⟨Or.inr ⟨by rw [rI_same, upd_same], ?_, ?_⟩, ?_⟩
      · rw [rI_ne (by omega), st3_1 (by omega), rI_same]
        exact q2
      · rw [rI_2, rI_ne (by omega)]
        have e1 := st3_b (s := rI s 58 fg) (r := 54) (fb := fb) (fm := fm) (fr := fr)
        have e2 := st3_m (s := rI s 58 fg) (r := 54) (fb := fb) (fm := fm) (fr := fr)
        have e3 := st3_r (s := rI s 58 fg) (r := 54) (fb := fb) (fm := fm) (fr := fr)
        rw [e1, e2, e3]
        exact w2
      · rw [rI_same, upd_ne (by omega), upd_ne (by omega), upd_ne (by omega), st3_1 (by omega), rI_ne (by omega)]
        exact hc2
  · refine ⟨s, ?_, ⟨fun _ _ _ _ => rfl, fun _ _ => rfl, fun _ _ _ => rfl, rfl⟩, ⟨e, h1, h2⟩, ⟨Or.inr ⟨e, h1, h2⟩, hc2⟩⟩
    simp only [gi_0_6, ob, e, i10, if_false]
theorem Inv_of {t : Sto} {g kp : Nat → Nat} {kf : Bool} {rn : Nat → Nat} {rv : Nat → Nat → Nat} {tn : Nat} {tv : Nat → Nat} (hB : IB s g kp kf rn rv tn tv) (h1 : Kb s t) (h2 : Ic t g) : Inv t := ⟨g, kp, kf, rn, rv, tn, tv, IB_keep h1 hB, h2⟩
theorem k_best (H : Inv s) (u v w : Int32) : Alike s (fX10_best 0 u v w) (fX11_best 101 u v w) := by
  have H0 := H
  obtain ⟨g, kp, kf, rn, rv, tn, tv, hB, hC⟩ := H0
  have hI := hB.1
  have hg := hI.1.1
  have b1 := hg.1
  have hR := RR_of hI
  have hc := hI.2.1.1
  have hb : Bs 2 := Or.inl rfl
  have e1 : aI (lay s) 0 102 1 = some (iN (g 1)) := gi_g hI.2.2.1 (k := 1) (by omega)
  by_cases c1 : 0 ≤ u ∧ u ≤ iN (g 1)
  · obtain ⟨m, rfl, hm⟩ := rng c1 (by omega)
    by_cases c2 : 0 ≤ v ∧ v ≤ iN (g 0)
    · obtain ⟨x, rfl, hx⟩ := rng c2 (by omega)
      by_cases c3 : 0 ≤ w ∧ w ≤ (2 : Int32)
      · obtain ⟨i, rfl, hi⟩ := rng (k := 2) c3 (by omega)
        have hi3 : i < 3 := by omega
        obtain ⟨t, t1, t2, t3, t4⟩ := c_solveNow hg hc hC
        have hR1 : RR t g (fun _ => false) := RR_congr hR (t2.1 102 (by omega) (by omega) (by omega)) (by rw [t2.1 101 (by omega) (by omega) (by omega)])
        have e1' : aI (lay t) 0 102 1 = some (iN (g 1)) := by
          rw [show (1 : Int32) = iN 1 from rfl, ai_102 (by omega), rr_k hR1 (by omega)]
        obtain ⟨y, y1, y2, y3, y4⟩ := r_finds hg hR1 (f := m) (by omega)
        rw [Nat.min_eq_left hm] at y4
        have hok := bstS_aL hg (g 1 - m) x i (by omega) hx hi3
        have hl := ix_lt (m := m) (x := x) (i := i) (by omega) (by omega) hi3
        refine ⟨(bstS g (g 1 - m) x i).toInt32.toInt64, t, y, ?_, ?_, ?_⟩
        · unfold fX10_best
          simp only [rr_0_0, rr_1_0, ob, bs_g1 hb, hc.1.1.2.1, c_within, c_isStore hc, c_isState, tI_pos c1, tI_pos c2, tI_pos c3, bd_s, i10, if_false, oc_0]
          rw [t1]
          simp only [bd_s, rr_0_4, ob, rw_c (r := 54) (Or.inl rfl)]
          rw [c_bestAt (r := 54) (Or.inl rfl) (Nat.zero_le _) hm hx hi3 hg t3.2.2]
          simp only [bd_s]
          rw [c_bitsOf hok.1.1 hok.2]
          rfl
        · unfold fX11_best
          simp (disch := first | assumption | omega) only [rr_101_0, ob, e1', r_in, lit64_le, le_lit64, le_64, r_isStore hR1, r_isState, tI_pos c1, tI_pos c2, tI_pos c3, bd_s, i10, if_false, oc_101]
          rw [y1]
          simp only [bd_s, rr_101_6, ob, r_place, ai_106 hl]
          rw [y4.1 m x i (Nat.le_refl _) hm hx hi3, r_bits hok.1.1]
          rfl
        · exact Inv_of hB (t2.b.tr (Kb_Fx y2)) (Ic_keep (Kc_Fx y2) t4)
      · refine Alike_same (a := -9223372036854775808) ?_ ?_ H
        · unfold fX10_best
          simp only [rr_0_0, rr_1_0, ob, bs_g1 hb, hc.1.1.2.1, c_within, c_isStore hc, c_isState, tI_pos c1, tI_pos c2, tI_neg c3, bd_s, i10, i00, if_true, if_false, oc_0]
        · unfold fX11_best
          simp (disch := first | assumption | omega) only [rr_101_0, ob, e1, r_in, lit64_le, le_lit64, le_64, r_isStore hR, r_isState, tI_pos c1, tI_pos c2, tI_neg c3, bd_s, i10, i00, if_true, if_false, oc_101]
    · refine Alike_same (a := -9223372036854775808) ?_ ?_ H
      · unfold fX10_best
        simp only [rr_0_0, rr_1_0, ob, bs_g1 hb, hc.1.1.2.1, c_within, c_isStore hc, tI_pos c1, tI_neg c2, bd_s, i10, i00, if_true, if_false, oc_0]
      · unfold fX11_best
        simp (disch := first | assumption | omega) only [rr_101_0, ob, e1, r_in, lit64_le, le_lit64, le_64, r_isStore hR, tI_pos c1, tI_neg c2, bd_s, i10, i00, if_true, if_false, oc_101]
  · refine Alike_same (a := -9223372036854775808) ?_ ?_ H
    · unfold fX10_best
      simp only [rr_0_0, rr_1_0, ob, bs_g1 hb, hc.1.1.2.1, c_within, tI_neg c1, bd_s, i00, if_true]
    · unfold fX11_best
      simp (disch := first | assumption | omega) only [rr_101_0, ob, e1, r_in, lit64_le, le_lit64, le_64, tI_neg c1, bd_s, i00, if_true]
theorem k_release (H : Inv s) (u v w : Int32) : Alike s (fX10_release 0 u v w) (fX11_release 101 u v w) := by
  have H0 := H
  obtain ⟨g, kp, kf, rn, rv, tn, tv, hB, hC⟩ := H0
  have hI := hB.1
  have hg := hI.1.1
  have b1 := hg.1
  have hR := RR_of hI
  have hc := hI.2.1.1
  have hb : Bs 2 := Or.inl rfl
  by_cases c1 : 0 ≤ u ∧ u < iN (g 1)
  · obtain ⟨m, rfl, hm⟩ := rnl c1 (by omega)
    by_cases c2 : 0 ≤ v ∧ v ≤ iN (g 0)
    · obtain ⟨x, rfl, hx⟩ := rng c2 (by omega)
      by_cases c3 : 0 ≤ w ∧ w ≤ (2 : Int32)
      · obtain ⟨i, rfl, hi⟩ := rng (k := 2) c3 (by omega)
        have hi3 : i < 3 := by omega
        obtain ⟨t, t1, t2, t3, t4⟩ := c_solveNow hg hc hC
        have hR1 : RR t g (fun _ => false) := RR_congr hR (t2.1 102 (by omega) (by omega) (by omega)) (by rw [t2.1 101 (by omega) (by omega) (by omega)])
        obtain ⟨y, y1, y2, y3, y4⟩ := r_finds hg hR1 (f := m) (by omega)
        rw [Nat.min_eq_left (by omega)] at y4
        have hl := ix_lt2 (m := m) (x := x) (i := i) (by omega) (by omega) hi3
        refine ⟨iN (rlsS g (g 1 - m) x i), t, y, ?_, ?_, ?_⟩
        · unfold fX10_release
          simp only [rr_0_0, rr_1_0, ob, bs_c hb, c_isAhead hb hg hc.1, c_isState, tI_pos (And.intro c1 c2), tI_pos c3, bd_s, i10, if_false, oc_0]
          rw [t1]
          simp only [bd_s, rr_0_4, ob, rw_c (r := 54) (Or.inl rfl)]
          rw [c_releaseAt (r := 54) (Or.inl rfl) (Nat.zero_le _) hm hx hi3 hg t3.2.2]
          rfl
        · unfold fX11_release
          simp only [oc_101, ob, r_isAhead hR1 hg, r_isStore hR1, r_isState, tI_pos c1, tI_pos c2, tI_pos c3, bd_s, i10, if_false]
          rw [y1]
          simp only [bd_s, rr_101_7, ob, r_place, ai_107 hl]
          rw [y4.2 m x i (Nat.le_refl _) hm hx hi3]
        · exact Inv_of hB (t2.b.tr (Kb_Fx y2)) (Ic_keep (Kc_Fx y2) t4)
      · refine Alike_same (a := -1) ?_ ?_ H
        · unfold fX10_release
          simp only [rr_0_0, rr_1_0, ob, bs_c hb, c_isAhead hb hg hc.1, c_isState, tI_pos (And.intro c1 c2), tI_neg c3, bd_s, i10, i00, if_true, if_false]
        · unfold fX11_release
          simp only [oc_101, ob, r_isAhead hR hg, r_isStore hR, r_isState, tI_pos c1, tI_pos c2, tI_neg c3, bd_s, i10, i00, if_true, if_false]
    · refine Alike_same (a := -1) ?_ ?_ H
      · unfold fX10_release
        simp only [rr_0_0, rr_1_0, ob, bs_c hb, c_isAhead hb hg hc.1, tI_neg (fun h : ((0 ≤ iN m ∧ iN m < iN (g 1)) ∧ 0 ≤ v ∧ v ≤ iN (g 0)) => c2 h.2), bd_s, i00, if_true]
      · unfold fX11_release
        simp only [oc_101, ob, r_isAhead hR hg, r_isStore hR, tI_pos c1, tI_neg c2, bd_s, i10, i00, if_true, if_false]
  · refine Alike_same (a := -1) ?_ ?_ H
    · unfold fX10_release
      simp only [rr_0_0, rr_1_0, ob, bs_c hb, c_isAhead hb hg hc.1, tI_neg (fun h : ((0 ≤ u ∧ u < iN (g 1)) ∧ 0 ≤ v ∧ v ≤ iN (g 0)) => c1 h.1), bd_s, i00, if_true]
    · unfold fX11_release
      simp only [oc_101, ob, r_isAhead hR hg, tI_neg c1, bd_s, i00, if_true]
theorem k_would (H : Inv s) (u v w z : Int32) : Alike s (fX10_would 0 u v w z) (fX11_would 101 u v w z) := by
  have H0 := H
  obtain ⟨g, kp, kf, rn, rv, tn, tv, hB, hC⟩ := H0
  have hI := hB.1
  have hg := hI.1.1
  have b1 := hg.1
  have hR := RR_of hI
  have hc := hI.2.1.1
  have hb : Bs 2 := Or.inl rfl
  by_cases c1 : 0 ≤ u ∧ u < iN (g 1)
  · obtain ⟨m, rfl, hm⟩ := rnl c1 (by omega)
    by_cases c2 : 0 ≤ v ∧ v ≤ iN (g 0)
    · obtain ⟨x, rfl, hx⟩ := rng c2 (by omega)
      by_cases c3 : 0 ≤ w ∧ w ≤ (2 : Int32)
      · obtain ⟨i, rfl, hi⟩ := rng (k := 2) c3 (by omega)
        have hi3 : i < 3 := by omega
        by_cases c4 : 0 ≤ z ∧ z ≤ (20 : Int32)
        · obtain ⟨k, rfl, hk⟩ := rng (k := 20) c4 (by omega)
          obtain ⟨t, t1, t2, t3, t4⟩ := c_solveNow hg hc hC
          have hR1 : RR t g (fun _ => false) := RR_congr hR (t2.1 102 (by omega) (by omega) (by omega)) (by rw [t2.1 101 (by omega) (by omega) (by omega)])
          have hc1 : RB t 2 g := RB_congr hc (by omega) (fun q h1 h2 => t2.1 q (by omega) (by omega) (by omega))
          obtain ⟨y, y1, y2, y3, y4⟩ := r_finds hg hR1 (f := m + 1) (by omega)
          rw [Nat.min_eq_left (by omega)] at y4
          have hB' : bdS (g 1 - (m + 1)) ≤ 200000 := by unfold bdS; omega
          have hT : ∀ x j, x ≤ g 0 → j < 3 → aL (bdS (g 1 - (m + 1))) (bstS g (g 1 - (m + 1)) x j) := fun x j hx hj => (bstS_aL hg (g 1 - (m + 1)) x j (by omega) hx hj).1
          obtain ⟨y', z1, z2⟩ := r_comesTo (k := k) (T := bstS g (g 1 - (m + 1))) (y2.RR hR1) y3 hg (show m < 12 by omega) (show x ≤ 13 by omega) hi3 (by omega) hB' hT (fun y j hy hj => y4.1 (m + 1) y j (Nat.le_refl _) (by omega) hy hj)
          have hok := valS_aL (r := k) hg (show m < 12 by omega) (show x ≤ 13 by omega) hi3 hB' hT
          refine ⟨(valS g (bstS g (g 1 - (m + 1))) m x i k).toInt32.toInt64, t, y', ?_, ?_, ?_⟩
          · unfold fX10_would
            simp only [rr_0_0, rr_1_0, ob, bs_c hb, c_isAhead hb hg hc.1, c_isState, c_within, tI_pos (And.intro c1 c2), tI_pos c3, tI_pos c4, bd_s, i10, if_false, oc_0]
            rw [t1]
            simp only [bd_s, rr_0_4, rr_0_0, rr_1_0, ob, rw_c (r := 54) (Or.inl rfl)]
            rw [c_comesTo (r := 54) hb (Or.inl rfl) (Nat.zero_le _) hm hx hi3 hk hg hc1 t3.2.1 t3.2.2]
            simp only [bd_s]
            rw [c_bitsOf hok.1.1 hok.2]
            rfl
          · unfold fX11_would
            simp (disch := first | assumption | omega) only [oc_101, ob, r_isAhead hR1 hg, r_isStore hR1, r_isState, r_in, lit64_le, le_lit64, le_64, tI_pos c1, tI_pos c2, tI_pos c3, tI_pos c4, bd_s, i10, if_false, iN_add, iN_addL, iN_Ladd, iN_mul, iN_mulL, iN_Lmul]
            rw [y1]
            simp only [bd_s, oc_101, ob]
            rw [z1]
            simp only [bd_s]
            rw [r_bits hok.1.1]
            rfl
          · exact Inv_of hB ((t2.b.tr (Kb_Fx y2)).tr (Kb_Fx z2.F)) (Ic_keep (Kc_Fx z2.F) (Ic_keep (Kc_Fx y2) t4))
        · refine Alike_same (a := -9223372036854775808) ?_ ?_ H
          · unfold fX10_would
            simp only [rr_0_0, rr_1_0, ob, bs_c hb, c_isAhead hb hg hc.1, c_isState, c_within, tI_pos (And.intro c1 c2), tI_pos c3, tI_neg c4, bd_s, i10, i00, if_true, if_false, oc_0]
          · unfold fX11_would
            simp only [oc_101, ob, r_isAhead hR hg, r_isStore hR, r_isState, tI_pos c1, tI_pos c2, tI_pos c3, bd_s, i10, if_false]
            rw [r_in]
            simp (disch := first | assumption | omega) only [lit64_le, le_lit64, le_64, tI_neg c4, bd_s, i00, if_true]
      · refine Alike_same (a := -9223372036854775808) ?_ ?_ H
        · unfold fX10_would
          simp only [rr_0_0, rr_1_0, ob, bs_c hb, c_isAhead hb hg hc.1, c_isState, tI_pos (And.intro c1 c2), tI_neg c3, bd_s, i10, i00, if_true, if_false]
        · unfold fX11_would
          simp only [oc_101, ob, r_isAhead hR hg, r_isStore hR, r_isState, tI_pos c1, tI_pos c2, tI_neg c3, bd_s, i10, i00, if_true, if_false]
    · refine Alike_same (a := -9223372036854775808) ?_ ?_ H
      · unfold fX10_would
        simp only [rr_0_0, rr_1_0, ob, bs_c hb, c_isAhead hb hg hc.1, tI_neg (fun h : ((0 ≤ iN m ∧ iN m < iN (g 1)) ∧ 0 ≤ v ∧ v ≤ iN (g 0)) => c2 h.2), bd_s, i00, if_true]
      · unfold fX11_would
        simp only [oc_101, ob, r_isAhead hR hg, r_isStore hR, tI_pos c1, tI_neg c2, bd_s, i10, i00, if_true, if_false]
  · refine Alike_same (a := -9223372036854775808) ?_ ?_ H
    · unfold fX10_would
      simp only [rr_0_0, rr_1_0, ob, bs_c hb, c_isAhead hb hg hc.1, tI_neg (fun h : ((0 ≤ u ∧ u < iN (g 1)) ∧ 0 ≤ v ∧ v ≤ iN (g 0)) => c1 h.1), bd_s, i00, if_true]
    · unfold fX11_would
      simp only [oc_101, ob, r_isAhead hR hg, tI_neg c1, bd_s, i00, if_true]
theorem Kb_Cx {t : Sto} (h : Cx s t) : Kb s t := ⟨fun q _ => by rw [h.1], by rw [h.1], fun k _ => by rw [h.1], h.2.2.1, fun _ => h.2.2.2⟩
theorem Kc_Cx {t : Sto} (h : Cx s t) : Kc s t := ⟨fun k _ => by rw [h.1], by rw [h.1], by rw [h.1], h.2.1 55 (by omega) (by omega) (by omega), h.2.1 56 (by omega) (by omega) (by omega)⟩
theorem k_after (H : Inv s) (n u v : Int32) : Alike s (fX10_after 0 n u v) (fX11_after 101 n u v) := by
  have H0 := H
  obtain ⟨g, kp, kf, rn, rv, tn, tv, hB, hC⟩ := H0
  have hI := hB.1
  have hg := hI.1.1
  have b1 := hg.1
  have hR := RR_of hI
  have hc := hI.2.1.1
  have hb : Bs 2 := Or.inl rfl
  by_cases c1 : 0 ≤ u ∧ u ≤ (2 : Int32)
  · by_cases c2 : 0 ≤ v ∧ v ≤ (2 : Int32)
    · by_cases c3 : 0 ≤ n ∧ n ≤ (12 : Int32)
      · obtain ⟨a, rfl, ha⟩ := rng (k := 2) c1 (by omega)
        obtain ⟨j, rfl, hj⟩ := rng (k := 2) c2 (by omega)
        obtain ⟨N, rfl, hN⟩ := rng (k := 12) c3 (by omega)
        have ha3 : a < 3 := by omega
        have hj3 : j < 3 := by omega
        obtain ⟨f, l1, l2⟩ := c_load hb hg hc.1
        obtain ⟨t, t1, t2⟩ := c_oddsAfter (s := rF s 65 f) hg hN ha3 hj3 hB.2.2.2.2.2 (by rw [rF_same]; exact l2)
        have k1 : Kb s t := Kb_rF.tr (Kb_Cx t2)
        have k2 : Kc s t := (Kc_rF (by omega)).tr (Kc_Cx t2)
        have hR1 : RR t g (fun _ => false) := RR_of (IB_keep k1 hB).1
        obtain ⟨f2, r1⟩ := r_after hg hR1 hN ha3 hj3
        have hok := af_ok (a := a) hg N j hN hj3
        refine ⟨_, t, _, ?_, r1, Inv_keep H (k1.tr Kb_rF) (k2.tr (Kc_rF (by omega)))⟩
        unfold fX10_after
        simp only [c_isState, c_within, tI_pos c1, tI_pos c2, tI_pos c3, bd_s, i10, if_false, rr_0_10, rr_0_0, rr_1_0, oc_64, ob]
        rw [l1]
        simp only [bd_s, rr_0_10, oc_64, ob]
        rw [t1]
        simp only [bd_s]
        rw [c_bitsOf hok.1.1 hok.2]
        rfl
      · refine Alike_same (a := -9223372036854775808) ?_ ?_ H
        · unfold fX10_after
          simp only [c_isState, c_within, tI_pos c1, tI_pos c2, tI_neg c3, bd_s, i10, i00, if_true, if_false]
        · unfold fX11_after
          rw [r_in]
          simp (disch := first | assumption | omega) only [lit64_le, le_lit64, le_64, tI_neg c3, bd_s, i00, if_true]
    · refine Alike_same (a := -9223372036854775808) ?_ ?_ H
      · unfold fX10_after
        simp only [c_isState, tI_pos c1, tI_neg c2, bd_s, i10, i00, if_true, if_false]
      · unfold fX11_after
        rw [r_in]
        simp (disch := first | assumption | omega) only [lit64_le, le_lit64, le_64, r_isState, tI_pos c1, tI_neg c2, bd_s, i10, i00, if_true, if_false]
        split <;> rfl
  · refine Alike_same (a := -9223372036854775808) ?_ ?_ H
    · unfold fX10_after
      simp only [c_isState, tI_neg c1, bd_s, i00, if_true]
    · unfold fX11_after
      rw [r_in]
      simp (disch := first | assumption | omega) only [lit64_le, le_lit64, le_64, r_isState, tI_neg c1, bd_s, i00, if_true]
      split <;> rfl
theorem Kb_Wx {t : Sto} (h : Wx s t) : Kb s t := ⟨fun q hq => h.1 q (by unfold SP at hq; omega) (by unfold SP at hq; omega), by rw [h.1 0 (by omega) (by omega)], fun k _ => by rw [h.1 101 (by omega) (by omega)], by rw [h.2.2], fun ht => by unfold Tw at *; rw [h.2.2]; exact ht⟩
theorem Kc_Wx {t : Sto} (h : Wx s t) : Kc s t := ⟨fun k _ => by rw [h.1 0 (by omega) (by omega)], h.1 57 (by omega) (by omega), h.1 58 (by omega) (by omega), h.2.1 55 (by omega) (by omega), h.2.1 56 (by omega) (by omega)⟩
theorem Kb_Wr {t : Sto} (h : Wr s t) : Kb s t := ⟨fun q hq => h.1 q (by unfold SP at hq; omega), by rw [h.1 0 (by omega)], fun k hk => h.2.1 k (by omega), by rw [h.2.2.2], fun ht => by unfold Tw at *; rw [h.2.2.2]; exact ht⟩
theorem Kc_Wr {t : Sto} (h : Wr s t) : Kc s t := ⟨fun k _ => by rw [h.1 0 (by omega)], h.1 57 (by omega), h.1 58 (by omega), h.2.2.1 55 (by omega), h.2.2.1 56 (by omega)⟩
theorem rng1 {v : Int32} {k : Nat} (h : (1 : Int32) ≤ v ∧ v ≤ iN k) (hk : k < 2147483648) : ∃ n : Nat, v = iN n ∧ 1 ≤ n ∧ n ≤ k := by
  obtain ⟨n, rfl, hn⟩ := rng ⟨Int32.le_trans (by decide) h.1, h.2⟩ hk
  have := h.1
  rw [iN_Lle (by omega) (by omega)] at this
  exact ⟨n, rfl, this, hn⟩
theorem k_way (H : Inv s) (u n w : Int32) : Alike s (fX10_way 0 u n w) (fX11_way 101 u n w) := by
  have H0 := H
  obtain ⟨g, kp, kf, rn, rv, tn, tv, hB, hC⟩ := H0
  have hI := hB.1
  have hg := hI.1.1
  have b1 := hg.1
  have hR := RR_of hI
  have hc := hI.2.1.1
  have hb : Bs 2 := Or.inl rfl
  by_cases c1 : 0 ≤ u ∧ u ≤ (2 : Int32)
  · by_cases c2 : (1 : Int32) ≤ n ∧ n ≤ (8 : Int32)
    · obtain ⟨N, rfl, hN1, hN⟩ := rng1 (k := 8) c2 (by omega)
      by_cases c3 : 0 ≤ w ∧ w < iN N
      · obtain ⟨a, rfl, ha⟩ := rng (k := 2) c1 (by omega)
        obtain ⟨k, rfl, hk⟩ := rnl c3 (by omega)
        have ha3 : a < 3 := by omega
        have c3' : 0 ≤ iN k ∧ iN k ≤ iN N - 1 := ⟨c3.1, by rw [le_pred (by omega)]; exact c3.2⟩
        obtain ⟨f, l1, l2⟩ := c_load hb hg hc.1
        obtain ⟨t, t1, t2, t3, t4⟩ := c_likeliest (s := rF s 65 f) hg ha3 hN (by rw [rF_same]; exact l2)
        have k1 : Kb s t := Kb_rF.tr (Kb_Wx t2)
        have k2 : Kc s t := (Kc_rF (by omega)).tr (Kc_Wx t2)
        have hR1 : RR t g (fun _ => false) := RR_of (IB_keep k1 hB).1
        obtain ⟨y, y1, y2, y3, y4⟩ := r_findWay hg hR1 hN ha3
        have hw := (wy_ok hg (n := N) ha3).2
        have hp : 3 ^ N ≤ 3 ^ 8 := Nat.pow_le_pow_right (by decide) hN
        have e8 : 3 ^ 8 = 6561 := rfl
        refine ⟨iN (dgS (wyS g a N).2 N k), t, y, ?_, ?_, Inv_keep H (k1.tr (Kb_Wr y2)) (k2.tr (Kc_Wr y2))⟩
        · unfold fX10_way
          simp only [c_isState, c_within, tI_pos c1, tI_pos c2, tI_pos c3', bd_s, i10, if_false, rr_0_10, rr_0_0, rr_1_0, oc_64, ob]
          rw [l1]
          simp only [bd_s, rr_0_10, oc_64, ob]
          rw [t1]
          simp (disch := first | assumption | omega) only [bd_s, rr_0_10, rr_64_5, ob, ai_69, t4 k hk]
        · unfold fX11_way
          simp (disch := first | assumption | omega) only [r_isState, r_in, lit64_le, le_lit64, le_64, tI_pos c1, tI_pos c2, tI_pos c3', bd_s, i10, if_false, oc_101, ob]
          rw [y1]
          simp only [bd_s, gi_101_18, ob, y4]
          rw [r_stateOf (by omega) hN hk]
          rfl
      · have c3' : ¬ (0 ≤ w ∧ w ≤ iN N - 1) := fun h => c3 ⟨h.1, by have := h.2; rw [le_pred (by omega)] at this; exact this⟩
        refine Alike_same (a := -1) ?_ ?_ H
        · unfold fX10_way
          simp only [c_isState, c_within, tI_pos c1, tI_pos c2, tI_neg c3', bd_s, i10, i00, if_true, if_false]
        · unfold fX11_way
          simp (disch := first | assumption | omega) only [r_isState, r_in, lit64_le, le_lit64, le_64, tI_pos c1, tI_pos c2, tI_neg c3', bd_s, i10, i00, if_true, if_false]
    · refine Alike_same (a := -1) ?_ ?_ H
      · unfold fX10_way
        simp only [c_isState, c_within, tI_pos c1, tI_neg c2, bd_s, i10, i00, if_true, if_false]
      · unfold fX11_way
        simp only [r_isState, tI_pos c1, bd_s, i10, if_false]
        rw [r_in]
        simp (disch := first | assumption | omega) only [lit64_le, le_lit64, le_64, tI_neg c2, bd_s, i00, if_true]
  · refine Alike_same (a := -1) ?_ ?_ H
    · unfold fX10_way
      simp only [c_isState, tI_neg c1, bd_s, i00, if_true]
    · unfold fX11_way
      simp only [r_isState, tI_neg c1, bd_s, i00, if_true]
theorem k_chance (H : Inv s) (u n : Int32) : Alike s (fX10_chance 0 u n) (fX11_chance 101 u n) := by
  have H0 := H
  obtain ⟨g, kp, kf, rn, rv, tn, tv, hB, hC⟩ := H0
  have hI := hB.1
  have hg := hI.1.1
  have b1 := hg.1
  have hR := RR_of hI
  have hc := hI.2.1.1
  have hb : Bs 2 := Or.inl rfl
  by_cases c1 : 0 ≤ u ∧ u ≤ (2 : Int32)
  · by_cases c2 : (1 : Int32) ≤ n ∧ n ≤ (8 : Int32)
    · obtain ⟨N, rfl, hN1, hN⟩ := rng1 (k := 8) c2 (by omega)
      obtain ⟨a, rfl, ha⟩ := rng (k := 2) c1 (by omega)
      have ha3 : a < 3 := by omega
      obtain ⟨f, l1, l2⟩ := c_load hb hg hc.1
      obtain ⟨t, t1, t2, t3, t4⟩ := c_likeliest (s := rF s 65 f) hg ha3 hN (by rw [rF_same]; exact l2)
      have k1 : Kb s t := Kb_rF.tr (Kb_Wx t2)
      have k2 : Kc s t := (Kc_rF (by omega)).tr (Kc_Wx t2)
      have hR1 : RR t g (fun _ => false) := RR_of (IB_keep k1 hB).1
      obtain ⟨y, y1, y2, y3, y4⟩ := r_findWay hg hR1 hN ha3
      have hw := (wy_ok hg (n := N) ha3).1
      refine ⟨(wyS g a N).1.toInt32.toInt64, t, y, ?_, ?_, Inv_keep H (k1.tr (Kb_Wr y2)) (k2.tr (Kc_Wr y2))⟩
      · unfold fX10_chance
        simp only [c_isState, c_within, tI_pos c1, tI_pos c2, bd_s, i10, if_false, rr_0_10, rr_0_0, rr_1_0, oc_64, ob]
        rw [l1]
        simp only [bd_s, rr_0_10, oc_64, ob]
        rw [t1]
        simp only [bd_s, rr_0_10, gf_64_6, ob, t3]
        rw [c_bitsOf hw.1.1 hw.1.nz]
        rfl
      · unfold fX11_chance
        simp (disch := first | assumption | omega) only [r_isState, r_in, lit64_le, le_lit64, le_64, tI_pos c1, tI_pos c2, bd_s, i10, if_false, oc_101, ob]
        rw [y1]
        simp only [bd_s, gf_101_17, ob, y3]
        rw [r_bits hw.1.1]
        rfl
    · refine Alike_same (a := -9223372036854775808) ?_ ?_ H
      · unfold fX10_chance
        simp only [c_isState, c_within, tI_pos c1, tI_neg c2, bd_s, i10, i00, if_true, if_false]
      · unfold fX11_chance
        simp only [r_isState, tI_pos c1, bd_s, i10, if_false]
        rw [r_in]
        simp (disch := first | assumption | omega) only [lit64_le, le_lit64, le_64, tI_neg c2, bd_s, i00, if_true]
  · refine Alike_same (a := -9223372036854775808) ?_ ?_ H
    · unfold fX10_chance
      simp only [c_isState, tI_neg c1, bd_s, i00, if_true]
    · unfold fX11_chance
      simp only [r_isState, tI_neg c1, bd_s, i00, if_true]
end CALLD
