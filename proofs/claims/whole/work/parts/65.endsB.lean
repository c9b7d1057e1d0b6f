section ENDSB
variable {s : Sto} {g : Nat → Nat}
/-- only the reference's row and its word of demands left out have changed -/
def Er (s t : Sto) : Prop := (∀ q, q ≠ 101 → q ≠ 102 → t.1 q = s.1 q) ∧ (∀ k, k ≠ 3 → t.1 101 k = s.1 101 k) ∧ t.2 = s.2
theorem Er.rf : Er s s := ⟨fun _ _ _ => rfl, fun _ _ => rfl, rfl⟩
theorem Er.tr {t u : Sto} (h1 : Er s t) (h2 : Er t u) : Er s u := ⟨fun q a b => (h2.1 q a b).trans (h1.1 q a b), fun k a => (h2.2.1 k a).trans (h1.2.1 k a), h2.2.2.trans h1.2.2⟩
theorem Er_102 {f : Nat → Int32} : Er s (rI s 102 f) := ⟨fun q _ b => rI_ne b, fun k _ => by rw [rI_ne (by omega)], rfl⟩
theorem Er_101 {x : Int32} : Er s (uI s 101 3 x) := ⟨fun q a _ => rI_ne a, fun k a => by rw [rI_same, upd_ne a], rfl⟩
theorem mk_lt (hg : OKs g) : ∀ k, k ≤ g 131 → mkS g k < 64
  | 0, _ => by unfold mkS; omega
  | k + 1, h => by
    have ih := mk_lt hg k (by omega)
    have ok := okR2_of hg (show k < g 131 by omega)
    unfold okR2 at ok
    unfold mkS
    split
    · exact (mask_or _ ih _ (by omega)).2
    · exact ih
theorem RR_put {t : Sto} {G : Nat → Nat} {wo : Nat → Bool} {k v : Nat} (h : RR t G wo) (hk : k < 74) : RR (uI t 102 k (iN v)) (gs G k v) wo := by
  refine ⟨fun j hj hd => ?_, fun d hd => by rw [rI_ne (by omega)]; exact h.2.1 d hd, fun d hd hw => ?_⟩
  · exact setv (h.1 j hj hd) (by omega)
  · unfold dF
    rw [gs_ne (by omega)]
    exact h.2.2 d hd hw
theorem RR_sil {t : Sto} {G : Nat → Nat} {M v : Nat} (h : RR t G (fun d => M.testBit d)) (h3 : t.1 101 3 = iN M) (hM : M < 64) (hv : v < 6) : RR (uI t 101 3 (iN (M ||| (1 <<< v)))) (gs G (76 + 6 * v) 0) (fun d => (M ||| (1 <<< v)).testBit d) := by
  have lt := (mask_or M hM v hv).2
  refine ⟨fun j hj hd => ?_, fun d hd => ?_, fun d hd hw => ?_⟩
  · rw [rI_ne (by omega), gs_ne (fun e => hd v hv ((mask_tb M hM v hv v hv).mpr (Or.inr rfl)) e)]
    exact h.1 j hj (fun d h1 h2 => hd d h1 ((mask_tb M hM v hv d h1).mpr (Or.inl h2)))
  · rw [rI_same, upd_same]
    exact propext (mask_bit _ lt d hd)
  · unfold dF
    by_cases c : d = v
    · subst c
      rw [show 74 + 6 * d + 2 = 76 + 6 * d by omega, gs_same]
    · rw [gs_ne (by omega)]
      rcases (mask_tb M hM v hv d hd).mp hw with h1 | h1
      · exact h.2.2 d hd h1
      · exact absurd h1 c
theorem r_dryL {G : Mem → Option (Int64 × Mem)} {H : Nat → Nat} {v : Nat} {wo : Nat → Bool} {v1 v2 v3 : Int32} : ∀ n k (t : Sto), 12 - k < n → k ≤ 12 → RR t (drS H v k) wo → ∃ u, X11_ends_L114 G 101 v1 v2 v3 (iN v) n (iN k) (lay t) = G (lay u) ∧ RR u (drS H v 12) wo ∧ Er t u ∧ u.1 101 3 = t.1 101 3 := by
  intro n
  induction n with
  | zero => intro k t h1; omega
  | succ n ih =>
    intro k t h1 h2 h3
    rw [X11_ends_L114]
    simp (disch := first | assumption | omega) only [iN_Lle]
    by_cases c : 12 ≤ k
    · rw [if_pos c]
      have : k = 12 := by omega
      subst this
      exact ⟨t, rfl, h3, Er.rf, rfl⟩
    · rw [if_neg c]
      simp only [rr_101_0, ob, iN_add, iN_addL, iN_Ladd, iN_mul, iN_mulL, iN_Lmul]
      rw [si_102 (by omega)]
      simp only [ob]
      obtain ⟨u, u1, u2, u3, u4⟩ := ih (k + 1) (uI t 102 (49 + k) (iN v)) (by omega) (by omega) (RR_put h3 (by omega))
      exact ⟨u, u1, u2, Er_102.tr u3, by rw [u4, rI_ne (by omega)]⟩
theorem r_endsL {G : Mem → Option (Int64 × Mem)} {v1 v2 : Int32} (hg : OKs g) : ∀ n k (t : Sto), g 131 - k < n → k ≤ g 131 → RR t (plS g k) (fun d => (mkS g k).testBit d) → t.1 101 3 = iN (mkS g k) → ∃ u, X11_ends_L32 G 101 v1 v2 n (iN k) (lay t) = G (lay u) ∧ RR u (plS g (g 131)) (fun d => (mkS g (g 131)).testBit d) ∧ Er t u := by
  have b8 := hg.2.2.2.2.1
  intro n
  induction n with
  | zero => intro k t h1; omega
  | succ n ih =>
    intro k t h1 h2 h3 h4
    rw [X11_ends_L32]
    have rd : ∀ j, 110 ≤ j → j < 173 → aI (lay t) 0 102 (iN j) = some (iN (g j)) := fun j a b => by
      rw [ai_102 b, h3.1 j b (fun d hd _ => by omega), plS_out hg (by omega) k h2]
    have r131 : aI (lay t) 0 102 131 = some (iN (g 131)) := rd 131 (by omega) (by omega)
    simp only [rr_101_0, ob, r131]
    simp (disch := first | assumption | omega) only [iN_le]
    by_cases c : g 131 ≤ k
    · rw [if_pos c]
      have : k = g 131 := by omega
      subst this
      exact ⟨t, rfl, h3, Er.rf⟩
    · rw [if_neg c]
      have hk : k < g 131 := by omega
      have ok' := okR2_of hg hk
      have ok := ok'
      unfold okR2 at ok
      simp only [iN_add, iN_addL, iN_Ladd, iN_mul, iN_mulL, iN_Lmul]
      rw [rd (132 + 2 * k + 1) (by omega) (by omega), show 132 + 2 * k + 1 = 133 + 2 * k by omega]
      simp only [ob]
      rw [rd (132 + 2 * k) (by omega) (by omega)]
      simp only [ob]
      simp (disch := first | assumption | omega) only [iN_eqL]
      have eP : plS g (k + 1) = plR (plS g k) (g (132 + 2 * k)) (g (133 + 2 * k)) := rfl
      have eM : mkS g (k + 1) = if g (132 + 2 * k) = 3 then mkS g k ||| (1 <<< g (133 + 2 * k)) else mkS g k := rfl
      generalize g (132 + 2 * k) = a at *
      generalize g (133 + 2 * k) = v at *
      unfold plR at eP
      by_cases c0 : a = 0
      · rw [if_pos c0] at eP
        rw [if_neg (by omega)] at eM
        rw [if_pos c0, show sI (lay t) 102 0 (iN v) = some (lay (uI t 102 0 (iN v))) from si_102 (i := 0) (by omega)]
        simp only [ob]
        obtain ⟨u, u1, u2, u3⟩ := ih (k + 1) (uI t 102 0 (iN v)) (by omega) (by omega) (by rw [eP, eM]; exact RR_put h3 (by omega)) (by rw [eM, rI_ne (by omega)]; exact h4)
        exact ⟨u, u1, u2, Er_102.tr u3⟩
      · by_cases c1 : a = 1
        · rw [if_neg c0, if_pos c1] at eP
          rw [if_neg (by omega)] at eM
          rw [if_neg c0, if_pos c1]
          obtain ⟨w, w1, w2, w3, w4⟩ := r_dryL (G := fun μ_139 => X11_ends_L32 G 101 v1 v2 n (iN (k + 1)) μ_139) (v1 := v1) (v2 := v2) (v3 := iN k) (v := v) FU 0 t (by unfold FU; omega) (by omega) h3
          obtain ⟨u, u1, u2, u3⟩ := ih (k + 1) w (by omega) (by omega) (by rw [eP, eM]; exact w2) (by rw [eM, w4]; exact h4)
          exact ⟨u, w1.trans u1, u2, w3.tr u3⟩
        · by_cases c2 : a = 2
          · rw [if_neg c0, if_neg c1, if_pos c2] at eP
            rw [if_neg (by omega)] at eM
            rw [if_neg c0, if_neg c1, if_pos c2, show sI (lay t) 102 2 (iN v) = some (lay (uI t 102 2 (iN v))) from si_102 (i := 2) (by omega)]
            simp only [ob]
            obtain ⟨u, u1, u2, u3⟩ := ih (k + 1) (uI t 102 2 (iN v)) (by omega) (by omega) (by rw [eP, eM]; exact RR_put h3 (by omega)) (by rw [eM, rI_ne (by omega)]; exact h4)
            exact ⟨u, u1, u2, Er_102.tr u3⟩
          · rw [if_neg c0, if_neg c1, if_neg c2] at eP
            have c3 : a = 3 := by omega
            rw [if_pos c3] at eM
            have hM := mk_lt hg k h2
            rw [if_neg c0, if_neg c1, if_neg c2]
            simp only [gi_101_3, ob, h4, (mask_or _ hM v (by omega)).1, pi_101_3]
            obtain ⟨u, u1, u2, u3⟩ := ih (k + 1) (uI t 101 3 (iN (mkS g k ||| (1 <<< v)))) (by omega) (by omega) (by rw [eP, eM]; exact RR_sil h3 h4 hM (by omega)) (by rw [eM, rI_same, upd_same])
            exact ⟨u, u1, u2, Er_101.tr u3⟩
theorem k_ends (H : Inv s) (v1 v2 : Int32) : Alike s (fX10_ends 0 v1 v2) (fX11_ends 101 v1 v2) := by
  have H0 := H
  obtain ⟨g, kp, kf, rn, rv, tn, tv, hB, hC⟩ := H0
  have hI := hB.1
  have hg := hI.1.1
  have b1 := hg.1
  have hR := RR_of hI
  have hc := hI.2.1.1
  have hb : Bs 2 := Or.inl rfl
  have o := hI.1
  have b8 := o.2.2.2.2.1
  have hb4 : Bs 41 := Or.inr (Or.inr rfl)
  have hw : Rw 59 := Or.inr rfl
  by_cases c1 : 0 ≤ v1 ∧ v1 ≤ iN (g 0)
  · by_cases c2 : 0 ≤ v2 ∧ v2 ≤ (2 : Int32)
    · obtain ⟨x, rfl, hx⟩ := rng c1 (by omega)
      obtain ⟨i, rfl, hi⟩ := rng (k := 2) c2 (by omega)
      have hi3 : i < 3 := by omega
      have hP := plS_ok o (g 131) (Nat.le_refl _)
      have bP := hP.1
      have hP1 : plS g (g 131) 1 = g 1 := plS_out o (by omega) _ (Nat.le_refl _)
      have hok := bstS_aL hP (g 1) (min x (plS g (g 131) 0)) i (by omega) (by omega) hi3
      obtain ⟨t, t1, t2, t3⟩ := c_bcopy (s := s) (p := 41) (q := 2) hb4 hb (by omega)
      have hT := t3 g (by omega) hc
      obtain ⟨a, a1, a2, a3⟩ := c_endsL (G := fun μ_86 => (isC μ_86 0 10).bind fun _ => bd (fX10_solveThought 0 μ_86) fun _ μ87 => (gR μ87 0 10 5).bind fun x91 => (gR μ87 0 10 3).bind fun x97 => (gI μ87 x97 0 0).bind fun x100 => (isC μ87 x91 1).bind fun _ => bd (fX1_bestAt x91 ((0 : Int32)) ((mnI (iN x) x100)) (iN i) μ87) fun x107 μ107 => bd (fX10_bitsOf x107 μ107) fun x110 μ110 => some (x110.toInt64, μ110)) (v1 := iN x) (v2 := iN i) o FU 0 t (by unfold FU; omega) (by omega) hT (LI_congr hI.2.1.2.2.1 (t2.1 _ (by omega)) (t2.1 _ (by omega)))
      obtain ⟨w, w1, w2, w3⟩ := c_solveThought hP a2
      have kT : Kb s w := (Kb_Of (t2.tr a3)).tr w2.b
      have kC : Kc s w := (Kc_Of (t2.tr a3)).tr w2.c
      have hBw := IB_keep kT hB
      have w41 : w.1 41 0 = iN (plS g (g 131) 0) := by rw [w2.1 41 (by omega) (by omega)]; exact a2.1.1.1
      obtain ⟨e, e1, e2, e3, e4⟩ := r_lays (s := w) (p := 102) (q := 112) (by omega) (fun z i h => ai_102 h) (fun z i x h => si_112 h)
      have hRe : Rg e 102 g := Rg_congr hBw.1.2.2.1 (e2 102 (by omega))
      have he3 : e.1 101 3 = 0 := by rw [e2 101 (by omega)]; exact hBw.1.2.2.2
      have h112 : Rg e 112 g := e4 g hBw.1.2.2.1
      have hRR0 : RR e (plS g 0) (fun d => (mkS g 0).testBit d) := by
        have := RR_mk hRe he3
        refine ⟨fun k hk _ => hRe k hk, fun d hd => ?_, fun d hd h => ?_⟩
        · rw [this.2.1 d hd]
          show (false = true) = ((0 : Nat).testBit d = true)
          rw [Nat.zero_testBit]
        · have h' : (0 : Nat).testBit d = true := h
          rw [Nat.zero_testBit] at h'
          cases h'
      obtain ⟨f, f1, f2, f3⟩ := r_endsL (G := fun μ_172 => (gR μ_172 101 11 0).bind fun x175 => (aI μ_172 0 x175 ((0 : Int32))).bind fun x179 => (isC μ_172 101 11).bind fun _ => bd (fX11_bestNow 101 ((mnI (iN x) x179)) (iN i) μ_172) fun x184 μ184 => (pV μ184 101 11 3 (.int ((0 : Int32)))).bind fun μ190 => (gR μ190 101 11 27).bind fun x194 => (gR μ190 101 11 0).bind fun x198 => bd (fX11_lays x194 x198 μ190) fun _ μ201 => bd (fX11_bits x184 μ201) fun x205 μ205 => some (x205, μ205)) (v1 := iN x) (v2 := iN i) o FU 0 e (by unfold FU; omega) (by omega) hRR0 (by rw [he3]; rfl)
      have f0 : aI (lay f) 0 102 0 = some (iN (plS g (g 131) 0)) := by
        rw [show aI (lay f) 0 102 0 = some (f.1 102 0) from ai_102 (i := 0) (by omega), f2.1 0 (by omega) (fun d hd _ => by omega)]
      obtain ⟨y, y1, y2⟩ := r_bestNow hP f2 (x := min x (plS g (g 131) 0)) (i := i) (by omega) hi3
      obtain ⟨z, z1, z2, z3, z4⟩ := r_lays (s := uI y 101 3 0) (p := 112) (q := 102) (by omega) (fun z i h => ai_112 h) (fun z i x h => si_102 h)
      have ey : ∀ q, q < 101 ∨ (102 < q ∧ q < 106) ∨ 112 < q → z.1 q = w.1 q := fun q hq => by
        rw [z2 q (by omega), rI_ne (by omega), y2.1 q (by omega) (by omega) (by omega) (by omega), f3.1 q (by omega) (by omega), e2 q (by omega)]
      have ek : ∀ k, k < 10 ∨ 15 < k → k ≠ 3 → z.1 101 k = w.1 101 k := fun k hk h3 => by
        rw [z2 101 (by omega), rI_same, upd_ne h3, y2.2.2.2 k hk, f3.2.1 k h3, e2 101 (by omega)]
      have z101 : z.1 101 3 = 0 := by rw [z2 101 (by omega), rI_same, upd_same]
      have hz112 : Rg (uI y 101 3 0) 112 g := Rg_congr h112 (by rw [rI_ne (by omega), y2.1 112 (by omega) (by omega) (by omega) (by omega), f3.1 112 (by omega) (by omega)])
      have zf : ∀ q, q ≠ 106 → z.2.1 q = w.2.1 q := fun q hq => by rw [z3, rI_2, y2.2.1 q hq, f3.2.2, e3]
      have zj : z.2.2 = w.2.2 := by rw [z3, rI_2, y2.2.2.1, f3.2.2, e3]
      refine ⟨(bstS (plS g (g 131)) (g 1) (min x (plS g (g 131) 0)) i).toInt32.toInt64, w, z, ?_, ?_, ?_⟩
      · unfold fX10_ends
        simp only [oc_0, ob, c_isStore hc, c_isState, tI_pos c1, tI_pos c2, bd_s, i10, if_false, rr_0_3, rr_0_0, rr_1_0, bs_c hb4]
        rw [t1]
        simp only [bd_s]
        refine a1.trans ?_
        simp only [oc_0, ob]
        rw [w1]
        simp only [bd_s, rr_0_5, rr_0_3, ob, bs_g0 hb4, w41, rw_c hw]
        rw [mnI_min (by omega) (by omega)]
        have ba := c_bestAt (s := w) (r := 59) (f := 0) (m := 0) (x := min x (plS g (g 131) 0)) (i := i) hw (Nat.le_refl _) (Nat.zero_le _) (by omega) hi3 hP w3
        rw [hP1, Nat.sub_zero] at ba
        rw [show fX1_bestAt 59 0 (iN (min x (plS g (g 131) 0))) (iN i) (lay w) = _ from ba]
        simp only [bd_s]
        rw [c_bitsOf hok.1.1 hok.2]
        rfl
      · unfold fX11_ends
        have hRw := RR_of hBw.1
        simp only [oc_101, ob, r_isStore hRw, r_isState, tI_pos c1, tI_pos c2, bd_s, i10, if_false, rr_101_0, rr_101_27]
        rw [e1]
        simp only [bd_s]
        refine f1.trans ?_
        simp only [rr_101_0, ob, f0, oc_101]
        rw [mnI_min (by omega) (by omega), y1]
        simp only [bd_s, pi_101_3, ob, rr_101_27, rr_101_0]
        rw [z1]
        simp only [bd_s]
        rw [hP1, r_bits hok.1.1]
        rfl
      · refine ⟨g, kp, kf, rn, rv, tn, tv, IB_new (s := w) ⟨fun q hq => ey q (by omega), by rw [ey 0 (by omega)], fun k hk => ek k (by omega) (by omega), by rw [zj], fun h => by unfold Tw at *; rw [zj]; exact h⟩ hBw ⟨o, RS_congr hBw.1.2.1 o.m (fun q h1 h2 => ey q (by omega)), z4 g hz112, z101⟩, Ic_keep ⟨fun k _ => by rw [ey 0 (by omega)], ey 57 (by omega), ey 58 (by omega), zf 55 (by omega), zf 56 (by omega)⟩ (Ic_keep kC hC)⟩
    · refine Alike_same (a := -9223372036854775808) ?_ ?_ H
      · unfold fX10_ends
        simp only [oc_0, ob, c_isStore hc, c_isState, tI_pos c1, tI_neg c2, bd_s, i10, i00, if_true, if_false]
      · unfold fX11_ends
        simp only [oc_101, ob, r_isStore hR, r_isState, tI_pos c1, tI_neg c2, bd_s, i10, i00, if_true, if_false]
  · refine Alike_same (a := -9223372036854775808) ?_ ?_ H
    · unfold fX10_ends
      simp only [oc_0, ob, c_isStore hc, tI_neg c1, bd_s, i00, if_true]
    · unfold fX11_ends
      simp only [oc_101, ob, r_isStore hR, tI_neg c1, bd_s, i00, if_true]
end ENDSB
