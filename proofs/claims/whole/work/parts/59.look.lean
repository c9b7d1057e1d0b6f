/-! ===== looked, feed ===== -/
section LOOK
variable {s : Sto} {g : Nat → Nat}
theorem rls_20 {k x i : Nat} : rlsS g k x i ≤ 20 := by
  cases k with
  | zero => exact Nat.zero_le _
  | succ k => exact (pick_le 20).1
theorem r_isRelease {wo : Nat → Bool} (h : RR s g wo) (hg : OKg g) {f : Nat} (ht : TR s g f) {m x i v : Nat} (hf : m < g 1 → f ≤ m) (hm : m < 1000) (hx : x < 1000) (hi : i < 3) (hv : v < 1000) : fX11_isRelease 101 (iN m) (iN x) (iN i) (iN v) (lay s) = some (tI (m < g 1 ∧ x ≤ g 0 ∧ rlsS g (g 1 - m) x i = v), lay s) := by
  have b := hg.1
  unfold fX11_isRelease
  simp only [oc_101, ob, r_isAhead h hg, r_isStore h, bd_s]
  have e1 : (0 ≤ iN m ∧ iN m < iN (g 1)) = (m < g 1) := by rw [iN_Lle (by omega) (by omega), iN_lt (by omega) (by omega)]; exact propext ⟨fun h => h.2, fun h => ⟨Nat.zero_le _, h⟩⟩
  have e2 : (0 ≤ iN x ∧ iN x ≤ iN (g 0)) = (x ≤ g 0) := by rw [iN_Lle (by omega) (by omega), iN_le (by omega) (by omega)]; exact propext ⟨fun h => h.2, fun h => ⟨Nat.zero_le _, h⟩⟩
  simp only [e1, e2]
  by_cases c1 : m < g 1
  · rw [tI_pos c1]
    simp only [i10, if_false]
    by_cases c2 : x ≤ g 0
    · rw [tI_pos c2]
      have hl := ix_lt2 (m := m) (x := x) (i := i) (by omega) (by omega) hi
      have r20 := rls_20 (g := g) (k := g 1 - m) (x := x) (i := i)
      simp only [i10, if_false, rr_101_7, ob, r_place, bd_s, ai_107 hl, ht.2 m x i (hf c1) c1 c2 hi]
      simp (disch := first | assumption | omega) only [iN_eq]
      by_cases c3 : rlsS g (g 1 - m) x i = v
      · rw [if_pos c3, tI_pos ⟨c1, c2, c3⟩]; rfl
      · rw [if_neg c3, tI_neg (fun h => c3 h.2.2)]; rfl
    · rw [tI_neg c2, tI_neg (fun h : (m < g 1 ∧ x ≤ g 0 ∧ rlsS g (g 1 - m) x i = v) => c2 h.2.1)]
      rfl
  · rw [tI_neg c1, tI_neg (fun h : (m < g 1 ∧ x ≤ g 0 ∧ rlsS g (g 1 - m) x i = v) => c1 h.1)]
    rfl
abbrev bkB (g : Nat → Nat) (r : Nat) : Prop := g (149 + 3 * r) < g 1 ∧ g (150 + 3 * r) ≤ g 0 ∧ rlsS g (g 1 - g (149 + 3 * r)) (g (150 + 3 * r)) 1 = g (151 + 3 * r)
/-- the first row that is not as the best goes -/
def lkS (g : Nat → Nat) : Nat → Nat → Int32
  | 0, _ => -5
  | n + 1, k => if bkB g k then lkS g n (k + 1) else iN k
theorem c_lookL (hb : Bs 2) (hg : OKs g) (hc : RB s 2 g) (l3 : LI s 19 3 (g 148) (fun i => g (149 + i))) (ht : g 148 = 0 ∨ TBs g 0 (s.2.1 55) (s.2.1 56) (s.1 57)) : ∀ (n k : Nat), g 148 - k < n → k ≤ g 148 → X10_looked_L19 (fun μ_107 => some ((-5 : Int32), μ_107)) 0 n (iN k) (lay s) = some (lkS g (g 148 - k) k, lay s) := by
  have b := hg.1.1
  have b8 := hg.2.2.2.2.2.1
  intro n
  induction n with
  | zero => intro k h; omega
  | succ n ih =>
    intro k h1 h2
    rw [X10_looked_L19]
    simp only [rr_0_0, rr_1_3, ob, ln_g3 l19, l3.1, ln_c l19]
    simp (disch := first | assumption | omega) only [iN_le]
    by_cases c : g 148 ≤ k
    · rw [if_pos c, show g 148 - k = 0 by omega]; rfl
    · rw [if_neg c]
      have hk : k < g 148 := by omega
      have hr := hg.2.2.2.2.2.2.2.2 k hk
      have a0 : fX6_at 19 (iN k) 0 (lay s) = some (iN (g (149 + 3 * k)), lay s) := by
        have := c_at l19 l3 (by omega) hk (j := 0) (by omega)
        rw [show k * 3 + 0 = 3 * k by omega] at this
        exact this
      have a1 : fX6_at 19 (iN k) 1 (lay s) = some (iN (g (150 + 3 * k)), lay s) := by
        have := c_at l19 l3 (by omega) hk (j := 1) (by omega)
        simp only [show 149 + (k * 3 + 1) = 150 + 3 * k by omega] at this
        exact this
      have a2 : fX6_at 19 (iN k) 2 (lay s) = some (iN (g (151 + 3 * k)), lay s) := by
        have := c_at l19 l3 (by omega) hk (j := 2) (by omega)
        simp only [show 149 + (k * 3 + 2) = 151 + 3 * k by omega] at this
        exact this
      simp only [a0, a1, a2, bd_s, rr_0_0, rr_1_0, rr_1_3, ob, bs_c hb, ln_c l19, c_isAhead hb hg.1 hc.1]
      have e1 : ((0 ≤ iN (g (149 + 3 * k)) ∧ iN (g (149 + 3 * k)) < iN (g 1)) ∧ 0 ≤ iN (g (150 + 3 * k)) ∧ iN (g (150 + 3 * k)) ≤ iN (g 0)) = (g (149 + 3 * k) < g 1 ∧ g (150 + 3 * k) ≤ g 0) := by
        rw [iN_Lle (by omega) (by omega), iN_lt (by omega) (by omega), iN_Lle (by omega) (by omega), iN_le (by omega) (by omega)]
        exact propext ⟨fun h => ⟨h.1.2, h.2.2⟩, fun h => ⟨⟨Nat.zero_le _, h.1⟩, Nat.zero_le _, h.2⟩⟩
      simp only [e1]
      have el : g 148 - k = (g 148 - (k + 1)) + 1 := by omega
      rw [el]
      show _ = some ((if bkB g k then lkS g (g 148 - (k + 1)) (k + 1) else iN k), lay s)
      by_cases d1 : g (149 + 3 * k) < g 1 ∧ g (150 + 3 * k) ≤ g 0
      · have hT : TBs g 0 (s.2.1 55) (s.2.1 56) (s.1 57) := by
          rcases ht with h | h
          · omega
          · exact h
        have r20 := rls_20 (g := g) (k := g 1 - g (149 + 3 * k)) (x := g (150 + 3 * k)) (i := 1)
        have rel : fX1_releaseAt 54 (iN (g (149 + 3 * k))) (iN (g (150 + 3 * k))) 1 (lay s) = some (iN (rlsS g (g 1 - g (149 + 3 * k)) (g (150 + 3 * k)) 1), lay s) := c_releaseAt (r := 54) (i := 1) (Or.inl rfl) (Nat.zero_le _) d1.1 d1.2 (by omega) hg.1 hT
        simp only [tI_pos d1, i10, if_false, rr_0_4, ob, rw_c (r := 54) (Or.inl rfl), rel, bd_s, rr_0_0, rr_1_3, ln_c l19, a2]
        simp (disch := first | assumption | omega) only [iN_eq, iN_addL]
        by_cases d2 : rlsS g (g 1 - g (149 + 3 * k)) (g (150 + 3 * k)) 1 = g (151 + 3 * k)
        · rw [if_pos d2, if_pos ⟨d1.1, d1.2, d2⟩]
          exact ih (k + 1) (by omega) (by omega)
        · rw [if_neg d2, if_neg (fun h => d2 h.2.2)]
      · simp only [tI_neg d1, i00, if_true]
        rw [if_neg (fun h => d1 ⟨h.1, h.2.1⟩)]
theorem r_lookL {wo : Nat → Bool} (hg : OKs g) (h : RR s g wo) (hR : Rg s 102 g) (ht : TR s g 0) : ∀ (n k : Nat), g 148 - k < n → k ≤ g 148 → X11_looked_L7 (fun μ_65 => some ((-5 : Int32), μ_65)) 101 n (iN k) (lay s) = some (lkS g (g 148 - k) k, lay s) := by
  have b := hg.1.1
  have b8 := hg.2.2.2.2.2.1
  have g148 : aI (lay s) 0 102 148 = some (iN (g 148)) := gi_g (k := 148) hR (by omega)
  intro n
  induction n with
  | zero => intro k h; omega
  | succ n ih =>
    intro k h1 h2
    rw [X11_looked_L7]
    simp only [rr_101_0, ob, g148]
    simp (disch := first | assumption | omega) only [iN_le]
    by_cases c : g 148 ≤ k
    · rw [if_pos c, show g 148 - k = 0 by omega]; rfl
    · rw [if_neg c]
      have hk : k < g 148 := by omega
      have hr := hg.2.2.2.2.2.2.2.2 k hk
      have a0 : aI (lay s) 0 102 (iN (149 + 3 * k)) = some (iN (g (149 + 3 * k))) := gi_g hR (by omega)
      have a1 : aI (lay s) 0 102 (iN (149 + 3 * k + 1)) = some (iN (g (150 + 3 * k))) := by rw [gi_g hR (by omega), show 149 + 3 * k + 1 = 150 + 3 * k by omega]
      have a2 : aI (lay s) 0 102 (iN (149 + 3 * k + 2)) = some (iN (g (151 + 3 * k))) := by rw [gi_g hR (by omega), show 149 + 3 * k + 2 = 151 + 3 * k by omega]
      have rr : fX11_isRelease 101 (iN (g (149 + 3 * k))) (iN (g (150 + 3 * k))) 1 (iN (g (151 + 3 * k))) (lay s) = some (tI (bkB g k), lay s) := r_isRelease (i := 1) h hg.1 ht (fun _ => Nat.zero_le _) (by omega) (by omega) (by omega) (by omega)
      simp only [iN_add, iN_addL, iN_Ladd, iN_mul, iN_mulL, iN_Lmul, a0, a1, a2, ob, oc_101, rr, bd_s]
      have el : g 148 - k = (g 148 - (k + 1)) + 1 := by omega
      rw [el]
      show _ = some ((if bkB g k then lkS g (g 148 - (k + 1)) (k + 1) else iN k), lay s)
      by_cases d : bkB g k
      · rw [if_pos d, tI_pos d]
        simp only [i10, if_false]
        exact ih (k + 1) (by omega) (by omega)
      · rw [if_neg d, tI_neg d]
        simp only [i00, if_true]
theorem k_looked (H : Inv s) : Alike s (fX10_looked 0) (fX11_looked 101) := by
  have H0 := H
  obtain ⟨g, kp, kf, rn, rv, tn, tv, hB, hC⟩ := H0
  have hI := hB.1
  have hg := hI.1.1
  have b1 := hg.1
  have hR := RR_of hI
  have hc := hI.2.1.1
  have hb : Bs 2 := Or.inl rfl
  have o := hI.1
  have l3 := hI.2.1.2.2.2
  have b8 := o.2.2.2.2.2.1
  by_cases c : g 148 = 0
  · obtain ⟨y, y1, y2, y3, y4⟩ := r_finds hg hR (f := 0) (by omega)
    rw [Nat.min_eq_left (Nat.zero_le _)] at y4
    have kb := Kb_Fx y2
    have hy := IB_keep kb hB
    refine ⟨lkS g (g 148 - 0) 0, s, y, ?_, ?_, Inv_of hB kb (Ic_keep (Kc_Fx y2) hC)⟩
    · unfold fX10_looked
      simp only [rr_0_0, rr_1_3, ob, ln_g3 l19, l3.1, jn_s]
      rw [if_pos (by rw [c]; decide)]
      exact c_lookL hb o hc l3 (Or.inl c) FU 0 (by unfold FU; omega) (by omega)
    · unfold fX11_looked
      simp only [oc_101, ob]
      rw [show fX11_finds 101 0 (lay s) = _ from y1]
      simp only [bd_s]
      exact r_lookL o (RR_of hy.1) hy.1.2.2.1 y4 FU 0 (by unfold FU; omega) (by omega)
  · obtain ⟨t, t1, t2, t3, t4⟩ := c_solveNow hg hc hC
    have hR1 : RR t g (fun _ => false) := RR_congr hR (t2.1 102 (by omega) (by omega) (by omega)) (by rw [t2.1 101 (by omega) (by omega) (by omega)])
    obtain ⟨y, y1, y2, y3, y4⟩ := r_finds hg hR1 (f := 0) (by omega)
    rw [Nat.min_eq_left (Nat.zero_le _)] at y4
    have kb := t2.b.tr (Kb_Fx y2)
    have hy := IB_keep kb hB
    have hT := IB_keep t2.b hB
    refine ⟨lkS g (g 148 - 0) 0, t, y, ?_, ?_, Inv_of hB kb (Ic_keep (Kc_Fx y2) t4)⟩
    · unfold fX10_looked
      simp only [rr_0_0, rr_1_3, ob, ln_g3 l19, l3.1, jn_s]
      rw [if_neg (by rw [iN_leL (by omega) (by omega)]; omega)]
      simp only [oc_0, ob]
      rw [t1]
      simp only [bd_s]
      exact c_lookL hb o hT.1.2.1.1 hT.1.2.1.2.2.2 (Or.inr t3.2.2) FU 0 (by unfold FU; omega) (by omega)
    · unfold fX11_looked
      simp only [oc_101, ob]
      rw [show fX11_finds 101 0 (lay t) = _ from y1]
      simp only [bd_s]
      exact r_lookL o (RR_of hy.1) hy.1.2.2.1 y4 FU 0 (by unfold FU; omega) (by omega)
/-- all but the text is as it was -/
theorem Inv_text {t : Sto} {kp : Nat → Nat} {kf : Bool} {rn : Nat → Nat} {rv : Nat → Nat → Nat} {tn tn' : Nat} {tv tv' : Nat → Nat} (k1 : ∀ q, q ≠ 76 → q ≠ 77 → q ≠ 113 → q ≠ 101 → t.1 q = s.1 q) (k2 : ∀ k, k ≠ 29 → t.1 101 k = s.1 101 k) (k3 : t.2 = s.2) (hB : IB s g kp kf rn rv tn tv) (hC : Ic s g) (h : It t tn' tv') : Inv t := by
  obtain ⟨⟨a1, a2, a3, a4⟩, b, c, d, e, f⟩ := hB
  refine ⟨g, kp, kf, rn, rv, tn', tv', ⟨⟨a1, RS_congr a2 a1.m (fun q h1 h2 => k1 q (by omega) (by omega) (by omega) (by omega)), Rg_congr a3 (k1 102 (by omega) (by omega) (by omega) (by omega)), by rw [k2 3 (by omega)]; exact a4⟩, ?_, fun r hr => ?_, h, fun i hi => ?_, by unfold Tw at *; rw [k3]; exact f⟩, Ic_keep ⟨fun k _ => by rw [k1 0 (by omega) (by omega) (by omega) (by omega)], k1 57 (by omega) (by omega) (by omega) (by omega), k1 58 (by omega) (by omega) (by omega) (by omega), by rw [k3], by rw [k3]⟩ hC⟩
  · rcases b with ⟨b1, b2, b3⟩ | ⟨b1, b2, b3, b4, b5, b6⟩
    · exact Or.inl ⟨b1, by rw [k1 0 (by omega) (by omega) (by omega) (by omega)]; exact b2, by rw [k2 2 (by omega)]; exact b3⟩
    · exact Or.inr ⟨b1, by rw [k1 0 (by omega) (by omega) (by omega) (by omega)]; exact b2, by rw [k2 2 (by omega)]; exact b3, b4, RS_congr b5 b4.m (fun q h1 h2 => k1 q (by omega) (by omega) (by omega) (by omega)), Rg_congr b6 (k1 103 (by omega) (by omega) (by omega) (by omega))⟩
  · obtain ⟨c1, c2, c3, c4⟩ := c r hr
    rw [k1 (81 + 2 * r) (by omega) (by omega) (by omega) (by omega), k1 104 (by omega) (by omega) (by omega) (by omega), k1 (82 + 2 * r) (by omega) (by omega) (by omega) (by omega), k1 105 (by omega) (by omega) (by omega) (by omega)]
    exact ⟨c1, c2, c3, c4⟩
  · have := e i hi
    rw [k1 (89 + 2 * i) (by omega) (by omega) (by omega) (by omega), k1 115 (by omega) (by omega) (by omega) (by omega), k1 116 (by omega) (by omega) (by omega) (by omega), k3]
    exact this
theorem l76 : Ln 76 1 100 := by unfold Ln; decide
set_option maxRecDepth 100000 in
theorem nar_127 : ∀ v < 128, vp_nar .byte ((iN v).toInt8.toInt32) = iN v := by decide
theorem k_feed (H : Inv s) (v1 : Int32) : Alike s (fX10_feed 0 v1) (fX11_feed 101 v1) := by
  have H0 := H
  obtain ⟨g, kp, kf, rn, rv, tn, tv, hB, hC⟩ := H0
  have hI := hB.1
  have hg := hI.1.1
  have b1 := hg.1
  have hR := RR_of hI
  have hc := hI.2.1.1
  have hb : Bs 2 := Or.inl rfl
  have ht := hB.2.2.2.1
  obtain ⟨h1, h2, h3, h4⟩ := ht
  have hL : LI s 76 1 tn tv := ⟨h2, fun i hi => (h4 i (by omega)).2.1⟩
  by_cases c1 : 0 ≤ v1 ∧ v1 ≤ (127 : Int32)
  · obtain ⟨v, rfl, hv⟩ := rng (k := 127) c1 (by omega)
    by_cases c5 : tn = 100
    · refine Alike_same (a := -4) ?_ ?_ H
      · unfold fX10_feed fX6_add
        simp only [c_within, tI_pos c1, bd_s, i10, if_false, rr_0_14, ob, ln_c l76]
        rw [c_full l76 (f := tv) (by rw [← c5]; exact hL)]
        rfl
      · unfold fX11_feed
        rw [r_in]
        simp (disch := first | assumption | omega) only [lit64_le, le_lit64, le_64, tI_pos c1, bd_s, i10, if_false, gi_101_29, ob, h3]
        rw [if_pos (by rw [c5]; rfl)]
    · obtain ⟨t, t1, t2, t3⟩ := c_add l76 hL (by omega) v 0 0 0
      have x3 : t.1 101 29 = iN tn := by rw [t2.1 101 (by omega) (by omega)]; exact h3
      have n5 : ¬ (iN tn = (100 : Int32)) := by rw [iN_eqL (by omega) (by omega)]; exact c5
      have w1 : sB (lay t) 113 (iN tn) (iN v).toInt8.toInt32 = some (lay (uI t 113 tn (iN v))) := by
        rw [si_113 (by omega), nar_127 v (by omega)]
      have x4 : (uI t 113 tn (iN v)).1 101 29 = iN tn := by rw [rI_ne (by omega)]; exact x3
      refine ⟨iN (tn + 1), t, uI (uI t 113 tn (iN v)) 101 29 (iN (tn + 1)), ?_, ?_, ?_⟩
      · unfold fX10_feed fX6_add
        simp only [c_within, tI_pos c1, bd_s, i10, if_false, rr_0_14, ob, ln_c l76]
        rw [show fX6_add___ 76 (iN v) 0 0 0 (lay s) = _ from t1]
        rfl
      · unfold fX11_feed
        rw [r_in]
        simp (disch := first | assumption | omega) only [lit64_le, le_lit64, le_64, tI_pos c1, bd_s, i10, if_false, gi_101_29, ob, x3, if_neg n5, rr_101_28]
        simp only [w1, ob, gi_101_29, x4, iN_addL, pi_101_29]
        rw [rI_same, upd_same]
      · refine Inv_text (s := s) (tn' := tn + 1) (tv' := fun i => if i = tn then v else tv i) (fun q a1 a2 a3 a4 => by rw [rI_ne a4, rI_ne a3, t2.1 q a1 a2]) (fun k hk => by rw [rI_same, upd_ne hk, rI_ne (by omega), t2.1 101 (by omega) (by omega)]) (by rw [rI_2, rI_2, t2.2]) hB hC ⟨by omega, ?_, ?_, fun i hi => ?_⟩
        · rw [rI_ne (by omega), rI_ne (by omega)]; exact t3.1
        · rw [rI_same, upd_same]
        · have q3 := t3.2 i (by omega)
          rw [rI_ne (by omega), rI_ne (by omega), rI_ne (by omega), rI_same]
          by_cases ci : i = tn
          · subst ci
            simp only [if_true]
            simp only [Nat.mul_one, Nat.lt_irrefl, if_false, Nat.sub_self] at q3
            exact ⟨hv, q3, upd_same⟩
          · simp only [if_neg ci]
            simp only [Nat.mul_one, show i < tn by omega, if_true] at q3
            have := h4 i (by omega)
            exact ⟨this.1, q3, by rw [upd_ne (by omega), t2.1 113 (by omega) (by omega)]; exact this.2.2⟩
  · refine Alike_same (a := -2) ?_ ?_ H
    · unfold fX10_feed
      simp only [c_within, tI_neg c1, bd_s, i00, if_true]
    · unfold fX11_feed
      rw [r_in]
      simp (disch := first | assumption | omega) only [lit64_le, le_lit64, le_64, tI_neg c1, bd_s, i00, if_true]
end LOOK
