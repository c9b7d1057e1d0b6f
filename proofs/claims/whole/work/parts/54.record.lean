/-! ===== records ===== -/
section REC
variable {s t u : Sto} {g kp : Nat → Nat} {kf : Bool} {rn rn' : Nat → Nat} {rv rv' : Nat → Nat → Nat} {tn : Nat} {tv : Nat → Nat}
/-- all but the records is as it was -/
def Kr (s t : Sto) : Prop := (∀ q, q < 81 ∨ (88 < q ∧ q ≠ 104 ∧ q ≠ 105) → t.1 q = s.1 q) ∧ t.2 = s.2
theorem Kr.tr (h1 : Kr s t) (h2 : Kr t u) : Kr s u := ⟨fun x a => (h2.1 x a).trans (h1.1 x a), h2.2.trans h1.2⟩
theorem Kr_rI {q : Nat} {f : Nat → Int32} (h : (81 ≤ q ∧ q ≤ 88) ∨ q = 104 ∨ q = 105) : Kr s (rI s q f) := ⟨fun x a => rI_ne (by omega), rfl⟩
theorem Kr_Ol {r : Nat} (hr : r < 4) (h : Ol (81 + 2 * r) s t) : Kr s t := ⟨fun x a => h.1 x (by omega) (by omega), h.2⟩
theorem Inv_rec (hk : Kr s t) (hB : IB s g kp kf rn rv tn tv) (hC : Ic s g) (h : Ir t rn' rv') : Inv t := by
  obtain ⟨⟨a1, a2, a3, a4⟩, b, c, d, e, f⟩ := hB
  obtain ⟨k1, k2⟩ := hk
  refine ⟨g, kp, kf, rn', rv', tn, tv, ⟨⟨a1, RS_congr a2 a1.m (fun q h1 h2 => k1 q (by omega)), Rg_congr a3 (k1 102 (by omega)), by rw [k1 101 (by omega)]; exact a4⟩, ?_, h, ?_, fun i hi => ?_, by unfold Tw at *; rw [k2]; exact f⟩, Ic_keep ⟨fun k _ => by rw [k1 0 (by omega)], k1 57 (by omega), k1 58 (by omega), by rw [k2], by rw [k2]⟩ hC⟩
  · rcases b with ⟨b1, b2, b3⟩ | ⟨b1, b2, b3, b4, b5, b6⟩
    · exact Or.inl ⟨b1, by rw [k1 0 (by omega)]; exact b2, by rw [k1 101 (by omega)]; exact b3⟩
    · exact Or.inr ⟨b1, by rw [k1 0 (by omega)]; exact b2, by rw [k1 101 (by omega)]; exact b3, b4, RS_congr b5 b4.m (fun q h1 h2 => k1 q (by omega)), Rg_congr b6 (k1 103 (by omega))⟩
  · obtain ⟨d1, d2, d3, d4⟩ := d
    unfold It
    rw [k1 76 (by omega), k1 101 (by omega), k1 77 (by omega), k1 113 (by omega)]
    exact ⟨d1, d2, d3, d4⟩
  · have := e i hi
    rw [k1 (89 + 2 * i) (by omega), k1 115 (by omega), k1 116 (by omega), k2]
    exact this
theorem LI_rec (h : Ir s rn rv) {r : Nat} (hr : r < 4) : LI s (81 + 2 * r) 1 (rn r) (rv r) := by
  obtain ⟨h1, h2, h3, h4⟩ := h r hr
  exact ⟨h2, fun i hi => (show s.1 (81 + 2 * r + 1) i = iN (rv r i) by rw [show 81 + 2 * r + 1 = 82 + 2 * r by omega]; exact (h4 i (by omega)).2.1)⟩
theorem k_record (H : Inv s) (v1 v2 : Int32) : Alike s (fX10_record 0 v1 v2) (fX11_record 101 v1 v2) := by
  have H0 := H
  obtain ⟨g, kp, kf, rn, rv, tn, tv, hB, hC⟩ := H0
  have hI := hB.1
  have hg := hI.1.1
  have b1 := hg.1
  have hR := RR_of hI
  have hc := hI.2.1.1
  have hb : Bs 2 := Or.inl rfl
  have hr0 := hB.2.2.1
  by_cases c1 : 0 ≤ v1 ∧ v1 ≤ (3 : Int32)
  · obtain ⟨r, rfl, hr⟩ := rng (k := 3) c1 (by omega)
    have hr4 : r < 4 := by omega
    have hl := rc_l hr4
    have hL := LI_rec hr0 hr4
    obtain ⟨e1, e2, e3, e4⟩ := hr0 r hr4
    by_cases c0 : v2 = -1
    · refine ⟨0, uI s (81 + 2 * r) 3 0, uI (uI s (81 + 2 * r) 3 0) 104 r 0, ?_, ?_, ?_⟩
      · unfold fX10_record
        simp only [c_within, tI_pos c1, bd_s, i10, if_false, if_pos c0, rr_0_13, ob, rc_a hr4, ln_c hl, c_clear hl]
      · unfold fX11_record
        simp only [r_isRecord, tI_pos c1, bd_s, i10, if_false, if_pos c0, rr_101_4, ob, si_104 hr4]
      · refine Inv_rec ((Kr_rI (by omega)).tr (Kr_rI (by omega))) hB hC (rn' := fun k => if k = r then 0 else rn k) (rv' := rv) (fun k hk => ?_)
        obtain ⟨i1, i2, i3, i4⟩ := hr0 k hk
        by_cases ck : k = r
        · subst ck
          simp only [if_true]
          refine ⟨by omega, ?_, ?_, fun t ht => by omega⟩
          · rw [rI_ne (by omega), rI_same, upd_same]; rfl
          · rw [rI_same, upd_same]; rfl
        · simp only [if_neg ck]
          refine ⟨i1, ?_, ?_, fun t ht => ?_⟩
          · rw [rI_ne (by omega), rI_ne (by omega)]; exact i2
          · rw [rI_same, upd_ne ck, rI_ne (by omega)]; exact i3
          · rw [rI_ne (by omega), rI_ne (by omega), rI_ne (by omega), rI_ne (by omega)]; exact i4 t ht
    · by_cases c2 : 0 ≤ v2 ∧ v2 ≤ (9 : Int32)
      · obtain ⟨v, rfl, hv⟩ := rng (k := 9) c2 (by omega)
        by_cases c5 : rn r = 24
        · refine Alike_same (a := -4) ?_ ?_ H
          · unfold fX10_record fX6_add
            simp only [c_within, tI_pos c1, tI_pos c2, bd_s, i10, if_false, if_neg c0, rr_0_13, ob, rc_a hr4, ln_c hl]
            rw [c_full hl (f := rv r) (by rw [← c5]; exact hL)]
            rfl
          · unfold fX11_record
            simp only [r_isRecord, tI_pos c1, bd_s, i10, if_false, if_neg c0]
            rw [r_in]
            simp (disch := first | assumption | omega) only [lit64_le, le_lit64, le_64, tI_pos c2, bd_s, i10, if_false, rr_101_4, ob, ai_104 hr4, e3]
            rw [if_pos (by rw [c5]; rfl)]
        · obtain ⟨t, t1, t2, t3⟩ := c_add hl hL (by omega) v 0 0 0
          have x3 : t.1 104 r = iN (rn r) := by rw [t2.1 104 (by omega) (by omega)]; exact e3
          have n5 : ¬ (iN (rn r) = (24 : Int32)) := by rw [iN_eqL (by omega) (by omega)]; exact c5
          have w1 : sI (lay t) 105 (iN (24 * r + rn r)) (iN v) = some (lay (uI t 105 (24 * r + rn r) (iN v))) := si_105 (by omega)
          have x4 : (uI t 105 (24 * r + rn r) (iN v)).1 104 r = iN (rn r) := by rw [rI_ne (by omega)]; exact x3
          refine ⟨iN (rn r + 1), t, uI (uI t 105 (24 * r + rn r) (iN v)) 104 r (iN (rn r + 1)), ?_, ?_, ?_⟩
          · unfold fX10_record fX6_add
            simp only [c_within, tI_pos c1, tI_pos c2, bd_s, i10, if_false, if_neg c0, rr_0_13, ob, rc_a hr4, ln_c hl]
            rw [show fX6_add___ (81 + 2 * r) (iN v) 0 0 0 (lay s) = _ from t1]
            rfl
          · unfold fX11_record
            simp only [r_isRecord, tI_pos c1, bd_s, i10, if_false, if_neg c0]
            rw [r_in]
            simp (disch := first | assumption | omega) only [lit64_le, le_lit64, le_64, tI_pos c2, bd_s, i10, if_false, rr_101_4, rr_101_5, ob, ai_104 hr4, x3, if_neg n5]
            simp only [iN_add, iN_addL, iN_Ladd, iN_mul, iN_mulL, iN_Lmul, w1, ob, rr_101_4, ai_104 hr4, x4, si_104 hr4]
            rw [rI_same, upd_same]
          · refine Inv_rec ((Kr_Ol hr4 t2).tr ((Kr_rI (by omega)).tr (Kr_rI (by omega)))) hB hC (rn' := fun k => if k = r then rn r + 1 else rn k) (rv' := fun k i => if k = r ∧ i = rn r then v else rv k i) (fun k hk => ?_)
            obtain ⟨i1, i2, i3, i4⟩ := hr0 k hk
            by_cases ck : k = r
            · subst ck
              simp only [if_true, true_and]
              refine ⟨by omega, ?_, ?_, fun i hi => ?_⟩
              · rw [rI_ne (by omega), rI_ne (by omega)]; exact t3.1
              · rw [rI_same, upd_same]
              · have h3 := t3.2 i (by omega)
                rw [rI_ne (by omega), rI_ne (by omega), rI_ne (by omega), rI_same]
                rw [show 81 + 2 * k + 1 = 82 + 2 * k by omega] at h3
                by_cases ci : i = rn k
                · subst ci
                  simp only [if_true]
                  simp only [Nat.mul_one, Nat.lt_irrefl, if_false, Nat.sub_self] at h3
                  exact ⟨hv, h3, upd_same⟩
                · simp only [if_neg ci]
                  simp only [Nat.mul_one, show i < rn k by omega, if_true] at h3
                  have := i4 i (by omega)
                  refine ⟨this.1, h3, ?_⟩
                  rw [upd_ne (by omega), t2.1 105 (by omega) (by omega)]
                  exact this.2.2
            · simp only [if_neg ck, show ∀ i, (k = r ∧ i = rn r) = False from fun i => propext ⟨fun h => ck h.1, fun h => h.elim⟩, if_false]
              refine ⟨i1, ?_, ?_, fun i hi => ?_⟩
              · rw [rI_ne (by omega), rI_ne (by omega), t2.1 _ (by omega) (by omega)]; exact i2
              · rw [rI_same, upd_ne ck, rI_ne (by omega), t2.1 _ (by omega) (by omega)]; exact i3
              · rw [rI_ne (by omega), rI_ne (by omega), rI_ne (by omega), rI_same, t2.1 _ (by omega) (by omega), upd_ne (by omega), t2.1 _ (by omega) (by omega)]; exact i4 i hi
      · refine Alike_same (a := -2) ?_ ?_ H
        · unfold fX10_record
          simp only [c_within, tI_pos c1, tI_neg c2, bd_s, i10, i00, if_true, if_false, if_neg c0]
        · unfold fX11_record
          simp only [r_isRecord, tI_pos c1, bd_s, i10, if_false, if_neg c0]
          rw [r_in]
          simp (disch := first | assumption | omega) only [lit64_le, le_lit64, le_64, tI_neg c2, bd_s, i00, if_true]
  · refine Alike_same (a := -1) ?_ ?_ H
    · unfold fX10_record
      simp only [c_within, tI_neg c1, bd_s, i00, if_true]
    · unfold fX11_record
      simp only [r_isRecord, tI_neg c1, bd_s, i00, if_true]
end REC
