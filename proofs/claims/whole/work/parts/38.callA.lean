/-! ===== calls that only tell ===== -/
theorem rng {v : Int32} {k : Nat} (h : 0 ≤ v ∧ v ≤ iN k) (hk : k < 2147483648) : ∃ n : Nat, v = iN n ∧ n ≤ k := iN_in h.1 h.2 hk
theorem rnl {v : Int32} {k : Nat} (h : 0 ≤ v ∧ v < iN k) (hk : k < 2147483648) : ∃ n : Nat, v = iN n ∧ n < k := by
  obtain ⟨n, rfl, hn⟩ := iN_of h.1
  have h2 := h.2
  rw [iN_lt hn hk] at h2
  exact ⟨n, rfl, h2⟩
theorem Alike_same {τ : Type} {s : Sto} {f r : Mem → Option (τ × Mem)} {a : τ} (h1 : f (lay s) = some (a, lay s)) (h2 : r (lay s) = some (a, lay s)) (h : Inv s) : Alike s f r := ⟨a, s, s, h1, h2, h⟩
section CALLA
variable {s : Sto}
theorem gi_g {g : Nat → Nat} (h : Rg s 102 g) {k : Nat} (hk : k < 173) : aI (lay s) 0 102 (iN k) = some (iN (g k)) := by rw [ai_102 hk, h k hk]
theorem k_told (H : Inv s) (v : Int32) : Alike s (fX10_told 0 v) (fX11_told 101 v) := by
  have H0 := H
  obtain ⟨g, kp, kf, rn, rv, tn, tv, hB, hC⟩ := H0
  have hI := hB.1
  have hg := hI.1.1
  have b1 := hg.1
  have hR := RR_of hI
  have hc := hI.2.1.1
  have hb : Bs 2 := Or.inl rfl
  by_cases c4 : v = 4
  · refine Alike_same (a := iN (g 73)) ?_ ?_ H
    · unfold fX10_told
      simp only [if_pos c4, rr_0_0, rr_1_0, ob, bs_g10 hb, hc.1.1.2.2.2.2]
    · unfold fX11_told
      simp only [if_pos c4, rr_101_0, ob, r_many hR]
  · by_cases c3 : 0 ≤ v ∧ v ≤ (3 : Int32)
    · obtain ⟨n, rfl, hn⟩ := rng (k := 3) c3 (by omega)
      refine Alike_same (a := iN (g n)) ?_ ?_ H
      · unfold fX10_told fX0_settingOf
        simp only [if_neg c4, rr_0_0, rr_1_0, ob, bs_c hb, bs_g0 hb, bs_g1 hb, bs_g2 hb, bs_g3 hb, hc.1.1.1, hc.1.1.2.1, hc.1.1.2.2.1, hc.1.1.2.2.2.1]
        rcases (show n = 0 ∨ n = 1 ∨ n = 2 ∨ n = 3 by omega) with rfl | rfl | rfl | rfl <;> rfl
      · unfold fX11_told
        simp (disch := first | assumption | omega) only [if_neg c4, r_in, lit64_le, le_lit64, le_64, tI_pos c3, bd_s, i10, if_false, rr_101_0, ob, gi_g hI.2.2.1]
    · refine Alike_same (a := -1) ?_ ?_ H
      · unfold fX10_told fX0_settingOf
        simp only [if_neg c4, rr_0_0, rr_1_0, ob, bs_c hb]
        rw [if_neg (fun e => c3 (by subst e; decide)), if_neg (fun e => c3 (by subst e; decide)), if_neg (fun e => c3 (by subst e; decide)), if_neg (fun e => c3 (by subst e; decide))]
        rfl
      · unfold fX11_told
        simp (disch := first | assumption | omega) only [if_neg c4, r_in, lit64_le, le_lit64, le_64, tI_neg c3, bd_s, i00, if_true]
theorem k_monthOf (H : Inv s) (u v : Int32) : Alike s (fX10_monthOf 0 u v) (fX11_monthOf 101 u v) := by
  have H0 := H
  obtain ⟨g, kp, kf, rn, rv, tn, tv, hB, hC⟩ := H0
  have hI := hB.1
  have hg := hI.1.1
  have b1 := hg.1
  have hR := RR_of hI
  have hc := hI.2.1.1
  have hb : Bs 2 := Or.inl rfl
  by_cases c1 : 0 ≤ u ∧ u ≤ (11 : Int32)
  · obtain ⟨m, rfl, hm⟩ := rng (k := 11) c1 (by omega)
    have hm12 : m < 12 := by omega
    by_cases c2 : 0 ≤ v ∧ v ≤ (5 : Int32)
    · obtain ⟨n, rfl, hn⟩ := rng (k := 5) c2 (by omega)
      have e1 : fX10_monthOf 0 (iN m) (iN n) (lay s) = some (if n < 3 then iN (g (4 + 3 * m + n)) else if n = 3 then iN (g (49 + m)) else if n = 4 then iN (g (61 + m)) else iN (topS g m), lay s) := by
        unfold fX10_monthOf
        simp (disch := first | assumption | omega) only [c_within, tI_pos c1, bd_s, i10, if_false, rr_0_0, rr_1_0, ob, bs_c hb, bs_r6 hb, bs_r7 hb, bs_a3 hb hm12, bs_a4 hb hm12, c_topOf hb hg hc.1 hm12, hc.1.2.2.2.1 m hm12, hc.1.2.2.2.2.1 m hm12]
        rcases (show n = 0 ∨ n = 1 ∨ n = 2 ∨ n = 3 ∨ n = 4 ∨ n = 5 by omega) with rfl | rfl | rfl | rfl | rfl | rfl
        · rw [c_inflowIn hb hc.1 hm12 (by omega)]; rfl
        · rw [c_inflowIn hb hc.1 hm12 (by omega)]; rfl
        · rw [c_inflowIn hb hc.1 hm12 (by omega)]; rfl
        · rfl
        · rfl
        · rfl
      refine Alike_same e1 ?_ H
      unfold fX11_monthOf
      simp (disch := first | assumption | omega) only [r_isMonth, r_in, lit64_le, le_lit64, le_64, tI_pos c1, tI_pos c2, bd_s, i10, if_false, rr_101_0, oc_101, ob, r_top hR hg hm12]
      simp (disch := first | assumption | omega) only [iN_add, iN_addL, iN_Ladd, iN_mul, iN_mulL, iN_Lmul, iN_le, iN_lt, iN_eq, iN_leL, iN_Lle, iN_ltL, iN_Llt, iN_eqL, iN_Leq]
      by_cases d1 : n < 3
      · rw [if_neg (by omega), if_pos d1, gi_g hI.2.2.1 (by omega)]
        rfl
      · rw [if_pos (by omega), if_neg d1]
        by_cases d2 : n = 3
        · rw [if_pos d2, if_pos d2, gi_g hI.2.2.1 (by omega)]
          rfl
        · rw [if_neg d2, if_neg d2]
          by_cases d3 : n = 4
          · rw [if_pos d3, if_pos d3, gi_g hI.2.2.1 (by omega)]
            rfl
          · rw [if_neg d3, if_neg d3]
    · refine Alike_same (a := -1) ?_ ?_ H
      · unfold fX10_monthOf
        simp (disch := first | assumption | omega) only [c_within, tI_pos c1, bd_s, i10, if_false]
        rw [if_neg (fun e => c2 (by subst e; decide)), if_neg (fun e => c2 (by subst e; decide)), if_neg (fun e => c2 (by subst e; decide)), if_neg (fun e => c2 (by subst e; decide)), if_neg (fun e => c2 (by subst e; decide)), if_neg (fun e => c2 (by subst e; decide))]
      · unfold fX11_monthOf
        simp (disch := first | assumption | omega) only [r_isMonth, r_in, lit64_le, le_lit64, le_64, tI_pos c1, tI_neg c2, bd_s, i10, i00, if_false, if_true]
  · refine Alike_same (a := -1) ?_ ?_ H
    · unfold fX10_monthOf
      simp (disch := first | assumption | omega) only [c_within, tI_neg c1, bd_s, i00, if_true]
    · unfold fX11_monthOf
      simp (disch := first | assumption | omega) only [r_isMonth, tI_neg c1, bd_s, i00, if_true]
theorem k_partOf (H : Inv s) (u v : Int32) : Alike s (fX10_partOf 0 u v) (fX11_partOf 101 u v) := by
  have H0 := H
  obtain ⟨g, kp, kf, rn, rv, tn, tv, hB, hC⟩ := H0
  have hI := hB.1
  have hg := hI.1.1
  have b1 := hg.1
  have hR := RR_of hI
  have hc := hI.2.1.1
  have hb : Bs 2 := Or.inl rfl
  by_cases c1 : 0 ≤ u ∧ u ≤ (2 : Int32)
  · obtain ⟨i, rfl, hi⟩ := rng (k := 2) c1 (by omega)
    have hi3 : i < 3 := by omega
    by_cases c2 : 0 ≤ v ∧ v ≤ (3 : Int32)
    · obtain ⟨j, rfl, hj⟩ := rng (k := 3) c2 (by omega)
      refine Alike_same (a := if j = 3 then iN (partsS g i) else iN (partS g i j)) ?_ ?_ H
      · unfold fX10_partOf
        simp (disch := first | assumption | omega) only [c_isState, c_within, tI_pos c1, tI_pos c2, bd_s, i10, if_false, rr_0_0, rr_1_0, ob, bs_c hb, bs_r5 hb, c_allParts hb hc.1 hi3, iN_add, iN_addL, iN_Ladd, iN_mul, iN_mulL, iN_Lmul, iN_eqL]
        by_cases d1 : j = 3
        · rw [if_pos d1, if_pos d1]
        · rw [if_neg d1, if_neg d1, bs_a2 hb (by omega), c_part hc.1 hi3 (by omega)]
          rfl
      · unfold fX11_partOf
        simp (disch := first | assumption | omega) only [r_isState, r_in, lit64_le, le_lit64, le_64, tI_pos c1, tI_pos c2, bd_s, i10, if_false, oc_101, ob, r_parts hR hi3, iN_eqL]
        by_cases d1 : j = 3
        · rw [if_pos d1, if_pos d1]
        · rw [if_neg d1, if_neg d1, r_part hR hi3 (by omega)]
          rfl
    · refine Alike_same (a := -1) ?_ ?_ H
      · unfold fX10_partOf
        simp (disch := first | assumption | omega) only [c_isState, c_within, tI_pos c1, tI_neg c2, bd_s, i10, i00, if_false, if_true]
      · unfold fX11_partOf
        simp (disch := first | assumption | omega) only [r_isState, r_in, lit64_le, le_lit64, le_64, tI_pos c1, tI_neg c2, bd_s, i10, i00, if_false, if_true]
  · refine Alike_same (a := -1) ?_ ?_ H
    · unfold fX10_partOf
      simp (disch := first | assumption | omega) only [c_isState, tI_neg c1, bd_s, i00, if_true]
    · unfold fX11_partOf
      simp (disch := first | assumption | omega) only [r_isState, tI_neg c1, bd_s, i00, if_true]
theorem rg_at {g : Nat → Nat} (h : Rg s 102 g) {d f : Nat} (hd : d < 6) (hf : f < 6) : fX11_at 101 (iN d) (iN f) (lay s) = some (iN (dF g d f), lay s) := by
  unfold fX11_at
  simp only [rr_101_0, ob, iN_add, iN_addL, iN_Ladd, iN_mul, iN_mulL, iN_Lmul]
  rw [gi_g h (by omega)]
  rfl
theorem k_demandOf (H : Inv s) (u v : Int32) : Alike s (fX10_demandOf 0 u v) (fX11_demandOf 101 u v) := by
  have H0 := H
  obtain ⟨g, kp, kf, rn, rv, tn, tv, hB, hC⟩ := H0
  have hI := hB.1
  have hg := hI.1.1
  have b1 := hg.1
  have hR := RR_of hI
  have hc := hI.2.1.1
  have hb : Bs 2 := Or.inl rfl
  by_cases c1 : 0 ≤ u ∧ u < iN (g 73)
  · obtain ⟨d, rfl, hd⟩ := rnl c1 (by omega)
    have d6 : d < 6 := by omega
    by_cases c2 : 0 ≤ v ∧ v ≤ (6 : Int32)
    · obtain ⟨n, rfl, hn⟩ := rng (k := 6) c2 (by omega)
      refine Alike_same (a := if n = 6 then iN (rkS g d) else iN (dF g d n)) ?_ ?_ H
      · unfold fX10_demandOf fX5_tell
        simp (disch := first | assumption | omega) only [rr_0_0, rr_1_0, ob, bs_c hb, c_hasDemand hb hg hc.1, tI_pos c1, bd_s, i10, if_false, c_placeByRank hb hg hc.1 hd, bs_r8 hb, bs_d hb d6, bs_cd hb d6, bs_gd hb d6, c_dF hc.1 hd]
        rcases (show n = 0 ∨ n = 1 ∨ n = 2 ∨ n = 3 ∨ n = 4 ∨ n = 5 ∨ n = 6 by omega) with rfl | rfl | rfl | rfl | rfl | rfl | rfl <;> rfl
      · unfold fX11_demandOf
        simp (disch := first | assumption | omega) only [oc_101, ob, r_isDemand hR hg, r_in, lit64_le, le_lit64, le_64, tI_pos c1, tI_pos c2, bd_s, i10, if_false, r_rankOf hR hg hd, iN_eqL]
        by_cases d1 : n = 6
        · rw [if_pos d1, if_pos d1]
        · rw [if_neg d1, if_neg d1, rg_at hI.2.2.1 d6 (by omega)]
          rfl
    · refine Alike_same (a := -1) ?_ ?_ H
      · unfold fX10_demandOf fX5_tell
        simp (disch := first | assumption | omega) only [rr_0_0, rr_1_0, ob, bs_c hb, c_hasDemand hb hg hc.1, tI_pos c1, bd_s, i10, if_false, bs_r8 hb, bs_d hb d6, bs_cd hb d6]
        rw [if_neg (fun e => c2 (by subst e; decide)), if_neg (fun e => c2 (by subst e; decide)), if_neg (fun e => c2 (by subst e; decide)), if_neg (fun e => c2 (by subst e; decide)), if_neg (fun e => c2 (by subst e; decide)), if_neg (fun e => c2 (by subst e; decide)), if_neg (fun e => c2 (by subst e; decide))]
        rfl
      · unfold fX11_demandOf
        simp (disch := first | assumption | omega) only [oc_101, ob, r_isDemand hR hg, r_in, lit64_le, le_lit64, le_64, tI_pos c1, tI_neg c2, bd_s, i10, i00, if_false, if_true]
  · refine Alike_same (a := -1) ?_ ?_ H
    · unfold fX10_demandOf
      simp (disch := first | assumption | omega) only [rr_0_0, rr_1_0, ob, bs_c hb, c_hasDemand hb hg hc.1, tI_neg c1, bd_s, i00, if_true]
    · unfold fX11_demandOf
      simp (disch := first | assumption | omega) only [oc_101, ob, r_isDemand hR hg, tI_neg c1, bd_s, i00, if_true]
theorem c_under {μ : Mem} : ∀ a < 5, ∀ b < 5, fX10_isUnder (iN a) (iN b) μ = some (tI (b = 0 ∨ a = b ∨ (b = 1 ∧ a = 3)), μ) := by
  have step : ∀ (G : Mem → Option (Int32 × Mem)) (n a b k : Nat), a < 5 → b < 5 → k < 5 → X10_isUnder_L4 G (iN b) (n + 1) (iN a) (iN k) μ = if a = b then some (1, μ) else X10_isUnder_L4 G (iN b) n ([-1, 0, 0, 1, 0].getD a 0) (iN (k + 1)) μ := by
    intro G n a b k ha hb hk
    rw [X10_isUnder_L4]
    have c1 : (0 : Int32) ≤ iN a ∧ iN a ≤ 4 := by
      simp (disch := first | assumption | omega) only [iN_Lle, iN_leL]
      omega
    simp only [c_within, tI_pos c1, bd_s, i10, if_false]
    simp (disch := first | assumption | omega) only [iN_Lle, iN_eq, zz1, ob, iN_addL]
    rw [if_neg (by omega)]
    have : ∀ a < 5, kI [-1, 0, 0, 1, 0] (iN a) = some ([-1, 0, 0, 1, 0].getD a 0) := by decide
    rw [this a ha]
    rfl
  have stop : ∀ (G : Mem → Option (Int32 × Mem)) (n b k : Nat), k < 5 → X10_isUnder_L4 G (iN b) (n + 1) (-1) (iN k) μ = G μ := by
    intro G n b k hk
    rw [X10_isUnder_L4]
    simp (disch := first | assumption | omega) only [iN_Lle, c_within]
    rw [if_neg (by omega), tI_neg (by decide)]
    rfl
  intro a ha b hb
  unfold fX10_isUnder
  show X10_isUnder_L4 _ (iN b) (9997 + 1 + 1 + 1) (iN a) (iN 0) μ = _
  rw [step _ _ a b 0 ha hb (by omega)]
  by_cases e : a = b
  · rw [if_pos e, tI_pos (Or.inr (Or.inl e))]
  · rw [if_neg e]
    rcases (show a = 0 ∨ a = 1 ∨ a = 2 ∨ a = 3 ∨ a = 4 by omega) with rfl | rfl | rfl | rfl | rfl
    · show X10_isUnder_L4 _ (iN b) (9997 + 1 + 1) (-1) (iN 1) μ = _
      rw [stop _ _ _ _ (by omega), tI_neg (by omega)]
      rfl
    · show X10_isUnder_L4 _ (iN b) (9997 + 1 + 1) (iN 0) (iN 1) μ = _
      rw [step _ _ 0 b 1 (by omega) hb (by omega)]
      by_cases e2 : 0 = b
      · rw [if_pos e2, tI_pos (Or.inl e2.symm)]
      · rw [if_neg e2]
        show X10_isUnder_L4 _ (iN b) (9997 + 1) (-1) (iN 2) μ = _
        rw [stop _ _ _ _ (by omega), tI_neg (by omega)]
        rfl
    · show X10_isUnder_L4 _ (iN b) (9997 + 1 + 1) (iN 0) (iN 1) μ = _
      rw [step _ _ 0 b 1 (by omega) hb (by omega)]
      by_cases e2 : 0 = b
      · rw [if_pos e2, tI_pos (Or.inl e2.symm)]
      · rw [if_neg e2]
        show X10_isUnder_L4 _ (iN b) (9997 + 1) (-1) (iN 2) μ = _
        rw [stop _ _ _ _ (by omega), tI_neg (by omega)]
        rfl
    · show X10_isUnder_L4 _ (iN b) (9997 + 1 + 1) (iN 1) (iN 1) μ = _
      rw [step _ _ 1 b 1 (by omega) hb (by omega)]
      by_cases e2 : 1 = b
      · rw [if_pos e2, tI_pos (Or.inr (Or.inr ⟨e2.symm, rfl⟩))]
      · rw [if_neg e2]
        show X10_isUnder_L4 _ (iN b) (9997 + 1) (iN 0) (iN 2) μ = _
        rw [step _ _ 0 b 2 (by omega) hb (by omega)]
        by_cases e3 : 0 = b
        · rw [if_pos e3, tI_pos (Or.inl e3.symm)]
        · rw [if_neg e3]
          show X10_isUnder_L4 _ (iN b) (9996 + 1) (-1) (iN 3) μ = _
          rw [stop _ _ _ _ (by omega), tI_neg (by omega)]
          rfl
    · show X10_isUnder_L4 _ (iN b) (9997 + 1 + 1) (iN 0) (iN 1) μ = _
      rw [step _ _ 0 b 1 (by omega) hb (by omega)]
      by_cases e2 : 0 = b
      · rw [if_pos e2, tI_pos (Or.inl e2.symm)]
      · rw [if_neg e2]
        show X10_isUnder_L4 _ (iN b) (9997 + 1) (-1) (iN 2) μ = _
        rw [stop _ _ _ _ (by omega), tI_neg (by omega)]
        rfl
theorem k_taken (H : Inv s) (u v : Int32) : Alike s (fX10_taken 0 u v) (fX11_taken 101 u v) := by
  have H0 := H
  obtain ⟨g, kp, kf, rn, rv, tn, tv, hB, hC⟩ := H0
  have hI := hB.1
  have hg := hI.1.1
  have b1 := hg.1
  have hR := RR_of hI
  have hc := hI.2.1.1
  have hb : Bs 2 := Or.inl rfl
  by_cases c1 : 0 ≤ u ∧ u < iN (g 73)
  · obtain ⟨d, rfl, hd⟩ := rnl c1 (by omega)
    have d6 : d < 6 := by omega
    have b2 := hg.2.2.2.2.2.2 d hd
    by_cases c2 : 0 ≤ v ∧ v ≤ (4 : Int32)
    · obtain ⟨n, rfl, hn⟩ := rng (k := 4) c2 (by omega)
      have a0 : fX11_at 101 (iN d) 0 (lay s) = some (iN (dF g d 0), lay s) := rg_at (f := 0) hI.2.2.1 d6 (by omega)
      refine Alike_same (a := if n = 0 ∨ dF g d 0 = n ∨ (n = 1 ∧ dF g d 0 = 3) then iN (dF g d 0) else -12) ?_ ?_ H
      · unfold fX10_taken
        simp (disch := first | assumption | omega) only [rr_0_0, rr_1_0, ob, bs_c hb, c_hasDemand hb hg hc.1, c_within, tI_pos c1, tI_pos c2, bd_s, i10, if_false, bs_r8 hb, bs_d hb d6, bs_gd hb d6, c_dF hc.1 hd]
        rw [c_under (dF g d 0) (by omega) n (by omega)]
        simp only [bd_s, tI_eq0]
        by_cases e : n = 0 ∨ dF g d 0 = n ∨ (n = 1 ∧ dF g d 0 = 3)
        · rw [if_neg (not_not_intro e), if_pos e]
        · rw [if_pos e, if_neg e]
      · unfold fX11_taken
        simp (disch := first | assumption | omega) only [oc_101, ob, r_isDemand hR hg, r_in, lit64_le, le_lit64, le_64, tI_pos c1, tI_pos c2, bd_s, i10, if_false, a0, iN_eq, iN_eqL]
        by_cases e0 : n = 0
        · rw [if_pos e0, if_pos (Or.inl e0)]
        · rw [if_neg e0]
          by_cases e1 : dF g d 0 = n
          · rw [if_pos e1, if_pos (Or.inr (Or.inl e1))]
          · rw [if_neg e1]
            by_cases e2 : n = 1
            · rw [if_pos e2]
              by_cases e3 : dF g d 0 = 3
              · rw [if_pos e3, if_pos (Or.inr (Or.inr ⟨e2, e3⟩))]
              · rw [if_neg e3, if_neg (by omega)]
            · rw [if_neg e2, if_neg (by omega)]
    · refine Alike_same (a := -2) ?_ ?_ H
      · unfold fX10_taken
        simp (disch := first | assumption | omega) only [rr_0_0, rr_1_0, ob, bs_c hb, c_hasDemand hb hg hc.1, c_within, tI_pos c1, tI_neg c2, bd_s, i10, i00, if_false, if_true]
      · unfold fX11_taken
        simp (disch := first | assumption | omega) only [oc_101, ob, r_isDemand hR hg, r_in, lit64_le, le_lit64, le_64, tI_pos c1, tI_neg c2, bd_s, i10, i00, if_false, if_true]
  · refine Alike_same (a := -1) ?_ ?_ H
    · unfold fX10_taken
      simp (disch := first | assumption | omega) only [rr_0_0, rr_1_0, ob, bs_c hb, c_hasDemand hb hg hc.1, tI_neg c1, bd_s, i00, if_true]
    · unfold fX11_taken
      simp (disch := first | assumption | omega) only [oc_101, ob, r_isDemand hR hg, tI_neg c1, bd_s, i00, if_true]
theorem k_wanted (H : Inv s) (u v : Int32) : Alike s (fX10_wanted 0 u v) (fX11_wanted 101 u v) := by
  have H0 := H
  obtain ⟨g, kp, kf, rn, rv, tn, tv, hB, hC⟩ := H0
  have hI := hB.1
  have hg := hI.1.1
  have b1 := hg.1
  have hR := RR_of hI
  have hc := hI.2.1.1
  have hb : Bs 2 := Or.inl rfl
  by_cases c1 : 0 ≤ u ∧ u < iN (g 73)
  · obtain ⟨d, rfl, hd⟩ := rnl c1 (by omega)
    have d6 : d < 6 := by omega
    by_cases c2 : 0 ≤ v ∧ v ≤ (11 : Int32)
    · obtain ⟨m, rfl, hm⟩ := rng (k := 11) c2 (by omega)
      have hm12 : m < 12 := by omega
      refine Alike_same (a := iN (wantS g d m)) ?_ ?_ H
      · unfold fX10_wanted
        simp (disch := first | assumption | omega) only [rr_0_0, rr_1_0, ob, bs_c hb, c_hasDemand hb hg hc.1, c_within, tI_pos c1, tI_pos c2, bd_s, i10, if_false, bs_r8 hb, bs_d hb d6, bs_cd hb d6, c_wantedIn hb hg hc.1 hd hm12]
      · unfold fX11_wanted
        simp (disch := first | assumption | omega) only [oc_101, ob, r_isDemand hR hg, r_isMonth, tI_pos c1, tI_pos c2, bd_s, i10, if_false, r_wants hR hg hd hm12]
    · refine Alike_same (a := -1) ?_ ?_ H
      · unfold fX10_wanted
        simp (disch := first | assumption | omega) only [rr_0_0, rr_1_0, ob, bs_c hb, c_hasDemand hb hg hc.1, c_within, tI_pos c1, tI_neg c2, bd_s, i10, i00, if_false, if_true]
      · unfold fX11_wanted
        simp (disch := first | assumption | omega) only [oc_101, ob, r_isDemand hR hg, r_isMonth, tI_pos c1, tI_neg c2, bd_s, i10, i00, if_false, if_true]
  · refine Alike_same (a := -1) ?_ ?_ H
    · unfold fX10_wanted
      simp (disch := first | assumption | omega) only [rr_0_0, rr_1_0, ob, bs_c hb, c_hasDemand hb hg hc.1, tI_neg c1, bd_s, i00, if_true]
    · unfold fX11_wanted
      simp (disch := first | assumption | omega) only [oc_101, ob, r_isDemand hR hg, tI_neg c1, bd_s, i00, if_true]
end CALLA
