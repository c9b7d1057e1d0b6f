section REPLAYB
variable {s : Sto} {g R : Nat → Nat} {rl x0 : Nat}
theorem c_leastL {n N : Nat} (hg : OKg g) (hx0 : x0 ≤ g 0) (hn : n ≤ 24) (h : Cs s g R rl x0 n n) : ∀ m k, n + 1 - k < m → k ≤ n → X4_leastStore_L9 (fun v1_34 μ_34 => some (v1_34, μ_34)) 71 m (iN (lsC g R rl x0 k)) (iN (k + 1)) (lay s) = some (iN (lsC g R rl x0 n), lay s) := by
  have b := hg.1
  obtain ⟨c3, c4, c5, c6, c7, c8, c9⟩ := h
  intro m
  induction m with
  | zero => intro k h1; omega
  | succ m ih =>
    intro k h1 h2
    rw [X4_leastStore_L9]
    simp only [gi_71_3, c3, ob]
    simp (disch := first | assumption | omega) only [iN_lt]
    by_cases c : n < k + 1
    · rw [if_pos c]
      have : k = n := by omega
      rw [this]
    · rw [if_neg c]
      have h3 := cr_le (g := g) (R := R) (rl := rl) hx0 (k + 1)
      have h4 := ls_le (g := g) (R := R) (rl := rl) hx0 k
      simp only [rr_71_1, ob, ai_73 (show k + 1 < 25 by omega), c8 (k + 1) (by omega), iN_addL]
      rw [mnI_min (by omega) (by omega)]
      exact ih (k + 1) (by omega) (by omega)
theorem c_tell {n j : Nat} (hg : OKg g) (hx0 : x0 ≤ g 0) (hn : n ≤ 24) (h : Cs s g R rl x0 n n) (hj : j ≤ 5) : fX4_tell 71 (iN j) (lay s) = some ((if j = 0 then iN (crS g R rl x0 n) else if j = 1 then iZ (smY g R rl x0 n) else if j = 2 then iN (smP g R rl x0 n) else if j = 3 then iN (smD g R rl x0 n) else if j = 4 then iN (smO g R rl x0 n) else iN (lsC g R rl x0 n)).toInt64, lay s) := by
  have hl := c_leastL (N := n) hg hx0 hn h FU 0 (by unfold FU; omega) (by omega)
  obtain ⟨c3, c4, c5, c6, c7, c8, c9⟩ := h
  have ls : fX4_leastStore 71 (lay s) = some (iN (lsC g R rl x0 n), lay s) := by
    unfold fX4_leastStore
    simp only [rr_71_1, ob]
    rw [show aI (lay s) 0 73 0 = some (s.1 73 0) from ai_73 (i := 0) (by omega), c8 0 (by omega)]
    simp only [ob]
    rw [show crS g R rl x0 0 = lsC g R rl x0 0 from rfl, show (1 : Int32) = iN (0 + 1) from rfl]
    exact hl
  unfold fX4_tell
  simp only [rr_71_1, gi_71_3, gi_71_4, gi_71_5, gi_71_6, gi_71_7, ob, c3, c4, c5, c6, c7, oc_71, ls, bd_s, ai_73 (show n < 25 by omega), c8 n (Nat.le_refl _)]
  rcases (show j = 0 ∨ j = 1 ∨ j = 2 ∨ j = 3 ∨ j = 4 ∨ j = 5 by omega) with rfl | rfl | rfl | rfl | rfl | rfl <;> rfl
theorem k_replay (H : Inv s) (v1 v2 v3 v4 v5 : Int32) : Alike s (fX10_replay 0 v1 v2 v3 v4 v5) (fX11_replay 101 v1 v2 v3 v4 v5) := by
  have H0 := H
  obtain ⟨g, kp, kf, rn, rv, tn, tv, hB, hC⟩ := H0
  have hI := hB.1
  have hg := hI.1.1
  have b1 := hg.1
  have hR := RR_of hI
  have hc := hI.2.1.1
  have hb : Bs 2 := Or.inl rfl
  have hr0 := hB.2.2.1
  by_cases c1 : okRp g v1 v2 v3
  · obtain ⟨r, rfl, hr⟩ := rng (k := 3) c1.1 (by omega)
    have hr4 : r < 4 := by omega
    have hl := rc_l hr4
    have hL := LI_rec hr0 hr4
    obtain ⟨e1, e2, e3, e4⟩ := hr0 r hr4
    by_cases c2 : 0 ≤ v4 ∧ v4 ≤ iN (rn r)
    · by_cases c3 : 0 ≤ v5 ∧ v5 ≤ (5 : Int32)
      · obtain ⟨x, rfl, hx⟩ := rng c1.2.1 (by omega)
        obtain ⟨rl, rfl, hrl⟩ := rng (k := 20) c1.2.2 (by omega)
        obtain ⟨n, rfl, hn⟩ := rng c2 (by omega)
        obtain ⟨j, rfl, hj⟩ := rng (k := 5) c3 (by omega)
        obtain ⟨t, t1, t2, t3, t4⟩ := c_through (R := rv r) hg hr4 e1 hn hrl hx (fun i hi => (e4 i hi).1) hc hC hL
        have hBt := IB_keep t2 hB
        have hRt := RR_of hBt.1
        obtain ⟨d1, d2, d3, d4⟩ := hBt.2.2.1 r hr4
        obtain ⟨u, u1, u2, u3, u4⟩ := r_replays (R := rv r) (v5 := -1) hg hr4 e1 hn hrl hx (fun i hi => (e4 i hi).1) (Or.inl rfl) hRt (fun i hi => (d4 i hi).2.2)
        have m1 : ∀ (z : Sto), RR z g (fun _ => false) → fX11_isReplay 101 (iN r) (iN x) (iN rl) (lay z) = some (1, lay z) := fun z hz => by rw [r_isReplay hz, tI_pos c1]
        obtain ⟨p19, p20, p21, p22, p23, p111, pd⟩ := u4
        refine ⟨(if j = 0 then iN (crS g (rv r) rl x n) else if j = 1 then iZ (smY g (rv r) rl x n) else if j = 2 then iN (smP g (rv r) rl x n) else if j = 3 then iN (smD g (rv r) rl x n) else if j = 4 then iN (smO g (rv r) rl x n) else iN (lsC g (rv r) rl x n)).toInt64, t, u, ?_, ?_, Inv_of hBt u2 (Ic_keep u3 t3)⟩
        · unfold fX10_replay
          simp only [oc_0, ob, c_canReplay hc, tI_pos c1, bd_s, i10, if_false, rr_0_13, rc_a hr4, ln_g3 hl, e2, c_within, tI_pos c2, tI_pos c3]
          rw [t1]
          simp only [bd_s, rr_0_12, ob, oc_71, c_tell hg hx (show n ≤ 24 by omega) t4 hj]
        · unfold fX11_replay
          simp only [oc_101, ob, m1 t hRt, bd_s, i10, if_false, rr_101_4, ai_104 hr4, d3]
          rw [r_in]
          simp (disch := first | assumption | omega) only [lit64_le, le_lit64, le_64, tI_pos c2, bd_s, i10, if_false]
          rw [r_in]
          simp (disch := first | assumption | omega) only [lit64_le, le_lit64, le_64, tI_pos c3, bd_s, i10, if_false, oc_101, ob]
          rw [u1]
          simp only [bd_s, rr_101_24, gi_101_19, gi_101_20, gi_101_21, gi_101_22, gi_101_23, ob, p19, p20, p21, p22, p23, ai_111 (show n < 25 by omega), p111 n (Nat.le_refl _)]
          rcases (show j = 0 ∨ j = 1 ∨ j = 2 ∨ j = 3 ∨ j = 4 ∨ j = 5 by omega) with rfl | rfl | rfl | rfl | rfl | rfl <;> rfl
      · refine Alike_same (a := -9223372036854775808) ?_ ?_ H
        · unfold fX10_replay
          simp only [oc_0, ob, c_canReplay hc, tI_pos c1, bd_s, i10, i00, if_true, if_false, rr_0_13, rc_a hr4, ln_g3 hl, e2, c_within, tI_pos c2, tI_neg c3]
        · unfold fX11_replay
          simp only [oc_101, ob, r_isReplay hR, tI_pos c1, bd_s, i10, if_false, rr_101_4, ai_104 hr4, e3]
          rw [r_in]
          simp (disch := first | assumption | omega) only [lit64_le, le_lit64, le_64, tI_pos c2, bd_s, i10, if_false]
          rw [r_in]
          simp (disch := first | assumption | omega) only [lit64_le, le_lit64, le_64, tI_neg c3, bd_s, i00, if_true]
    · refine Alike_same (a := -9223372036854775808) ?_ ?_ H
      · unfold fX10_replay
        simp only [oc_0, ob, c_canReplay hc, tI_pos c1, bd_s, i10, i00, if_true, if_false, rr_0_13, rc_a hr4, ln_g3 hl, e2, c_within, tI_neg c2]
      · unfold fX11_replay
        simp only [oc_101, ob, r_isReplay hR, tI_pos c1, bd_s, i10, if_false, rr_101_4, ai_104 hr4, e3]
        rw [r_in]
        simp (disch := first | assumption | omega) only [lit64_le, le_lit64, le_64, tI_neg c2, bd_s, i00, if_true]
  · refine Alike_same (a := -9223372036854775808) ?_ ?_ H
    · unfold fX10_replay
      simp only [oc_0, ob, c_canReplay hc, tI_neg c1, bd_s, i00, if_true]
    · unfold fX11_replay
      simp only [oc_101, ob, r_isReplay hR, tI_neg c1, bd_s, i00, if_true]
end REPLAYB
