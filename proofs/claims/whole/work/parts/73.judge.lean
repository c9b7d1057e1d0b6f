section JUDGE
variable {s : Sto}
/-- a row held against the stores, from the k-th on -/
def jdS (T : Nat → Int64) (N I n : Nat) (C : Nat → Nat) : Nat → Nat → Int32
  | 0, _ => -5
  | m + 1, k => if n < k then -5 else if I + k < N then (if lg_cmp (T (I + k)) (iN (C k)).toInt64 = 0 then jdS T N I n C m (k + 1) else iN k) else iN (100 + k)
theorem subLt {a b c : Nat} (ha : a < 2147483648) (hb : b < 1000) (hc : c < 2147483648) : (iN a < iN b - iN c) = (a + c < b) := by
  rw [iN_iZ b, iN_iZ c, iZ_sub, Int32.lt_iff_toInt_lt, iN_toInt (by omega), iZ_toInt (by omega) (by omega)]
  exact propext (by omega)
theorem c_judL {T : Nat → Int64} {N I n τ : Nat} {C : Nat → Nat} (hτ : τ < 6) (hn : n ≤ 24) (hN : N ≤ 60) (hI : I < 2147483648) (h3 : s.1 71 3 = iN n) (h73 : ∀ j, j ≤ n → s.1 73 j = iN (C j)) (h1 : s.1 (89 + 2 * τ) 1 = iN N) (hT : ∀ i, i < 60 → s.2.2.1 (90 + 2 * τ) i = T i) : ∀ m k, n + 1 - k < m → k ≤ n + 1 → X10_judge_L86 (fun μ_152 => some ((-5 : Int32), μ_152)) 0 (iN I) (89 + 2 * τ) m (iN k) (lay s) = some (jdS T N I n C m k, lay s) := by
  intro m
  induction m with
  | zero => intro k h; omega
  | succ m ih =>
    intro k hm hk
    rw [X10_judge_L86, jdS]
    simp only [rr_0_12, gi_71_3, ob, h3]
    simp (disch := first | assumption | omega) only [iN_lt]
    by_cases c : n < k
    · rw [if_pos c, if_pos c]
    · rw [if_neg c, if_neg c]
      simp only [tp_g1 hτ, ob, h1]
      have q1 : (iN k < iN N - iN I) = (I + k < N) := by
        rw [subLt (by omega) (by omega) hI]
        exact propext (by omega)
      simp only [q1]
      by_cases d : I + k < N
      · rw [if_pos d, if_pos d]
        simp only [tp_r hτ, ob, iN_add, tp_ai hτ (show I + k < 60 by omega), rr_71_1, ai_73 (show k < 25 by omega), h73 k (by omega), hT _ (show I + k < 60 by omega), iN_addL]
        by_cases e : lg_cmp (T (I + k)) (iN (C k)).toInt64 = 0
        · rw [if_pos e, if_pos e]
          exact ih (k + 1) (by omega) (by omega)
        · rw [if_neg e, if_neg e]
      · rw [if_neg d, if_neg d]
        simp only [iN_Ladd]
theorem r_judL {T : Nat → Int64} {N I n τ r : Nat} {C : Nat → Nat} (hτ : τ < 6) (hr : r < 4) (hn : n ≤ 24) (hN : N ≤ 60) (hI : I < 2147483648) (h4 : s.1 104 r = iN n) (h111 : ∀ j, j ≤ n → s.1 111 j = iN (C j)) (h1 : s.1 116 τ = iN N) (hT : ∀ i, i < 60 → s.2.2.1 117 (60 * τ + i) = T i) : ∀ m k, n + 1 - k < m → k ≤ n + 1 → X11_judge_L64 (fun μ_138 => some ((-5 : Int32), μ_138)) 101 (iN r) (iN τ) (iN I) m (iN k) (lay s) = some (jdS T N I n C m k, lay s) := by
  intro m
  induction m with
  | zero => intro k h; omega
  | succ m ih =>
    intro k hm hk
    rw [X11_judge_L64, jdS]
    simp only [rr_101_4, ai_104 hr, ob, h4]
    simp (disch := first | assumption | omega) only [iN_lt]
    by_cases c : n < k
    · rw [if_pos c, if_pos c]
    · rw [if_neg c, if_neg c, if_neg (iN_nn hI)]
      simp only [rr_101_34, ai_116 hτ, ob, h1]
      have q1 : (iN I < iN N - iN k) = (I + k < N) := by
        rw [subLt hI (by omega) (by omega)]
      simp only [q1]
      by_cases d : I + k < N
      · rw [if_pos d, if_pos d]
        simp only [rr_101_35, rr_101_24, ob, iN_Lmul, iN_add]
        rw [show 60 * τ + I + k = 60 * τ + (I + k) by omega, ai_117 (by omega)]
        simp only [ob, ai_111 (show k < 25 by omega), h111 k (by omega), hT _ (show I + k < 60 by omega), iN_addL]
        by_cases e : lg_cmp (T (I + k)) (iN (C k)).toInt64 = 0
        · rw [if_pos e, if_pos e]
          exact ih (k + 1) (by omega) (by omega)
        · rw [if_neg e, if_neg e]
      · rw [if_neg d, if_neg d]
        simp only [iN_Ladd]
theorem k_judge (H : Inv s) (v1 v2 v3 v4 v5 : Int32) : Alike s (fX10_judge 0 v1 v2 v3 v4 v5) (fX11_judge 101 v1 v2 v3 v4 v5) := by
  have H0 := H
  obtain ⟨g, kp, kf, rn, rv, tn, tv, hB, hC⟩ := H0
  have hI := hB.1
  have hg := hI.1.1
  have b1 := hg.1
  have hR := RR_of hI
  have hc := hI.2.1.1
  have hb : Bs 2 := Or.inl rfl
  have hr0 := hB.2.2.1
  have hp := hB.2.2.2.2.1
  by_cases c1 : okRp g v1 v2 v3
  · by_cases c2 : 0 ≤ v4 ∧ v4 ≤ (5 : Int32)
    · obtain ⟨r, rfl, hr⟩ := rng (k := 3) c1.1 (by omega)
      have hr4 : r < 4 := by omega
      have hl := rc_l hr4
      have hL := LI_rec hr0 hr4
      obtain ⟨e1, e2, e3, e4⟩ := hr0 r hr4
      obtain ⟨τ, rfl, hτ⟩ := rng (k := 5) c2 (by omega)
      have ht6 : τ < 6 := by omega
      obtain ⟨h1, h2, ⟨N, hN, h3, h4, h5⟩, h6⟩ := hp τ ht6
      by_cases d0 : s.1 115 τ = -1
      · refine Alike_same (a := 100) ?_ ?_ H
        · unfold fX10_judge
          simp only [oc_0, ob, c_canReplay hc, tI_pos c1, bd_s, i10, if_false, c_isTape, tI_pos c2, rr_0_16, tp_a ht6, tp_g0 ht6, h1, d0, jn_s, if_true]
        · unfold fX11_judge
          simp only [oc_101, ob, r_isReplay hR, tI_pos c1, bd_s, i10, if_false, r_isTape, tI_pos c2, rr_101_33, ai_115 ht6, d0]
          rw [if_neg (by decide)]
      · obtain ⟨k, hk, ek⟩ := h2.resolve_left d0
        have pz : (0 : Int32) ≤ iN k := by rw [iN_Lle (by omega) (by omega)]; omega
        have d0' : ¬ (iN k = -1) := by rw [← ek]; exact d0
        by_cases d3 : k = 3
        · have q3 : iN k = 3 := by rw [d3]; rfl
          by_cases c5 : 0 ≤ v5
          · obtain ⟨I, rfl, hI⟩ := iN_of c5
            obtain ⟨x, rfl, hx⟩ := rng c1.2.1 (by omega)
            obtain ⟨rl, rfl, hrl⟩ := rng (k := 20) c1.2.2 (by omega)
            obtain ⟨t, t1, t2, t3, t4⟩ := c_through (R := rv r) (n := rn r) hg hr4 e1 (Nat.le_refl _) hrl hx (fun i hi => (e4 i hi).1) hc hC hL
            have hBt := IB_keep t2 hB
            have hRt := RR_of hBt.1
            obtain ⟨f1, f2, f3, f4⟩ := hBt.2.2.1 r hr4
            obtain ⟨u, u1, u2, u3, u4⟩ := r_replays (R := rv r) (v5 := -1) (n := rn r) hg hr4 e1 (Nat.le_refl _) hrl hx (fun i hi => (e4 i hi).1) (Or.inl rfl) hRt (fun i hi => (f4 i hi).2.2)
            obtain ⟨p19, p20, p21, p22, p23, p111, pd⟩ := u4
            have m1 : ∀ (z : Sto), RR z g (fun _ => false) → fX11_isReplay 101 (iN r) (iN x) (iN rl) (lay z) = some (1, lay z) := fun z hz => by rw [r_isReplay hz, tI_pos c1]
            have z0 : (0 : Int32) = iN 0 := rfl
            have tE : t.2.2.1 = s.2.2.1 := t2.2.2.2.1
            have uE : u.2.2.1 = t.2.2.1 := u2.2.2.2.1
            have t115 : t.1 115 = s.1 115 := t2.1 115 (by unfold SP; omega)
            have lc : X10_judge_L86 (fun μ_152 => some ((-5 : Int32), μ_152)) 0 (iN I) (89 + 2 * τ) FU 0 (lay t) = some (jdS (s.2.2.1 (90 + 2 * τ)) N I (rn r) (crS g (rv r) rl x) FU 0, lay t) := by
              rw [z0]
              exact c_judL ht6 e1 hN hI t4.1 t4.2.2.2.2.2.1 (by rw [t2.1 _ (by unfold SP; omega)]; exact h3) (fun i hi => by rw [tE]) FU 0 (by unfold FU; omega) (by omega)
            have lr : X11_judge_L64 (fun μ_138 => some ((-5 : Int32), μ_138)) 101 (iN r) (iN τ) (iN I) FU 0 (lay u) = some (jdS (s.2.2.1 (90 + 2 * τ)) N I (rn r) (crS g (rv r) rl x) FU 0, lay u) := by
              rw [z0]
              exact r_judL ht6 hr4 e1 hN hI (by rw [u2.1 104 (by unfold SP; omega)]; exact f3) p111 (by rw [u2.1 116 (by unfold SP; omega), t2.1 116 (by unfold SP; omega)]; exact h4) (fun i hi => by rw [uE, tE]; exact (h6 i hi).symm) FU 0 (by unfold FU; omega) (by omega)
            refine ⟨jdS (s.2.2.1 (90 + 2 * τ)) N I (rn r) (crS g (rv r) rl x) FU 0, t, u, ?_, ?_, Inv_of hBt u2 (Ic_keep u3 t3)⟩
            · unfold fX10_judge
              simp only [oc_0, ob, c_canReplay hc, tI_pos c1, bd_s, i10, if_false, c_isTape, tI_pos c2, rr_0_16, tp_a ht6, tp_g0 ht6, h1, ek, jn_s, if_neg d0', if_pos q3, if_pos c5, rr_0_13, rc_a hr4, ln_g3 hl, e2]
              rw [t1]
              simp only [bd_s, lc]
            · unfold fX11_judge
              simp only [oc_101, ob, m1 t hRt, bd_s, i10, if_false, r_isTape, tI_pos c2, rr_101_33, ai_115 ht6, t115, ek, if_pos pz, if_pos q3, rr_101_4, ai_104 hr4, f3]
              rw [u1]
              simp only [bd_s, lr]
          · obtain ⟨x, rfl, hx⟩ := rng c1.2.1 (by omega)
            obtain ⟨rl, rfl, hrl⟩ := rng (k := 20) c1.2.2 (by omega)
            obtain ⟨u, u1, u2, u3, u4⟩ := r_replays (R := rv r) (v5 := -1) (n := rn r) hg hr4 e1 (Nat.le_refl _) hrl hx (fun i hi => (e4 i hi).1) (Or.inl rfl) hR (fun i hi => (e4 i hi).2.2)
            have m1 : ∀ (z : Sto), RR z g (fun _ => false) → fX11_isReplay 101 (iN r) (iN x) (iN rl) (lay z) = some (1, lay z) := fun z hz => by rw [r_isReplay hz, tI_pos c1]
            have u4' : u.1 104 r = iN (rn r) := by rw [u2.1 104 (by unfold SP; omega)]; exact e3
            have l0 : v5 < 0 := Int32.not_le.mp c5
            have lr : X11_judge_L64 (fun μ_138 => some ((-5 : Int32), μ_138)) 101 (iN r) (iN τ) v5 FU 0 (lay u) = some (100, lay u) := by
              unfold FU
              rw [X11_judge_L64]
              simp only [rr_101_4, ai_104 hr4, ob, u4']
              rw [if_neg (iN_nn (by omega)), if_pos l0]
              rfl
            refine ⟨100, s, u, ?_, ?_, Inv_of hB u2 (Ic_keep u3 hC)⟩
            · unfold fX10_judge
              simp only [oc_0, ob, c_canReplay hc, tI_pos c1, bd_s, i10, if_false, c_isTape, tI_pos c2, rr_0_16, tp_a ht6, tp_g0 ht6, h1, ek, jn_s, if_neg d0', if_pos q3, if_neg c5]
            · unfold fX11_judge
              simp only [oc_101, ob, m1 s hR, bd_s, i10, if_false, r_isTape, tI_pos c2, rr_101_33, ai_115 ht6, ek, if_pos pz, if_pos q3, rr_101_4, ai_104 hr4, e3]
              rw [u1]
              simp only [bd_s, lr]
        · have q3 : ¬ (iN k = 3) := by rw [iN_eqL (by omega) (by omega)]; exact d3
          refine Alike_same (a := -12) ?_ ?_ H
          · unfold fX10_judge
            simp only [oc_0, ob, c_canReplay hc, tI_pos c1, bd_s, i10, if_false, c_isTape, tI_pos c2, rr_0_16, tp_a ht6, tp_g0 ht6, h1, ek, jn_s, if_neg d0', if_neg q3]
          · unfold fX11_judge
            simp only [oc_101, ob, r_isReplay hR, tI_pos c1, bd_s, i10, if_false, r_isTape, tI_pos c2, rr_101_33, ai_115 ht6, ek, if_pos pz, if_neg q3]
    · refine Alike_same (a := -1) ?_ ?_ H
      · unfold fX10_judge
        simp only [oc_0, ob, c_canReplay hc, tI_pos c1, bd_s, i10, i00, if_true, if_false, c_isTape, tI_neg c2]
      · unfold fX11_judge
        simp only [oc_101, ob, r_isReplay hR, tI_pos c1, bd_s, i10, i00, if_true, if_false, r_isTape, tI_neg c2]
  · refine Alike_same (a := -1) ?_ ?_ H
    · unfold fX10_judge
      simp only [oc_0, ob, c_canReplay hc, tI_neg c1, bd_s, i00, if_true]
    · unfold fX11_judge
      simp only [oc_101, ob, r_isReplay hR, tI_neg c1, bd_s, i00, if_true]
end JUDGE
