/-! ===== the reference: gains, a month, the best ===== -/
section REFB
variable {s : Sto} {g : Nat → Nat} {wo : Nat → Bool}
theorem r_trickle {G : Int32 → Mem → Option (Int32 × Mem)} {got : Nat} {μ : Mem} (hgot : got < 1000) : ∀ (n k u : Nat) (a : Nat), got - k < n → k ≤ got → u < 1000 → X11_gain_L28 G (iN got) n (iN u) (iN a) (iN k) μ = G (iN (a + trkS (got - k) u)) μ := by
  intro n
  induction n with
  | zero => intro k u a h; omega
  | succ n ih =>
    intro k u a h1 h2 h3
    rw [X11_gain_L28]
    simp (disch := first | assumption | omega) only [ob, bd_s, jn_s, zz0, zz1, i10, i00, if_true, if_false, iN_le, iN_lt, iN_eq, iN_leL, iN_Lle, iN_ltL, iN_Llt, iN_eqL, iN_Leq, iN_add, iN_addL, iN_Ladd, iN_mul, iN_mulL, iN_Lmul, dvI_L]
    by_cases c1 : got ≤ k
    · rw [if_pos c1, show got - k = 0 by omega]
      rfl
    · rw [if_neg c1, ih (k + 1) (u / 2) (a + u) (by omega) (by omega) (by omega), show got - k = (got - (k + 1)) + 1 by omega, trkS, Nat.add_assoc]
theorem r_gain (h : RR s g wo) (hg : OKg g) {d x y : Nat} (hd : d < g 73) (hx : x ≤ y) (hy : y ≤ 18) : fX11_gain 101 (iN d) (iN x) (iN y) (lay s) = some (iZ (gainS g d x y), lay s) := by
  have b1 := hg.1
  have b2 := hg.2.2.2.2.2.2 d hd
  have hd6 : d < 6 := by omega
  have a0 : fX11_at 101 (iN d) 0 (lay s) = some (iN (dF g d 0), lay s) := r_at (f := 0) h hd6 (by omega) (by omega)
  have a3 : fX11_at 101 (iN d) 3 (lay s) = some (iN (dF g d 3), lay s) := r_at (f := 3) h hd6 (by omega) (by omega)
  unfold fX11_gain
  simp only [oc_101, ob, bd_s, a0, a3, jn_s]
  have ht := r_trickle (G := fun v6_53 μ_53 => some (v6_53, μ_53)) (μ := lay s) (got := x) (by omega) FU 0 (dF g d 3) 0 (by unfold FU; omega) (by omega) (by omega)
  rw [Nat.sub_zero, Nat.zero_add] at ht
  simp only [show (0 : Int32) = iN 0 from rfl]
  rw [ht]
  simp only [show iN 0 = (0 : Int32) from rfl]
  simp (disch := first | assumption | omega) only [iN_le, iN_lt, iN_eq, iN_leL, iN_Lle, iN_ltL, iN_Llt, iN_eqL, iN_Leq, dvI_L, ob]
  unfold gainS
  simp only [iN_iZ, iZ_sub, iZ_mul, iZ_add]
  repeat' split
  all_goals first | rfl | (exfalso; omega) | simp only [Int.add_zero]
theorem gain00 {d : Nat} : gainS g d 0 0 = 0 := by
  unfold gainS
  simp [trkS]
theorem r_servesL {G : Int32 → Mem → Option (Int32 × Mem)} (h : RR s g wo) (hl : RLn s g) (hg : OKg g) {m x : Nat} (hm : m < 12) (hx : x < 2147483648) : ∀ (n k : Nat) (f : Nat → Int32), g 73 - k < n → k ≤ g 73 → restS g m x k ≤ x → (∀ j, j < k → f (lnS g j) = iN (gotS g m x j)) → ∃ f', X11_serves_L8 G 101 (iN m) n (iN (restS g m x k)) (iZ (sumS g m x k)) (iN k) (lay (rI s 108 f)) = G (iZ (gainsS g m x)) (lay (rI s 108 f')) ∧ (∀ j, j < g 73 → f' (lnS g j) = iN (gotS g m x j)) := by
  intro n
  have b1 := hg.1
  induction n with
  | zero => intro k f h1; omega
  | succ n ih =>
    intro k f h1 h2 h3 h4
    have hS : RR (rI s 108 f) g wo := RR_congr h rfl rfl
    rw [X11_serves_L8]
    simp (disch := first | assumption | omega) only [ob, bd_s, jn_s, zz0, zz1, i10, i00, if_true, if_false, rr_101_0, rr_101_9, r_many hS, iN_le]
    by_cases c1 : g 73 ≤ k
    · rw [if_pos c1, show k = g 73 by omega]
      exact ⟨f, rfl, fun j hj => h4 j (by omega)⟩
    · rw [if_neg c1]
      have hk : k < g 73 := by omega
      have hls := lnS_spec hk
      have l6 : lnS g k < 6 := by omega
      have hw := wantS_le (m := m) hg hls.1
      have hline : (rI s 108 f).1 109 k = iN (lnS g k) := hl k hk
      have inj : ∀ j, j < k → lnS g j ≠ lnS g k := fun j hj e => by
        have e1 := (lnS_spec (g := g) (k := j) (by omega)).2.1
        rw [e, hls.2.1] at e1
        omega
      simp (disch := first | assumption | omega) only [ob, bd_s, jn_s, zz0, zz1, i10, i00, if_true, if_false, ai_109, hline, gi_101_3, rr_101_8, oc_101, si_108]
      have hmask := hS.2.1 (lnS g k) l6
      cases hwo : wo (lnS g k) with
      | true =>
        have hm1 : (((rI s 108 f).1 101 3 >>> (iN (lnS g k) &&& 31)) &&& 1 = 1) = True := by rw [hmask, hwo]; simp
        have hz := want0 (m := m) (h.2.2 _ l6 hwo)
        have hgot : gotS g m x k = 0 := by unfold gotS; rw [hz]; exact Nat.zero_min _
        have hrest : restS g m x (k + 1) = restS g m x k := by
          show restS g m x k - min (wantS g (lnS g k) m) (restS g m x k) = _
          rw [hz, Nat.zero_min]; rfl
        have hsum : sumS g m x (k + 1) = sumS g m x k := by
          show sumS g m x k + gainS g (lnS g k) (gotS g m x k) (wantS g (lnS g k) m) = _
          rw [hgot, hz, gain00]; exact Int.add_zero _
        simp only [hm1, if_true, rI_same, rI_ne, rF_same, rF_ne, rJ_same, rJ_ne, rI_2, rF_1, rF_22, rJ_1, rJ_21, rJ_222, rI_rI, rF_rF, rJ_rJ, upd_same, upd_ne, vfu_same, vfu_ne, vpu_same, vpu_ne, iN_add, iN_addL, iN_Ladd, iN_mul, iN_mulL, iN_Lmul]
        have i1 := ih (k + 1) (upd f (lnS g k) 0) (by omega) (by omega) (by omega) (fun j hj => by
          by_cases c2 : j = k
          · subst c2
            rw [upd_same, hgot]; rfl
          · rw [upd_ne (inj j (by omega))]
            exact h4 j (by omega))
        rw [hrest, hsum] at i1
        exact i1
      | false =>
        have hm1 : (((rI s 108 f).1 101 3 >>> (iN (lnS g k) &&& 31)) &&& 1 = 1) = False := by rw [hmask, hwo]; simp
        simp only [hm1, if_false]
        rw [r_wants hS hg hls.1 hm]
        simp (disch := first | assumption | omega) only [bd_s, ob, rr_101_8, si_108, ai_108, mnI_iN, oc_101, rI_same, rI_ne, rF_same, rF_ne, rJ_same, rJ_ne, rI_2, rF_1, rF_22, rJ_1, rJ_21, rJ_222, rI_rI, rF_rF, rJ_rJ, upd_same, upd_ne, vfu_same, vfu_ne, vpu_same, vpu_ne]
        have hS2 : RR (rI s 108 (upd f (lnS g k) (iN (min (wantS g (lnS g k) m) (restS g m x k))))) g wo := RR_congr h rfl rfl
        rw [r_gain hS2 hg hls.1 (Nat.min_le_left _ _) hw]
        simp only [bd_s, iZ_add, iN_add, iN_addL, iN_Ladd, iN_mul, iN_mulL, iN_Lmul]
        rw [iN_sub (by omega)]
        exact ih (k + 1) _ (by omega) (by omega) (by show restS g m x k - _ ≤ x; omega) (fun j hj => by
          by_cases c2 : j = k
          · subst c2
            exact upd_same
          · rw [upd_ne (inj j (by omega))]
            exact h4 j (by omega))
theorem r_serves (h : RR s g wo) (hl : RLn s g) (hg : OKg g) {m x : Nat} (hm : m < 12) (hx : x < 2147483648) : ∃ f, fX11_serves 101 (iN m) (iN x) (lay s) = some (iZ (gainsS g m x), lay (rI s 108 f)) ∧ ∀ d, d < g 73 → f d = iN (gotS g m x (rkS g d)) := by
  have b1 := hg.1
  obtain ⟨f, h1, h2⟩ := r_servesL (G := fun v4_111 μ_111 => some (v4_111, μ_111)) h hl hg hm hx FU 0 (s.1 108) (by unfold FU; omega) (Nat.zero_le _) (Nat.le_refl _) (fun j hj => absurd hj (Nat.not_lt_zero j))
  rw [rI_self] at h1
  refine ⟨f, h1, fun d hd => ?_⟩
  have := h2 (rkS g d) (rkS_lt hd)
  rw [lnS_rk hd] at this
  exact this
/-- what a month of the reference leaves as it was -/
def Gx (s t : Sto) : Prop := (∀ q, q ≠ 101 → q ≠ 108 → t.1 q = s.1 q) ∧ t.2 = s.2 ∧ (∀ k, k < 10 ∨ 15 < k → t.1 101 k = s.1 101 k)
theorem Gx.rf : Gx s s := ⟨fun _ _ _ => rfl, rfl, fun _ _ => rfl⟩
theorem Gx.tr {t u : Sto} (h1 : Gx s t) (h2 : Gx t u) : Gx s u := ⟨fun q a b => (h2.1 q a b).trans (h1.1 q a b), h2.2.1.trans h1.2.1, fun k hk => (h2.2.2 k hk).trans (h1.2.2 k hk)⟩
theorem Gx.RR {t : Sto} (h : Gx s t) (hr : RR s g wo) : RR t g wo := RR_congr hr (h.1 102 (by omega) (by omega)) (h.2.2 3 (by omega))
theorem Gx.RL {t : Sto} (h : Gx s t) (hr : RLn s g) : RLn t g := fun k hk => by rw [h.1 109 (by omega) (by omega)]; exact hr k hk
def gsF (f : Nat → Int32) (g : Nat → Nat) (m x q r : Nat) : Nat → Int32 := upd (upd (upd (upd (upd f 10 (iN (driedS g m x))) 11 (iN (thereS g m x q))) 12 (iN (min r (thereS g m x q)))) 13 (iN (spillS g m x q r))) 14 (iN (nextS g m x q r))
/-- a month gone through -/
def GsR (f : Nat → Int32) (g : Nat → Nat) (m x q r : Nat) : Prop := f 10 = iN (driedS g m x) ∧ f 11 = iN (thereS g m x q) ∧ f 12 = iN (min r (thereS g m x q)) ∧ f 13 = iN (spillS g m x q r) ∧ f 14 = iN (nextS g m x q r) ∧ f 15 = iZ (yieldS g m x q r)
theorem r_goes (h : RR s g wo) (hl : RLn s g) (hg : OKg g) {m x q r : Nat} (hm : m < 12) (hx : x ≤ 13) (hq : q ≤ 99) (hr : r < 2147483648) : ∃ t, fX11_goes 101 (iN m) (iN x) (iN q) (iN r) (lay s) = some ((), lay t) ∧ Gx s t ∧ GsR (t.1 101) g m x q r ∧ (∀ d, d < g 73 → t.1 108 d = iN (gotS g m (min r (thereS g m x q)) (rkS g d))) := by
  have b1 := hg.1
  have hdr := dried_le (x := x) hg hm
  have htop : topS g m ≤ 13 := by unfold topS; omega
  have hth : thereS g m x q ≤ 112 := by unfold thereS; omega
  have b2 := hg.2.2.2.2.1 m hm
  have b3 : x * g (49 + m) ≤ 13 * 9 := Nat.mul_le_mul hx b2
  have k1 : ∀ f, f 3 = s.1 101 3 → RR (rI s 101 f) g wo := fun f hf => RR_congr h rfl (by rw [rI_same]; exact hf)
  have k2 : ∀ f, RLn (rI s 101 f) g := fun f => hl
  have hre : restoS g m x q r ≤ 112 := by unfold restoS; omega
  have e1 : mxI 0 (iN (restoS g m x q r) - iN (topS g m)) = iN (spillS g m x q r) := by
    unfold mxI spillS nextS
    by_cases c : restoS g m x q r ≤ topS g m
    · rw [if_neg, Nat.min_eq_left c, Nat.sub_self]
      · rfl
      · rw [Int32.lt_iff_toInt_lt, iN_iZ, iN_iZ, iZ_sub, iZ_toInt (by omega) (by omega)]
        show ¬ (0 < _)
        omega
    · rw [Nat.min_eq_right (by omega), iN_sub (by omega), if_pos]
      rw [show (0 : Int32) = iN 0 from rfl, iN_lt (by omega) (by omega)]
      omega
  have e2 : restoS g m x q r - spillS g m x q r = nextS g m x q r := by unfold spillS nextS; omega
  obtain ⟨f8, s1, s2⟩ := r_serves (s := rI s 101 (gsF (s.1 101) g m x q r)) (k1 _ (by unfold gsF; simp (disch := first | assumption | omega) only [rI_same, rI_ne, rF_same, rF_ne, rJ_same, rJ_ne, rI_2, rF_1, rF_22, rJ_1, rJ_21, rJ_222, rI_rI, rF_rF, rJ_rJ, upd_same, upd_ne, vfu_same, vfu_ne, vpu_same, vpu_ne])) (k2 _) hg hm (show min r (thereS g m x q) < 2147483648 by omega)
  refine ⟨rI (rI (rI s 101 (gsF (s.1 101) g m x q r)) 108 f8) 101 (upd (gsF (s.1 101) g m x q r) 15 (iZ (yieldS g m x q r))), ?_, ⟨?_, rfl, ?_⟩, ?_, ?_⟩
  · unfold fX11_goes
    simp (disch := first | assumption | omega) only [ob, bd_s, jn_s, zz0, zz1, i10, i00, if_true, if_false, rr_101_0, oc_101, ai_102, iN_add, iN_addL, iN_Ladd, iN_mul, iN_mulL, iN_Lmul, rr_k h (k := 49 + m) (by omega), dvI_L, pi_101_10, gi_101_10, rI_same, rI_ne, rF_same, rF_ne, rJ_same, rJ_ne, rI_2, rF_1, rF_22, rJ_1, rJ_21, rJ_222, rI_rI, rF_rF, rJ_rJ, upd_same, upd_ne, vfu_same, vfu_ne, vpu_same, vpu_ne]
    rw [show x * g (49 + m) / 10 = driedS g m x from rfl, iN_sub hdr, iN_add, show x - driedS g m x + q = thereS g m x q from rfl]
    simp (disch := first | assumption | omega) only [ob, bd_s, jn_s, zz0, zz1, i10, i00, if_true, if_false, pi_101_11, gi_101_11, pi_101_12, gi_101_12, mnI_iN, oc_101, rI_same, rI_ne, rF_same, rF_ne, rJ_same, rJ_ne, rI_2, rF_1, rF_22, rJ_1, rJ_21, rJ_222, rI_rI, rF_rF, rJ_rJ, upd_same, upd_ne, vfu_same, vfu_ne, vpu_same, vpu_ne]
    rw [r_top (k1 _ (by simp (disch := first | assumption | omega) only [rI_same, rI_ne, rF_same, rF_ne, rJ_same, rJ_ne, rI_2, rF_1, rF_22, rJ_1, rJ_21, rJ_222, rI_rI, rF_rF, rJ_rJ, upd_same, upd_ne, vfu_same, vfu_ne, vpu_same, vpu_ne])) hg hm, iN_sub (Nat.min_le_right _ _), show thereS g m x q - min r (thereS g m x q) = restoS g m x q r from rfl]
    simp (disch := first | assumption | omega) only [ob, bd_s, jn_s, zz0, zz1, i10, i00, if_true, if_false, e1, pi_101_13, gi_101_13, pi_101_14, gi_101_12, oc_101, rI_same, rI_ne, rF_same, rF_ne, rJ_same, rJ_ne, rI_2, rF_1, rF_22, rJ_1, rJ_21, rJ_222, rI_rI, rF_rF, rJ_rJ, upd_same, upd_ne, vfu_same, vfu_ne, vpu_same, vpu_ne]
    rw [iN_sub (by unfold spillS; omega), e2]
    unfold gsF at s1
    rw [s1]
    have h2 : ∀ f f', (rI (rI s 101 f) 108 f').1 102 2 = iN (g 2) := fun f f' => rr_k h (k := 2) (by omega)
    have h3 : ∀ f f', aI (lay (rI (rI s 101 f) 108 f')) 0 102 2 = some (iN (g 2)) := fun f f' => by
      rw [show (2 : Int32) = iN 2 from rfl, ai_102 (by omega), h2]
    simp (disch := first | assumption | omega) only [bd_s, ob, rr_101_0, h3, gi_101_13, pi_101_15, rI_same, rI_ne, rF_same, rF_ne, rJ_same, rJ_ne, rI_2, rF_1, rF_22, rJ_1, rJ_21, rJ_222, rI_rI, rF_rF, rJ_rJ, upd_same, upd_ne, vfu_same, vfu_ne, vpu_same, vpu_ne]
    rw [iN_mul, iN_iZ (g 2 * spillS g m x q r), iZ_sub, Int.natCast_mul]
    rfl
  · intro q' h1 h2
    rw [rI_ne h1, rI_ne h2, rI_ne h1]
  · intro k hk
    rw [rI_same]
    unfold gsF
    simp (disch := first | assumption | omega) only [rI_same, rI_ne, rF_same, rF_ne, rJ_same, rJ_ne, rI_2, rF_1, rF_22, rJ_1, rJ_21, rJ_222, rI_rI, rF_rF, rJ_rJ, upd_same, upd_ne, vfu_same, vfu_ne, vpu_same, vpu_ne]
  · rw [rI_same]
    unfold gsF GsR
    refine ⟨?_, ?_, ?_, ?_, ?_, ?_⟩ <;> simp (disch := first | assumption | omega) only [rI_same, rI_ne, rF_same, rF_ne, rJ_same, rJ_ne, rI_2, rF_1, rF_22, rJ_1, rJ_21, rJ_222, rI_rI, rF_rF, rJ_rJ, upd_same, upd_ne, vfu_same, vfu_ne, vpu_same, vpu_ne]
  · intro d hd
    rw [rI_ne (by omega), rI_same]
    exact s2 d hd
theorem r_meanL {G : UInt32 → Mem → Option (UInt32 × Mem)} {T : Nat → Nat → UInt32} {m x i B : Nat} (h : RR s g wo) (hg : OKg g) (hm : m ≤ 12) (hx : x ≤ 13) (hi : i < 3) (hB : B ≤ 200000) (hT : ∀ j, j < 3 → aL B (T x j)) (hf : ∀ j, j < 3 → s.2.1 106 (ix m x j) = T x j) :
    ∀ (n j : Nat), 3 - j < n → j ≤ 3 → X11_mean_L6 G 101 (iN m) (iN x) (iN i) n (smS g T x i j) (iN j) (lay s) = G (smS g T x i 3) (lay s) := by
  intro n
  induction n with
  | zero => intro j h1; omega
  | succ n ih =>
    intro j h1 h2
    rw [X11_mean_L6]
    simp (disch := first | assumption | omega) only [iN_Lle]
    by_cases c1 : 3 ≤ j
    · rw [if_pos c1, show j = 3 by omega]
    · rw [if_neg c1]
      have hj : j < 3 := by omega
      have hl := ix_lt hm hx hj
      have a1 := prod_aL hg hi hj hB (hT j hj)
      have a3 := (smS_aL hg hi hB hT (j + 1) (by omega))
      have hp : ∀ μ, fX11_place (iN m) (iN x) (iN j) μ = some (iN (ix m x j), μ) := fun μ => c_spot
      simp (disch := first | assumption | omega) only [ob, bd_s, jn_s, zz0, zz1, i10, i00, if_true, if_false, oc_101, r_part h hi hj, rr_101_6, hp, ai_106 hl, iN_add, iN_addL, iN_Ladd, iN_mul, iN_mulL, iN_Lmul, hf j hj]
      rw [nn_aL a1]
      simp only [ob]
      have a4 : nn (FP.fadd (smS g T x i j) (FP.fmul (FP.i2f (iN (partS g i j))) (T x j))) = some (smS g T x i (j + 1)) := nn_aL a3.2
      rw [a4]
      simp only [ob]
      exact ih (j + 1) (by omega) (by omega)
theorem r_mean {T : Nat → Nat → UInt32} {m x i B : Nat} (h : RR s g wo) (hg : OKg g) (hm : m ≤ 12) (hx : x ≤ 13) (hi : i < 3) (hB : B ≤ 200000) (hT : ∀ j, j < 3 → aL B (T x j)) (hf : ∀ j, j < 3 → s.2.1 106 (ix m x j) = T x j) : fX11_mean 101 (iN m) (iN x) (iN i) (lay s) = some (meanS g T x i, lay s) := by
  unfold fX11_mean
  rw [show (0 : Int32) = iN 0 from rfl, show FP.fconst0 = smS g T x i 0 from rfl, r_meanL h hg hm hx hi hB hT hf FU 0 (by unfold FU; omega) (by omega)]
  simp only [oc_101, ob, r_parts h hi, bd_s]
  have a2 : nn (FP.fdiv (smS g T x i 3) (FP.i2f (iN (partsS g i)))) = some (meanS g T x i) := nn_aL (meanS_aL hg hi hB hT)
  rw [a2]
  rfl
theorem r_comesTo {T : Nat → Nat → UInt32} {m x i k B : Nat} (h : RR s g wo) (hl : RLn s g) (hg : OKg g) (hm : m < 12) (hx : x ≤ 13) (hi : i < 3) (hk : k < 2147483648) (hB : B ≤ 200000) (hT : ∀ x j, x ≤ g 0 → j < 3 → aL B (T x j)) (hf : ∀ y j, y ≤ g 0 → j < 3 → s.2.1 106 (ix (m + 1) y j) = T y j) :
    ∃ t, fX11_comesTo 101 (iN m) (iN x) (iN i) (iN k) (lay s) = some (valS g T m x i k, lay t) ∧ Gx s t := by
  have b1 := hg.1
  have hq := inflow_le hg hm hi
  have hnx : nextS g m x (g (4 + 3 * m + i)) k ≤ g 0 := next_le
  obtain ⟨t, t1, t2, t3, _⟩ := r_goes (r := k) h hl hg hm hx (show g (4 + 3 * m + i) ≤ 99 by omega) hk
  refine ⟨t, ?_, t2⟩
  unfold fX11_comesTo
  simp (disch := first | assumption | omega) only [ob, bd_s, jn_s, zz0, zz1, i10, i00, if_true, if_false, rr_101_0, oc_101, ai_102, iN_add, iN_addL, iN_Ladd, iN_mul, iN_mulL, iN_Lmul, rr_k h (k := 4 + 3 * m + i) (by omega)]
  rw [t1]
  simp only [bd_s, ob, gi_101_15, gi_101_14, oc_101, t3.2.2.2.2.1, t3.2.2.2.2.2]
  rw [r_mean (t2.RR h) hg (by omega) (by omega) hi hB (fun j hj => hT _ j hnx hj) (fun j hj => by rw [t2.2.1]; exact hf _ j hnx hj)]
  have e : nn (FP.fadd (FP.i2f (iZ (yieldS g m x (g (4 + 3 * m + i)) k))) (meanS g T (nextS g m x (g (4 + 3 * m + i)) k) i)) = some (valS g T m x i k) := nn_aL (valS_aL hg hm hx hi hB hT).1
  simp only [bd_s]
  rw [e]
  rfl
end REFB
