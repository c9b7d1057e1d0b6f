/-! ===== ways: the class follows, the reference counts ===== -/
section WAYS
variable {s : Sto} {g : Nat → Nat} {wo : Nat → Bool}
/-- the k-th figure of n of a way -/
def dgS (w n k : Nat) : Nat := w / 3 ^ (n - 1 - k) % 3
/-- what the class has found, on its way of n months -/
def LK (s : Sto) (n : Nat) (a : UInt32 × Nat) : Prop := s.2.1 64 5 = a.1 ∧ (a.1 ≠ nOne → ∀ k, k < n → s.1 69 k = iN (dgS a.2 n k))
/-- the trail so far -/
def TL (s : Sto) (d b : Nat) : Prop := ∀ k, k < d → s.1 68 k = iN (dgS b d k)
/-- what following leaves as it was -/
def Wx (s t : Sto) : Prop := (∀ q, q ≠ 68 → q ≠ 69 → t.1 q = s.1 q) ∧ (∀ q, q ≠ 64 → t.2.1 q = s.2.1 q) ∧ t.2.2 = s.2.2
theorem Wx.rf : Wx s s := ⟨fun _ _ _ => rfl, fun _ _ => rfl, rfl⟩
theorem Wx.tr {t u : Sto} (h1 : Wx s t) (h2 : Wx t u) : Wx s u := ⟨fun q a b => (h2.1 q a b).trans (h1.1 q a b), fun q a => (h2.2.1 q a).trans (h1.2.1 q a), h2.2.2.trans h1.2.2⟩
theorem cv_gt0 {o : Option Ordering} (h : o ≠ none) : (0 < Op.cmpValue o .g) = (o = some .gt) := by
  rcases o with _ | o
  · exact absurd rfl h
  · cases o
    · exact propext ⟨fun h => absurd h (by decide), fun h => (by cases h)⟩
    · exact propext ⟨fun h => absurd h (by decide), fun h => (by cases h)⟩
    · exact propext ⟨fun _ => rfl, fun _ => (by decide)⟩
theorem dg_snoc {b j d k : Nat} (hj : j < 3) (hk : k < d) : dgS (b * 3 + j) (d + 1) k = dgS b d k := by
  unfold dgS
  obtain ⟨e, he⟩ : ∃ e, d + 1 - 1 - k = e + 1 ∧ d - 1 - k = e := ⟨d - 1 - k, by omega, rfl⟩
  rw [he.1, he.2, Nat.pow_succ, Nat.mul_comm (3 ^ e) 3, ← Nat.div_div_eq_div_mul]
  congr 2
  omega
theorem dg_last {b j d : Nat} (hj : j < 3) : dgS (b * 3 + j) (d + 1) d = j := by
  unfold dgS
  rw [show d + 1 - 1 - d = 0 by omega, Nat.pow_zero, Nat.div_one]
  omega
theorem c_follow (hg : OKg g) {n : Nat} (hn : n ≤ 8) : ∀ (r fu st b : Nat) (c : UInt32) (a : UInt32 × Nat) (s : Sto), r < fu → r ≤ n → st < 3 → chO c → acO a.1 → OD (s.2.1 65) g → LK s n a → TL s (n - r) b → ∃ t, fX2_follow fu 64 (iN st) (iN (n - r)) (iN n) c (lay s) = some ((), lay t) ∧ Wx s t ∧ LK t n (flW g r st c a b) ∧ TL t (n - r) b := by
  intro r
  induction r with
  | zero =>
    intro fu st b c a s h1 h2 h3 hc ha hod hl ht
    obtain ⟨fu, rfl⟩ : ∃ f, fu = f + 1 := ⟨fu - 1, by omega⟩
    rw [fX2_follow]
    have hne : FP.fcmp c a.1 ≠ none := fun e => by
      rcases (FP.Core.fcmp_none c a.1).mp e with h | h
      · exact hc.1.1.ne_nan h
      · exact ac_nan ha h
    simp only [gf_64_5, ob, hl.1, cv_gt0 hne]
    by_cases c1 : FP.fcmp c a.1 = some .gt
    · rw [if_pos c1]
      simp (disch := first | assumption | omega) only [iN_lt]
      rw [if_neg (by omega)]
      have e1 : ∀ u : Sto, cpI (lay u) 68 0 69 0 (iN n) = some (lay (rI u 69 (va_cpy (u.1 68) (u.1 69) 0 0 n))) := fun u => cpI_lay (p := 68) (q := 69) (a := 0) (b := 0) (by show 0 + n ≤ 8; omega) (by show 0 + n ≤ 8; omega) (by decide) (by decide)
      simp only [pf_64_5, ob, rr_64_3, rr_64_4, e1]
      refine ⟨_, rfl, ⟨fun q _ h => by rw [rI_ne h, rF_1], fun q h => by rw [rI_2, rF_ne h], by rw [rI_2, rF_22]⟩, ⟨?_, fun _ k hk => ?_⟩, fun k hk => ?_⟩
      · show (rI _ 69 _).2.1 64 5 = (stW c b a).1
        rw [rI_2, rF_same, vfu_same]
        unfold stW
        rw [if_pos c1]
      · show (rI _ 69 _).1 69 k = iN (dgS (stW c b a).2 n k)
        rw [rI_same, rF_1]
        unfold stW va_cpy
        rw [if_pos c1, if_pos (by omega)]
        have := ht k (by omega)
        rw [Nat.sub_zero] at this
        rw [Nat.zero_add, Nat.sub_zero]
        exact this
      · rw [rI_ne (by omega), rF_1]
        exact ht k hk
    · rw [if_neg c1]
      refine ⟨s, rfl, Wx.rf, ?_, ht⟩
      show LK s n (stW c b a)
      unfold stW
      rw [if_neg c1]
      exact hl
  | succ r ih =>
    intro fu st b c a s h1 h2 h3 hc ha hod hl ht
    obtain ⟨fu, rfl⟩ : ∃ f, fu = f + 1 := ⟨fu - 1, by omega⟩
    rw [fX2_follow]
    have hne : FP.fcmp c a.1 ≠ none := fun e => by
      rcases (FP.Core.fcmp_none c a.1).mp e with h | h
      · exact hc.1.1.ne_nan h
      · exact ac_nan ha h
    simp only [gf_64_5, ob, hl.1, cv_gt0 hne]
    by_cases c1 : FP.fcmp c a.1 = some .gt
    · rw [if_pos c1]
      simp (disch := first | assumption | omega) only [iN_lt]
      rw [if_pos (by omega)]
      have hd : n - (r + 1) < 8 := by omega
      have hd1 : n - (r + 1) + 1 = n - r := by omega
      -- one state behind the other
      have step : ∀ (j : Nat) (a : UInt32 × Nat) (s : Sto) (m : Nat), j < 3 → acO a.1 → OD (s.2.1 65) g → LK s n a → TL s (n - (r + 1)) b → ∃ t, X2_follow_L40 (fX2_follow fu) (fun μ_84 => some ((), μ_84)) 64 (iN st) (iN (n - (r + 1))) (iN n) c (m + 1) (iN j) (lay s) = X2_follow_L40 (fX2_follow fu) (fun μ_84 => some ((), μ_84)) 64 (iN st) (iN (n - (r + 1))) (iN n) c m (iN (j + 1)) (lay t) ∧ Wx s t ∧ LK t n (flW g r j (FP.fmul c (odS g st j)) a (b * 3 + j)) ∧ TL t (n - (r + 1)) b := by
        intro j a s m hj ha hod hl ht
        rw [X2_follow_L40]
        have hm := (ch_mul hc (od_ch hg h3 hj)).1
        simp (disch := first | assumption | omega) only [iN_Lle]
        rw [if_neg (by omega)]
        simp (disch := first | assumption | omega) only [rr_64_3, rr_64_0, oc_64, ob, si_68, ai_65, iN_add, iN_addL, iN_Ladd, iN_mul, iN_mulL, iN_Lmul, rI_same, rI_ne, rF_same, rF_ne, rJ_same, rJ_ne, rI_2, rF_1, rF_22, rJ_1, rJ_21, rJ_222, rI_rI, rF_rF, rJ_rJ, upd_same, upd_ne, vfu_same, vfu_ne, vpu_same, vpu_ne, hod st j h3 hj, nn_aL hm.aL]
        obtain ⟨t, t1, t2, t3, t4⟩ := ih fu j (b * 3 + j) (FP.fmul c (odS g st j)) a (rI s 68 (upd (s.1 68) (n - (r + 1)) (iN j))) (by omega) (by omega) hj hm ha hod ⟨hl.1, fun h k hk => by rw [rI_ne (by omega)]; exact hl.2 h k hk⟩ (fun k hk => by
          rw [rI_same, ← hd1]
          by_cases c2 : k = n - (r + 1)
          · rw [c2, upd_same, dg_last hj]
          · rw [upd_ne c2, dg_snoc hj (by omega)]
            exact ht k (by omega))
        rw [hd1, t1]
        simp only [bd_s]
        refine ⟨t, rfl, ⟨fun q h4 h5 => by rw [t2.1 q h4 h5, rI_ne h4], fun q h4 => by rw [t2.2.1 q h4, rI_2], by rw [t2.2.2, rI_2]⟩, t3, fun k hk => ?_⟩
        rw [t4 k (by omega), ← hd1, dg_snoc hj hk]
      have hm := fun j (hj : j < 3) => (ch_mul hc (od_ch hg h3 hj)).1
      obtain ⟨s1, p1, p2, p3, p4⟩ := step 0 a s 9999 (by omega) ha hod hl ht
      have hod1 : OD (s1.2.1 65) g := by rw [p2.2.1 65 (by omega)]; exact hod
      obtain ⟨s2, q1, q2, q3, q4⟩ := step 1 _ s1 9998 (by omega) (fl_ac hg r 0 _ a (b * 3 + 0) (by omega) (hm 0 (by omega)) ha) hod1 p3 p4
      have hod2 : OD (s2.2.1 65) g := by rw [q2.2.1 65 (by omega)]; exact hod1
      obtain ⟨s3, w1, w2, w3, w4⟩ := step 2 _ s2 9997 (by omega) (fl_ac hg r 1 _ _ (b * 3 + 1) (by omega) (hm 1 (by omega)) (fl_ac hg r 0 _ a (b * 3 + 0) (by omega) (hm 0 (by omega)) ha)) hod2 q3 q4
      refine ⟨s3, ?_, p2.tr (q2.tr w2), w3, w4⟩
      show X2_follow_L40 (fX2_follow fu) (fun μ_84 => some ((), μ_84)) 64 (iN st) (iN (n - (r + 1))) (iN n) c (9999 + 1) (iN 0) (lay s) = _
      rw [p1, q1, w1, X2_follow_L40]
      rfl
    · rw [if_neg c1]
      refine ⟨s, rfl, Wx.rf, ?_, ht⟩
      rw [fl_prune hg (r + 1) st c a b h3 hc ha c1]
      exact hl
theorem pk_start {v : Nat → UInt32} {w0 : Nat} (hv : chO (v 0)) : ∀ m, pkW v 0 (m + 1) (nOne, w0) = pkW v 0 (m + 1) (nOne, 0)
  | 0 => by
    show stW (v 0) (0 + 0) (nOne, w0) = stW (v 0) (0 + 0) (nOne, 0)
    unfold stW
    rw [if_pos (gt_nOne hv), if_pos (gt_nOne hv)]
  | m + 1 => by
    have := pk_start (w0 := w0) hv m
    unfold pkW
    rw [this]
/-- the way of n months from a, and its chance -/
def wyS (g : Nat → Nat) (a n : Nat) : UInt32 × Nat := pkW (chS g a FP.fconst1 n) 0 (3 ^ n) (nOne, 0)
theorem ch_one : chO FP.fconst1 := by
  refine ⟨⟨aL_one.1, by decide +kernel⟩, ?_⟩
  have := aL_one.2
  rw [Nat.one_mul] at this
  exact this
theorem ch_ok (hg : OKg g) : ∀ (n st : Nat) (c : UInt32) (w : Nat), st < 3 → chO c → chO (chS g st c n w)
  | 0, _, _, _, _, hc => hc
  | n + 1, st, c, w, hs, hc => by
    unfold chS
    exact ch_ok hg n _ _ w (Nat.mod_lt _ (by decide)) (ch_mul hc (od_ch hg hs (Nat.mod_lt _ (by decide)))).1
theorem pk_ok {v : Nat → UInt32} (hv : ∀ i, chO (v i)) : ∀ m, chO (pkW v 0 (m + 1) (nOne, 0)).1 ∧ (pkW v 0 (m + 1) (nOne, 0)).2 ≤ m
  | 0 => by
    show chO (stW (v 0) (0 + 0) (nOne, 0)).1 ∧ _
    have : stW (v 0) (0 + 0) (nOne, 0) = (v 0, 0) := if_pos (gt_nOne (hv 0))
    rw [this]
    refine ⟨hv 0, ?_⟩
    show (stW (v 0) (0 + 0) (nOne, 0)).2 ≤ 0
    rw [this]
    exact Nat.le_refl _
  | m + 1 => by
    obtain ⟨h1, h2⟩ := pk_ok hv m
    have e : pkW v 0 (m + 1 + 1) (nOne, 0) = stW (v (m + 1)) (0 + (m + 1)) (pkW v 0 (m + 1) (nOne, 0)) := rfl
    rw [e]
    unfold stW
    split
    · exact ⟨hv _, by show 0 + (m + 1) ≤ m + 1; omega⟩
    · exact ⟨h1, by omega⟩
theorem wy_ok (hg : OKg g) {a n : Nat} (ha : a < 3) : chO (wyS g a n).1 ∧ (wyS g a n).2 < 3 ^ n := by
  have hp : 0 < 3 ^ n := Nat.pow_pos (by decide)
  obtain ⟨m, hm⟩ : ∃ m, 3 ^ n = m + 1 := ⟨3 ^ n - 1, by omega⟩
  unfold wyS
  rw [hm]
  obtain ⟨h1, h2⟩ := pk_ok (v := chS g a FP.fconst1 n) (fun i => ch_ok hg n a _ i ha ch_one) m
  exact ⟨h1, by omega⟩
theorem ch_ne {c : UInt32} (h : chO c) : c ≠ nOne := fun e => by
  subst e
  have : FP.Core.sgn (FP.Core.val32 nOne) = true := by decide +kernel
  have := h.1.2
  simp_all
theorem c_likeliest (hg : OKg g) {a n : Nat} (ha : a < 3) (hn : n ≤ 8) (hod : OD (s.2.1 65) g) : ∃ t, fX2_findLikeliest 64 (iN a) (iN n) (lay s) = some ((), lay t) ∧ Wx s t ∧ t.2.1 64 5 = (wyS g a n).1 ∧ (∀ k, k < n → t.1 69 k = iN (dgS (wyS g a n).2 n k)) := by
  unfold fX2_findLikeliest
  simp (disch := first | assumption | omega) only [pf_64_5, ob, oc_64, mnI_L]
  rw [Nat.min_eq_left hn]
  obtain ⟨t, t1, t2, t3, t4⟩ := c_follow hg hn n RF a 0 FP.fconst1 (nOne, 0) (rF s 64 (vf_upd (s.2.1 64) 5 nOne)) (by unfold RF; omega) (Nat.le_refl _) ha ch_one (Or.inl rfl) (by rw [rF_ne (by omega)]; exact hod) ⟨by rw [rF_same, vfu_same], fun h => absurd rfl h⟩ (fun k hk => by omega)
  rw [Nat.sub_self] at t1
  have t1' : fX2_follow RF 64 (iN a) 0 (iN n) FP.fconst1 (lay (rF s 64 (vf_upd (s.2.1 64) 5 3212836864))) = some ((), lay t) := t1
  rw [t1']
  rw [flW_eq, Nat.zero_mul] at t3
  have hw := (wy_ok hg (n := n) ha).1
  refine ⟨t, rfl, ⟨fun q h1 h2 => by rw [t2.1 q h1 h2, rF_1], fun q h1 => by rw [t2.2.1 q h1, rF_ne h1], by rw [t2.2.2, rF_22]⟩, t3.1, t3.2 (ch_ne hw)⟩
/-! the reference -/
theorem r_stateOfL {G : Int32 → Mem → Option (Int32 × Mem)} {k : Nat} {μ : Mem} (hk : k ≤ 8) : ∀ (n i v : Nat), i - k < n → k ≤ i → i ≤ 8 → v < 100000 → X11_stateOf_L7 G (iN k) n (iN v) (iN i) μ = G (iN (v / 3 ^ (i - k))) μ := by
  intro n
  induction n with
  | zero => intro i v h; omega
  | succ n ih =>
    intro i v h1 h2 h3 h4
    rw [X11_stateOf_L7]
    simp (disch := first | assumption | omega) only [iN_le]
    by_cases c1 : i ≤ k
    · rw [if_pos c1, show i - k = 0 by omega, Nat.pow_zero, Nat.div_one]
    · rw [if_neg c1]
      simp (disch := first | assumption | omega) only [dvI_L, ob]
      have e : iN i + -1 = iN (i - 1) := by
        rw [iN_iZ, iN_iZ, show (-1 : Int32) = iZ (-1) from rfl, iZ_add]
        congr 1
        omega
      have hd : v / 3 ≤ v := Nat.div_le_self _ _
      rw [e, ih (i - 1) (v / 3) (by omega) (by omega) (by omega) (by omega), Nat.div_div_eq_div_mul, show i - k = (i - 1 - k) + 1 by omega, Nat.pow_succ, Nat.mul_comm (3 ^ _) 3]
theorem r_stateOf {w n k : Nat} {μ : Mem} (hw : w < 100000) (hn : n ≤ 8) (hk : k < n) : fX11_stateOf (iN w) (iN n) (iN k) μ = some (iN (dgS w n k), μ) := by
  unfold fX11_stateOf
  simp (disch := first | assumption | omega) only [iN_subL]
  rw [r_stateOfL (by omega) FU (n - 1) w (by unfold FU; omega) (by omega) (by omega) hw]
  have h1 : w / 3 ^ (n - 1 - k) ≤ w := Nat.div_le_self _ _
  simp (disch := first | assumption | omega) only [rmI_L, ob]
  rfl
theorem r_chanceL {G : UInt32 → Mem → Option (Unit × Mem)} {v1 v3 : Int32} {w N : Nat} (hg : OKg g) (h : RR s g wo) (hN : N ≤ 8) (hw : w < 100000) : ∀ (n k st : Nat) (c : UInt32), N - k < n → k ≤ N → st < 3 → chO c → X11_findWay_L45 G 101 v1 (iN N) v3 (iN w) n c (iN st) (iN k) (lay s) = G (chS g st c (N - k) w) (lay s) := by
  intro n
  induction n with
  | zero => intro k st c h1; omega
  | succ n ih =>
    intro k st c h1 h2 h3 hc
    rw [X11_findWay_L45]
    simp (disch := first | assumption | omega) only [iN_le]
    by_cases c1 : N ≤ k
    · rw [if_pos c1, show N - k = 0 by omega]
      rfl
    · rw [if_neg c1, r_stateOf hw hN (by omega)]
      have hd : dgS w N k < 3 := Nat.mod_lt _ (by decide)
      have ho := od_ch hg h3 hd
      simp only [bd_s, oc_101, ob, r_part h h3 hd, r_parts h h3]
      have a2 : nn (FP.fdiv (FP.i2f (iN (partS g st (dgS w N k)))) (FP.i2f (iN (partsS g st)))) = some (odS g st (dgS w N k)) := nn_aL ho.aL
      rw [a2]
      simp only [ob]
      have hm := (ch_mul hc ho).1
      rw [nn_aL hm.aL]
      simp only [ob, iN_add, iN_addL, iN_Ladd, iN_mul, iN_mulL, iN_Lmul]
      rw [ih (k + 1) (dgS w N k) _ (by omega) (by omega) hd hm]
      have e : N - k = (N - (k + 1)) + 1 := by omega
      have e2 : dgS w N k = w / 3 ^ (N - (k + 1)) % 3 := by
        unfold dgS
        rw [show N - 1 - k = N - (k + 1) by omega]
      rw [e, e2]
      rfl
/-- what the counting of ways leaves as it was -/
def Wr (s t : Sto) : Prop := (∀ q, q ≠ 101 → t.1 q = s.1 q) ∧ (∀ k, k ≠ 18 → t.1 101 k = s.1 101 k) ∧ (∀ q, q ≠ 101 → t.2.1 q = s.2.1 q) ∧ t.2.2 = s.2.2
theorem r_wayL {G : Mem → Option (Unit × Mem)} {a N : Nat} (hg : OKg g) (hN : N ≤ 8) (ha : a < 3) : ∀ (n w : Nat) (s : Sto) (w0 : Nat), 3 ^ N - w < n → w ≤ 3 ^ N → RR s g wo → s.2.1 101 17 = (pkW (chS g a FP.fconst1 N) 0 w (nOne, w0)).1 → (0 < w → s.1 101 18 = iN (pkW (chS g a FP.fconst1 N) 0 w (nOne, w0)).2) → acO (s.2.1 101 17) → ∃ t, X11_findWay_L30 G 101 (iN a) (iN N) (iN (3 ^ N)) n (iN w) (lay s) = G (lay t) ∧ Wr s t ∧ t.2.1 101 17 = (pkW (chS g a FP.fconst1 N) 0 (3 ^ N) (nOne, w0)).1 ∧ t.1 101 18 = iN (pkW (chS g a FP.fconst1 N) 0 (3 ^ N) (nOne, w0)).2 := by
  intro n
  have hp : 3 ^ N ≤ 3 ^ 8 := Nat.pow_le_pow_right (by decide) hN
  have hp0 : 0 < 3 ^ N := Nat.pow_pos (by decide)
  have e8 : 3 ^ 8 = 6561 := rfl
  induction n with
  | zero => intro w s w0 h1; omega
  | succ n ih =>
    intro w s w0 h1 h2 hR h3 h4 h5
    rw [X11_findWay_L30]
    simp (disch := first | assumption | omega) only [iN_le]
    by_cases c1 : 3 ^ N ≤ w
    · rw [if_pos c1]
      have : w = 3 ^ N := by omega
      subst this
      exact ⟨s, rfl, ⟨fun _ _ => rfl, fun _ _ => rfl, fun _ _ => rfl, rfl⟩, h3, h4 hp0⟩
    · rw [if_neg c1]
      have hL := r_chanceL (G := fun v5_93 μ_93 => (gF μ_93 101 11 17).bind fun x96 => if (Op.cmpValue (FP.fcmp v5_93 x96) .l) ≤ 0 then (X11_findWay_L30 G 101 (iN a) (iN N) (iN (3 ^ N)) n ((iN w + 1)) μ_93) else ((pV μ_93 101 11 17 (.float v5_93)).bind fun μ106 => (pV μ106 101 11 18 (.int (iN w))).bind fun μ112 => X11_findWay_L30 G 101 (iN a) (iN N) (iN (3 ^ N)) n ((iN w + 1)) μ112)) (v1 := iN a) (v3 := iN (3 ^ N)) (w := w) hg hR hN (by omega) FU 0 a FP.fconst1 (by unfold FU; omega) (Nat.zero_le _) ha ch_one
      rw [Nat.sub_zero] at hL
      rw [show (0 : Int32) = iN 0 from rfl] at hL ⊢
      rw [hL]
      simp only [show iN 0 = (0 : Int32) from rfl]
      simp only [gf_101_17, ob, cv_le0, pf_101_17, pi_101_18, h3, iN_add, iN_addL, iN_Ladd, iN_mul, iN_mulL, iN_Lmul]
      have hv := ch_ok hg N a FP.fconst1 w ha ch_one
      have e : pkW (chS g a FP.fconst1 N) 0 (w + 1) (nOne, w0) = stW (chS g a FP.fconst1 N w) (0 + w) (pkW (chS g a FP.fconst1 N) 0 w (nOne, w0)) := rfl
      by_cases c2 : FP.fcmp (chS g a FP.fconst1 N w) (pkW (chS g a FP.fconst1 N) 0 w (nOne, w0)).1 = some .gt
      · rw [if_neg (not_not_intro c2)]
        have e2 : stW (chS g a FP.fconst1 N w) (0 + w) (pkW (chS g a FP.fconst1 N) 0 w (nOne, w0)) = (chS g a FP.fconst1 N w, 0 + w) := if_pos c2
        rw [e2] at e
        obtain ⟨t, t1, t2, t3, t4⟩ := ih (w + 1) (rI (rF s 101 (vf_upd (s.2.1 101) 17 (chS g a FP.fconst1 N w))) 101 (upd (s.1 101) 18 (iN w))) w0 (by omega) (by omega) (RR_congr hR (by rw [rI_ne (by omega), rF_1]) (by rw [rI_same, upd_ne (by omega)])) (by rw [e, rI_2, rF_same, vfu_same]) (fun _ => by rw [e, rI_same, upd_same, Nat.zero_add]) (by rw [rI_2, rF_same, vfu_same]; exact Or.inr hv)
        exact ⟨t, t1, ⟨fun q h => by rw [t2.1 q h, rI_ne h, rF_1], fun k h => by rw [t2.2.1 k h, rI_same, upd_ne h], fun q h => by rw [t2.2.2.1 q h, rI_2, rF_ne h], by rw [t2.2.2.2, rI_2, rF_22]⟩, t3, t4⟩
      · rw [if_pos c2]
        have e2 : stW (chS g a FP.fconst1 N w) (0 + w) (pkW (chS g a FP.fconst1 N) 0 w (nOne, w0)) = pkW (chS g a FP.fconst1 N) 0 w (nOne, w0) := if_neg c2
        rw [e2] at e
        refine ih (w + 1) s w0 (by omega) (by omega) hR (by rw [e]; exact h3) (fun _ => ?_) h5
        rw [e]
        refine h4 (Nat.pos_of_ne_zero fun hw => ?_)
        subst hw
        exact c2 (gt_nOne hv)
theorem r_powL {G : Int32 → Mem → Option (Unit × Mem)} {v1 : Int32} {N : Nat} {μ : Mem} (hN : N ≤ 8) : ∀ (n k : Nat), N - k < n → k ≤ N → X11_findWay_L5 G 101 v1 (iN N) n (iN (3 ^ k)) (iN k) μ = G (iN (3 ^ N)) μ := by
  intro n
  induction n with
  | zero => intro k h; omega
  | succ n ih =>
    intro k h1 h2
    rw [X11_findWay_L5]
    simp (disch := first | assumption | omega) only [iN_le]
    by_cases c1 : N ≤ k
    · rw [if_pos c1, show k = N by omega]
    · rw [if_neg c1]
      simp only [iN_add, iN_addL, iN_Ladd, iN_mul, iN_mulL, iN_Lmul]
      have := ih (k + 1) (by omega) (by omega)
      rw [Nat.pow_succ] at this
      exact this
theorem r_findWay (hg : OKg g) (h : RR s g wo) {a N : Nat} (hN : N ≤ 8) (ha : a < 3) : ∃ t, fX11_findWay 101 (iN a) (iN N) (lay s) = some ((), lay t) ∧ Wr s t ∧ t.2.1 101 17 = (wyS g a N).1 ∧ t.1 101 18 = iN (wyS g a N).2 := by
  unfold fX11_findWay
  have hp : 3 ^ N ≤ 3 ^ 8 := Nat.pow_le_pow_right (by decide) hN
  have e8 : 3 ^ 8 = 6561 := rfl
  have hL := r_powL (G := fun v3_21 μ_21 => (pV μ_21 101 11 17 (.float ((3212836864 : UInt32)))).bind fun μ24 => X11_findWay_L30 (fun μ_121 => some ((), μ_121)) 101 (iN a) (iN N) v3_21 FU ((0 : Int32)) μ24) (v1 := iN a) (μ := lay s) hN FU 0 (by unfold FU; omega) (Nat.zero_le _)
  rw [show (1 : Int32) = iN (3 ^ 0) from rfl]
  refine Eq.mp ?_ (?_ : ∃ t, X11_findWay_L5 (fun v3_21 μ_21 => (pV μ_21 101 11 17 (.float ((3212836864 : UInt32)))).bind fun μ24 => X11_findWay_L30 (fun μ_121 => some ((), μ_121)) 101 (iN a) (iN N) v3_21 FU ((0 : Int32)) μ24) 101 (iN a) (iN N) FU (iN (3 ^ 0)) (iN 0) (lay s) = some ((), lay t) ∧ Wr s t ∧ t.2.1 101 17 = (wyS g a N).1 ∧ t.1 101 18 = iN (wyS g a N).2)
  · rfl
  · rw [hL]
    simp only [pf_101_17, ob]
    obtain ⟨t, t1, t2, t3, t4⟩ := r_wayL (G := fun μ => some ((), μ)) hg hN ha FU 0 (rF s 101 (vf_upd (s.2.1 101) 17 3212836864)) 0 (by unfold FU; omega) (Nat.zero_le _) (RR_congr h rfl rfl) (by rw [rF_same, vfu_same]; rfl) (fun h0 => absurd h0 (Nat.lt_irrefl 0)) (by rw [rF_same, vfu_same]; exact Or.inl rfl)
    exact ⟨t, t1, ⟨fun q h => by rw [t2.1 q h, rF_1], fun k h => by rw [t2.2.1 k h, rF_1], fun q h => by rw [t2.2.2.1 q h, rF_ne h], by rw [t2.2.2.2, rF_22]⟩, t3, t4⟩
end WAYS
