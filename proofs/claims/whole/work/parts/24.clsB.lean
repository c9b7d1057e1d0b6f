/-! ===== the class: who is served, a month ===== -/
section SERVES
variable {s : Sto} {p : Nat} {g : Nat → Nat}
theorem c_placeL {G : Int32 → Mem → Option (Int32 × Mem)} (hb : Bs p) (hg : OKg g) (h : RC s p g) {d : Nat} (hd : d < g 73) : ∀ (n k : Nat), g 73 - k < n → k ≤ g 73 → X0_placeByRank_L4 G p (iN d) n (iN (rkTo g d k)) (iN k) (lay s) = G (iN (rkS g d)) (lay s) := by
  intro n
  have b1 := hg.1
  induction n with
  | zero => intro k h1; omega
  | succ n ih =>
    intro k h1 h2
    rw [X0_placeByRank_L4]
    simp (disch := first | assumption | omega) only [ob, bd_s, jn_s, zz0, zz1, i10, i00, if_true, if_false, bs_r4, bs_r5, bs_r6, bs_r7, bs_r8, bs_r9, bs_g0, bs_p0, bs_g1, bs_p1, bs_g2, bs_p2, bs_g3, bs_p3, bs_g10, bs_p10, bs_c, bs_a1, bs_s1, bs_a2, bs_s2, bs_a3, bs_s3, bs_a4, bs_s4, bs_a6, bs_s6, bs_d, bs_gd, bs_pd, bs_cd, h.1.2.2.2.2, iN_le]
    by_cases c1 : g 73 ≤ k
    · rw [if_pos c1, show k = g 73 by omega]
      rfl
    · rw [if_neg c1]
      have hk : k < g 73 := by omega
      have d6 : d < 6 := by omega
      have k6 : k < 6 := by omega
      have b2 := hg.2.2.2.2.2.2 d hd
      have b3 := hg.2.2.2.2.2.2 k hk
      simp (disch := first | assumption | omega) only [ob, bd_s, jn_s, zz0, zz1, i10, i00, if_true, if_false, bs_d hb d6, bs_d hb k6, bs_gd hb d6, bs_gd hb k6, c_dF h hd, c_dF h hk, iN_le, iN_lt, iN_eq, iN_leL, iN_Lle, iN_ltL, iN_Llt, iN_eqL, iN_Leq, iN_add, iN_addL, iN_Ladd, iN_mul, iN_mulL, iN_Lmul]
      have e : rkTo g d (k + 1) = rkTo g d k + if ahS g k d then 1 else 0 := rfl
      have i1 := ih (k + 1) (by omega) (by omega)
      rw [e] at i1
      by_cases c2 : dF g k 1 < dF g d 1
      · rw [if_pos c2]
        rw [if_pos (Or.inl c2)] at i1
        exact i1
      · rw [if_neg c2]
        by_cases c3 : dF g k 1 = dF g d 1
        · rw [if_pos c3]
          by_cases c4 : d ≤ k
          · rw [if_pos c4]
            rw [if_neg (by unfold ahS; omega), Nat.add_zero] at i1
            exact i1
          · rw [if_neg c4]
            rw [if_pos (Or.inr ⟨c3, by omega⟩)] at i1
            exact i1
        · rw [if_neg c3]
          rw [if_neg (by unfold ahS; omega), Nat.add_zero] at i1
          exact i1
theorem c_placeByRank (hb : Bs p) (hg : OKg g) (h : RC s p g) {d : Nat} (hd : d < g 73) : fX0_placeByRank p (iN d) (lay s) = some (iN (rkS g d), lay s) := by
  unfold fX0_placeByRank
  have b1 := hg.1
  exact c_placeL hb hg h hd FU 0 (by unfold FU; omega) (Nat.zero_le _)
theorem c_sortL {G : Mem → Option (Unit × Mem)} (hb : Bs p) (hg : OKg g) (h : RC s p g) : ∀ (n k : Nat) (f : Nat → Int32), g 73 - k < n → k ≤ g 73 → (∀ d, d < k → f (rkS g d) = iN d) → ∃ f' : Nat → Int32, X0_sortByRank_L2 G p n (iN k) (lay (rI s (p + 6) f)) = G (lay (rI s (p + 6) f')) ∧ ∀ d, d < g 73 → f' (rkS g d) = iN d := by
  intro n
  have b1 := hg.1
  induction n with
  | zero => intro k f h1; omega
  | succ n ih =>
    intro k f h1 h2 h3
    rw [X0_sortByRank_L2]
    have hc : RC (rI s (p + 6) f) p g := RC_rI h (by omega) (by omega)
    simp (disch := first | assumption | omega) only [ob, bd_s, jn_s, zz0, zz1, i10, i00, if_true, if_false, bs_r4, bs_r5, bs_r6, bs_r7, bs_r8, bs_r9, bs_g0, bs_p0, bs_g1, bs_p1, bs_g2, bs_p2, bs_g3, bs_p3, bs_g10, bs_p10, bs_c, bs_a1, bs_s1, bs_a2, bs_s2, bs_a3, bs_s3, bs_a4, bs_s4, bs_a6, bs_s6, bs_d, bs_gd, bs_pd, bs_cd, hc.1.2.2.2.2, iN_le]
    by_cases c1 : g 73 ≤ k
    · rw [if_pos c1]
      exact ⟨f, rfl, fun d hd => h3 d (by omega)⟩
    · rw [if_neg c1]
      have hk : k < g 73 := by omega
      have hr := rkS_lt hk
      simp (disch := first | assumption | omega) only [ob, bd_s, jn_s, zz0, zz1, i10, i00, if_true, if_false, c_placeByRank hb hg hc hk, bs_s6 hb, rI_same, rI_ne, rF_same, rF_ne, rJ_same, rJ_ne, rI_2, rF_1, rF_22, rJ_1, rJ_21, rJ_222, rI_rI, rF_rF, rJ_rJ, upd_same, upd_ne, vfu_same, vfu_ne, vpu_same, vpu_ne, iN_add, iN_addL, iN_Ladd, iN_mul, iN_mulL, iN_Lmul]
      refine ih (k + 1) _ (by omega) (by omega) (fun d hd => ?_)
      by_cases c2 : d = k
      · subst c2
        exact upd_same
      · rw [upd_ne (fun e => c2 (rkS_inj (by omega) hk e))]
        exact h3 d (by omega)
theorem c_sort (hb : Bs p) (hg : OKg g) (h : RC s p g) : ∃ f : Nat → Int32, fX0_sortByRank p (lay s) = some ((), lay (rI s (p + 6) f)) ∧ RB (rI s (p + 6) f) p g := by
  have b1 := hg.1
  obtain ⟨f, h1, h2⟩ := c_sortL (G := fun μ => some ((), μ)) hb hg h FU 0 (s.1 (p + 6)) (by unfold FU; omega) (Nat.zero_le _) (fun d hd => absurd hd (Nat.not_lt_zero d))
  rw [rI_self] at h1
  refine ⟨f, h1, RC_rI h (by omega) (by omega), fun k hk => ?_⟩
  have h3 := lnS_spec hk
  rw [rI_same, ← h2 (lnS g k) h3.1, h3.2.1]
theorem c_gotL {G : Mem → Option (Int32 × Mem)} (hb : Bs p) (hg : OKg g) (h : RB s p g) {d m x : Nat} (hd : d < g 73) (hm : m < 12) (hx : x < 2147483648) : ∀ (n k : Nat), g 73 - k < n → k ≤ rkS g d → restS g m x k ≤ x → X0_gotBy_L6 G p (iN d) (iN m) n (iN (restS g m x k)) (iN k) (lay s) = some (iN (gotS g m x (rkS g d)), lay s) := by
  intro n
  have b1 := hg.1
  have hr := rkS_lt hd
  induction n with
  | zero => intro k h1; omega
  | succ n ih =>
    intro k h1 h2 h3
    rw [X0_gotBy_L6]
    simp (disch := first | assumption | omega) only [ob, bd_s, jn_s, zz0, zz1, i10, i00, if_true, if_false, bs_r4, bs_r5, bs_r6, bs_r7, bs_r8, bs_r9, bs_g0, bs_p0, bs_g1, bs_p1, bs_g2, bs_p2, bs_g3, bs_p3, bs_g10, bs_p10, bs_c, bs_a1, bs_s1, bs_a2, bs_s2, bs_a3, bs_s3, bs_a4, bs_s4, bs_a6, bs_s6, bs_d, bs_gd, bs_pd, bs_cd, h.1.1.2.2.2.2, iN_le]
    have hk : k < g 73 := by omega
    rw [if_neg (by omega)]
    have hl := lnS_spec hk
    have l6 : lnS g k < 6 := by omega
    have hw := wantS_le (m := m) hg hl.1
    simp (disch := first | assumption | omega) only [ob, bd_s, jn_s, zz0, zz1, i10, i00, if_true, if_false, h.2 k hk, bs_d hb l6, bs_cd hb l6, c_wantedIn hb hg h.1 hl.1 hm, iN_eq, mnI_iN, bs_r4, bs_r5, bs_r6, bs_r7, bs_r8, bs_r9, bs_g0, bs_p0, bs_g1, bs_p1, bs_g2, bs_p2, bs_g3, bs_p3, bs_g10, bs_p10, bs_c, bs_a1, bs_s1, bs_a2, bs_s2, bs_a3, bs_s3, bs_a4, bs_s4, bs_a6, bs_s6, bs_d, bs_gd, bs_pd, bs_cd, iN_add, iN_addL, iN_Ladd, iN_mul, iN_mulL, iN_Lmul]
    by_cases c1 : lnS g k = d
    · rw [if_pos c1]
      have : rkS g d = k := by rw [← c1]; exact hl.2.1
      rw [this]
      rfl
    · rw [if_neg c1, iN_sub (by omega)]
      have hne : k ≠ rkS g d := fun e => c1 (by rw [e]; exact lnS_rk hd)
      exact ih (k + 1) (by omega) (by omega) (by show restS g m x k - _ ≤ x; omega)
theorem c_gotBy (hb : Bs p) (hg : OKg g) (h : RB s p g) {d m x : Nat} (hd : d < g 73) (hm : m < 12) (hx : x < 2147483648) : fX0_gotBy p (iN d) (iN m) (iN x) (lay s) = some (iN (gotS g m x (rkS g d)), lay s) := by
  unfold fX0_gotBy
  have b1 := hg.1
  exact c_gotL hb hg h hd hm hx FU 0 (by unfold FU; omega) (Nat.zero_le _) (Nat.le_refl _)
theorem c_gainsL {G : Int32 → Mem → Option (Int32 × Mem)} (hb : Bs p) (hg : OKg g) (h : RB s p g) {m x : Nat} (hm : m < 12) (hx : x < 2147483648) : ∀ (n k : Nat), g 73 - k < n → k ≤ g 73 → restS g m x k ≤ x → X0_gainsOf_L8 G p (iN m) n (iN (restS g m x k)) (iZ (sumS g m x k)) (iN k) (lay s) = G (iZ (gainsS g m x)) (lay s) := by
  intro n
  have b1 := hg.1
  induction n with
  | zero => intro k h1; omega
  | succ n ih =>
    intro k h1 h2 h3
    rw [X0_gainsOf_L8]
    simp (disch := first | assumption | omega) only [ob, bd_s, jn_s, zz0, zz1, i10, i00, if_true, if_false, bs_r4, bs_r5, bs_r6, bs_r7, bs_r8, bs_r9, bs_g0, bs_p0, bs_g1, bs_p1, bs_g2, bs_p2, bs_g3, bs_p3, bs_g10, bs_p10, bs_c, bs_a1, bs_s1, bs_a2, bs_s2, bs_a3, bs_s3, bs_a4, bs_s4, bs_a6, bs_s6, bs_d, bs_gd, bs_pd, bs_cd, h.1.1.2.2.2.2, iN_le]
    by_cases c1 : g 73 ≤ k
    · rw [if_pos c1, show k = g 73 by omega]
      rfl
    · rw [if_neg c1]
      have hk : k < g 73 := by omega
      have hl := lnS_spec hk
      have l6 : lnS g k < 6 := by omega
      have hw := wantS_le (m := m) hg hl.1
      simp (disch := first | assumption | omega) only [ob, bd_s, jn_s, zz0, zz1, i10, i00, if_true, if_false, h.2 k hk, bs_d hb l6, bs_cd hb l6, c_wantedIn hb hg h.1 hl.1 hm, mnI_iN, bs_r4, bs_r5, bs_r6, bs_r7, bs_r8, bs_r9, bs_g0, bs_p0, bs_g1, bs_p1, bs_g2, bs_p2, bs_g3, bs_p3, bs_g10, bs_p10, bs_c, bs_a1, bs_s1, bs_a2, bs_s2, bs_a3, bs_s3, bs_a4, bs_s4, bs_a6, bs_s6, bs_d, bs_gd, bs_pd, bs_cd, iN_add, iN_addL, iN_Ladd, iN_mul, iN_mulL, iN_Lmul]
      rw [c_gainOf hb hg h.1 hl.1 (Nat.min_le_left _ _) hw]
      simp only [bd_s, iZ_add]
      rw [iN_sub (by omega)]
      exact ih (k + 1) (by omega) (by omega) (by show restS g m x k - _ ≤ x; omega)
theorem c_gainsOf (hb : Bs p) (hg : OKg g) (h : RB s p g) {m x : Nat} (hm : m < 12) (hx : x < 2147483648) : fX0_gainsOf p (iN m) (iN x) (lay s) = some (iZ (gainsS g m x), lay s) := by
  unfold fX0_gainsOf
  have b1 := hg.1
  exact c_gainsL hb hg h hm hx FU 0 (by unfold FU; omega) (Nat.zero_le _) (Nat.le_refl _)
/-- a month gone through, at a place of its own -/
def Pg (q : Nat) : Prop := q = 70 ∨ q = 72
theorem pg_g {k q : Nat} (hq : Pg q) (hk : k < 6) : gI (lay s) q 7 k = some (s.1 q k) := gI_lay (by
  have : ∀ k < 6, qI 70 7 k = true ∧ qI 72 7 k = true := by decide
  rcases hq with rfl | rfl
  · exact (this k hk).1
  · exact (this k hk).2)
theorem pg_p {k q : Nat} {x : Int32} (hq : Pg q) (hk : k < 6) : pV (lay s) q 7 k (.int x) = some (lay (uI s q k x)) := pI_lay (by
  have : ∀ k < 6, qI 70 7 k = true ∧ qI 72 7 k = true := by decide
  rcases hq with rfl | rfl
  · exact (this k hk).1
  · exact (this k hk).2)
def PgR (f : Nat → Int32) (g : Nat → Nat) (m x q r : Nat) : Prop := f 0 = iN (driedS g m x) ∧ f 1 = iN (thereS g m x q) ∧ f 2 = iN (min r (thereS g m x q)) ∧ f 3 = iN (spillS g m x q r) ∧ f 4 = iN (nextS g m x q r) ∧ f 5 = iZ (yieldS g m x q r)
theorem dried_le {m x : Nat} (hg : OKg g) (hm : m < 12) : driedS g m x ≤ x := by
  have b2 := hg.2.2.2.2.1 m hm
  have b3 : x * g (49 + m) ≤ x * 9 := Nat.mul_le_mul_left _ b2
  unfold driedS
  omega
def pgF (f : Nat → Int32) (g : Nat → Nat) (m x q r : Nat) : Nat → Int32 := upd (upd (upd (upd (upd (upd f 0 (iN (driedS g m x))) 1 (iN (thereS g m x q))) 2 (iN (min r (thereS g m x q)))) 4 (iN (nextS g m x q r))) 3 (iN (spillS g m x q r))) 5 (iZ (yieldS g m x q r))
theorem c_go {a : Nat} (ha : Pg a) (hb : Bs p) (hg : OKg g) (h : RB s p g) {m x q r : Nat} (hm : m < 12) (hx : x ≤ 13) (hq : q ≤ 99) (hr : r < 2147483648) : ∃ f, fX7_go a p (iN m) (iN x) (iN q) (iN r) (lay s) = some ((), lay (rI s a f)) ∧ PgR f g m x q r := by
  have b1 := hg.1
  have hp := Bs_le hb
  have ha2 : 70 ≤ a := by unfold Pg at ha; omega
  have hdr := dried_le (x := x) hg hm
  have htop : topS g m ≤ 13 := by unfold topS; omega
  have hth : thereS g m x q ≤ 112 := by unfold thereS; omega
  have k1 : ∀ f, RB (rI s a f) p g := fun f => RB_rI h (by omega) (by omega)
  have k2 : ∀ f, (rI s a f).1 p 2 = iN (g 2) := fun f => (k1 f).1.1.2.2.1
  refine ⟨pgF (s.1 a) g m x q r, ?_, ?_⟩
  · unfold fX7_go
    simp (disch := first | assumption | omega) only [ob, bd_s, jn_s, zz0, zz1, i10, i00, if_true, if_false, bs_c hb, c_driedIn hb hg h.1 hm, pg_p ha, pg_g ha, rI_same, rI_ne, rF_same, rF_ne, rJ_same, rJ_ne, rI_2, rF_1, rF_22, rJ_1, rJ_21, rJ_222, rI_rI, rF_rF, rJ_rJ, upd_same, upd_ne, vfu_same, vfu_ne, vpu_same, vpu_ne]
    rw [iN_sub hdr, iN_add, show x - driedS g m x + q = thereS g m x q from rfl]
    simp (disch := first | assumption | omega) only [mnI_iN]
    rw [iN_sub (Nat.min_le_right _ _), show thereS g m x q - min r (thereS g m x q) = restoS g m x q r from rfl]
    have hre : restoS g m x q r ≤ 112 := by unfold restoS; omega
    simp (disch := first | assumption | omega) only [c_topOf hb hg (k1 _).1 hm, bd_s, mnI_iN, pg_p ha, pg_g ha, ob, rI_same, rI_ne, rF_same, rF_ne, rJ_same, rJ_ne, rI_2, rF_1, rF_22, rJ_1, rJ_21, rJ_222, rI_rI, rF_rF, rJ_rJ, upd_same, upd_ne, vfu_same, vfu_ne, vpu_same, vpu_ne]
    rw [show min (restoS g m x q r) (topS g m) = nextS g m x q r from rfl, iN_sub (by unfold nextS; omega), show restoS g m x q r - nextS g m x q r = spillS g m x q r from rfl]
    simp (disch := first | assumption | omega) only [c_gainsOf hb hg (k1 _) hm, bd_s, ob, bs_c hb, bs_g2 hb, k2, pg_p ha, pg_g ha, rI_same, rI_ne, rF_same, rF_ne, rJ_same, rJ_ne, rI_2, rF_1, rF_22, rJ_1, rJ_21, rJ_222, rI_rI, rF_rF, rJ_rJ, upd_same, upd_ne, vfu_same, vfu_ne, vpu_same, vpu_ne]
    rw [iN_mul, iN_iZ (g 2 * spillS g m x q r), iZ_sub, Int.natCast_mul]
    rfl
  · unfold pgF PgR
    refine ⟨?_, ?_, ?_, ?_, ?_, ?_⟩ <;> simp (disch := first | assumption | omega) only [rI_same, rI_ne, rF_same, rF_ne, rJ_same, rJ_ne, rI_2, rF_1, rF_22, rJ_1, rJ_21, rJ_222, rI_rI, rF_rF, rJ_rJ, upd_same, upd_ne, vfu_same, vfu_ne, vpu_same, vpu_ne]
end SERVES
