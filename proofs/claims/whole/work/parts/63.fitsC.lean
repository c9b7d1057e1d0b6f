section FITSC
variable {s : Sto} {g : Nat → Nat}
theorem mnI_min {a b : Nat} (ha : a < 2147483648) (hb : b < 2147483648) : mnI (iN a) (iN b) = iN (min a b) := by
  unfold mnI
  by_cases c : b < a
  · rw [if_pos (by rw [iN_lt (by omega) (by omega)]; exact c), Nat.min_eq_right (by omega)]
  · rw [if_neg (by rw [iN_lt (by omega) (by omega)]; exact c), Nat.min_eq_left (by omega)]
theorem fit_none {r : Nat} (hr : r < g 110) (h : ¬ (g (111 + 4 * r) < g 1 ∧ g (112 + 4 * r) ≤ g 0)) : ∀ n, fitS g n = (0, -5)
  | 0 => rfl
  | n + 1 => by
    unfold fitS
    rw [if_neg, fit_none hr h n]
    intro hs
    have := seen_all _ hs r hr
    rw [lfB_iff] at this
    exact h ⟨this.1, this.2.1⟩
theorem c_fits37 {G : Int32 → Mem → Option (Unit × Mem)} (hb : Bs 2) (hg : OKs g) (hc : RB s 2 g) (l1 : LI s 15 4 (g 110) (fun i => g (111 + i))) : ∀ n k e, g 110 - k < n → k ≤ g 110 → e ≤ g 1 → (∀ r, r < k → g (111 + 4 * r) < g 1 ∧ g (112 + 4 * r) ≤ g 0 ∧ e ≤ g (111 + 4 * r)) → (X10_findFits_L37 G 0 n (iN e) (iN k) (lay s) = some ((), lay s) ∧ ∀ n, fitS g n = (0, -5)) ∨ ∃ e', e' ≤ g 1 ∧ X10_findFits_L37 G 0 n (iN e) (iN k) (lay s) = G (iN e') (lay s) ∧ ∀ r, r < g 110 → g (111 + 4 * r) < g 1 ∧ g (112 + 4 * r) ≤ g 0 ∧ e' ≤ g (111 + 4 * r) := by
  have b5 := hg.2.2.2.1
  have b := hg.1.1
  intro n
  induction n with
  | zero => intro k e h1; omega
  | succ n ih =>
    intro k e h1 h2 he hA
    rw [X10_findFits_L37]
    simp only [rr_0_0, rr_1_1, rr_1_0, ob, ln_g3 l15, l1.1]
    simp (disch := first | assumption | omega) only [iN_le]
    by_cases c : g 110 ≤ k
    · rw [if_pos c]
      exact Or.inr ⟨e, he, rfl, fun r hr => hA r (by omega)⟩
    · rw [if_neg c]
      have hk : k < g 110 := by omega
      have hr := hg.2.2.2.2.2.2.1 k hk
      have at4 : ∀ j, j < 4 → fX6_at 15 (iN k) (iN j) (lay s) = some (iN (g (111 + j + 4 * k)), lay s) := fun j hj => by
        have := c_at l15 l1 (by omega) hk (j := j) hj
        simp only [show 111 + (k * 4 + j) = 111 + j + 4 * k by omega] at this
        exact this
      have a0 : fX6_at 15 (iN k) 0 (lay s) = some (iN (g (111 + 4 * k)), lay s) := at4 0 (by omega)
      have a1 : fX6_at 15 (iN k) 1 (lay s) = some (iN (g (112 + 4 * k)), lay s) := at4 1 (by omega)
      have e1 : ((0 ≤ iN (g (111 + 4 * k)) ∧ iN (g (111 + 4 * k)) < iN (g 1)) ∧ 0 ≤ iN (g (112 + 4 * k)) ∧ iN (g (112 + 4 * k)) ≤ iN (g 0)) = (g (111 + 4 * k) < g 1 ∧ g (112 + 4 * k) ≤ g 0) := by
        rw [iN_Lle (by omega) (by omega), iN_lt (by omega) (by omega), iN_Lle (by omega) (by omega), iN_le (by omega) (by omega)]
        exact propext ⟨fun h => ⟨h.1.2, h.2.2⟩, fun h => ⟨⟨Nat.zero_le _, h.1⟩, Nat.zero_le _, h.2⟩⟩
      simp only [ln_c l15, ob, a0, a1, bd_s, rr_0_0, rr_1_1, bs_c hb, c_isAhead hb hg.1 hc.1, e1]
      by_cases d : g (111 + 4 * k) < g 1 ∧ g (112 + 4 * k) ≤ g 0
      · simp only [tI_pos d, i10, if_false, rr_0_0, rr_1_1, ob, ln_c l15, a0, bd_s, iN_addL]
        rw [mnI_min (by omega) (by omega)]
        refine ih (k + 1) (min e (g (111 + 4 * k))) (by omega) (by omega) (by omega) (fun r hr => ?_)
        by_cases cr : r = k
        · subst cr
          exact ⟨d.1, d.2, by omega⟩
        · have := hA r (by omega)
          exact ⟨this.1, this.2.1, by omega⟩
      · simp only [tI_neg d, i00, if_true]
        exact Or.inl ⟨trivial, fit_none hk d⟩
/-- what follows once the earliest month is known -/
def fitG : Int32 → Mem → Option (Unit × Mem) := fun v1_112 μ_112 => (gR μ_112 0 10 3).bind fun x113 => (gR μ_112 0 10 0).bind fun x117 => (gR μ_112 x117 8 0).bind fun x120 => (isC μ_112 x113 0).bind fun _ => bd (fX0_copyFrom x113 x120 μ_112) fun _ μ123 => (gR μ123 0 10 5).bind fun x127 => (gR μ123 0 10 3).bind fun x131 => (isC μ123 x127 1).bind fun _ => bd (fX1_fillGains x127 x131 v1_112 μ123) fun _ μ135 => X10_findFits_L141 (fun μ_197 => some ((), μ_197)) 0 v1_112 FU ((20 : Int32)) μ135
theorem c_findFits (hg : OKs g) (hc : RB s 2 g) (l1 : LI s 15 4 (g 110) (fun i => g (111 + i))) (hC : Ic s g) : ∃ t, fX10_findFits 0 (lay s) = some ((), lay t) ∧ Kf s t ∧ t.1 0 8 = iN (fitS g 21).1 ∧ t.1 0 9 = iZ (fitS g 21).2 ∧ Ic t g := by
  have hb : Bs 2 := Or.inl rfl
  have b := hg.1.1
  have b5 := hg.2.2.2.1
  rcases hC.2 with h7 | ⟨h7, h8, h9⟩
  · have kz : Kf s (uI (uI (uI s 0 7 1) 0 8 0) 0 9 (-5)) := ((Kf_0 (by omega)).tr (Kf_0 (by omega))).tr (Kf_0 (by omega))
    have z7 : (uI (uI (uI s 0 7 1) 0 8 0) 0 9 (-5)).1 0 7 = 1 := by simp (disch := first | assumption | omega) only [rI_same, rI_ne, rF_same, rF_ne, rJ_same, rJ_ne, rI_2, rF_1, rF_22, rJ_1, rJ_21, rJ_222, rI_rI, rF_rF, rJ_rJ, upd_same, upd_ne, vfu_same, vfu_ne, vpu_same, vpu_ne]
    have z8 : (uI (uI (uI s 0 7 1) 0 8 0) 0 9 (-5)).1 0 8 = 0 := by simp (disch := first | assumption | omega) only [rI_same, rI_ne, rF_same, rF_ne, rJ_same, rJ_ne, rI_2, rF_1, rF_22, rJ_1, rJ_21, rJ_222, rI_rI, rF_rF, rJ_rJ, upd_same, upd_ne, vfu_same, vfu_ne, vpu_same, vpu_ne]
    have z9 : (uI (uI (uI s 0 7 1) 0 8 0) 0 9 (-5)).1 0 9 = -5 := by simp (disch := first | assumption | omega) only [rI_same, rI_ne, rF_same, rF_ne, rJ_same, rJ_ne, rI_2, rF_1, rF_22, rJ_1, rJ_21, rJ_222, rI_rI, rF_rF, rJ_rJ, upd_same, upd_ne, vfu_same, vfu_ne, vpu_same, vpu_ne]
    have k0 : fX10_findFits 0 (lay s) = X10_findFits_L37 fitG 0 FU (iN (g 1)) 0 (lay (uI (uI (uI s 0 7 1) 0 8 0) 0 9 (-5))) := by
      unfold fX10_findFits fitG
      have g1 : (uI (uI (uI s 0 7 1) 0 8 0) 0 9 (-5)).1 2 1 = iN (g 1) := by rw [kz.1 2 (by omega) (by omega)]; exact hc.1.1.2.1
      simp only [gi_0_7, h7, ob, if_true, pZ1_lay (s := s) (p := 0) (ci := 10) (k := 7) rfl, pi_0_8, pi_0_9, rr_0_0, rr_1_0, bs_g1 hb, g1]
    generalize hz : uI (uI (uI s 0 7 1) 0 8 0) 0 9 (-5) = z at *
    have hcz : RB z 2 g := RB_congr hc hg.m (fun q h1 h2 => kz.1 q (by omega) (by omega))
    have hlz := LI_congr l1 (kz.1 15 (by omega) (by omega)) (kz.1 16 (by omega) (by omega))
    have ic : ∀ t, Kf z t → t.1 0 7 = 1 → t.1 0 8 = iN (fitS g 21).1 → t.1 0 9 = iZ (fitS g 21).2 → Ic t g := fun t ht a1 a2 a3 => by
      have k := kz.tr ht
      refine ⟨?_, Or.inr ⟨a1, a2, a3⟩⟩
      rw [k.2.1 6 (by omega), k.1 57 (by omega) (by omega), k.1 58 (by omega) (by omega), k.2.2.1 55 (by omega) (by omega), k.2.2.1 56 (by omega) (by omega)]
      exact hC.1
    rcases c_fits37 (s := z) (G := fitG) hb hg hcz hlz FU 0 (g 1) (by unfold FU; omega) (by omega) (Nat.le_refl _) (fun r hr => by omega) with ⟨q1, q2⟩ | ⟨e, q1, q2, q3⟩
    · have a2 : z.1 0 8 = iN (fitS g 21).1 := by rw [q2 21]; exact z8
      have a3 : z.1 0 9 = iZ (fitS g 21).2 := by rw [q2 21]; exact z9
      exact ⟨z, k0.trans q1, kz, a2, a3, ic z Kf.rf z7 a2 a3⟩
    · have hb4 : Bs 41 := Or.inr (Or.inr rfl)
      have hw : Rw 59 := Or.inr rfl
      obtain ⟨t, t1, t2, t3⟩ := c_bcopy (s := z) hb4 hb (by omega)
      have hB4 := t3 g hg.m hcz
      obtain ⟨fg, f1, f2⟩ := c_fillGains hb4 hw hg.1 hB4 (f := e) q1
      have e3 : gs g 3 (g 3) = g := funext fun j => by
        by_cases c : j = 3
        · rw [c, gs_same]
        · rw [gs_ne c]
      have kt : Kf z (rI t 63 fg) := (Kf_Of t2).tr (Kf_rI (by omega))
      have t0 : (rI t 63 fg).1 0 = z.1 0 := by rw [rI_ne (by omega), t2.1 0 (by omega)]
      obtain ⟨u, u1, u2, u3, u4, u5⟩ := c_fitsL hg q1 q3 FU 0 (g 3) (rI t 63 fg) (by unfold FU; omega) (by omega) (by rw [e3]; exact RB_rI hB4 (by omega) (by omega)) (by rw [e3, rI_same]; exact f2) (LI_congr hlz (kt.1 15 (by omega) (by omega)) (kt.1 16 (by omega) (by omega))) (by rw [t0]; exact z7) (by rw [t0]; exact z8) (by rw [t0]; exact z9)
      refine ⟨u, ?_, kz.tr (kt.tr u2), u4, u5, ic u (kt.tr u2) u3 u4 u5⟩
      rw [k0]
      refine q2.trans ?_
      unfold fitG
      simp only [rr_0_3, rr_0_0, rr_1_0, ob, bs_c hb4]
      rw [t1]
      simp only [bd_s, rr_0_5, rr_0_3, ob, rw_c hw]
      rw [f1]
      simp only [bd_s]
      rw [show (20 : Int32) = iZ ((20 : Int) - ((0 : Nat) : Int)) by decide]
      exact u1
  · refine ⟨s, ?_, Kf.rf, h8, h9, hC⟩
    unfold fX10_findFits
    simp only [gi_0_7, h7, ob, i10, if_false]
theorem k_fits (H : Inv s) (v1 : Int32) : Alike s (fX10_fits 0 v1) (fX11_fits 101 v1) := by
  have H0 := H
  obtain ⟨g, kp, kf, rn, rv, tn, tv, hB, hC⟩ := H0
  have hI := hB.1
  have hg := hI.1.1
  have b1 := hg.1
  have hR := RR_of hI
  have hc := hI.2.1.1
  have hb : Bs 2 := Or.inl rfl
  have o := hI.1
  by_cases c1 : 0 ≤ v1 ∧ v1 ≤ (1 : Int32)
  · obtain ⟨v, rfl, hv⟩ := rng (k := 1) c1 (by omega)
    obtain ⟨t, t1, t2, t3, t4, t5⟩ := c_findFits o hc hI.2.1.2.1 hC
    have hBt := IB_keep t2.b hB
    obtain ⟨u, u1, u2⟩ := r_fits o hBt.1.2.2.1 hBt.1.2.2.2 hv
    refine ⟨if v = 0 then iN (fitS g 21).1 else iZ (fitS g 21).2, t, u, ?_, u1, Inv_of hBt (Kb_Fx u2) (Ic_keep (Kc_Fx u2) t5)⟩
    unfold fX10_fits
    simp only [c_within, tI_pos c1, bd_s, i10, if_false, oc_0, ob]
    rw [t1]
    simp only [bd_s, gi_0_8, gi_0_9, ob, t3, t4]
    simp (disch := first | assumption | omega) only [iN_eqL]
    by_cases c : v = 0
    · rw [if_pos c, if_pos c]
    · rw [if_neg c, if_neg c]
  · refine Alike_same (a := -1) ?_ ?_ H
    · unfold fX10_fits
      simp only [c_within, tI_neg c1, bd_s, i00, if_true]
    · unfold fX11_fits
      rw [r_in]
      simp (disch := first | assumption | omega) only [lit64_le, le_lit64, le_64, tI_neg c1, bd_s, i00, if_true]
end FITSC
