section PLAN
variable {s : Sto}
theorem plan_tail {g kp : Nat → Nat} {kf : Bool} {rn : Nat → Nat} {rv : Nat → Nat → Nat} {tn : Nat} {tv : Nat → Nat} (H : Inv s) (hB : IB s g kp kf rn rv tn tv) (hC : Ic s g) {a b : Nat} (ok : a ≤ 3 ∧ (a = 0 → 1 ≤ b ∧ b ≤ 12) ∧ (a = 1 → b ≤ 9) ∧ (a = 2 → b ≤ 9) ∧ (a = 3 → b ≤ 5)) (V1 V2 : Int32) (hV : V1 = iN a ∧ V2 = iN b) : ∃ x t u, fX6_add_ 17 V1 V2 (lay s) = some (x, lay t) ∧
    ((gR (lay t) 101 11 0).bind fun x97 => (aI (lay t) 0 x97 ((131 : Int32))).bind fun x103 => if x103 = (8 : Int32) then (some ((-4 : Int32), (lay t))) else ((gR (lay t) 101 11 0).bind fun x113 => (gR (lay t) 101 11 0).bind fun x121 => (aI (lay t) 0 x121 ((131 : Int32))).bind fun x127 => (sI (lay t) x113 (((132 : Int32) + ((2 : Int32) * x127))) V1).bind fun μ131 => (gR μ131 101 11 0).bind fun x133 => (gR μ131 101 11 0).bind fun x141 => (aI μ131 0 x141 ((131 : Int32))).bind fun x147 => (sI μ131 x133 ((((132 : Int32) + ((2 : Int32) * x147)) + (1 : Int32))) V2).bind fun μ153 => (gR μ153 101 11 0).bind fun x155 => (aI μ153 0 x155 ((131 : Int32))).bind fun x162 => (sI μ153 x155 ((131 : Int32)) ((x162 + (1 : Int32)))).bind fun μ165 => (gR μ165 101 11 0).bind fun x167 => (aI μ165 0 x167 ((131 : Int32))).bind fun x173 => some (x173, μ165))) = some (x, lay u) ∧ Inv u ∧ Ol 17 s t := by
  have hI := hB.1
  have o := hI.1
  have l1 := hI.2.1.2.1
  have l2 := hI.2.1.2.2.1
  have l3 := hI.2.1.2.2.2
  have g5 := o.2.2.2.2.1
  obtain ⟨rfl, rfl⟩ := hV
  have z0 : (0 : Int32) = iN 0 := rfl
  by_cases c5 : g 131 = 8
  · refine ⟨-4, s, s, ?_, ?_, H, Ol.rf⟩
    · unfold fX6_add_
      simp only [ln_c l17, ob]
      rw [c_full l17 (f := fun i => g (132 + i)) (by rw [← c5]; exact l2)]
      rfl
    · simp only [rr_101_0, ob]
      rw [show aI (lay s) 0 102 131 = some (iN (g 131)) from gi_g (k := 131) hI.2.2.1 (by omega)]
      simp only [ob]
      rw [if_pos (by rw [c5]; rfl)]
  · obtain ⟨t, t1, t2, t3⟩ := c_add l17 l2 (by omega) a b 0 0
    have hT : Rg t 102 g := Rg_congr hI.2.2.1 (t2.1 102 (by omega) (by omega))
    have q1 := Rg_set (k := 132 + 2 * g 131) (v := a) hT (by omega)
    have q2 := Rg_set (k := 132 + 2 * g 131 + 1) (v := b) q1 (by omega)
    have q5 := Rg_set (k := 131) (v := g 131 + 1) q2 (by omega)
    have w1 : ∀ y : Sto, sI (lay y) 102 (iN (132 + 2 * g 131)) (iN a) = some (lay (uI y 102 (132 + 2 * g 131) (iN a))) := fun y => si_102 (by omega)
    have w2 : ∀ y : Sto, sI (lay y) 102 (iN (132 + 2 * g 131 + 1)) (iN b) = some (lay (uI y 102 (132 + 2 * g 131 + 1) (iN b))) := fun y => si_102 (by omega)
    have w5 : ∀ y : Sto, sI (lay y) 102 131 (iN (g 131 + 1)) = some (lay (uI y 102 131 (iN (g 131 + 1)))) := fun y => si_102 (i := 131) (by omega)
    have r1 : aI (lay t) 0 102 131 = some (iN (g 131)) := gi_g (k := 131) hT (by omega)
    have r2 := gi_g q1 (k := 131) (by omega)
    rw [gs_ne (by omega)] at r2
    have r4 := gi_g q2 (k := 131) (by omega)
    rw [gs_ne (by omega), gs_ne (by omega)] at r4
    have r5 := gi_g q5 (k := 131) (by omega)
    rw [gs_same] at r5
    have n5 : ¬ (iN (g 131) = (8 : Int32)) := by rw [iN_eqL (by omega) (by omega)]; exact c5
    have L : Lo (gPlan g a b) g := fun k hk => plan_out (by omega) (by omega)
    have L2 : ∀ k, k < 131 → gPlan g a b k = g k := fun k hk => plan_out (by omega) (by omega)
    have kr := (((Krf_rI (s := t) (f := upd (t.1 102) (132 + 2 * g 131) (iN a))).tr (Krf_rI (f := upd (upd (t.1 102) (132 + 2 * g 131) (iN a)) (132 + 2 * g 131 + 1) (iN b)))))
    refine ⟨iN (g 131 + 1), t, uI (uI (uI t 102 (132 + 2 * g 131) (iN a)) 102 (132 + 2 * g 131 + 1) (iN b)) 102 131 (iN (g 131 + 1)), ?_, ?_, ?_, t2⟩
    · unfold fX6_add_
      simp only [ln_c l17, ob]
      rw [show fX6_add___ 17 (iN a) (iN b) 0 0 (lay s) = _ from t1]
      rfl
    · simp only [rr_101_0, ob, r1, if_neg n5, iN_add, iN_addL, iN_Ladd, iN_mul, iN_mulL, iN_Lmul, w1]
      rw [show aI (lay _) 0 102 131 = _ from r2]
      simp only [rr_101_0, ob, iN_add, iN_addL, iN_Ladd, iN_mul, iN_mulL, iN_Lmul, w2]
      rw [show aI (lay _) 0 102 131 = _ from r4]
      simp only [rr_101_0, ob, iN_add, iN_addL, iN_Ladd, iN_mul, iN_mulL, iN_Lmul, w5]
      rw [show aI (lay _) 0 102 131 = _ from r5]
      rfl
    · refine Inv_row (l := 17) hB (by omega) t2 (((Krf_rI).tr Krf_rI).tr Krf_rI) (g' := gPlan g a b) (OKs_rows o L (by rw [L2 _ (by omega)]; exact o.2.2.2.1) (by rw [plan_n]; omega) (by rw [plan_out (by omega) (by omega)]; exact o.2.2.2.2.2.1) (fun r hr => ?_) (fun r hr => ?_) (fun r hr => ?_)) L ?_ ?_ ?_ q5 (Ic_lo L2 o (Ic_keep (Kc_row (l := 17) (by omega) t2 (((Krf_rI).tr Krf_rI).tr Krf_rI)) hC))
      · rw [plan_out (by omega) (by omega)] at hr
        have := o.2.2.2.1
        rw [L2 _ (by omega), L2 _ (by omega), L2 _ (by omega), L2 _ (by omega)]
        exact o.2.2.2.2.2.2.1 r hr
      · rw [plan_n] at hr
        have e : ∀ k, k < 2 → gPlan g a b (132 + k + 2 * r) = if r < g 131 then g (132 + k + 2 * r) else nt4 a b 0 0 k := fun k hk => by
          rw [show 132 + k + 2 * r = 132 + (r * 2 + k) by omega, plan_in (by omega)]
          by_cases cr : r < g 131
          · rw [if_pos (by omega), if_pos cr]
          · rw [if_neg (by omega), if_neg cr, show r * 2 + k - g 131 * 2 = k by omega]
        have e0 := e 0 (by omega)
        have e1 := e 1 (by omega)
        rw [e0, e1]
        by_cases cr : r < g 131
        · simp only [if_pos cr]
          exact o.2.2.2.2.2.2.2.1 r cr
        · simp only [if_neg cr]
          exact ok
      · rw [plan_out (by omega) (by omega)] at hr
        rw [plan_out (by omega) (by omega), plan_out (by omega) (by omega), plan_out (by omega) (by omega)]
        exact o.2.2.2.2.2.2.2.2 r hr
      · have := o.2.2.2.1
        rw [L2 _ (by omega)]
        exact LI_f (LI_congr l1 (t2.1 _ (by omega) (by omega)) (t2.1 _ (by omega) (by omega))) (fun i hi => L2 _ (by omega))
      · rw [plan_n]
        exact LI_f t3 (fun i hi => plan_in hi)
      · rw [plan_out (by omega) (by omega)]
        exact LI_f (LI_congr l3 (t2.1 _ (by omega) (by omega)) (t2.1 _ (by omega) (by omega))) (fun i hi => plan_out (by omega) (by omega))
theorem Inv_clear {g kp : Nat → Nat} {kf : Bool} {rn : Nat → Nat} {rv : Nat → Nat → Nat} {tn : Nat} {tv : Nat → Nat} (hB : IB s g kp kf rn rv tn tv) (hC : Ic s g) {l B : Nat} (hl : (l = 17 ∧ B = 131) ∨ (l = 19 ∧ B = 148)) : Inv (uI (uI s l 3 0) 102 B 0) := by
  have hI := hB.1
  have o := hI.1
  have b1 := o.2.2.2.1
  have b2 := o.2.2.2.2.1
  have b3 := o.2.2.2.2.2.1
  have l1 := hI.2.1.2.1
  have l2 := hI.2.1.2.2.1
  have l3 := hI.2.1.2.2.2
  have L : Lo (gs g B 0) g := fun k hk => gs_ne (by omega)
  have L2 : ∀ k, k < 131 → gs g B 0 k = g k := fun k hk => gs_ne (by omega)
  have q : Rg (uI (uI s l 3 0) 102 B (iN 0)) 102 (gs g B 0) := Rg_set (fun k hk => by rw [rI_ne (by omega)]; exact hI.2.2.1 k hk) (by omega)
  refine Inv_row (l := l) hB (by omega) Ol_0 Krf_rI (g' := gs g B 0) (OKs_rows o L (by rw [L2 _ (by omega)]; exact b1) (by unfold gs; split <;> omega) (by unfold gs; split <;> omega) (fun r hr => ?_) (fun r hr => ?_) (fun r hr => ?_)) L ?_ ?_ ?_ q (Ic_lo L2 o (Ic_keep (Kc_row (l := l) (by omega) Ol_0 Krf_rI) hC))
  · rw [L2 _ (by omega)] at hr
    rw [L2 _ (by omega), L2 _ (by omega), L2 _ (by omega), L2 _ (by omega)]
    exact o.2.2.2.2.2.2.1 r hr
  · rcases hl with ⟨rfl, rfl⟩ | ⟨rfl, rfl⟩
    · rw [gs_same] at hr; omega
    · rw [gs_ne (by omega)] at hr
      rw [gs_ne (by omega), gs_ne (by omega)]
      exact o.2.2.2.2.2.2.2.1 r hr
  · rcases hl with ⟨rfl, rfl⟩ | ⟨rfl, rfl⟩
    · rw [gs_ne (by omega)] at hr
      rw [gs_ne (by omega), gs_ne (by omega), gs_ne (by omega)]
      exact o.2.2.2.2.2.2.2.2 r hr
    · rw [gs_same] at hr; omega
  · rw [L2 _ (by omega)]
    exact LI_f (LI_congr l1 (rI_ne (by omega)) (rI_ne (by omega))) (fun i hi => L2 _ (by omega))
  · rcases hl with ⟨rfl, rfl⟩ | ⟨rfl, rfl⟩
    · rw [gs_same]
      exact ⟨by rw [rI_same, upd_same]; rfl, fun i hi => by omega⟩
    · rw [gs_ne (by omega)]
      exact LI_f (LI_congr l2 (rI_ne (by omega)) (rI_ne (by omega))) (fun i hi => gs_ne (by omega))
  · rcases hl with ⟨rfl, rfl⟩ | ⟨rfl, rfl⟩
    · rw [gs_ne (by omega)]
      exact LI_f (LI_congr l3 (rI_ne (by omega)) (rI_ne (by omega))) (fun i hi => gs_ne (by omega))
    · rw [gs_same]
      exact ⟨by rw [rI_same, upd_same]; rfl, fun i hi => by omega⟩
end PLAN
