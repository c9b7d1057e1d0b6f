/-! ===== a demand goes; three parts at once ===== -/
section OPSD
variable {s t : Sto} {g : Nat → Nat}
/-- demand d is none any more -/
def dpS (g : Nat → Nat) (d : Nat) : Nat → Nat := fun j => if j = 73 then g 73 - 1 else if 74 + 6 * d ≤ j ∧ j < 74 + 6 * (g 73 - 1) then g (j + 6) else g j
def opDro (g : Nat → Nat) (u : Int32) : Int32 × (Nat → Nat) := if 0 ≤ u ∧ u < iN (g 73) then (iN (g 73 - 1), dpS g (nz u)) else (-1, g)
theorem dp_low {d j : Nat} (h : j < 73 ∨ 74 + 6 * (g 73 - 1) ≤ j) : dpS g d j = g j := by
  unfold dpS
  rw [if_neg (by omega), if_neg (by omega)]
theorem dp_73 {d : Nat} : dpS g d 73 = g 73 - 1 := if_pos rfl
theorem dp_dF {d e f : Nat} (he : e < g 73 - 1) (hf : f < 6) : dF (dpS g d) e f = if d ≤ e then dF g (e + 1) f else dF g e f := by
  unfold dF dpS
  rw [if_neg (by omega)]
  by_cases c : d ≤ e
  · rw [if_pos c, if_pos (by omega), show 74 + 6 * e + f + 6 = 74 + 6 * (e + 1) + f by omega]
  · rw [if_neg c, if_neg (by omega)]
theorem ok_dp {d : Nat} (hg : OKs g) (hd : d < g 73) : OKs (dpS g d) ∧ ∀ j, 110 ≤ j → dpS g d j = g j := by
  obtain ⟨⟨h1, h2, h3, h4, h5, h6, h7⟩, i2, i3, i4, i5, i6, i7, i8, i9⟩ := hg
  have L : ∀ j, j < 73 ∨ 110 ≤ j → dpS g d j = g j := fun j hj => dp_low (by omega)
  refine ⟨⟨⟨?_, fun a ha => ?_, fun a ha => ?_, fun a ha => ?_, fun a ha => ?_, fun a ha => ?_, fun e he => ?_⟩, ?_, fun a ha => ?_, ?_, ?_, ?_, fun a ha => ?_, fun a ha => ?_, fun a ha => ?_⟩, fun j hj => L j (by omega)⟩
  · rw [L 0 (by omega), L 1 (by omega), L 2 (by omega), L 3 (by omega), dp_73]
    omega
  · rw [L _ (by omega)]; exact h2 a ha
  · rw [L _ (by omega)]; exact h3 a ha
  · unfold partsS partS
    rw [L _ (by omega), L _ (by omega), L _ (by omega)]
    exact h4 a ha
  · rw [L _ (by omega)]; exact h5 a ha
  · rw [L _ (by omega)]; exact h6 a ha
  · rw [dp_73] at he
    rw [dp_dF he (by omega), dp_dF he (by omega), dp_dF he (by omega), dp_dF he (by omega), dp_dF he (by omega), dp_dF he (by omega)]
    by_cases c : d ≤ e
    · simp only [if_pos c]
      exact h7 (e + 1) (by omega)
    · simp only [if_neg c]
      exact h7 e (by omega)
  · rw [L 0 (by omega)]; exact i2
  · rw [L _ (by omega)]; exact i3 a ha
  · rw [L _ (by omega)]; exact i4
  · rw [L _ (by omega)]; exact i5
  · rw [L _ (by omega)]; exact i6
  · rw [L 110 (by omega)] at ha
    rw [L _ (by omega), L _ (by omega), L _ (by omega), L _ (by omega)]
    exact i7 a ha
  · rw [L 131 (by omega)] at ha
    rw [L _ (by omega), L _ (by omega)]
    exact i8 a ha
  · rw [L 148 (by omega)] at ha
    rw [L _ (by omega), L _ (by omega), L _ (by omega)]
    exact i9 a ha
theorem ok_dro {u : Int32} (hg : OKs g) : Ok2 g (opDro g u) := by
  have b1 := hg.1.1
  unfold opDro
  by_cases c1 : 0 ≤ u ∧ u < iN (g 73)
  · rw [if_pos c1]
    obtain ⟨d, rfl, hd⟩ := rnl c1 (by omega)
    rw [nz_iN (by omega)]
    exact ok_dp hg hd
  · rw [if_neg c1]
    exact Ok2_no hg
/-- a demand's fields come from another place -/
theorem c_dcopy {p q : Nat} {d e : Nat} (hp : Bs p) (hq : Bs q) (hd : d < 6) (he : e < 6) (hne : p + 7 + d ≠ q + 7 + e) : ∃ F, fX5_copyFrom (p + 7 + d) (q + 7 + e) (lay s) = some ((), lay (rI s (p + 7 + d) F)) ∧ ∀ f, f < 6 → F f = s.1 (q + 7 + e) f := by
  refine ⟨upd (upd (upd (upd (upd (upd (s.1 (p + 7 + d)) 0 (s.1 (q + 7 + e) 0)) 1 (s.1 (q + 7 + e) 1)) 2 (s.1 (q + 7 + e) 2)) 3 (s.1 (q + 7 + e) 3)) 4 (s.1 (q + 7 + e) 4)) 5 (s.1 (q + 7 + e) 5), ?_, fun f hf => ?_⟩
  · unfold fX5_copyFrom
    have hne' : q + 7 + e ≠ p + 7 + d := fun h => hne h.symm
    simp (disch := first | assumption | omega) only [bs_gd hq he, bs_pd hp hd, ob, rI_same, rI_ne, rF_same, rF_ne, rJ_same, rJ_ne, rI_2, rF_1, rF_22, rJ_1, rJ_21, rJ_222, rI_rI, rF_rF, rJ_rJ, upd_same, upd_ne, vfu_same, vfu_ne, vpu_same, vpu_ne]
  · rcases (show f = 0 ∨ f = 1 ∨ f = 2 ∨ f = 3 ∨ f = 4 ∨ f = 5 by omega) with rfl | rfl | rfl | rfl | rfl | rfl <;> simp (disch := first | assumption | omega) only [rI_same, rI_ne, rF_same, rF_ne, rJ_same, rJ_ne, rI_2, rF_1, rF_22, rJ_1, rJ_21, rJ_222, rI_rI, rF_rF, rJ_rJ, upd_same, upd_ne, vfu_same, vfu_ne, vpu_same, vpu_ne]
theorem c_remL {G : Mem → Option (Int32 × Mem)} {d : Nat} (hg : OKg g) (hd : d < g 73) : ∀ (n k : Nat) (t : Sto), g 73 - k < n → d ≤ k → k ≤ g 73 - 1 → t.1 2 10 = iN (g 73) → (∀ e f, e < g 73 → f < 6 → t.1 (9 + e) f = iN (if d ≤ e ∧ e < k then dF g (e + 1) f else dF g e f)) → ∃ u, X0_removeDemand_L12 G 2 n (iN k) (lay t) = G (lay u) ∧ (∀ q, q < 9 ∨ 14 < q → u.1 q = t.1 q) ∧ u.2 = t.2 ∧ (∀ e f, e < g 73 - 1 → f < 6 → u.1 (9 + e) f = iN (if d ≤ e then dF g (e + 1) f else dF g e f)) := by
  intro n
  have b1 := hg.1
  have hb : Bs 2 := Or.inl rfl
  induction n with
  | zero => intro k t h1; omega
  | succ n ih =>
    intro k t h1 h2 h3 h4 h5
    rw [X0_removeDemand_L12]
    simp only [bs_g10 hb, ob, h4]
    rw [iN_subL (by omega)]
    simp (disch := first | assumption | omega) only [iN_le]
    by_cases c1 : g 73 - 1 ≤ k
    · rw [if_pos c1]
      refine ⟨t, rfl, fun _ _ => rfl, rfl, fun e f he hf => ?_⟩
      rw [h5 e f (by omega) hf]
      by_cases c : d ≤ e
      · rw [if_pos ⟨c, by omega⟩, if_pos c]
      · rw [if_neg (fun h => c h.1), if_neg c]
    · rw [if_neg c1]
      have k6 : k < 6 := by omega
      have k7 : k + 1 < 6 := by omega
      simp only [bs_r8 hb, ob, bs_d hb k6, iN_add, iN_addL, iN_Ladd, iN_mul, iN_mulL, iN_Lmul, bs_d hb k7, bs_cd hb k6]
      obtain ⟨F, q1, q2⟩ := c_dcopy (s := t) hb hb k6 k7 (by omega)
      rw [q1]
      simp only [bd_s]
      obtain ⟨u, u1, u2, u3, u4⟩ := ih (k + 1) (rI t (2 + 7 + k) F) (by omega) (by omega) (by omega) (by rw [rI_ne (by omega)]; exact h4) (fun e f he hf => by
        by_cases c : e = k
        · subst c
          rw [show 9 + e = 2 + 7 + e by omega, rI_same, q2 f hf, show 2 + 7 + (e + 1) = 9 + (e + 1) by omega, h5 (e + 1) f (by omega) hf, if_neg (by omega), if_pos (by omega)]
        · rw [rI_ne (by omega), h5 e f he hf]
          by_cases c2 : d ≤ e ∧ e < k
          · rw [if_pos c2, if_pos (by omega)]
          · rw [if_neg c2, if_neg (by omega)])
      exact ⟨u, u1, fun q hq => by rw [u2 q hq, rI_ne (by omega)], by rw [u3, rI_2], u4⟩
theorem co_dro (hs : OKs g) (h : RB s 2 g) (u : Int32) : CO s (fX0_removeDemand 2 u) (opDro g u) := by
  have hg := hs.1
  have b1 := hg.1
  have hb : Bs 2 := Or.inl rfl
  unfold opDro
  by_cases c1 : 0 ≤ u ∧ u < iN (g 73)
  · rw [if_pos c1]
    obtain ⟨d, rfl, hd⟩ := rnl c1 (by omega)
    rw [nz_iN (by omega)]
    obtain ⟨v, v1, v2, v3, v4⟩ := c_remL (G := fun μ_45 => (gI μ_45 2 0 10).bind fun x47 => (pV μ_45 2 0 10 (.int ((x47 - (1 : Int32))))).bind fun μ52 => (isC μ52 2 0).bind fun _ => bd (fX0_sortByRank 2 μ52) fun _ μ56 => (gI μ56 2 0 10).bind fun x60 => some (x60, μ56)) hg hd FU d s (by unfold FU; omega) (Nat.le_refl _) (by omega) h.1.1.2.2.2.2 (fun e f he hf => by
      rw [if_neg (by omega), show 9 + e = 2 + 7 + e by omega]
      exact c_dF h.1 he hf)
    have hv10 : v.1 2 10 = iN (g 73) := by rw [v2 2 (by omega)]; exact h.1.1.2.2.2.2
    have hS : RC (uI v 2 10 (iN (g 73 - 1))) 2 (dpS g d) := by
      obtain ⟨⟨h0, h1, h2, h3, h10⟩, i1, i2, i3, i4, i5⟩ := h.1
      have L : ∀ j, j < 73 → dpS g d j = g j := fun j hj => dp_low (by omega)
      have F2 : ∀ j, j ≠ 10 → (uI v 2 10 (iN (g 73 - 1))).1 2 j = s.1 2 j := fun j hj => by rw [rI_same, upd_ne hj, v2 2 (by omega)]
      refine ⟨⟨?_, ?_, ?_, ?_, ?_⟩, fun a ha => ?_, fun a ha => ?_, fun a ha => ?_, fun a ha => ?_, fun e q he hq => ?_⟩
      · rw [F2 _ (by omega), L 0 (by omega)]; exact h0
      · rw [F2 _ (by omega), L 1 (by omega)]; exact h1
      · rw [F2 _ (by omega), L 2 (by omega)]; exact h2
      · rw [F2 _ (by omega), L 3 (by omega)]; exact h3
      · rw [rI_same, upd_same, dp_73]
      · rw [rI_ne (by omega), v2 _ (by omega), L _ (by omega)]; exact i1 a ha
      · rw [rI_ne (by omega), v2 _ (by omega), L _ (by omega)]; exact i2 a ha
      · rw [rI_ne (by omega), v2 _ (by omega), L _ (by omega)]; exact i3 a ha
      · rw [rI_ne (by omega), v2 _ (by omega), L _ (by omega)]; exact i4 a ha
      · rw [dp_73] at he
        rw [rI_ne (by omega), show 2 + 7 + e = 9 + e by omega, v4 e q he hq, dp_dF he hq]
    obtain ⟨F, q1, q2⟩ := c_sort hb (ok_dp hs hd).1.1 hS
    have kv : Kcl s v := ⟨fun q hq => v2 q (by omega), v3⟩
    refine ⟨_, ?_, q2, kv.tr ((Kcl_rI (by omega)).tr (Kcl_rI (by omega)))⟩
    unfold fX0_removeDemand
    simp only [bs_c hb, ob, c_hasDemand hb hg h.1, tI_pos c1, bd_s, i10, if_false]
    rw [v1]
    simp only [bs_g10 hb, ob, hv10]
    rw [iN_subL (by omega), bs_p10 hb]
    simp only [ob, bs_c hb]
    rw [q1]
    simp only [bd_s, bs_g10 hb, ob]
    have e73 : (rI (uI v 2 10 (iN (g 73 - 1))) (2 + 6) F).1 2 10 = iN (g 73 - 1) := by
      rw [rI_ne (by omega), rI_same, upd_same]
    rw [e73]
  · rw [if_neg c1]
    refine CO_no h ?_
    unfold fX0_removeDemand
    simp only [bs_c hb, ob, c_hasDemand hb hg h.1, tI_neg c1, bd_s, i00, if_true]
theorem r_droL {G : Mem → Option (Int32 × Mem)} {d : Nat} (hg : OKg g) (hd : d < g 73) : ∀ (n k : Nat) (F : Nat → Int32), 200 - k < n → 74 + 6 * d ≤ k → k ≤ 74 + 6 * (g 73 - 1) → F 73 = iN (g 73 - 1) → (∀ j, j < 173 → j ≠ 73 → F j = iN (if 74 + 6 * d ≤ j ∧ j < k then g (j + 6) else g j)) → ∃ F', X11_drop_L29 G 101 n (iN k) (lay (rI s 102 F)) = G (lay (rI s 102 F')) ∧ F' 73 = iN (g 73 - 1) ∧ (∀ j, j < 173 → j ≠ 73 → F' j = iN (if 74 + 6 * d ≤ j ∧ j < 74 + 6 * (g 73 - 1) then g (j + 6) else g j)) := by
  intro n
  have b1 := hg.1
  induction n with
  | zero => intro k F h1; omega
  | succ n ih =>
    intro k F h1 h2 h3 h4 h5
    rw [X11_drop_L29]
    have e1 : aI (lay (rI s 102 F)) 0 102 73 = some (iN (g 73 - 1)) := by
      rw [show (73 : Int32) = iN 73 from rfl, ai_102 (by omega), rI_same, h4]
    simp (disch := first | assumption | omega) only [rr_101_0, ob, e1, iN_add, iN_addL, iN_Ladd, iN_mul, iN_mulL, iN_Lmul, iN_le]
    by_cases c1 : 74 + 6 * (g 73 - 1) ≤ k
    · rw [if_pos c1]
      have : k = 74 + 6 * (g 73 - 1) := by omega
      subst this
      exact ⟨F, rfl, h4, h5⟩
    · rw [if_neg c1]
      simp (disch := first | assumption | omega) only [ai_102, si_102, ob, rI_same, rI_ne, rF_same, rF_ne, rJ_same, rJ_ne, rI_2, rF_1, rF_22, rJ_1, rJ_21, rJ_222, rI_rI, rF_rF, rJ_rJ, upd_same, upd_ne, vfu_same, vfu_ne, vpu_same, vpu_ne]
      refine ih (k + 1) _ (by omega) (by omega) (by omega) (by rw [upd_ne (by omega)]; exact h4) (fun j hj hj2 => ?_)
      by_cases c : j = k
      · subst c
        rw [upd_same, h5 (j + 6) (by omega) (by omega), if_neg (by omega), if_pos (by omega)]
      · rw [upd_ne c, h5 j hj hj2]
        by_cases c2 : 74 + 6 * d ≤ j ∧ j < k
        · rw [if_pos c2, if_pos (by omega)]
        · rw [if_neg c2, if_neg (by omega)]
theorem ro_dro (hg : OKg g) (hR : RR s g (fun _ => false)) (h : Rg s 102 g) (u : Int32) : RO s (fX11_drop 101 u) (opDro g u) := by
  have b1 := hg.1
  unfold opDro
  by_cases c1 : 0 ≤ u ∧ u < iN (g 73)
  · rw [if_pos c1]
    obtain ⟨d, rfl, hd⟩ := rnl c1 (by omega)
    rw [nz_iN (by omega)]
    obtain ⟨F, q1, q2, q3⟩ := r_droL (s := s) (G := fun μ_67 => (gR μ_67 101 11 0).bind fun x68 => (aI μ_67 0 x68 ((73 : Int32))).bind fun x73 => some (x73, μ_67)) hg hd FU (74 + 6 * d) (upd (s.1 102) 73 (iN (g 73 - 1))) (by unfold FU; omega) (Nat.le_refl _) (by omega) upd_same (fun j hj hj2 => by
      rw [upd_ne hj2, if_neg (by omega)]
      exact h j hj)
    refine ⟨rI s 102 F, ?_, ?_, Krf_rI⟩
    · unfold fX11_drop
      simp only [oc_101, ob, r_isDemand hR hg, tI_pos c1, bd_s, i10, if_false, rr_101_0]
      have e1 : aI (lay s) 0 102 73 = some (iN (g 73)) := gi_g h (k := 73) (by omega)
      have e2 : ∀ x, sI (lay s) 102 73 x = some (lay (uI s 102 73 x)) := fun x => si_102 (i := 73) (by omega)
      simp only [e1, ob, e2, iN_add, iN_addL, iN_Ladd, iN_mul, iN_mulL, iN_Lmul]
      rw [iN_subL (by omega), q1]
      have e3 : aI (lay (rI s 102 F)) 0 102 73 = some (iN (g 73 - 1)) := by
        rw [show (73 : Int32) = iN 73 from rfl, ai_102 (by omega), rI_same, q2]
      simp only [rr_101_0, ob, e3]
    · intro j hj
      rw [rI_same]
      show F j = iN (dpS g d j)
      unfold dpS
      by_cases c : j = 73
      · rw [if_pos c, c, q2]
      · rw [if_neg c, q3 j hj c]
  · rw [if_neg c1]
    refine RO_no h ?_
    unfold fX11_drop
    simp only [oc_101, ob, r_isDemand hR hg, tI_neg c1, bd_s, i00, if_true]
end OPSD
/-! ===== the calls ===== -/
section CALLC
variable {s : Sto}
theorem Inv_op {g g' kp : Nat → Nat} {kf : Bool} {rn : Nat → Nat} {rv : Nat → Nat → Nat} {tn : Nat} {tv : Nat → Nat} {u t1 t2 : Sto} (h : IB u g kp kf rn rv tn tv) (u6 : u.1 0 6 = 0) (u7 : u.1 0 7 = 0) (k1 : Kcl u t1) (k2 : Krf t1 t2) (hc : RB t1 2 g') (hr : Rg t2 102 g') (ho : OKs g' ∧ ∀ j, 110 ≤ j → g' j = g j) : Inv t2 := by
  have e : ∀ q, q < 2 ∨ 14 < q → q ≠ 102 → t2.1 q = u.1 q := fun q h1 h2 => by rw [k2.1 q h2, k1.1 q h1]
  have e2 : t2.2 = u.2 := k2.2.trans k1.2
  refine ⟨g', kp, kf, rn, rv, tn, tv, IB_new ⟨fun q hq => e q (by omega) (by omega), by rw [e 0 (by omega) (by omega)], fun k _ => by rw [e 101 (by omega) (by omega)], by rw [e2], fun ht => by unfold Tw at *; rw [e2]; exact ht⟩ h ⟨ho.1, ?_, hr, ?_⟩, Ic_none (by rw [e 0 (by omega) (by omega)]; exact u6) (by rw [e 0 (by omega) (by omega)]; exact u7)⟩
  · refine RS_low (s := u) h.1.2.1 ?_ (fun q h1 h2 => e q (by omega) (by omega)) ho.2
    exact RB_congr hc ho.1.m (fun q h1 h2 => k2.1 q (by omega))
  · rw [e 101 (by omega) (by omega)]
    exact h.1.2.2.2
/-- class and reference side by side, what was found forgotten first -/
theorem Alike_op {f r : Mem → Option (Int32 × Mem)} {c : Mem → Option (Int32 × Mem)} (H : Inv s) (hf : ∀ (u t : Sto) (a : Int32), u = uI (uI s 0 6 0) 0 7 0 → c (lay u) = some (a, lay t) → f (lay s) = some (a, lay t)) (o : (Nat → Nat) → Int32 × (Nat → Nat)) (hc : ∀ (u : Sto) (g : Nat → Nat), OKs g → RB u 2 g → CO u c (o g)) (hr : ∀ (u : Sto) (g : Nat → Nat), OKs g → RR u g (fun _ => false) → Rg u 102 g → RO u r (o g)) (ho : ∀ g, OKs g → Ok2 g (o g)) : Alike s f r := by
  obtain ⟨g, kp, kf, rn, rv, tn, tv, hB, hC⟩ := H
  have hB1 := IB_keep (t := uI (uI s 0 6 0) 0 7 0) Kb_forget hB
  obtain ⟨t1, a1, a2, a3⟩ := hc _ g hB1.1.1 hB1.1.2.1.1
  have hg1 : Rg t1 102 g := Rg_congr hB1.1.2.2.1 (a3.1 102 (by omega))
  have hR1 : RR t1 g (fun _ => false) := RR_congr (RR_of hB1.1) (a3.1 102 (by omega)) (by rw [a3.1 101 (by omega)])
  obtain ⟨t2, b1, b2, b3⟩ := hr t1 g hB1.1.1 hR1 hg1
  exact ⟨(o g).1, t1, t2, hf _ t1 _ rfl a1, b1, Inv_op hB1 forget_0.1 forget_0.2 a3 b3 a2 b2 (ho g hB1.1.1)⟩
theorem k_put (H : Inv s) (u v : Int32) : Alike s (fX10_put 0 u v) (fX11_put 101 u v) :=
  Alike_op (c := fX0_changeSetting 2 u v) H (fun w t a hw e => by
    subst hw
    unfold fX10_put
    simp only [oc_0, ob, c_forget, bd_s, rr_0_0, rr_1_0, bs_c (p := 2) (Or.inl rfl)]
    rw [e]
    rfl) (fun g => opPut g u v) (fun w g hg h => co_put hg.1 h u v) (fun w g hg hR h => ro_put h u v) (fun g hg => ok_put hg)
theorem k_inflow (H : Inv s) (u v w : Int32) : Alike s (fX10_inflow 0 u v w) (fX11_inflow 101 u v w) :=
  Alike_op (c := fX0_changeInflow 2 u v w) H (fun w' t a hw e => by
    subst hw
    unfold fX10_inflow
    simp only [oc_0, ob, c_forget, bd_s, rr_0_0, rr_1_0, bs_c (p := 2) (Or.inl rfl)]
    rw [e]
    rfl) (fun g => opInf g u v w) (fun _ g hg h => co_inf hg.1 h u v w) (fun _ g hg hR h => ro_inf h u v w) (fun g hg => ok_inf hg)
theorem k_part (H : Inv s) (u v w : Int32) : Alike s (fX10_part 0 u v w) (fX11_part_ 101 u v w) :=
  Alike_op (c := fX0_changePart 2 u v w) H (fun w' t a hw e => by
    subst hw
    unfold fX10_part
    simp only [oc_0, ob, c_forget, bd_s, rr_0_0, rr_1_0, bs_c (p := 2) (Or.inl rfl)]
    rw [e]
    rfl) (fun g => opPar g u v w) (fun _ g hg h => co_par hg.1 h u v w) (fun _ g hg hR h => ro_par hg.1 hR h u v w) (fun g hg => ok_par hg)
theorem k_month (H : Inv s) (u v w : Int32) : Alike s (fX10_month 0 u v w) (fX11_month 101 u v w) :=
  Alike_op (c := fX0_changeMonth 2 u v w) H (fun w' t a hw e => by
    subst hw
    unfold fX10_month
    simp only [oc_0, ob, c_forget, bd_s, rr_0_0, rr_1_0, bs_c (p := 2) (Or.inl rfl)]
    rw [e]
    rfl) (fun g => opMon g u v w) (fun _ g hg h => co_mon hg.1 h u v w) (fun _ g hg hR h => ro_mon h u v w) (fun g hg => ok_mon hg)
theorem k_demand (H : Inv s) (k r w o f t : Int32) : Alike s (fX10_demand 0 k r w o f t) (fX11_demand 101 k r w o f t) :=
  Alike_op (c := fX0_addDemand 2 k r w o f t) H (fun w' t a hw e => by
    subst hw
    unfold fX10_demand
    simp only [oc_0, ob, c_forget, bd_s, rr_0_0, rr_1_0, bs_c (p := 2) (Or.inl rfl)]
    rw [e]
    rfl) (fun g => opDem g k r w o f t) (fun _ g hg h => co_dem hg h k r w o f t) (fun _ g hg hR h => ro_dem hg.1 hR h k r w o f t) (fun g hg => ok_dem hg)
theorem k_renew (H : Inv s) (u v w : Int32) : Alike s (fX10_renew 0 u v w) (fX11_renew 101 u v w) :=
  Alike_op (c := fX0_changeDemand 2 u v w) H (fun w' t a hw e => by
    subst hw
    unfold fX10_renew
    simp only [oc_0, ob, c_forget, bd_s, rr_0_0, rr_1_0, bs_c (p := 2) (Or.inl rfl)]
    rw [e]
    rfl) (fun g => opRen g u v w) (fun _ g hg h => co_ren hg.1 h u v w) (fun _ g hg hR h => ro_ren hg.1 hR h u v w) (fun g hg => ok_ren hg)
theorem k_drop (H : Inv s) (u : Int32) : Alike s (fX10_drop 0 u) (fX11_drop 101 u) :=
  Alike_op (c := fX0_removeDemand 2 u) H (fun w' t a hw e => by
    subst hw
    unfold fX10_drop
    simp only [oc_0, ob, c_forget, bd_s, rr_0_0, rr_1_0, bs_c (p := 2) (Or.inl rfl)]
    rw [e]
    rfl) (fun g => opDro g u) (fun _ g hg h => co_dro hg h u) (fun _ g hg hR h => ro_dro hg.1 hR h u) (fun g hg => ok_dro hg)
end CALLC
