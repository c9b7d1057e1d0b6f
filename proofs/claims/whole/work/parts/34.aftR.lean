/-! ===== the reference: odds months on ===== -/
section AFTR
variable {s : Sto} {g : Nat → Nat} {wo : Nat → Bool}
theorem r_af33 {G : Mem → Option (Int64 × Mem)} {v1 v3 : Int32} {a : Nat} (ha : a < 3) : ∀ (n j : Nat) (f : Nat → UInt32), 3 - j < n → j ≤ 3 → ∃ f', X11_after_L33 G 101 v1 (iN a) v3 n (iN j) (lay (rF s 110 f)) = G (lay (rF s 110 f')) ∧ (∀ k, j ≤ k → k < 3 → f' k = afS g a 0 k) ∧ (∀ q, q < j → f' q = f q) := by
  intro n
  induction n with
  | zero => intro j f h1; omega
  | succ n ih =>
    intro j f h1 h2
    rw [X11_after_L33]
    simp (disch := first | assumption | omega) only [iN_Lle]
    by_cases c1 : 3 ≤ j
    · rw [if_pos c1]
      exact ⟨f, rfl, fun k h3 h4 => by omega, fun q _ => rfl⟩
    · rw [if_neg c1]
      simp (disch := first | assumption | omega) only [rr_101_16, ob, iN_eq, si_110, rI_same, rI_ne, rF_same, rF_ne, rJ_same, rJ_ne, rI_2, rF_1, rF_22, rJ_1, rJ_21, rJ_222, rI_rI, rF_rF, rJ_rJ, upd_same, upd_ne, vfu_same, vfu_ne, vpu_same, vpu_ne, iN_add, iN_addL, iN_Ladd, iN_mul, iN_mulL, iN_Lmul]
      by_cases c2 : j = a
      · rw [if_pos c2]
        obtain ⟨f', d1, d2, d3⟩ := ih (j + 1) (vf_upd f j FP.fconst1) (by omega) (by omega)
        refine ⟨f', d1, fun k h3 h4 => ?_, fun q hq => ?_⟩
        · by_cases c3 : k = j
          · rw [d3 k (by omega), c3, vfu_same]
            unfold afS
            rw [if_pos c2]
          · exact d2 k (by omega) h4
        · rw [d3 q (by omega), vfu_ne (by omega)]
      · rw [if_neg c2]
        obtain ⟨f', d1, d2, d3⟩ := ih (j + 1) (vf_upd f j FP.fconst0) (by omega) (by omega)
        refine ⟨f', d1, fun k h3 h4 => ?_, fun q hq => ?_⟩
        · by_cases c3 : k = j
          · rw [d3 k (by omega), c3, vfu_same]
            unfold afS
            rw [if_neg c2]
          · exact d2 k (by omega) h4
        · rw [d3 q (by omega), vfu_ne (by omega)]
theorem r_af87 {G : UInt32 → Mem → Option (Int64 × Mem)} {v1 v3 v4 : Int32} {v : Nat → UInt32} {j N : Nat} (hg : OKg g) (h : RR s g wo) (hj : j < 3) (hN : N ≤ 600000) (hv : ∀ k, k < 3 → aL N (v k)) (h1 : ∀ k, k < 3 → s.2.1 110 k = v k) : ∀ (n k : Nat), 3 - k < n → k ≤ 3 → X11_after_L87 G 101 v1 v3 v4 (iN j) n (asS g v j k) (iN k) (lay s) = G (asS g v j 3) (lay s) := by
  intro n
  induction n with
  | zero => intro k h3; omega
  | succ n ih =>
    intro k h3 h4
    rw [X11_after_L87]
    simp (disch := first | assumption | omega) only [iN_Lle]
    by_cases c1 : 3 ≤ k
    · rw [if_pos c1, show k = 3 by omega]
    · rw [if_neg c1]
      have hk : k < 3 := by omega
      simp (disch := first | assumption | omega) only [rr_101_16, ob, ai_110, oc_101, r_part h hk hj, r_parts h hk, bd_s, h1 k hk, iN_add, iN_addL, iN_Ladd, iN_mul, iN_mulL, iN_Lmul]
      have a2 : nn (FP.fdiv (FP.i2f (iN (partS g k j))) (FP.i2f (iN (partsS g k)))) = some (odS g k j) := nn_aL (od_ok hg hk hj).1
      rw [a2]
      have a3 := aL_mul (hv k hk) (od_ok hg hk hj).1 (by omega)
      simp only [ob]
      rw [nn_aL a3]
      have a4 : nn (FP.fadd (asS g v j k) (FP.fmul (v k) (odS g k j))) = some (asS g v j (k + 1)) := nn_aL (as_ok hg hj hN hv (k + 1) (by omega)).1
      simp only [ob]
      rw [a4]
      simp only [ob]
      exact ih (k + 1) (by omega) (by omega)
theorem r_af75 {G : Mem → Option (Int64 × Mem)} {v1 v3 v4 : Int32} {v : Nat → UInt32} {N : Nat} (hg : OKg g) (h : RR s g wo) (hN : N ≤ 600000) (hv : ∀ k, k < 3 → aL N (v k)) : ∀ (n j : Nat) (f : Nat → UInt32), 3 - j < n → j ≤ 3 → (∀ k, k < 3 → f k = v k) → ∃ f', X11_after_L75 G 101 v1 v3 v4 n (iN j) (lay (rF s 110 f)) = G (lay (rF s 110 f')) ∧ (∀ k, j ≤ k → k < 3 → f' (3 + k) = asS g v k 3) ∧ (∀ q, q < 3 + j → f' q = f q) := by
  intro n
  induction n with
  | zero => intro j f h3; omega
  | succ n ih =>
    intro j f h3 h4 h5
    rw [X11_after_L75]
    simp (disch := first | assumption | omega) only [iN_Lle]
    by_cases c1 : 3 ≤ j
    · rw [if_pos c1]
      exact ⟨f, rfl, fun k h5 h6 => by omega, fun q _ => rfl⟩
    · rw [if_neg c1]
      have hj : j < 3 := by omega
      have hS : RR (rF s 110 f) g wo := RR_congr h rfl rfl
      rw [show (0 : Int32) = iN 0 from rfl, show FP.fconst0 = asS g v j 0 from rfl]
      rw [r_af87 hg hS hj hN hv (fun k hk => by rw [rF_same]; exact h5 k hk) FU 0 (by unfold FU; omega) (by omega)]
      simp (disch := first | assumption | omega) only [rr_101_16, ob, si_110, rI_same, rI_ne, rF_same, rF_ne, rJ_same, rJ_ne, rI_2, rF_1, rF_22, rJ_1, rJ_21, rJ_222, rI_rI, rF_rF, rJ_rJ, upd_same, upd_ne, vfu_same, vfu_ne, vpu_same, vpu_ne, iN_add, iN_addL, iN_Ladd, iN_mul, iN_mulL, iN_Lmul]
      obtain ⟨f', d1, d2, d3⟩ := ih (j + 1) (vf_upd f (3 + j) (asS g v j 3)) (by omega) (by omega) (fun k hk => by rw [vfu_ne (by omega)]; exact h5 k hk)
      refine ⟨f', d1, fun k h6 h7 => ?_, fun q hq => ?_⟩
      · by_cases c3 : k = j
        · rw [d3 (3 + k) (by omega), c3, vfu_same]
        · exact d2 k (by omega) h7
      · rw [d3 q (by omega), vfu_ne (by omega)]
theorem r_af149 {G : Mem → Option (Int64 × Mem)} {v1 v3 v4 : Int32} {v : Nat → UInt32} : ∀ (n j : Nat) (f : Nat → UInt32), 3 - j < n → j ≤ 3 → (∀ k, k < 3 → f (3 + k) = v k) → (∀ k, k < j → f k = v k) → ∃ f', X11_after_L149 G 101 v1 v3 v4 n (iN j) (lay (rF s 110 f)) = G (lay (rF s 110 f')) ∧ (∀ k, k < 3 → f' k = v k) := by
  intro n
  induction n with
  | zero => intro j f h3; omega
  | succ n ih =>
    intro j f h3 h4 h5 h6
    rw [X11_after_L149]
    simp (disch := first | assumption | omega) only [iN_Lle]
    by_cases c1 : 3 ≤ j
    · rw [if_pos c1]
      exact ⟨f, rfl, fun k hk => h6 k (by omega)⟩
    · rw [if_neg c1]
      have hj : j < 3 := by omega
      simp (disch := first | assumption | omega) only [rr_101_16, ob, ai_110, si_110, rI_same, rI_ne, rF_same, rF_ne, rJ_same, rJ_ne, rI_2, rF_1, rF_22, rJ_1, rJ_21, rJ_222, rI_rI, rF_rF, rJ_rJ, upd_same, upd_ne, vfu_same, vfu_ne, vpu_same, vpu_ne, iN_add, iN_addL, iN_Ladd, iN_mul, iN_mulL, iN_Lmul]
      refine ih (j + 1) _ (by omega) (by omega) (fun k hk => by rw [vfu_ne (by omega)]; exact h5 k hk) (fun k hk => ?_)
      by_cases c2 : k = j
      · subst c2
        rw [vfu_same]
        exact h5 k hj
      · rw [vfu_ne c2]
        exact h6 k (by omega)
theorem r_af66 {G : Mem → Option (Int64 × Mem)} {v3 : Int32} {a N : Nat} (hg : OKg g) (h : RR s g wo) (hN : N ≤ 12) : ∀ (n m : Nat) (f : Nat → UInt32), N - m < n → m ≤ N → (∀ k, k < 3 → f k = afS g a m k) → ∃ f', X11_after_L66 G 101 (iN N) v3 n (iN m) (lay (rF s 110 f)) = G (lay (rF s 110 f')) ∧ (∀ k, k < 3 → f' k = afS g a N k) := by
  intro n
  induction n with
  | zero => intro m s h1; omega
  | succ n ih =>
    intro m f h1 h2 h4
    rw [X11_after_L66]
    simp (disch := first | assumption | omega) only [iN_le]
    by_cases c1 : N ≤ m
    · rw [if_pos c1]
      have : m = N := by omega
      subst this
      exact ⟨f, rfl, h4⟩
    · rw [if_neg c1]
      have hp : 3 ^ m ≤ 3 ^ 11 := Nat.pow_le_pow_right (by decide) (by omega)
      obtain ⟨f1, e1, e2, e3⟩ := r_af75 (G := fun μ_146 => X11_after_L149 (fun μ_177 => X11_after_L66 G 101 (iN N) v3 n (iN m + 1) μ_177) 101 (iN N) v3 (iN m) FU ((0 : Int32)) μ_146) (v1 := iN N) (v3 := v3) (v4 := iN m) (v := afS g a m) (N := 3 ^ m) hg h (Nat.le_trans hp (by decide)) (fun k hk => (af_ok hg m k (by omega) hk).1) FU 0 f (by unfold FU; omega) (by omega) h4
      rw [show (0 : Int32) = iN 0 from rfl] at e1 ⊢
      rw [e1]
      obtain ⟨f2, d1, d2⟩ := r_af149 (s := s) (G := fun μ_177 => X11_after_L66 G 101 (iN N) v3 n (iN m + 1) μ_177) (v1 := iN N) (v3 := v3) (v4 := iN m) (v := afS g a (m + 1)) FU 0 f1 (by unfold FU; omega) (by omega) (fun k hk => e2 k (Nat.zero_le _) hk) (fun k hk => by omega)
      rw [d1]
      simp only [iN_add, iN_addL, iN_Ladd, iN_mul, iN_mulL, iN_Lmul]
      exact ih (m + 1) f2 (by omega) (by omega) d2
theorem r_after {a N j : Nat} (hg : OKg g) (h : RR s g wo) (hN : N ≤ 12) (ha : a < 3) (hj : j < 3) : ∃ f, fX11_after 101 (iN N) (iN a) (iN j) (lay s) = some ((afS g a N j).toInt32.toInt64, lay (rF s 110 f)) := by
  unfold fX11_after
  have t1 : (0 : Int64) ≤ (iN N).toInt64 ∧ (iN N).toInt64 ≤ (12 : Int64) := by
    simp (disch := first | assumption | omega) only [lit64_le, le_lit64, iN_Lle, iN_leL]
    omega
  have t2 : (0 : Int32) ≤ iN a ∧ iN a ≤ 2 := by
    simp (disch := first | assumption | omega) only [iN_Lle, iN_leL]
    omega
  have t3 : (0 : Int32) ≤ iN j ∧ iN j ≤ 2 := by
    simp (disch := first | assumption | omega) only [iN_Lle, iN_leL]
    omega
  simp only [r_in, r_isState, bd_s, tI_pos t1, tI_pos t2, tI_pos t3, i10, if_false]
  obtain ⟨f1, e1, e2, _⟩ := r_af33 (s := s) (g := g) (G := fun μ_63 => X11_after_L66 (fun μ_183 => (gR μ_183 101 11 16).bind fun x184 => (aF μ_183 x184 (iN j)).bind fun x188 => bd (fX11_bits x188 μ_183) fun x189 μ189 => some (x189, μ189)) 101 (iN N) (iN j) FU ((0 : Int32)) μ_63) (v1 := iN N) (v3 := iN j) ha FU 0 (s.2.1 110) (by unfold FU; omega) (by omega)
  rw [rF_self] at e1
  rw [show (0 : Int32) = iN 0 from rfl] at e1 ⊢
  rw [e1]
  obtain ⟨f2, d1, d2⟩ := r_af66 (G := fun μ_183 => (gR μ_183 101 11 16).bind fun x184 => (aF μ_183 x184 (iN j)).bind fun x188 => bd (fX11_bits x188 μ_183) fun x189 μ189 => some (x189, μ189)) (v3 := iN j) (a := a) hg h hN FU 0 f1 (by unfold FU; omega) (Nat.zero_le _) (fun k hk => e2 k (Nat.zero_le _) hk)
  rw [d1]
  refine ⟨f2, ?_⟩
  simp (disch := first | assumption | omega) only [rr_101_16, ob, ai_110, rI_same, rI_ne, rF_same, rF_ne, rJ_same, rJ_ne, rI_2, rF_1, rF_22, rJ_1, rJ_21, rJ_222, rI_rI, rF_rF, rJ_rJ, upd_same, upd_ne, vfu_same, vfu_ne, vpu_same, vpu_ne, d2 j hj]
  rw [r_bits (af_ok hg N j hN hj).1.1]
  rfl
end AFTR
