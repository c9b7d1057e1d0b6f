/-! ===== the chain: odds months on ===== -/
def odS (g : Nat → Nat) (i j : Nat) : UInt32 := FP.fdiv (FP.i2f (iN (partS g i j))) (FP.i2f (iN (partsS g i)))
def asS (g : Nat → Nat) (v : Nat → UInt32) (j : Nat) : Nat → UInt32
  | 0 => FP.fconst0
  | k + 1 => FP.fadd (asS g v j k) (FP.fmul (v k) (odS g k j))
def afS (g : Nat → Nat) (a : Nat) : Nat → Nat → UInt32
  | 0, j => if j = a then FP.fconst1 else FP.fconst0
  | n + 1, j => asS g (afS g a n) j 3
theorem iN_pos {n : Nat} (h : n < 2147483648) : 0 ≤ (iN n).toInt := by rw [iN_toInt h]; omega
theorem od_ok {g : Nat → Nat} {i j : Nat} (hg : OKg g) (hi : i < 3) (hj : j < 3) : aL 1 (odS g i j) ∧ pos0 (odS g i j) := by
  have h1 := part_le hg hi hj
  have h2 := parts_le hg hi
  have h3 := fl_whole (partsS g i) (by omega)
  have h4 : partS g i j ≤ partsS g i := by
    unfold partsS
    rcases (show j = 0 ∨ j = 1 ∨ j = 2 by omega) with rfl | rfl | rfl <;> omega
  have h5 : aL (partsS g i * 1) (FP.i2f (iN (partS g i j))) := aL_int (iN_abs (by omega) (by omega)) (by omega)
  have h6 : aL 1 (odS g i j) := aL_div h5 h3.2 h3.1 (by omega) (by decide)
  exact ⟨h6, pos0_div (pos0_i2f (iN_pos (by omega))) (pos0_i2f (iN_pos (by omega))) h6⟩
theorem as_ok {g : Nat → Nat} {v : Nat → UInt32} {j N : Nat} (hg : OKg g) (hj : j < 3) (hN : N ≤ 600000) (hv : ∀ k, k < 3 → aL N (v k)) : ∀ k, k ≤ 3 → aL (k * N) (asS g v j k) ∧ nzr (asS g v j k)
  | 0, _ => ⟨by rw [Nat.zero_mul]; exact aL_zero, show nzr FP.fconst0 by unfold nzr; decide⟩
  | k + 1, hk => by
    obtain ⟨h1, h2⟩ := as_ok hg hj hN hv k (by omega)
    have h3 := aL_mul (hv k (by omega)) (od_ok hg (show k < 3 by omega) hj).1 (by omega)
    rw [Nat.mul_one] at h3
    have h5 := mul_mono_bd (B := N) hk
    have h4 := aL_add h1 h3 (by rw [Nat.add_mul] at h5; omega)
    exact ⟨h4.mono (by rw [Nat.add_mul]; omega), nzr_add h1.1 h3.1 h2⟩
theorem af_ok {g : Nat → Nat} {a : Nat} (hg : OKg g) : ∀ n j, n ≤ 12 → j < 3 → aL (3 ^ n) (afS g a n j) ∧ nzr (afS g a n j)
  | 0, j, _, _ => by
    unfold afS
    split
    · exact ⟨aL_one, by unfold nzr; decide⟩
    · exact ⟨aL_zero.mono (by decide), by unfold nzr; decide⟩
  | n + 1, j, hn, hj => by
    have hp : 3 ^ n ≤ 3 ^ 11 := Nat.pow_le_pow_right (by decide) (by omega)
    obtain ⟨h1, h2⟩ := as_ok (v := afS g a n) (N := 3 ^ n) hg hj (Nat.le_trans hp (by decide)) (fun k hk => (af_ok hg n k (by omega) hk).1) 3 (Nat.le_refl _)
    rw [Nat.pow_succ, Nat.mul_comm]
    exact ⟨h1, h2⟩
section AFTER
variable {s : Sto} {p : Nat} {g : Nat → Nat} {wo : Nat → Bool}
/-- the odds are laid -/
def OD (f : Nat → UInt32) (g : Nat → Nat) : Prop := ∀ i j, i < 3 → j < 3 → f (i * 3 + j) = odS g i j
theorem c_load17 {G : Mem → Option (Unit × Mem)} {i : Nat} (hb : Bs p) (hg : OKg g) (h : RC s p g) (hi : i < 3) : ∀ (n j : Nat) (f : Nat → UInt32), 3 - j < n → j ≤ 3 → ∃ f', X2_load_L17 G 64 p (iN i) (FP.i2f (iN (partsS g i))) n (iN j) (lay (rF s 65 f)) = G (lay (rF s 65 f')) ∧ (∀ k, j ≤ k → k < 3 → f' (i * 3 + k) = odS g i k) ∧ (∀ q, q < i * 3 + j ∨ i * 3 + 3 ≤ q → f' q = f q) := by
  intro n
  induction n with
  | zero => intro j f h1; omega
  | succ n ih =>
    intro j f h1 h2
    rw [X2_load_L17]
    simp (disch := first | assumption | omega) only [iN_Lle]
    by_cases c1 : 3 ≤ j
    · rw [if_pos c1]
      exact ⟨f, rfl, fun k h3 h4 => by omega, fun q _ => rfl⟩
    · rw [if_neg c1]
      have hj : j < 3 := by omega
      have hS : RC (rF s 65 f) p g := h
      simp (disch := first | assumption | omega) only [ob, bd_s, jn_s, zz0, zz1, i10, i00, if_true, if_false, rr_64_0, bs_r5 hb, bs_a2 hb, iN_add, iN_addL, iN_Ladd, iN_mul, iN_mulL, iN_Lmul, c_part hS hi hj]
      have a4 : nn (FP.fdiv (FP.i2f (iN (partS g i j))) (FP.i2f (iN (partsS g i)))) = some (odS g i j) := nn_aL (od_ok hg hi hj).1
      rw [a4]
      simp (disch := first | assumption | omega) only [ob, si_65, rI_same, rI_ne, rF_same, rF_ne, rJ_same, rJ_ne, rI_2, rF_1, rF_22, rJ_1, rJ_21, rJ_222, rI_rI, rF_rF, rJ_rJ, upd_same, upd_ne, vfu_same, vfu_ne, vpu_same, vpu_ne]
      obtain ⟨f', d1, d2, d3⟩ := ih (j + 1) (vf_upd f (i * 3 + j) (odS g i j)) (by omega) (by omega)
      refine ⟨f', d1, fun k h3 h4 => ?_, fun q hq => ?_⟩
      · by_cases c2 : k = j
        · subst c2
          rw [d3 _ (by omega), vfu_same]
        · exact d2 k (by omega) h4
      · rw [d3 q (by omega), vfu_ne (by omega)]
theorem c_load2 {G : Mem → Option (Unit × Mem)} (hb : Bs p) (hg : OKg g) (h : RC s p g) : ∀ (n i : Nat) (f : Nat → UInt32), 3 - i < n → i ≤ 3 → ∃ f', X2_load_L2 G 64 p n (iN i) (lay (rF s 65 f)) = G (lay (rF s 65 f')) ∧ (∀ i' k, i ≤ i' → i' < 3 → k < 3 → f' (i' * 3 + k) = odS g i' k) ∧ (∀ q, q < i * 3 → f' q = f q) := by
  intro n
  induction n with
  | zero => intro j f h1; omega
  | succ n ih =>
    intro i f h1 h2
    rw [X2_load_L2]
    simp (disch := first | assumption | omega) only [iN_Lle]
    by_cases c1 : 3 ≤ i
    · rw [if_pos c1]
      exact ⟨f, rfl, fun i' k h3 h4 => by omega, fun q _ => rfl⟩
    · rw [if_neg c1]
      have hi : i < 3 := by omega
      have hS : RC (rF s 65 f) p g := h
      simp only [bs_c hb, ob, c_allParts hb hS hi, bd_s]
      obtain ⟨f1, e1, e2, e3⟩ := c_load17 (G := fun μ_54 => X2_load_L2 G 64 p n (iN i + 1) μ_54) hb hg h hi FU 0 f (by unfold FU; omega) (by omega)
      rw [show (0 : Int32) = iN 0 from rfl, e1]
      simp only [iN_add, iN_addL, iN_Ladd, iN_mul, iN_mulL, iN_Lmul]
      obtain ⟨f', d1, d2, d3⟩ := ih (i + 1) f1 (by omega) (by omega)
      refine ⟨f', d1, fun i' k h3 h4 h5 => ?_, fun q hq => ?_⟩
      · by_cases c2 : i' = i
        · subst c2
          rw [d3 _ (by omega)]
          exact e2 k (by omega) h5
        · exact d2 i' k (by omega) h4 h5
      · rw [d3 q (by omega), e3 q (by omega)]
theorem c_load (hb : Bs p) (hg : OKg g) (h : RC s p g) : ∃ f, fX2_load 64 p (lay s) = some ((), lay (rF s 65 f)) ∧ OD f g := by
  obtain ⟨f, h1, h2, _⟩ := c_load2 (G := fun μ => some ((), μ)) hb hg h FU 0 (s.2.1 65) (by unfold FU; omega) (by omega)
  rw [rF_self] at h1
  exact ⟨f, h1, fun i j hi hj => h2 i j (Nat.zero_le _) hi hj⟩
/-- the chain's two rows, one way or the other -/
def Tw (s : Sto) : Prop := s.2.2.2 = (66, 67) ∨ s.2.2.2 = (67, 66)
def Tr (b : Nat) : Prop := b = 66 ∨ b = 67
theorem tw_a {b i : Nat} (hb : Tr b) (hi : i < 3) : aF (lay s) b (iN i) = some (s.2.1 b i) := by
  rcases hb with rfl | rfl
  · exact ai_66 hi
  · exact ai_67 hi
theorem tw_s {b i : Nat} {x : UInt32} (hb : Tr b) (hi : i < 3) : sF (lay s) b (iN i) x = some (lay (uF s b i x)) := by
  rcases hb with rfl | rfl
  · exact si_66 hi
  · exact si_67 hi
theorem c_af3 {G : Mem → Option (UInt32 × Mem)} {v1 v3 : Int32} {a b : Nat} (ha : a < 3) (hb : s.2.2.2.1 = b) (ht : Tr b) : ∀ (n j : Nat) (f : Nat → UInt32), 3 - j < n → j ≤ 3 → ∃ f', X2_oddsAfter_L3 G 64 v1 (iN a) v3 n (iN j) (lay (rF s b f)) = G (lay (rF s b f')) ∧ (∀ k, j ≤ k → k < 3 → f' k = afS g a 0 k) ∧ (∀ q, q < j → f' q = f q) := by
  intro n
  induction n with
  | zero => intro j f h1; omega
  | succ n ih =>
    intro j f h1 h2
    rw [X2_oddsAfter_L3]
    have e1 : (rF s b f).2.2.2.1 = b := hb
    simp (disch := first | assumption | omega) only [iN_Lle]
    by_cases c1 : 3 ≤ j
    · rw [if_pos c1]
      exact ⟨f, rfl, fun k h3 h4 => by omega, fun q _ => rfl⟩
    · rw [if_neg c1]
      have hj : j < 3 := by omega
      simp (disch := first | assumption | omega) only [ch_g1, ob, e1, iN_eq]
      simp only [tw_s ht hj, ob, rI_same, rI_ne, rF_same, rF_ne, rJ_same, rJ_ne, rI_2, rF_1, rF_22, rJ_1, rJ_21, rJ_222, rI_rI, rF_rF, rJ_rJ, upd_same, upd_ne, vfu_same, vfu_ne, vpu_same, vpu_ne, iN_add, iN_addL, iN_Ladd, iN_mul, iN_mulL, iN_Lmul]
      by_cases c2 : j = a
      · rw [if_pos c2]
        obtain ⟨f', d1, d2, d3⟩ := ih (j + 1) (vf_upd f j FP.fconst1) (by omega) (by omega)
        refine ⟨f', d1, fun k h3 h4 => ?_, fun q hq => ?_⟩
        · by_cases c3 : k = j
          · rw [d3 k (by omega), c3, vfu_same]
            unfold afS
            rw [if_pos c2]
          · exact d2 k (by omega) h4
        · rw [d3 q (by omega), vfu_ne (by omega)]
      · rw [if_neg c2]
        obtain ⟨f', d1, d2, d3⟩ := ih (j + 1) (vf_upd f j FP.fconst0) (by omega) (by omega)
        refine ⟨f', d1, fun k h3 h4 => ?_, fun q hq => ?_⟩
        · by_cases c3 : k = j
          · rw [d3 k (by omega), c3, vfu_same]
            unfold afS
            rw [if_neg c2]
          · exact d2 k (by omega) h4
        · rw [d3 q (by omega), vfu_ne (by omega)]
theorem c_af57 {G : UInt32 → Mem → Option (UInt32 × Mem)} {v1 v3 v4 : Int32} {v : Nat → UInt32} {j b N : Nat} (hg : OKg g) (hj : j < 3) (hb : s.2.2.2.1 = b) (ht : Tr b) (hN : N ≤ 600000) (hv : ∀ k, k < 3 → aL N (v k)) (h1 : ∀ k, k < 3 → s.2.1 b k = v k) (h2 : OD (s.2.1 65) g) : ∀ (n k : Nat), 3 - k < n → k ≤ 3 → X2_oddsAfter_L57 G 64 v1 v3 v4 (iN j) n (asS g v j k) (iN k) (lay s) = G (asS g v j 3) (lay s) := by
  intro n
  induction n with
  | zero => intro k h3; omega
  | succ n ih =>
    intro k h3 h4
    rw [X2_oddsAfter_L57]
    simp (disch := first | assumption | omega) only [iN_Lle]
    by_cases c1 : 3 ≤ k
    · rw [if_pos c1, show k = 3 by omega]
    · rw [if_neg c1]
      have hk : k < 3 := by omega
      simp (disch := first | assumption | omega) only [ch_g1, ob, hb, tw_a ht, rr_64_0, ai_65, iN_add, iN_addL, iN_Ladd, iN_mul, iN_mulL, iN_Lmul, h1 k hk, h2 k j hk hj]
      have a3 := aL_mul (hv k hk) (od_ok hg hk hj).1 (by omega)
      rw [nn_aL a3]
      have a4 : nn (FP.fadd (asS g v j k) (FP.fmul (v k) (odS g k j))) = some (asS g v j (k + 1)) := nn_aL (as_ok hg hj hN hv (k + 1) (by omega)).1
      simp only [ob]
      rw [a4]
      simp only [ob]
      exact ih (k + 1) (by omega) (by omega)
theorem c_af45 {G : Mem → Option (UInt32 × Mem)} {v1 v3 v4 : Int32} {v : Nat → UInt32} {b c N : Nat} (hg : OKg g) (hb : s.2.2.2.1 = b) (hc : s.2.2.2.2 = c) (ht : Tr b) (ht2 : Tr c) (hbc : b ≠ c) (hN : N ≤ 600000) (hv : ∀ k, k < 3 → aL N (v k)) (h1 : ∀ k, k < 3 → s.2.1 b k = v k) (h2 : OD (s.2.1 65) g) : ∀ (n j : Nat) (f : Nat → UInt32), 3 - j < n → j ≤ 3 → ∃ f', X2_oddsAfter_L45 G 64 v1 v3 v4 n (iN j) (lay (rF s c f)) = G (lay (rF s c f')) ∧ (∀ k, j ≤ k → k < 3 → f' k = asS g v k 3) ∧ (∀ q, q < j → f' q = f q) := by
  intro n
  have hc65 : (65 : Nat) ≠ c := by unfold Tr at ht2; omega
  induction n with
  | zero => intro j f h3; omega
  | succ n ih =>
    intro j f h3 h4
    rw [X2_oddsAfter_L45]
    simp (disch := first | assumption | omega) only [iN_Lle]
    by_cases c1 : 3 ≤ j
    · rw [if_pos c1]
      exact ⟨f, rfl, fun k h5 h6 => by omega, fun q _ => rfl⟩
    · rw [if_neg c1]
      have hj : j < 3 := by omega
      rw [show (0 : Int32) = iN 0 from rfl, show FP.fconst0 = asS g v j 0 from rfl]
      rw [c_af57 (s := rF s c f) (b := b) hg hj hb ht hN hv (fun k hk => by rw [rF_ne hbc]; exact h1 k hk) (by rw [rF_ne hc65]; exact h2) FU 0 (by unfold FU; omega) (by omega)]
      have e1 : (rF s c f).2.2.2.2 = c := hc
      simp only [ch_g2, ob, e1]
      simp only [tw_s ht2 hj, ob, rI_same, rI_ne, rF_same, rF_ne, rJ_same, rJ_ne, rI_2, rF_1, rF_22, rJ_1, rJ_21, rJ_222, rI_rI, rF_rF, rJ_rJ, upd_same, upd_ne, vfu_same, vfu_ne, vpu_same, vpu_ne, iN_add, iN_addL, iN_Ladd, iN_mul, iN_mulL, iN_Lmul]
      obtain ⟨f', d1, d2, d3⟩ := ih (j + 1) (vf_upd f j (asS g v j 3)) (by omega) (by omega)
      refine ⟨f', d1, fun k h5 h6 => ?_, fun q hq => ?_⟩
      · by_cases c3 : k = j
        · rw [d3 k (by omega), c3, vfu_same]
        · exact d2 k (by omega) h6
      · rw [d3 q (by omega), vfu_ne (by omega)]
/-- only the chain's rows and their order have changed -/
def Cx (s t : Sto) : Prop := t.1 = s.1 ∧ (∀ q, q ≠ 65 → q ≠ 66 → q ≠ 67 → t.2.1 q = s.2.1 q) ∧ t.2.2.1 = s.2.2.1 ∧ Tw t
theorem c_af36 {G : Mem → Option (UInt32 × Mem)} {v3 : Int32} {a N : Nat} (hg : OKg g) (hN : N ≤ 12) : ∀ (n m : Nat) (s : Sto), N - m < n → m ≤ N → Tw s → (∀ k, k < 3 → s.2.1 s.2.2.2.1 k = afS g a m k) → OD (s.2.1 65) g → ∃ t, X2_oddsAfter_L36 G 64 (iN N) v3 n (iN m) (lay s) = G (lay t) ∧ Cx s t ∧ (∀ k, k < 3 → t.2.1 t.2.2.2.1 k = afS g a N k) := by
  intro n
  induction n with
  | zero => intro m s h1; omega
  | succ n ih =>
    intro m s h1 h2 h3 h4 h5
    rw [X2_oddsAfter_L36]
    simp (disch := first | assumption | omega) only [iN_le]
    by_cases c1 : N ≤ m
    · rw [if_pos c1]
      have : m = N := by omega
      subst this
      exact ⟨s, rfl, ⟨rfl, fun _ _ _ _ => rfl, rfl, h3⟩, h4⟩
    · rw [if_neg c1]
      have hp : 3 ^ m ≤ 3 ^ 11 := Nat.pow_le_pow_right (by decide) (by omega)
      obtain ⟨b, c, hbc, ht, ht2, hne⟩ : ∃ b c, s.2.2.2 = (b, c) ∧ Tr b ∧ Tr c ∧ b ≠ c := by
        rcases h3 with h3 | h3
        · exact ⟨66, 67, h3, Or.inl rfl, Or.inr rfl, by omega⟩
        · exact ⟨67, 66, h3, Or.inr rfl, Or.inl rfl, by omega⟩
      have hb : s.2.2.2.1 = b := by rw [hbc]
      have hc : s.2.2.2.2 = c := by rw [hbc]
      rw [hb] at h4
      obtain ⟨f, e1, e2, _⟩ := c_af45 (G := fun μ_109 => (gR μ_109 64 2 1).bind fun x110 => (gR μ_109 64 2 2).bind fun x117 => (pV μ_109 64 2 1 (.ref x117)).bind fun μ120 => (pV μ120 64 2 2 (.ref x110)).bind fun μ126 => X2_oddsAfter_L36 G 64 (iN N) v3 n (iN m + 1) μ126) (v1 := iN N) (v3 := v3) (v4 := iN m) (v := afS g a m) (N := 3 ^ m) hg hb hc ht ht2 hne (Nat.le_trans hp (by decide)) (fun k hk => (af_ok hg m k (by omega) hk).1) h4 h5 FU 0 (s.2.1 c) (by unfold FU; omega) (by omega)
      rw [rF_self] at e1
      rw [show (0 : Int32) = iN 0 from rfl, e1]
      simp only [ch_g1, ch_g2, ob, ch_p1, ch_p2, iN_add, iN_addL, iN_Ladd, iN_mul, iN_mulL, iN_Lmul]
      have q1 : (rF s c f).2.2.2.1 = b := hb
      have q2 : (rF s c f).2.2.2.2 = c := hc
      rw [q1, q2]
      obtain ⟨t, t1, t2, t3⟩ := ih (m + 1) ((rF s c f).1, (rF s c f).2.1, (rF s c f).2.2.1, c, b) (by omega) (by omega) (by
        unfold Tw Tr at *
        rcases ht with rfl | rfl <;> rcases ht2 with rfl | rfl <;> first | exact absurd rfl hne | exact Or.inl rfl | exact Or.inr rfl) (fun k hk => by
        show (rF s c f).2.1 c k = _
        rw [rF_same]
        exact e2 k (Nat.zero_le _) hk) (by
        show OD ((rF s c f).2.1 65) g
        rw [rF_ne (by unfold Tr at ht2; omega)]
        exact h5)
      refine ⟨t, t1, ⟨t2.1, fun q a1 a2 a3 => ?_, t2.2.2.1, t2.2.2.2⟩, t3⟩
      rw [t2.2.1 q a1 a2 a3]
      show (rF s c f).2.1 q = _
      rw [rF_ne (by unfold Tr at ht2; omega)]
theorem c_oddsAfter {a N j : Nat} (hg : OKg g) (hN : N ≤ 12) (ha : a < 3) (hj : j < 3) (hT : Tw s) (hod : OD (s.2.1 65) g) : ∃ t, fX2_oddsAfter 64 (iN N) (iN a) (iN j) (lay s) = some (afS g a N j, lay t) ∧ Cx s t := by
  unfold fX2_oddsAfter
  obtain ⟨b, hb, ht⟩ : ∃ b, s.2.2.2.1 = b ∧ Tr b := by
    rcases hT with h | h
    · exact ⟨66, by rw [h], Or.inl rfl⟩
    · exact ⟨67, by rw [h], Or.inr rfl⟩
  obtain ⟨f, e1, e2, _⟩ := c_af3 (g := g) (G := fun μ_33 => X2_oddsAfter_L36 (fun μ_135 => (gR μ_135 64 2 1).bind fun x136 => (aF μ_135 x136 (iN j)).bind fun x140 => some (x140, μ_135)) 64 (iN N) (iN j) FU ((0 : Int32)) μ_33) (v1 := iN N) (v3 := iN j) ha hb ht FU 0 (s.2.1 b) (by unfold FU; omega) (by omega)
  rw [rF_self] at e1
  rw [show (0 : Int32) = iN 0 from rfl]
  rw [show (0 : Int32) = iN 0 from rfl] at e1
  rw [e1]
  obtain ⟨t, t1, t2, t3⟩ := c_af36 (G := fun μ_135 => (gR μ_135 64 2 1).bind fun x136 => (aF μ_135 x136 (iN j)).bind fun x140 => some (x140, μ_135)) (v3 := iN j) (a := a) hg hN FU 0 (rF s b f) (by unfold FU; omega) (Nat.zero_le _) hT (fun k hk => by
    show (rF s b f).2.1 s.2.2.2.1 k = _
    rw [hb, rF_same]
    exact e2 k (Nat.zero_le _) hk) (by rw [rF_ne (by unfold Tr at ht; omega)]; exact hod)
  refine ⟨t, ?_, ⟨t2.1, fun q a1 a2 a3 => ?_, t2.2.2.1, t2.2.2.2⟩⟩
  · rw [t1]
    have ht3 : Tr t.2.2.2.1 := by
      rcases t2.2.2.2 with h | h
      · rw [h]; exact Or.inl rfl
      · rw [h]; exact Or.inr rfl
    simp only [ch_g1, ob, tw_a ht3 hj, t3 j hj]
  · rw [t2.2.1 q a1 a2 a3, rF_ne (by unfold Tr at ht; omega)]
end AFTER
