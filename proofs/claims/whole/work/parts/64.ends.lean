/-! ===== how it ends by the plan ===== -/
section ENDS
variable {s : Sto} {g : Nat → Nat}
def drS (G : Nat → Nat) (v : Nat) : Nat → Nat → Nat
  | 0 => G
  | n + 1 => gs (drS G v n) (49 + n) v
/-- a row of the plan -/
def plR (G : Nat → Nat) (a v : Nat) : Nat → Nat := if a = 0 then gs G 0 v else if a = 1 then drS G v 12 else if a = 2 then gs G 2 v else gs G (76 + 6 * v) 0
def plS (g : Nat → Nat) : Nat → Nat → Nat
  | 0 => g
  | k + 1 => plR (plS g k) (g (132 + 2 * k)) (g (133 + 2 * k))
def mkS (g : Nat → Nat) : Nat → Nat
  | 0 => 0
  | k + 1 => if g (132 + 2 * k) = 3 then mkS g k ||| (1 <<< g (133 + 2 * k)) else mkS g k
def okR2 (a v : Nat) : Prop := a ≤ 3 ∧ (a = 0 → 1 ≤ v ∧ v ≤ 12) ∧ (a = 1 → v ≤ 9) ∧ (a = 2 → v ≤ 9) ∧ (a = 3 → v ≤ 5)
theorem drS_out {G : Nat → Nat} {v j : Nat} : ∀ n, n ≤ 12 → (j < 49 ∨ 61 ≤ j) → drS G v n j = G j
  | 0, _, _ => rfl
  | n + 1, h, hj => by
    unfold drS
    rw [gs_ne (by omega)]
    exact drS_out n (by omega) hj
theorem plR_out {G : Nat → Nat} {a v j : Nat} (h : okR2 a v) (hj : j = 1 ∨ j = 73 ∨ 110 ≤ j) : plR G a v j = G j := by
  unfold okR2 at h
  unfold plR
  by_cases h0 : a = 0
  · rw [if_pos h0, gs_ne (by omega)]
  · by_cases h1 : a = 1
    · rw [if_neg h0, if_pos h1]
      exact drS_out 12 (by omega) (by omega)
    · by_cases h2 : a = 2
      · rw [if_neg h0, if_neg h1, if_pos h2, gs_ne (by omega)]
      · rw [if_neg h0, if_neg h1, if_neg h2, gs_ne (by omega)]
theorem drS_ok {G : Nat → Nat} {v : Nat} (hv : v ≤ 9) (hG : OKg G) : ∀ n, n ≤ 12 → OKg (drS G v n)
  | 0, _ => hG
  | n + 1, h => by
    have o := drS_ok hv hG n (by omega)
    unfold drS
    exact OKg_set o (by omega) (by omega) (by omega) (by omega) (by omega) (by omega) (fun i hi => by rw [parts_low (by omega) hi]; exact o.2.2.2.1 i hi) (by omega) (by omega) (fun d hd => by omega)
theorem plR_ok {G : Nat → Nat} {a v : Nat} (h : okR2 a v) (hG : OKg G) : OKg (plR G a v) := by
  have h' := h
  unfold okR2 at h
  unfold plR
  by_cases h0 : a = 0
  · rw [if_pos h0]
    exact OKg_set hG (by omega) (by omega) (by omega) (by omega) (by omega) (by omega) (fun i hi => by rw [parts_low (by omega) hi]; exact hG.2.2.2.1 i hi) (by omega) (by omega) (fun d hd => by omega)
  · by_cases h1 : a = 1
    · rw [if_neg h0, if_pos h1]
      exact drS_ok (by omega) hG 12 (by omega)
    · by_cases h2 : a = 2
      · rw [if_neg h0, if_neg h1, if_pos h2]
        exact OKg_set hG (by omega) (by omega) (by omega) (by omega) (by omega) (by omega) (fun i hi => by rw [parts_low (by omega) hi]; exact hG.2.2.2.1 i hi) (by omega) (by omega) (fun d hd => by omega)
      · rw [if_neg h0, if_neg h1, if_neg h2]
        exact ok_sil hG (by omega)
theorem okR2_of (hg : OKs g) {k : Nat} (hk : k < g 131) : okR2 (g (132 + 2 * k)) (g (133 + 2 * k)) := hg.2.2.2.2.2.2.2.1 k hk
theorem plS_ok (hg : OKs g) : ∀ k, k ≤ g 131 → OKg (plS g k)
  | 0, _ => hg.1
  | k + 1, h => plR_ok (okR2_of hg (by omega)) (plS_ok hg k (by omega))
theorem plS_out (hg : OKs g) {j : Nat} (hj : j = 1 ∨ j = 73 ∨ 110 ≤ j) : ∀ k, k ≤ g 131 → plS g k j = g j
  | 0, _ => rfl
  | k + 1, h => (plR_out (okR2_of hg (by omega)) hj).trans (plS_out hg hj k (by omega))
theorem c_dryL {G : Mem → Option (Unit × Mem)} {H : Nat → Nat} {v : Nat} (h6 : H 73 ≤ 6) : ∀ n k (t : Sto), 12 - k < n → k ≤ 12 → RB t 41 (drS H v k) → ∃ u, X0_goByPlan_L38 G 41 (iN v) n (iN k) (lay t) = G (lay u) ∧ RB u 41 (drS H v 12) ∧ Of 41 t u := by
  have hb : Bs 41 := Or.inr (Or.inr rfl)
  intro n
  induction n with
  | zero => intro k t h1; omega
  | succ n ih =>
    intro k t h1 h2 h3
    rw [X0_goByPlan_L38]
    simp (disch := first | assumption | omega) only [iN_Lle]
    by_cases c : 12 ≤ k
    · rw [if_pos c]
      have : k = 12 := by omega
      subst this
      exact ⟨t, rfl, h3, ⟨fun _ _ => rfl, rfl⟩⟩
    · rw [if_neg c]
      have k12 : k < 12 := by omega
      simp only [bs_r6 hb, ob, bs_s3 hb k12, iN_addL]
      have h73 : drS H v k 73 = H 73 := drS_out k (by omega) (by omega)
      have st : RB (uI t (41 + 3) k (iN v)) 41 (drS H v (k + 1)) := RB_set (by omega) h3 (Or.inr (Or.inr (Or.inr (Or.inl ⟨rfl, rfl, by omega⟩)))) (Or.inl (by omega))
      obtain ⟨u, u1, u2, u3⟩ := ih (k + 1) (uI t (41 + 3) k (iN v)) (by omega) (by omega) st
      exact ⟨u, u1, u2, (Of_rI (by omega)).tr u3⟩
theorem c_goByPlan {H : Nat → Nat} {a v : Nat} (ok : okR2 a v) (hH : OKg H) (h : RB s 41 H) : ∃ u, fX0_goByPlan 41 (iN a) (iN v) (lay s) = some ((), lay u) ∧ RB u 41 (plR H a v) ∧ Of 41 s u := by
  have hb : Bs 41 := Or.inr (Or.inr rfl)
  have ok' := ok
  unfold okR2 at ok
  have h6 := hH.1.2.2.2.2.2.2
  unfold fX0_goByPlan plR
  simp (disch := first | assumption | omega) only [iN_eqL]
  by_cases h0 : a = 0
  · rw [if_pos h0, if_pos h0]
    simp only [bs_p0 hb, ob]
    exact ⟨_, rfl, RB_set h6 h (Or.inl ⟨rfl, rfl, by omega⟩) (by omega), Of_rI (by omega)⟩
  · by_cases h1 : a = 1
    · rw [if_neg h0, if_pos h1, if_neg h0, if_pos h1]
      exact c_dryL (G := fun μ_57 => some ((), μ_57)) h6 FU 0 s (by unfold FU; omega) (by omega) h
    · by_cases h2 : a = 2
      · rw [if_neg h0, if_neg h1, if_pos h2, if_neg h0, if_neg h1, if_pos h2]
        simp only [bs_p2 hb, ob]
        exact ⟨_, rfl, RB_set h6 h (Or.inl ⟨rfl, rfl, by omega⟩) (by omega), Of_rI (by omega)⟩
      · rw [if_neg h0, if_neg h1, if_neg h2, if_neg h0, if_neg h1, if_neg h2]
        obtain ⟨u, u1, u2, u3⟩ := c_silence (s := s) hb hH h (d := v) (by omega)
        refine ⟨u, ?_, u3, u2⟩
        simp only [bs_c hb, ob]
        rw [u1]
        rfl
theorem c_endsL {G : Mem → Option (Int64 × Mem)} {v1 v2 : Int32} (hg : OKs g) : ∀ n k (t : Sto), g 131 - k < n → k ≤ g 131 → RB t 41 (plS g k) → LI t 17 2 (g 131) (fun i => g (132 + i)) → ∃ u, X10_ends_L35 G 0 v1 v2 n (iN k) (lay t) = G (lay u) ∧ RB u 41 (plS g (g 131)) ∧ Of 41 t u := by
  have hb : Bs 41 := Or.inr (Or.inr rfl)
  have b8 := hg.2.2.2.2.1
  intro n
  induction n with
  | zero => intro k t h1; omega
  | succ n ih =>
    intro k t h1 h2 h3 l2
    rw [X10_ends_L35]
    simp only [rr_0_0, rr_1_2, ob, ln_g3 l17, l2.1]
    simp (disch := first | assumption | omega) only [iN_le]
    by_cases c : g 131 ≤ k
    · rw [if_pos c]
      have : k = g 131 := by omega
      subst this
      exact ⟨t, rfl, h3, ⟨fun _ _ => rfl, rfl⟩⟩
    · rw [if_neg c]
      have hk : k < g 131 := by omega
      have ok := okR2_of hg hk
      have a0 : fX6_at 17 (iN k) 0 (lay t) = some (iN (g (132 + 2 * k)), lay t) := by
        have := c_at l17 l2 (by omega) hk (j := 0) (by omega)
        simp only [show 132 + (k * 2 + 0) = 132 + 2 * k by omega] at this
        exact this
      have a1 : fX6_at 17 (iN k) 1 (lay t) = some (iN (g (133 + 2 * k)), lay t) := by
        have := c_at l17 l2 (by omega) hk (j := 1) (by omega)
        simp only [show 132 + (k * 2 + 1) = 133 + 2 * k by omega] at this
        exact this
      obtain ⟨w, w1, w2, w3⟩ := c_goByPlan (s := t) ok (plS_ok hg k h2) h3
      simp only [rr_0_3, rr_0_0, rr_1_2, ob, ln_c l17, a0, a1, bd_s, bs_c hb]
      rw [w1]
      simp only [bd_s, iN_addL]
      obtain ⟨u, u1, u2, u3⟩ := ih (k + 1) w (by omega) (by omega) w2 (LI_congr l2 (w3.1 _ (by omega)) (w3.1 _ (by omega)))
      exact ⟨u, u1, u2, w3.tr u3⟩
set_option maxRecDepth 100000 in
theorem mask_bit : ∀ M < 64, ∀ d < 6, (((iN M >>> (iN d &&& 31)) &&& 1 = 1) ↔ M.testBit d = true) := by decide
set_option maxRecDepth 100000 in
theorem mask_or : ∀ M < 64, ∀ v < 6, iN M ||| ((1 : Int32) <<< (iN v &&& 31)) = iN (M ||| (1 <<< v)) ∧ M ||| (1 <<< v) < 64 := by decide
set_option maxRecDepth 100000 in
theorem mask_tb : ∀ M < 64, ∀ v < 6, ∀ d < 6, ((M ||| (1 <<< v)).testBit d = true ↔ (M.testBit d = true ∨ d = v)) := by decide
end ENDS
