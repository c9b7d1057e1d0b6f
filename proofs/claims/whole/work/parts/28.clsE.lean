/-! ===== the class: the whole sweep ===== -/
section SWEEP2
variable {s : Sto} {p r : Nat} {g : Nat → Nat} {fb fm : Nat → UInt32} {fr : Nat → Int32}
theorem c_sweep61 {G : Mem → Option (Unit × Mem)} {f : Nat} (hb : Bs p) (hr : Rw r) (hg : OKg g) (h : RB s p g) (hf : f ≤ g 1) (hgn : GNs g f (s.1 (r + 4))) :
    ∀ (n k : Nat) (fb fm : Nat → UInt32) (fr : Nat → Int32), k - f < n → f ≤ k → k ≤ g 1 → TBs g k fb fm fr → ∃ fb' fm' fr', X1_sweep_L61 G r p (iN f) n (iZ ((k : Int) - 1)) (lay (st3 s r fb fm fr)) = G (lay (st3 s r fb' fm' fr')) ∧ TBs g f fb' fm' fr' := by
  intro n
  have b1 := hg.1
  have e1 := Rw_le hr
  induction n with
  | zero => intro k fb fm fr h1; omega
  | succ n ih =>
    intro k fb fm fr h1 h2 h3 h4
    rw [X1_sweep_L61]
    have hc : (iZ ((k : Int) - 1) < iN f) = (k ≤ f) := by
      rw [Int32.lt_iff_toInt_lt, iZ_toInt (by omega) (by omega), iN_toInt (by omega)]
      exact propext (by omega)
    simp only [hc]
    by_cases c1 : k ≤ f
    · rw [if_pos c1]
      have : k = f := by omega
      subst this
      exact ⟨fb, fm, fr, rfl, h4⟩
    · rw [if_neg c1]
      obtain ⟨m, rfl⟩ : ∃ m, k = m + 1 := ⟨k - 1, by omega⟩
      have em : iZ (((m + 1 : Nat) : Int) - 1) = iN m := by
        rw [iN_iZ]
        congr 1
        omega
      have hm : m < 12 := by omega
      have hB : bdS (g 1 - (m + 1)) ≤ 200000 := by unfold bdS; omega
      have hT : ∀ x j, x ≤ g 0 → j < 3 → aL (bdS (g 1 - (m + 1))) (bstS g (g 1 - (m + 1)) x j) := fun x j hx hj => (bstS_aL hg (g 1 - (m + 1)) x j (by omega) hx hj).1
      obtain ⟨fm1, q1, q2, q3⟩ := c_fillMeans (fb := fb) (fm := fm) (fr := fr) (m := m + 1) hb hr hg h (by omega) hB hT (fun x j hx hj => h4.1 (m + 1) x j (Nat.le_refl _) h3 hx hj)
      rw [em]
      simp only [rw_c hr, ob, iN_add, iN_addL, iN_Ladd, iN_mul, iN_mulL, iN_Lmul]
      rw [q1]
      simp only [bd_s]
      obtain ⟨fb2, fr2, w1, w2, w3⟩ := c_sweep77 (G := fun μ_117 => X1_sweep_L61 G r p (iN f) n (iN m + -1) μ_117) (v2 := iN f) (m := m) hb hr hg h hm hB hT (fun y hy => hgn m y (by omega) (by omega) hy) (fun y j hy hj => q2 j y hj hy) FU 0 fb fr (by unfold FU; omega) (by omega)
      rw [show (0 : Int32) = iN 0 from rfl, w1]
      have en : iN m + -1 = iZ ((m : Int) - 1) := by
        rw [iN_iZ, show (-1 : Int32) = iZ (-1) from rfl, iZ_add]
        rfl
      simp only [en]
      refine ih m fb2 fm1 fr2 (by omega) (by omega) (by omega) ⟨fun m' x i h5 h6 h7 h8 => ?_, fun m' x i h5 h6 h7 h8 => ?_, fun m' x i h5 h6 h7 h8 => ?_⟩
      · by_cases c2 : m' = m
        · subst c2
          rw [(w2 x i (Nat.zero_le _) h7 h8).1, show g 1 - m' = (g 1 - (m' + 1)) + 1 by omega, bstS, show g 1 - (g 1 - (m' + 1) + 1) = m' by omega]
        · rw [(w3 _ (fun y k _ h9 h10 e => c2 (ix_inj (by omega) h8 (by omega) h10 e).1)).1]
          exact h4.1 m' x i (by omega) h6 h7 h8
      · by_cases c2 : m' = m
        · subst c2
          rw [(w2 x i (Nat.zero_le _) h7 h8).2, show g 1 - m' = (g 1 - (m' + 1)) + 1 by omega, rlsS, show g 1 - (g 1 - (m' + 1) + 1) = m' by omega]
        · rw [(w3 _ (fun y k _ h9 h10 e => c2 (ix_inj (by omega) h8 (by omega) h10 e).1)).2]
          exact h4.2.1 m' x i (by omega) h6 h7 h8
      · by_cases c2 : m' = m
        · subst c2
          exact q2 i x h8 h7
        · rw [q3 _ (fun k y h9 h10 e => by have := (ix_inj (by omega) h8 (by omega) h9 e).1; omega)]
          exact h4.2.2 m' x i (by omega) h6 h7 h8
theorem left_mul {a b : Nat} (ha : a ≤ 99) (hb : b ≤ 13) : FP.fmul (FP.i2f (iN a)) (FP.i2f (iN b)) = FP.i2f (iN (a * b)) ∧ aL 1400 (FP.i2f (iN (a * b))) := by
  have h2 : a * b ≤ 99 * 13 := Nat.mul_le_mul ha hb
  refine ⟨?_, aL_int (iN_abs (by omega) (by omega)) (by decide)⟩
  have : ∀ a < 100, ∀ b < 14, FP.fmul (FP.i2f (iN a)) (FP.i2f (iN b)) = FP.i2f (iN (a * b)) := by decide +kernel
  exact this a (by omega) b (by omega)
theorem c_sweep13 {G : Mem → Option (Unit × Mem)} {v2 : Int32} {x : Nat} (hb : Bs p) (hr : Rw r) (hg : OKg g) (h : RB s p g) (hx : x ≤ g 0) :
    ∀ (n i : Nat) (fb : Nat → UInt32), 3 - i < n → i ≤ 3 → ∃ fb', X1_sweep_L13 G r p v2 (iN x) n (iN i) (lay (st3 s r fb fm fr)) = G (lay (st3 s r fb' fm fr)) ∧ (∀ k, i ≤ k → k < 3 → fb' (ix (g 1) x k) = bstS g 0 x k) ∧ (∀ j, (∀ k, i ≤ k → k < 3 → j ≠ ix (g 1) x k) → fb' j = fb j) := by
  intro n
  have b1 := hg.1
  induction n with
  | zero => intro i fb h1; omega
  | succ n ih =>
    intro i fb h1 h2
    have hS := st3_RB (fb := fb) (fm := fm) (fr := fr) hb hr hg h
    rw [X1_sweep_L13]
    simp (disch := first | assumption | omega) only [iN_Lle]
    by_cases c1 : 3 ≤ i
    · rw [if_pos c1]
      exact ⟨fb, rfl, fun k h3 h4 => by omega, fun j _ => rfl⟩
    · rw [if_neg c1]
      have hi : i < 3 := by omega
      have hl := ix_lt (m := g 1) (x := x) (i := i) (by omega) (by omega) hi
      have hm := left_mul (a := g 3) (b := x) (by omega) (by omega)
      simp only [ob, bd_s, jn_s, zz0, zz1, i10, i00, if_true, if_false, rw_r0 hr, bs_g1 hb, bs_g3 hb, hS.1.1.2.1, hS.1.1.2.2.2.1, c_spot]
      rw [hm.1, nn_aL hm.2]
      simp only [ob, rw_s1 hr hl, st3_ub, st3_b, iN_add, iN_addL, iN_Ladd, iN_mul, iN_mulL, iN_Lmul]
      obtain ⟨fb', d1, d2, d3⟩ := ih (i + 1) (vf_upd fb (ix (g 1) x i) (FP.i2f (iN (g 3 * x)))) (by omega) (by omega)
      refine ⟨fb', d1, fun k h3 h4 => ?_, fun j hj => ?_⟩
      · by_cases c2 : k = i
        · subst c2
          rw [d3 _ (fun k' h5 h6 e => by have := ix_inj (m := g 1) (m' := g 1) (by omega) hi (by omega) h6 e; omega), vfu_same]
          rfl
        · exact d2 k (by omega) h4
      · rw [d3 j (fun k h5 h6 => hj k (by omega) h6), vfu_ne (hj i (by omega) hi)]
theorem c_sweep2 {G : Mem → Option (Unit × Mem)} {v2 : Int32} (hb : Bs p) (hr : Rw r) (hg : OKg g) (h : RB s p g) :
    ∀ (n x : Nat) (fb : Nat → UInt32), g 0 + 1 - x < n → x ≤ g 0 + 1 → ∃ fb', X1_sweep_L2 G r p v2 n (iN x) (lay (st3 s r fb fm fr)) = G (lay (st3 s r fb' fm fr)) ∧ (∀ y k, x ≤ y → y ≤ g 0 → k < 3 → fb' (ix (g 1) y k) = bstS g 0 y k) ∧ (∀ j, (∀ y k, x ≤ y → y ≤ g 0 → k < 3 → j ≠ ix (g 1) y k) → fb' j = fb j) := by
  intro n
  have b1 := hg.1
  induction n with
  | zero => intro x fb h1; omega
  | succ n ih =>
    intro x fb h1 h2
    have hS := st3_RB (fb := fb) (fm := fm) (fr := fr) hb hr hg h
    rw [X1_sweep_L2]
    simp (disch := first | assumption | omega) only [ob, bd_s, jn_s, zz0, zz1, i10, i00, if_true, if_false, bs_g0 hb, hS.1.1.1, iN_lt]
    by_cases c1 : g 0 < x
    · rw [if_pos c1]
      exact ⟨fb, rfl, fun y k h3 h4 => by omega, fun j _ => rfl⟩
    · rw [if_neg c1]
      obtain ⟨fb1, e1, e2, e3⟩ := c_sweep13 (G := fun μ_48 => X1_sweep_L2 G r p v2 n (iN x + 1) μ_48) (v2 := v2) (fm := fm) (fr := fr) hb hr hg h (show x ≤ g 0 by omega) FU 0 fb (by unfold FU; omega) (by omega)
      rw [show (0 : Int32) = iN 0 from rfl, e1]
      simp only [iN_add, iN_addL, iN_Ladd, iN_mul, iN_mulL, iN_Lmul]
      obtain ⟨fb', d1, d2, d3⟩ := ih (x + 1) fb1 (by omega) (by omega)
      refine ⟨fb', d1, fun y k h3 h4 h5 => ?_, fun j hj => ?_⟩
      · by_cases c2 : y = x
        · subst c2
          rw [d3 (ix (g 1) y k) (fun z k' h6 h7 h8 e => by have := ix_inj (m := g 1) (m' := g 1) (by omega) h5 (by omega) h8 e; omega)]
          exact e2 k (by omega) h5
        · exact d2 y k (by omega) h4 h5
      · rw [d3 j (fun y k h5 h6 h7 => hj y k (by omega) h6 h7)]
        exact e3 j (fun k h5 h6 => hj x k (by omega) (by omega) h6)
theorem c_sweep (hb : Bs p) (hr : Rw r) (hg : OKg g) (h : RB s p g) {f : Nat} (hf : f ≤ g 1) (hgn : GNs g f (s.1 (r + 4))) : ∃ fb fm fr, fX1_sweep r p (iN f) (lay s) = some ((), lay (st3 s r fb fm fr)) ∧ TBs g f fb fm fr := by
  have b1 := hg.1
  unfold fX1_sweep
  obtain ⟨fb1, e1, e2, e3⟩ := c_sweep2 (G := fun μ_54 => (gI μ_54 p 0 1).bind fun x55 => X1_sweep_L61 (fun μ_123 => some ((), μ_123)) r p (iN f) FU ((x55 - (1 : Int32))) μ_54) (v2 := iN f) (fm := s.2.1 (r + 2)) (fr := s.1 (r + 3)) hb hr hg h FU 0 (s.2.1 (r + 1)) (by unfold FU; omega) (by omega)
  rw [st3_self] at e1
  rw [show (0 : Int32) = iN 0 from rfl, e1]
  have hS := st3_RB (fb := fb1) (fm := s.2.1 (r + 2)) (fr := s.1 (r + 3)) hb hr hg h
  simp only [bs_g1 hb, ob, hS.1.1.2.1]
  rw [show iN (g 1) - 1 = iZ ((g 1 : Int) - 1) by rw [iN_iZ, show (1 : Int32) = iZ 1 from rfl, iZ_sub]]
  exact c_sweep61 (G := fun μ => some ((), μ)) hb hr hg h hf hgn FU (g 1) fb1 _ _ (by unfold FU; omega) hf (Nat.le_refl _) ⟨fun m x i h5 h6 h7 h8 => by
      have : m = g 1 := by omega
      subst this
      rw [e2 x i (Nat.zero_le _) h7 h8, Nat.sub_self], fun m x i h5 h6 => by omega, fun m x i h5 h6 => by omega⟩
theorem c_bestAt (hr : Rw r) {f m x i : Nat} (h1 : f ≤ m) (h2 : m ≤ g 1) (h3 : x ≤ g 0) (h4 : i < 3) (hg : OKg g) (ht : TBs g f (s.2.1 (r + 1)) (s.2.1 (r + 2)) (s.1 (r + 3))) : fX1_bestAt r (iN m) (iN x) (iN i) (lay s) = some (bstS g (g 1 - m) x i, lay s) := by
  have b1 := hg.1
  have hl := ix_lt (m := m) (x := x) (i := i) (by omega) (by omega) h4
  unfold fX1_bestAt
  simp only [rw_r0 hr, c_spot, ob, bd_s, rw_a1 hr hl]
  rw [ht.1 m x i h1 h2 h3 h4]
theorem c_releaseAt (hr : Rw r) {f m x i : Nat} (h1 : f ≤ m) (h2 : m < g 1) (h3 : x ≤ g 0) (h4 : i < 3) (hg : OKg g) (ht : TBs g f (s.2.1 (r + 1)) (s.2.1 (r + 2)) (s.1 (r + 3))) : fX1_releaseAt r (iN m) (iN x) (iN i) (lay s) = some (iN (rlsS g (g 1 - m) x i), lay s) := by
  have b1 := hg.1
  have hl := ix_lt2 (m := m) (x := x) (i := i) (by omega) (by omega) h4
  unfold fX1_releaseAt
  simp only [rw_r2 hr, c_spot, ob, bd_s, rw_a3 hr hl]
  rw [ht.2.1 m x i h1 h2 h3 h4]
theorem c_comesTo (hb : Bs p) (hr : Rw r) {f m x i k : Nat} (h1 : f ≤ m) (h2 : m < g 1) (h3 : x ≤ g 0) (h4 : i < 3) (hk : k ≤ 20) (hg : OKg g) (h : RB s p g) (hgn : GNs g f (s.1 (r + 4))) (ht : TBs g f (s.2.1 (r + 1)) (s.2.1 (r + 2)) (s.1 (r + 3))) : fX1_comesTo r p (iN m) (iN x) (iN i) (iN k) (lay s) = some (valS g (bstS g (g 1 - (m + 1))) m x i k, lay s) := by
  have b1 := hg.1
  have hm : m < 12 := by omega
  have hx : x ≤ 13 := by omega
  have hq := inflow_le hg hm h4
  have hd := dried_le (x := x) hg hm
  have hth : thereS g m x (g (4 + 3 * m + i)) ≤ 22 := by unfold thereS; omega
  have hB : bdS (g 1 - (m + 1)) ≤ 200000 := by unfold bdS; omega
  have hT : ∀ x j, x ≤ g 0 → j < 3 → aL (bdS (g 1 - (m + 1))) (bstS g (g 1 - (m + 1)) x j) := fun x j hx hj => (bstS_aL hg (g 1 - (m + 1)) x j (by omega) hx hj).1
  have hv := c_valueOf (k := k) hb hr hg h hm hx h4 hk hB hT (fun y hy => hgn m y h1 h2 hy) (fun y j hy hj => ht.2.2 m y j h1 h2 hy hj)
  unfold fX1_comesTo
  simp (disch := first | assumption | omega) only [ob, bd_s, jn_s, zz0, zz1, i10, i00, if_true, if_false, bs_c hb, rw_c hr, c_driedIn hb hg h.1 hm, c_inflowIn hb h.1 hm h4]
  rw [iN_sub hd, iN_add, show x - driedS g m x + g (4 + 3 * m + i) = thereS g m x (g (4 + 3 * m + i)) from rfl]
  simp (disch := first | assumption | omega) only [mnI_iN]
  rw [iN_sub (Nat.min_le_right _ _), show thereS g m x (g (4 + 3 * m + i)) - min k (thereS g m x (g (4 + 3 * m + i))) = restoS g m x (g (4 + 3 * m + i)) k from rfl, hv]
  rfl
end SWEEP2
