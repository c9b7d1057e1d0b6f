/-! ===== what is kept, and taken back ===== -/
section IMAGE
variable {s t : Sto}
theorem aLen_lay {p : Nat} (h : 0 < nA 0 p) : aLen (lay s) p = some (iN (nA 0 p)) := by
  obtain ⟨n, b, h1, h2⟩ := nA_spec h
  unfold aLen
  rw [lay_get, h1]
  simp only [Option.map_some, cel]
  rw [if_pos (by omega), h2]
  rfl
theorem mnI_self {k : Nat} : mnI (iN k) (iN k) = iN k := by
  unfold mnI
  split <;> rfl
theorem mnI_le {a b : Nat} (h : a ≤ b) (hb : b < 2147483648) : mnI (iN a) (iN b) = iN a := by
  unfold mnI
  rw [if_neg (by rw [iN_lt (by omega) (by omega)]; omega)]
theorem c_lcopy {l m wd lm : Nat} (hl : Ln l wd lm) (hm : Ln m wd lm) (sep : l + 2 ≤ m ∨ m + 2 ≤ l) : ∃ t, fX6_copyFrom l m (lay s) = some ((), lay t) ∧ Ol l s t ∧ ∀ n f, n ≤ lm → LI s m wd n f → LI t l wd n f := by
  have kl := ln_k hl
  have km := ln_k hm
  have a1 : ∀ z : Sto, aLen (lay z) (l + 1) = some (iN (wd * lm)) := fun z => by rw [aLen_lay (by omega), kl.2.2.2.2.2.1]
  have a2 : ∀ z : Sto, aLen (lay z) (m + 1) = some (iN (wd * lm)) := fun z => by rw [aLen_lay (by omega), km.2.2.2.2.2.1]
  have c1 : ∀ z : Sto, cpI (lay z) (m + 1) 0 (l + 1) 0 (iN (wd * lm)) = some (lay (rI z (l + 1) (va_cpy (z.1 (m + 1)) (z.1 (l + 1)) 0 0 (wd * lm)))) := fun z => cpI_lay (a := 0) (b := 0) (by omega) (by omega) (by omega) (by omega)
  refine ⟨uI (rI s (l + 1) (va_cpy (s.1 (m + 1)) (s.1 (l + 1)) 0 0 (wd * lm))) l 3 (mnI ((rI s (l + 1) (va_cpy (s.1 (m + 1)) (s.1 (l + 1)) 0 0 (wd * lm))).1 m 3) (iN lm)), ?_, Ol_1.tr Ol_0, fun n f hn h => ?_⟩
  · unfold fX6_copyFrom
    simp only [ln_r2 hl, ln_r2 hm, a1, a2, ob, mnI_self, c1, ln_g3 hm, ln_g1 hl, ln_p3 hl]
  · have q : n * wd ≤ wd * lm := by rw [Nat.mul_comm wd lm]; exact Nat.mul_le_mul_right _ hn
    have w := ln_w hl
    refine ⟨?_, fun i hi => ?_⟩
    · rw [rI_same, upd_same, rI_ne (by omega), h.1, mnI_le hn (by omega)]
    · rw [rI_ne (by omega), rI_same, va_cpy_in (by omega)]
      exact h.2 i hi
theorem c_scopy {P Q : Nat} (hPQ : (P = 1 ∧ Q = 21) ∨ (P = 21 ∧ Q = 1)) : ∃ t, fX8_copyFrom P Q (lay s) = some ((), lay t) ∧ (∀ x, x < P + 1 ∨ P + 20 ≤ x → t.1 x = s.1 x) ∧ t.2 = s.2 ∧ ∀ g, OKs g → RS s Q g → RS t P g := by
  have bP : Bs (P + 1) := by unfold Bs; omega
  have bQ : Bs (Q + 1) := by unfold Bs; omega
  have p0 : ∀ z : Sto, gR (lay z) P 8 0 = some (P + 1) ∧ gR (lay z) P 8 1 = some (P + 14) ∧ gR (lay z) P 8 2 = some (P + 16) ∧ gR (lay z) P 8 3 = some (P + 18) := fun z => by
    rcases hPQ with ⟨rfl, rfl⟩ | ⟨rfl, rfl⟩
    · exact ⟨rr_1_0, rr_1_1, rr_1_2, rr_1_3⟩
    · exact ⟨rr_21_0, rr_21_1, rr_21_2, rr_21_3⟩
  have q0 : ∀ z : Sto, gR (lay z) Q 8 0 = some (Q + 1) ∧ gR (lay z) Q 8 1 = some (Q + 14) ∧ gR (lay z) Q 8 2 = some (Q + 16) ∧ gR (lay z) Q 8 3 = some (Q + 18) := fun z => by
    rcases hPQ with ⟨rfl, rfl⟩ | ⟨rfl, rfl⟩
    · exact ⟨rr_21_0, rr_21_1, rr_21_2, rr_21_3⟩
    · exact ⟨rr_1_0, rr_1_1, rr_1_2, rr_1_3⟩
  have hl : Ln (P + 14) 4 5 ∧ Ln (P + 16) 2 8 ∧ Ln (P + 18) 3 8 ∧ Ln (Q + 14) 4 5 ∧ Ln (Q + 16) 2 8 ∧ Ln (Q + 18) 3 8 := by
    rcases hPQ with ⟨rfl, rfl⟩ | ⟨rfl, rfl⟩ <;> (unfold Ln; decide)
  obtain ⟨m1, m2, m3, m4, m5, m6⟩ := hl
  obtain ⟨t0, a1, a2, a3⟩ := c_bcopy (s := s) bP bQ (by omega)
  obtain ⟨t1, b1, b2, b3⟩ := c_lcopy (s := t0) m1 m4 (by omega)
  obtain ⟨t2, d1, d2, d3⟩ := c_lcopy (s := t1) m2 m5 (by omega)
  obtain ⟨t3, e1, e2, e3⟩ := c_lcopy (s := t2) m3 m6 (by omega)
  refine ⟨t3, ?_, fun x hx => ?_, by rw [e2.2, d2.2, b2.2, a2.2], fun g hg h => ?_⟩
  · unfold fX8_copyFrom
    simp only [(p0 _).1, (q0 _).1, ob, bs_c bP]
    rw [a1]
    simp only [bd_s, (p0 _).2.1, (q0 _).2.1, ob, ln_c m1]
    rw [b1]
    simp only [bd_s, (p0 _).2.2.1, (q0 _).2.2.1, ob, ln_c m2]
    rw [d1]
    simp only [bd_s, (p0 _).2.2.2, (q0 _).2.2.2, ob, ln_c m3]
    rw [e1]
    rfl
  · rw [e2.1 x (by omega) (by omega), d2.1 x (by omega) (by omega), b2.1 x (by omega) (by omega), a2.1 x (by omega)]
  · refine ⟨?_, ?_, ?_, ?_⟩
    · exact RB_congr (a3 g hg.m h.1) hg.m (fun q h1 h2 => by rw [e2.1 q (by omega) (by omega), d2.1 q (by omega) (by omega), b2.1 q (by omega) (by omega)])
    · have := b3 _ _ hg.2.2.2.1 (LI_congr h.2.1 (a2.1 _ (by omega)) (a2.1 _ (by omega)))
      exact LI_congr this (by rw [e2.1 _ (by omega) (by omega), d2.1 _ (by omega) (by omega)]) (by rw [e2.1 _ (by omega) (by omega), d2.1 _ (by omega) (by omega)])
    · have := d3 _ _ hg.2.2.2.2.1 (LI_congr h.2.2.1 (by rw [b2.1 _ (by omega) (by omega), a2.1 _ (by omega)]) (by rw [b2.1 _ (by omega) (by omega), a2.1 _ (by omega)]))
      exact LI_congr this (by rw [e2.1 _ (by omega) (by omega)]) (by rw [e2.1 _ (by omega) (by omega)])
    · exact e3 _ _ hg.2.2.2.2.2.1 (LI_congr h.2.2.2 (by rw [d2.1 _ (by omega) (by omega), b2.1 _ (by omega) (by omega), a2.1 _ (by omega)]) (by rw [d2.1 _ (by omega) (by omega), b2.1 _ (by omega) (by omega), a2.1 _ (by omega)]))
theorem r_laysL {G : Mem → Option (Unit × Mem)} {p q : Nat} (hpq : p ≠ q) (A : ∀ (z : Sto) i, i < 173 → aI (lay z) 0 p (iN i) = some (z.1 p i)) (S : ∀ (z : Sto) i x, i < 173 → sI (lay z) q (iN i) x = some (lay (uI z q i x))) : ∀ (n k : Nat) (t : Sto), 173 - k < n → k ≤ 173 → ∃ u, X11_lays_L2 G p q n (iN k) (lay t) = G (lay u) ∧ (∀ x, x ≠ q → u.1 x = t.1 x) ∧ u.2 = t.2 ∧ (∀ j, k ≤ j → j < 173 → u.1 q j = t.1 p j) ∧ (∀ j, j < k ∨ 173 ≤ j → u.1 q j = t.1 q j) := by
  intro n
  induction n with
  | zero => intro k t h; omega
  | succ n ih =>
    intro k t h1 h2
    rw [X11_lays_L2]
    simp (disch := first | assumption | omega) only [iN_Lle]
    by_cases c1 : 173 ≤ k
    · rw [if_pos c1]
      exact ⟨t, rfl, fun _ _ => rfl, rfl, fun j h3 h4 => by omega, fun _ _ => rfl⟩
    · rw [if_neg c1, A t k (by omega)]
      simp only [ob]
      rw [S t k _ (by omega)]
      simp only [ob, iN_add, iN_addL, iN_Ladd, iN_mul, iN_mulL, iN_Lmul]
      obtain ⟨u, u1, u2, u3, u4, u5⟩ := ih (k + 1) (uI t q k (t.1 p k)) (by omega) (by omega)
      refine ⟨u, u1, fun x hx => by rw [u2 x hx, rI_ne hx], by rw [u3, rI_2], fun j h3 h4 => ?_, fun j h3 => ?_⟩
      · by_cases c : j = k
        · subst c
          rw [u5 j (by omega), rI_same, upd_same]
        · rw [u4 j (by omega) h4, rI_ne hpq]
      · rw [u5 j (by omega), rI_same, upd_ne (by omega)]
theorem r_lays {p q : Nat} (hpq : p ≠ q) (A : ∀ (z : Sto) i, i < 173 → aI (lay z) 0 p (iN i) = some (z.1 p i)) (S : ∀ (z : Sto) i x, i < 173 → sI (lay z) q (iN i) x = some (lay (uI z q i x))) : ∃ u, fX11_lays p q (lay s) = some ((), lay u) ∧ (∀ x, x ≠ q → u.1 x = s.1 x) ∧ u.2 = s.2 ∧ (∀ g, Rg s p g → Rg u q g) := by
  obtain ⟨u, u1, u2, u3, u4, u5⟩ := r_laysL (G := fun μ => some ((), μ)) hpq A S FU 0 s (by unfold FU; omega) (by omega)
  exact ⟨u, u1, u2, u3, fun g h k hk => by rw [u4 k (by omega) hk]; exact h k hk⟩
/-- records, the text, tapes stay -/
def Kx (s t : Sto) : Prop := (∀ q, (75 ≤ q ∧ q ≤ 77) ∨ (80 ≤ q ∧ q ≤ 100) ∨ (104 ≤ q ∧ q ≤ 105) ∨ q = 113 ∨ q = 115 ∨ q = 116 → t.1 q = s.1 q) ∧ t.1 101 29 = s.1 101 29 ∧ t.2.2.1 = s.2.2.1 ∧ (Tw s → Tw t)
theorem IB_ki {g kp g' kp' : Nat → Nat} {kf kf' : Bool} {rn : Nat → Nat} {rv : Nat → Nat → Nat} {tn : Nat} {tv : Nat → Nat} (hk : Kx s t) (h : IB s g kp kf rn rv tn tv) (h1 : Ig t g') (h2 : Ik t kp' kf') : IB t g' kp' kf' rn rv tn tv := by
  obtain ⟨_, _, c, d, e, f⟩ := h
  obtain ⟨k1, k3, k4, k5⟩ := hk
  refine ⟨h1, h2, fun r hr => ?_, ?_, fun i hi => ?_, k5 f⟩
  · obtain ⟨c1, c2, c3, c4⟩ := c r hr
    rw [k1 (81 + 2 * r) (by omega), k1 104 (by omega), k1 (82 + 2 * r) (by omega), k1 105 (by omega)]
    exact ⟨c1, c2, c3, c4⟩
  · obtain ⟨d1, d2, d3, d4⟩ := d
    unfold It
    rw [k1 76 (by omega), k3, k1 77 (by omega), k1 113 (by omega)]
    exact ⟨d1, d2, d3, d4⟩
  · have := e i hi
    rw [k1 (89 + 2 * i) (by omega), k1 115 (by omega), k1 116 (by omega), k4]
    exact this
theorem k_image (H : Inv s) : Alike s (fX10_image 0) (fX11_image 101) := by
  have H0 := H
  obtain ⟨g, kp, kf, rn, rv, tn, tv, hB, hC⟩ := H0
  have hI := hB.1
  have hg := hI.1.1
  have b1 := hg.1
  have hR := RR_of hI
  have hc := hI.2.1.1
  have hb : Bs 2 := Or.inl rfl
  obtain ⟨t, t1, t2, t3, t4⟩ := c_scopy (s := s) (P := 21) (Q := 1) (Or.inr ⟨rfl, rfl⟩)
  have o := hI.1
  have hS := t4 g o hI.2.1
  obtain ⟨u, u1, u2, u3, u4⟩ := r_lays (s := uI t 0 2 1) (p := 102) (q := 103) (by omega) (fun z i h => ai_102 h) (fun z i x h => si_103 h)
  have e102 : u.1 102 = s.1 102 := by rw [u2 102 (by omega), rI_ne (by omega), t2 102 (by omega)]
  refine ⟨iN (g 73), uI t 0 2 1, uI u 101 2 1, ?_, ?_, ?_⟩
  · unfold fX10_image
    simp only [rr_0_1, rr_0_0, ob, oc_21]
    rw [t1]
    simp only [bd_s, pZ1_lay (s := t) (p := 0) (ci := 10) (k := 2) rfl, rr_0_0, rr_1_0, ob, bs_g10 hb]
    rw [rI_ne (by omega), t2 2 (by omega), hc.1.1.2.2.2.2]
  · unfold fX11_image
    simp only [rr_101_0, rr_101_1, ob]
    rw [u1]
    simp only [bd_s, pZ1_lay (s := u) (p := 101) (ci := 11) (k := 2) rfl, rr_101_0, ob]
    rw [show aI (lay (uI u 101 2 1)) 0 102 73 = some ((uI u 101 2 1).1 102 73) from ai_102 (i := 73) (by omega), rI_ne (by omega), e102, hI.2.2.1 73 (by omega)]
    rfl
  · have ev : ∀ q, q < 101 → q ≠ 0 → (q < 22 ∨ 41 ≤ q) → (uI u 101 2 1).1 q = s.1 q := fun q h1 h2 h3 => by rw [rI_ne (by omega), u2 q (by omega), rI_ne (by omega), t2 q (by omega)]
    have ew : ∀ q, 101 < q → q ≠ 103 → (uI u 101 2 1).1 q = s.1 q := fun q h1 h2 => by rw [rI_ne (by omega), u2 q (by omega), rI_ne (by omega), t2 q (by omega)]
    have ex : ∀ k, k ≠ 2 → (uI u 101 2 1).1 101 k = s.1 101 k := fun k hk => by rw [rI_same, upd_ne hk, u2 101 (by omega), rI_ne (by omega), t2 101 (by omega)]
    have ey : ∀ k, k ≠ 2 → (uI u 101 2 1).1 0 k = s.1 0 k := fun k hk => by rw [rI_ne (by omega), u2 0 (by omega), rI_same, upd_ne hk, t2 0 (by omega)]
    have e2 : (uI u 101 2 1).2 = s.2 := by rw [rI_2, u3, rI_2, t3]
    refine ⟨g, g, true, rn, rv, tn, tv, IB_ki (s := s) ⟨fun q hq => ?_, ex 29 (by omega), by rw [e2], fun h => by unfold Tw at *; rw [e2]; exact h⟩ hB ⟨o, ?_, ?_, ?_⟩ (Or.inr ⟨rfl, ?_, ?_, o, ?_, ?_⟩), Ic_keep ⟨fun k hk => ey k (by omega), ev 57 (by omega) (by omega) (by omega), ev 58 (by omega) (by omega) (by omega), by rw [e2], by rw [e2]⟩ hC⟩
    · by_cases c : q < 101
      · exact ev q c (by omega) (by omega)
      · exact ew q (by omega) (by omega)
    · exact RS_congr hI.2.1 o.m (fun q h1 h2 => ev q (by omega) (by omega) (by omega))
    · exact Rg_congr hI.2.2.1 (ew 102 (by omega) (by omega))
    · rw [ex 3 (by omega)]; exact hI.2.2.2
    · rw [rI_ne (by omega), u2 0 (by omega), rI_same, upd_same]
    · rw [rI_same, upd_same]
    · exact RS_congr hS o.m (fun q h1 h2 => by rw [rI_ne (by omega), u2 q (by omega), rI_ne (by omega)])
    · exact Rg_congr (u4 g (fun k hk => by rw [rI_ne (by omega), t2 102 (by omega)]; exact hI.2.2.1 k hk)) (rI_ne (by omega))
theorem k_undo (H : Inv s) : Alike s (fX10_undo 0) (fX11_undo 101) := by
  have H0 := H
  obtain ⟨g, kp, kf, rn, rv, tn, tv, hB, hC⟩ := H0
  have hI := hB.1
  have hg := hI.1.1
  have b1 := hg.1
  have hR := RR_of hI
  have hc := hI.2.1.1
  have hb : Bs 2 := Or.inl rfl
  rcases hB.2.1 with ⟨k1, k2, k3⟩ | ⟨k1, k2, k3, k4, k5, k6⟩
  · refine Alike_same (a := -3) ?_ ?_ H
    · unfold fX10_undo
      simp only [gi_0_2, k2, ob, if_true]
    · unfold fX11_undo
      simp only [gi_101_2, k3, ob, if_true]
  · have f0 := forget_0 (s := s)
    have kF : Kb s (uI (uI s 0 6 0) 0 7 0) := Kb_forget
    generalize hz : uI (uI s 0 6 0) 0 7 0 = z at *
    have hB0 := IB_keep kF hB
    obtain ⟨t, t1, t2, t3, t4⟩ := c_scopy (s := z) (P := 1) (Q := 21) (Or.inl ⟨rfl, rfl⟩)
    have o := k4
    have z5 : RS z 21 kp := RS_congr k5 o.m (fun q h1 h2 => kF.1 q (by unfold SP; omega))
    have hS := t4 kp o z5
    obtain ⟨u, u1, u2, u3, u4⟩ := r_lays (s := t) (p := 103) (q := 102) (by omega) (fun z i h => ai_103 h) (fun z i x h => si_102 h)
    have t103 : Rg t 103 kp := Rg_congr k6 (by rw [t2 103 (by omega), kF.1 103 (by unfold SP; omega)])
    have u102 := u4 kp t103
    refine ⟨iN (kp 73), t, u, ?_, ?_, ?_⟩
    · unfold fX10_undo
      simp only [gi_0_2, k2, ob, i10, if_false, oc_0, c_forget, bd_s, hz, rr_0_1, rr_0_0, oc_1]
      rw [t1]
      simp only [bd_s, rr_0_0, rr_1_0, ob, bs_g10 hb]
      rw [hS.1.1.1.2.2.2.2]
    · unfold fX11_undo
      have x2 : t.1 101 2 = 1 := by rw [t2 101 (by omega), kF.2.2.1 2 (by omega)]; exact k3
      simp only [gi_101_2, x2, ob, i10, if_false, rr_101_0, rr_101_1]
      rw [u1]
      simp only [bd_s, rr_101_0, ob]
      rw [show aI (lay u) 0 102 73 = some (u.1 102 73) from ai_102 (i := 73) (by omega), u102 73 (by omega)]
      rfl
    · have ev : ∀ q, q ≠ 102 → (q < 2 ∨ 21 ≤ q) → u.1 q = z.1 q := fun q h1 h2 => by rw [u2 q h1, t2 q (by omega)]
      have e2 : u.2 = z.2 := by rw [u3, t3]
      refine ⟨kp, kp, true, rn, rv, tn, tv, IB_ki (s := z) ⟨fun q hq => ev q (by omega) (by omega), by rw [ev 101 (by omega) (by omega)], by rw [e2], fun h => by unfold Tw at *; rw [e2]; exact h⟩ hB0 ⟨o, ?_, u102, ?_⟩ (Or.inr ⟨rfl, ?_, ?_, o, ?_, ?_⟩), Ic_none ?_ ?_⟩
      · exact RS_congr hS o.m (fun q h1 h2 => u2 q (by omega))
      · rw [ev 101 (by omega) (by omega)]; exact hB0.1.2.2.2
      · rw [ev 0 (by omega) (by omega), kF.2.1]; exact k2
      · rw [ev 101 (by omega) (by omega), kF.2.2.1 2 (by omega)]; exact k3
      · exact RS_congr z5 o.m (fun q h1 h2 => ev q (by omega) (by omega))
      · exact Rg_congr t103 (u2 103 (by omega))
      · rw [ev 0 (by omega) (by omega)]; exact f0.1
      · rw [ev 0 (by omega) (by omega)]; exact f0.2
end IMAGE
