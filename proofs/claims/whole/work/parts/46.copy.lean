/-! ===== a reservoir is copied ===== -/
section COPY
variable {s : Sto}
theorem va_cpy_in {α : Type} {f h : Nat → α} {n k : Nat} (hk : k < n) : va_cpy f h 0 0 n k = f k := by
  unfold va_cpy
  rw [if_pos (by omega)]
  congr 1
  omega
/-- places of p's reservoir apart from the rest -/
def Of (p : Nat) (s t : Sto) : Prop := (∀ x, x < p ∨ p + 13 ≤ x → t.1 x = s.1 x) ∧ t.2 = s.2
theorem Of.tr {p : Nat} {t u : Sto} (h1 : Of p s t) (h2 : Of p t u) : Of p s u := ⟨fun x h => (h2.1 x h).trans (h1.1 x h), h2.2.trans h1.2⟩
theorem Of_rI {p x : Nat} {f : Nat → Int32} (h : p ≤ x ∧ x < p + 13) : Of p s (rI s x f) := ⟨fun y hy => rI_ne (by omega), rfl⟩
theorem c_bcopyL {G : Mem → Option (Unit × Mem)} {p q : Nat} (hp : Bs p) (hq : Bs q) (hne : p ≠ q) : ∀ (n k : Nat) (t : Sto), 6 - k < n → k ≤ 6 → ∃ u, X0_copyFrom_L117 G p q n (iN k) (lay t) = G (lay u) ∧ (∀ x, x < p + 7 + k ∨ p + 13 ≤ x → u.1 x = t.1 x) ∧ u.2 = t.2 ∧ (∀ d f, k ≤ d → d < 6 → f < 6 → u.1 (p + 7 + d) f = t.1 (q + 7 + d) f) := by
  have sep : p + 13 ≤ q ∨ q + 13 ≤ p := by unfold Bs at hp hq; omega
  intro n
  induction n with
  | zero => intro k t h; omega
  | succ n ih =>
    intro k t h1 h2
    rw [X0_copyFrom_L117]
    simp (disch := first | assumption | omega) only [iN_Lle]
    by_cases c1 : 6 ≤ k
    · rw [if_pos c1]
      exact ⟨t, rfl, fun _ _ => rfl, rfl, fun d f h3 h4 => by omega⟩
    · rw [if_neg c1]
      have k6 : k < 6 := by omega
      simp only [bs_r8 hp, bs_r8 hq, ob, bs_d hp k6, bs_d hq k6, bs_cd hp k6, iN_add, iN_addL, iN_Ladd, iN_mul, iN_mulL, iN_Lmul]
      obtain ⟨F, q1, q2⟩ := c_dcopy (s := t) hp hq k6 k6 (by omega)
      rw [q1]
      simp only [bd_s]
      obtain ⟨u, u1, u2, u3, u4⟩ := ih (k + 1) (rI t (p + 7 + k) F) (by omega) (by omega)
      refine ⟨u, u1, fun x hx => ?_, by rw [u3, rI_2], fun d f h3 h4 h5 => ?_⟩
      · rw [u2 x (by omega), rI_ne (by omega)]
      · by_cases c : d = k
        · subst c
          rw [u2 _ (by omega), rI_same, q2 f h5]
        · rw [u4 d f (by omega) h4 h5, rI_ne (by omega)]
theorem c_bcopy {p q : Nat} (hp : Bs p) (hq : Bs q) (hne : p ≠ q) : ∃ t, fX0_copyFrom p q (lay s) = some ((), lay t) ∧ Of p s t ∧ (∀ g : Nat → Nat, g 73 ≤ 6 → RB s q g → RB t p g) := by
  have sep : p + 13 ≤ q ∨ q + 13 ≤ p := by unfold Bs at hp hq; omega
  have lp := Bs_le hp
  have lq := Bs_le hq
  have cp : ∀ (u : Sto) (j n : Nat), nA 0 (p + j) = n → nA 0 (q + j) = n → 0 < n → cpI (lay u) (q + j) 0 (p + j) 0 (iN n) = some (lay (rI u (p + j) (va_cpy (u.1 (q + j)) (u.1 (p + j)) 0 0 n))) := fun u j n e1 e2 h => cpI_lay (a := 0) (b := 0) (by omega) (by omega) (by omega) (by omega)
  have c1 : ∀ u : Sto, cpI (lay u) (q + 1) 0 (p + 1) 0 36 = some (lay (rI u (p + 1) (va_cpy (u.1 (q + 1)) (u.1 (p + 1)) 0 0 36))) := fun u => cp u 1 36 (bs_n1 hp) (bs_n1 hq) (by omega)
  have c2 : ∀ u : Sto, cpI (lay u) (q + 2) 0 (p + 2) 0 9 = some (lay (rI u (p + 2) (va_cpy (u.1 (q + 2)) (u.1 (p + 2)) 0 0 9))) := fun u => cp u 2 9 (bs_n2 hp) (bs_n2 hq) (by omega)
  have c3 : ∀ u : Sto, cpI (lay u) (q + 3) 0 (p + 3) 0 12 = some (lay (rI u (p + 3) (va_cpy (u.1 (q + 3)) (u.1 (p + 3)) 0 0 12))) := fun u => cp u 3 12 (bs_n3 hp) (bs_n3 hq) (by omega)
  have c4 : ∀ u : Sto, cpI (lay u) (q + 4) 0 (p + 4) 0 12 = some (lay (rI u (p + 4) (va_cpy (u.1 (q + 4)) (u.1 (p + 4)) 0 0 12))) := fun u => cp u 4 12 (bs_n4 hp) (bs_n4 hq) (by omega)
  have c6 : ∀ u : Sto, cpI (lay u) (q + 6) 0 (p + 6) 0 6 = some (lay (rI u (p + 6) (va_cpy (u.1 (q + 6)) (u.1 (p + 6)) 0 0 6))) := fun u => cp u 6 6 (bs_n6 hp) (bs_n6 hq) (by omega)
  unfold fX0_copyFrom
  simp only [bs_g0 hq, bs_g1 hq, bs_g2 hq, bs_g3 hq, bs_g10 hq, bs_p0 hp, bs_p1 hp, bs_p2 hp, bs_p3 hp, bs_p10 hp, bs_r4 hp, bs_r4 hq, bs_r5 hp, bs_r5 hq, bs_r6 hp, bs_r6 hq, bs_r7 hp, bs_r7 hq, bs_r9 hp, bs_r9 hq, c1, c2, c3, c4, c6, ob]
  generalize hu : (uI (rI (rI (rI (rI (rI (uI (uI (uI (uI s p 0 _) p 1 _) p 2 _) p 3 _) (p + 1) _) (p + 2) _) (p + 3) _) (p + 4) _) (p + 6) _) p 10 _ : Sto) = u
  obtain ⟨t, t1, t2, t3, t4⟩ := c_bcopyL (G := fun μ => some ((), μ)) hp hq hne FU 0 u (by unfold FU; omega) (by omega)
  have off : ∀ x, x < p ∨ p + 13 ≤ x → u.1 x = s.1 x := fun x hx => by
    rw [← hu]
    simp (disch := first | assumption | omega) only [rI_same, rI_ne, rF_same, rF_ne, rJ_same, rJ_ne, rI_2, rF_1, rF_22, rJ_1, rJ_21, rJ_222, rI_rI, rF_rF, rJ_rJ, upd_same, upd_ne, vfu_same, vfu_ne, vpu_same, vpu_ne]
  refine ⟨t, t1, ⟨fun x hx => by rw [t2 x (by omega), off x hx], by rw [t3, ← hu]; rfl⟩, fun g hg h => ?_⟩
  obtain ⟨⟨⟨h0, h1, h2, h3, h10⟩, i1, i2, i3, i4, i5⟩, i6⟩ := h
  refine ⟨⟨⟨?_, ?_, ?_, ?_, ?_⟩, fun a ha => ?_, fun a ha => ?_, fun a ha => ?_, fun a ha => ?_, fun d f hd hf => ?_⟩, fun k hk => ?_⟩
  · rw [t2 p (by omega), ← h0, ← hu]; simp (disch := first | assumption | omega) only [rI_same, rI_ne, rF_same, rF_ne, rJ_same, rJ_ne, rI_2, rF_1, rF_22, rJ_1, rJ_21, rJ_222, rI_rI, rF_rF, rJ_rJ, upd_same, upd_ne, vfu_same, vfu_ne, vpu_same, vpu_ne]
  · rw [t2 p (by omega), ← h1, ← hu]; simp (disch := first | assumption | omega) only [rI_same, rI_ne, rF_same, rF_ne, rJ_same, rJ_ne, rI_2, rF_1, rF_22, rJ_1, rJ_21, rJ_222, rI_rI, rF_rF, rJ_rJ, upd_same, upd_ne, vfu_same, vfu_ne, vpu_same, vpu_ne]
  · rw [t2 p (by omega), ← h2, ← hu]; simp (disch := first | assumption | omega) only [rI_same, rI_ne, rF_same, rF_ne, rJ_same, rJ_ne, rI_2, rF_1, rF_22, rJ_1, rJ_21, rJ_222, rI_rI, rF_rF, rJ_rJ, upd_same, upd_ne, vfu_same, vfu_ne, vpu_same, vpu_ne]
  · rw [t2 p (by omega), ← h3, ← hu]; simp (disch := first | assumption | omega) only [rI_same, rI_ne, rF_same, rF_ne, rJ_same, rJ_ne, rI_2, rF_1, rF_22, rJ_1, rJ_21, rJ_222, rI_rI, rF_rF, rJ_rJ, upd_same, upd_ne, vfu_same, vfu_ne, vpu_same, vpu_ne]
  · rw [t2 p (by omega), ← h10, ← hu]; simp (disch := first | assumption | omega) only [rI_same, rI_ne, rF_same, rF_ne, rJ_same, rJ_ne, rI_2, rF_1, rF_22, rJ_1, rJ_21, rJ_222, rI_rI, rF_rF, rJ_rJ, upd_same, upd_ne, vfu_same, vfu_ne, vpu_same, vpu_ne]
  · rw [t2 (p + 1) (by omega), ← i1 a ha, ← hu]; simp (disch := first | assumption | omega) only [rI_same, rI_ne, rF_same, rF_ne, rJ_same, rJ_ne, rI_2, rF_1, rF_22, rJ_1, rJ_21, rJ_222, rI_rI, rF_rF, rJ_rJ, upd_same, upd_ne, vfu_same, vfu_ne, vpu_same, vpu_ne, va_cpy_in]
  · rw [t2 (p + 2) (by omega), ← i2 a ha, ← hu]; simp (disch := first | assumption | omega) only [rI_same, rI_ne, rF_same, rF_ne, rJ_same, rJ_ne, rI_2, rF_1, rF_22, rJ_1, rJ_21, rJ_222, rI_rI, rF_rF, rJ_rJ, upd_same, upd_ne, vfu_same, vfu_ne, vpu_same, vpu_ne, va_cpy_in]
  · rw [t2 (p + 3) (by omega), ← i3 a ha, ← hu]; simp (disch := first | assumption | omega) only [rI_same, rI_ne, rF_same, rF_ne, rJ_same, rJ_ne, rI_2, rF_1, rF_22, rJ_1, rJ_21, rJ_222, rI_rI, rF_rF, rJ_rJ, upd_same, upd_ne, vfu_same, vfu_ne, vpu_same, vpu_ne, va_cpy_in]
  · rw [t2 (p + 4) (by omega), ← i4 a ha, ← hu]; simp (disch := first | assumption | omega) only [rI_same, rI_ne, rF_same, rF_ne, rJ_same, rJ_ne, rI_2, rF_1, rF_22, rJ_1, rJ_21, rJ_222, rI_rI, rF_rF, rJ_rJ, upd_same, upd_ne, vfu_same, vfu_ne, vpu_same, vpu_ne, va_cpy_in]
  · rw [t4 d f (Nat.zero_le _) (by omega) hf, off (q + 7 + d) (by omega)]
    exact i5 d f hd hf
  · have hk6 : k < 6 := by omega
    rw [t2 (p + 6) (by omega), ← i6 k hk, ← hu]; simp (disch := first | assumption | omega) only [rI_same, rI_ne, rF_same, rF_ne, rJ_same, rJ_ne, rI_2, rF_1, rF_22, rJ_1, rJ_21, rJ_222, rI_rI, rF_rF, rJ_rJ, upd_same, upd_ne, vfu_same, vfu_ne, vpu_same, vpu_ne, va_cpy_in]
theorem RC_gcongr {p : Nat} {g g' : Nat → Nat} (h : RC s p g) (e0 : ∀ k, k < 74 → g' k = g k) (e1 : ∀ d f, d < g 73 → f < 6 → dF g' d f = dF g d f) : RC s p g' := by
  obtain ⟨⟨h0, h1, h2, h3, h10⟩, i1, i2, i3, i4, i5⟩ := h
  refine ⟨⟨by rw [e0 0 (by omega)]; exact h0, by rw [e0 1 (by omega)]; exact h1, by rw [e0 2 (by omega)]; exact h2, by rw [e0 3 (by omega)]; exact h3, by rw [e0 73 (by omega)]; exact h10⟩, fun k hk => by rw [e0 _ (by omega)]; exact i1 k hk, fun k hk => by rw [e0 _ (by omega)]; exact i2 k hk, fun k hk => by rw [e0 _ (by omega)]; exact i3 k hk, fun k hk => by rw [e0 _ (by omega)]; exact i4 k hk, fun d f hd hf => ?_⟩
  rw [e0 73 (by omega)] at hd
  rw [e1 d f hd hf]
  exact i5 d f hd hf
/-- a demand of number d wants nothing any more -/
theorem c_silence {p d : Nat} {g : Nat → Nat} (hp : Bs p) (hg : OKg g) (h : RB s p g) (hd : d < 6) : ∃ t, fX0_silence p (iN d) (lay s) = some ((), lay t) ∧ Of p s t ∧ RB t p (gs g (76 + 6 * d) 0) := by
  have b1 := hg.1
  unfold fX0_silence
  have e1 : ∀ e, dF (gs g (76 + 6 * d) 0) e 1 = dF g e 1 := fun e => by
    unfold dF
    exact gs_ne (by omega)
  by_cases c : d < g 73
  · have c1 : 0 ≤ iN d ∧ iN d < iN (g 73) := by
      rw [iN_Lle (by omega) (by omega), iN_lt (by omega) (by omega)]
      exact ⟨Nat.zero_le _, c⟩
    have p2 : pV (lay s) (p + 7 + d) 5 2 (.int (0 : Int32)) = some (lay (uI s (p + 7 + d) 2 0)) := bs_pd hp hd (by omega)
    refine ⟨uI s (p + 7 + d) 2 (iN 0), ?_, Of_rI (by omega), RB_set (by omega) h (Or.inr (Or.inr (Or.inr (Or.inr (Or.inr ⟨d, rfl, by omega, by omega, hd⟩))))) (Or.inr (fun e => by omega))⟩
    simp only [bs_c hp, ob, c_hasDemand hp hg h.1, tI_pos c1, bd_s, i10, if_false, bs_r8 hp, bs_d hp hd, p2]
    rfl
  · have c1 : ¬ (0 ≤ iN d ∧ iN d < iN (g 73)) := by
      rw [iN_Lle (by omega) (by omega), iN_lt (by omega) (by omega)]
      omega
    refine ⟨s, ?_, ⟨fun _ _ => rfl, rfl⟩, RC_gcongr h.1 (fun k hk => gs_ne (by omega)) (fun e f he hf => ?_), RK_same h.2 rfl e1 (gs_ne (by omega))⟩
    · simp only [bs_c hp, ob, c_hasDemand hp hg h.1, tI_neg c1, bd_s, i00, if_true]
    · unfold dF
      exact gs_ne (by omega)
theorem ok_sil {g : Nat → Nat} {d : Nat} (hg : OKg g) (hd : d < 6) : OKg (gs g (76 + 6 * d) 0) := OKg_set hg (by omega) (by omega) (by omega) (by omega) (by omega) (by omega) (fun i hi => by rw [parts_low (by omega) hi]; exact hg.2.2.2.1 i hi) (by omega) (by omega) (fun e he => by omega)
theorem Kb_Of {t : Sto} (h : Of 41 s t) : Kb s t := ⟨fun q hq => h.1 q (by unfold SP at hq; omega), by rw [h.1 0 (by omega)], fun k _ => by rw [h.1 101 (by omega)], by rw [h.2], fun ht => by unfold Tw at *; rw [h.2]; exact ht⟩
theorem Kc_Of {t : Sto} (h : Of 41 s t) : Kc s t := ⟨fun k _ => by rw [h.1 0 (by omega)], h.1 57 (by omega), h.1 58 (by omega), by rw [h.2], by rw [h.2]⟩
/-- only the rows of the best in thought have changed -/
def Kt (s t : Sto) : Prop := (∀ q, q ≠ 62 → q ≠ 63 → t.1 q = s.1 q) ∧ (∀ q, q ≠ 60 → q ≠ 61 → t.2.1 q = s.2.1 q) ∧ t.2.2 = s.2.2
theorem Kt.b {t : Sto} (h : Kt s t) : Kb s t := ⟨fun q hq => h.1 q (by unfold SP at hq; omega) (by unfold SP at hq; omega), by rw [h.1 0 (by omega) (by omega)], fun k _ => by rw [h.1 101 (by omega) (by omega)], by rw [h.2.2], fun ht => by unfold Tw at *; rw [h.2.2]; exact ht⟩
theorem Kt.c {t : Sto} (h : Kt s t) : Kc s t := ⟨fun k _ => by rw [h.1 0 (by omega) (by omega)], h.1 57 (by omega) (by omega), h.1 58 (by omega) (by omega), h.2.1 55 (by omega) (by omega), h.2.1 56 (by omega) (by omega)⟩
theorem c_solveThought {g : Nat → Nat} (hg : OKg g) (h : RB s 41 g) : ∃ t, fX10_solveThought 0 (lay s) = some ((), lay t) ∧ Kt s t ∧ TBs g 0 (t.2.1 60) (t.2.1 61) (t.1 62) := by
  have hb : Bs 41 := Or.inr (Or.inr rfl)
  have hr : Rw 59 := Or.inr rfl
  have b1 := hg.1
  obtain ⟨fg, q1, q2⟩ := c_fillGains hb hr hg h (f := 0) (Nat.zero_le _)
  have hS : RB (rI s 63 fg) 41 g := RB_rI h (by omega) (by omega)
  obtain ⟨fb, fm, fr, w1, w2⟩ := c_sweep hb hr hg hS (f := 0) (Nat.zero_le _) (by rw [rI_same]; exact q2)
  refine ⟨st3 (rI s 63 fg) 59 fb fm fr, ?_, ⟨fun q a b => ?_, fun q a b => ?_, rfl⟩, ?_⟩
  · unfold fX10_solveThought
    have q1' : fX1_fillGains 59 41 0 (lay s) = some ((), lay (rI s 63 fg)) := q1
    have w1' : fX1_sweep 59 41 0 (lay (rI s 63 fg)) = some ((), lay (st3 (rI s 63 fg) 59 fb fm fr)) := w1
    simp only [rr_0_5, rr_0_3, rw_c hr, ob]
    rw [q1']
    simp only [bd_s, rr_0_5, rr_0_3, rw_c hr, ob]
    rw [w1']
    rfl
  · rw [st3_1 (by omega), rI_ne b]
  · rw [st3_2 a b, rI_2]
  · have e1 := st3_b (s := rI s 63 fg) (r := 59) (fb := fb) (fm := fm) (fr := fr)
    have e2 := st3_m (s := rI s 63 fg) (r := 59) (fb := fb) (fm := fm) (fr := fr)
    have e3 := st3_r (s := rI s 63 fg) (r := 59) (fb := fb) (fm := fm) (fr := fr)
    rw [e1, e2, e3]
    exact w2
theorem r_bestNow {g : Nat → Nat} {wo : Nat → Bool} (hg : OKg g) (h : RR s g wo) {x i : Nat} (hx : x ≤ g 0) (hi : i < 3) : ∃ t, fX11_bestNow 101 (iN x) (iN i) (lay s) = some (bstS g (g 1) x i, lay t) ∧ Fx s t := by
  have b1 := hg.1
  obtain ⟨y, y1, y2, y3, y4⟩ := r_finds hg h (f := 0) (by omega)
  rw [Nat.min_eq_left (by omega)] at y4
  have hl := ix_lt (m := 0) (x := x) (i := i) (by omega) (by omega) hi
  refine ⟨y, ?_, y2⟩
  unfold fX11_bestNow
  simp only [oc_101, ob]
  rw [show (0 : Int32) = iN 0 from rfl, y1]
  simp only [bd_s, rr_101_6, ob, r_place, ai_106 hl]
  rw [y4.1 0 x i (Nat.le_refl _) (by omega) hx hi, Nat.sub_zero]
end COPY
