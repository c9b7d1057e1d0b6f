/-! ===== the reference reads clauses ===== -/
section TEXTR
variable {s t u : Sto} {tn n j : Nat} {tv W : Nat → Nat} {x : Nat × Bool}
/-- what the reference has of the text -/
def HT (s : Sto) (tn : Nat) (tv : Nat → Nat) : Prop := s.1 101 29 = iN tn ∧ ∀ i, i < tn → s.1 113 i = iN (tv i)
/-- only its clauses' values from b on, its place and its fault have changed -/
def Kz (b : Nat) (s t : Sto) : Prop := (∀ q, q ≠ 101 → q ≠ 114 → t.1 q = s.1 q) ∧ t.2 = s.2 ∧ (∀ k, k ≠ 30 → k ≠ 31 → t.1 101 k = s.1 101 k) ∧ (∀ i, i < b → t.1 114 i = s.1 114 i)
theorem Kz.rf {b : Nat} : Kz b s s := ⟨fun _ _ _ => rfl, rfl, fun _ _ _ => rfl, fun _ _ => rfl⟩
theorem Kz.tr {b : Nat} (h1 : Kz b s t) (h2 : Kz b t u) : Kz b s u := ⟨fun q a c => (h2.1 q a c).trans (h1.1 q a c), h2.2.1.trans h1.2.1, fun k a c => (h2.2.2.1 k a c).trans (h1.2.2.1 k a c), fun i hi => (h2.2.2.2 i hi).trans (h1.2.2.2 i hi)⟩
theorem Kz.lo {b b' : Nat} (h : Kz b s t) (hb : b' ≤ b) : Kz b' s t := ⟨h.1, h.2.1, h.2.2.1, fun i hi => h.2.2.2 i (by omega)⟩
theorem Kz_1 {b k : Nat} {y : Int32} (h : k = 30 ∨ k = 31) : Kz b s (uI s 101 k y) := ⟨fun q a c => rI_ne a, rI_2, fun k' a c => by rw [rI_same, upd_ne (by omega)], fun i hi => by rw [rI_ne (by omega)]⟩
theorem Kz_v {b k : Nat} {y : Int32} (h : b ≤ k) : Kz b s (uI s 114 k y) := ⟨fun q a c => rI_ne c, rI_2, fun k' a c => by rw [rI_ne (by omega)], fun i hi => by rw [rI_same, upd_ne (by omega)]⟩
theorem Kz.T {b : Nat} (h : Kz b s t) (hT : HT s tn tv) : HT t tn tv := ⟨by rw [h.2.2.1 29 (by omega) (by omega)]; exact hT.1, fun i hi => by rw [h.1 113 (by omega) (by omega)]; exact hT.2 i hi⟩
/-- its place and its fault -/
def Rq (s : Sto) (x : Nat × Bool) : Prop := s.1 101 30 = iN x.1 ∧ s.1 101 31 = if x.2 = true then -1 else iN x.1
theorem Rq_v {k : Nat} {y : Int32} (h : Rq s x) : Rq (uI s 114 k y) x := by
  unfold Rq
  rw [rI_ne (by omega)]
  exact h
theorem m1_neg : (-1 : Int32) < 0 := by decide
theorem m1_le : ¬ (0 : Int32) ≤ -1 := by decide
theorem iN_0le {a : Nat} (h : a < 2147483648) : (0 : Int32) ≤ iN a := by rw [iN_Lle h (by omega)]; omega
theorem r_wrong (hx : x.1 ≤ 100) (h : Rq s x) : ∃ t, fX11_wrong 101 (lay s) = some ((), lay t) ∧ (∀ b, Kz b s t) ∧ Rq t (x.1, false) := by
  obtain ⟨p, ok⟩ := x
  obtain ⟨h1, h2⟩ := h
  cases ok with
  | true =>
    have h2 : s.1 101 31 = -1 := h2
    have hx : p ≤ 100 := hx
    refine ⟨uI s 101 31 (iN p), ?_, fun b => Kz_1 (by omega), ?_, ?_⟩
    · unfold fX11_wrong
      simp only [gi_101_31, ob, h2, if_neg m1_le, gi_101_30, h1, pi_101_31]
    · rw [rI_same, upd_ne (by omega)]; exact h1
    · rw [rI_same, upd_same]; rfl
  | false =>
    have h2 : s.1 101 31 = iN p := h2
    have hx : p ≤ 100 := hx
    refine ⟨uI s 101 31 (iN p), ?_, fun b => Kz_1 (by omega), ?_, ?_⟩
    · unfold fX11_wrong
      simp only [gi_101_31, ob, h2, if_pos (iN_0le (show p < 2147483648 by omega)), pi_101_31]
    · rw [rI_same, upd_ne (by omega)]; exact h1
    · rw [rI_same, upd_same]; rfl
theorem r_isDigit (hT : HT s tn tv) (ht : tn ≤ 100) (hv : ∀ i, i < tn → tv i ≤ 127) {p : Nat} (hp : p ≤ tn) (h : s.1 101 30 = iN p) : fX11_isDigit 101 (lay s) = some (tI (isD tn tv p), lay s) := by
  unfold fX11_isDigit
  simp only [gi_101_30, gi_101_29, ob, h, hT.1]
  by_cases c : p < tn
  · have := hv p c
    rw [if_neg (by rw [iN_le (by omega) (by omega)]; omega)]
    simp only [rr_101_28, gi_101_30, ob, h, ai_113 (show p < 100 by omega), hT.2 p c]
    rw [r_in]
    simp (disch := first | assumption | omega) only [lit64_le, le_lit64, le_64, iN_Lle, iN_leL, bd_s]
    by_cases d : 48 ≤ tv p ∧ tv p ≤ 57
    · rw [tI_pos d, tI_pos (show isD tn tv p from ⟨c, d⟩)]
      rfl
    · rw [tI_neg d, tI_neg (show ¬ isD tn tv p from fun e => d e.2)]
      rfl
  · rw [if_pos (by rw [iN_le (by omega) (by omega)]; omega), tI_neg (show ¬ isD tn tv p from fun e => c e.1)]
    rfl
theorem r_digit (hT : HT s tn tv) (ht : tn ≤ 100) (hv : ∀ i, i < tn → tv i ≤ 127) (hx : x.1 ≤ tn) (h : Rq s x) : ∃ t, fX11_digit 101 (lay s) = some (iN (dxS tn tv x).1, lay t) ∧ (∀ b, Kz b s t) ∧ Rq t (dxS tn tv x).2 := by
  obtain ⟨p, ok⟩ := x
  have hx : p ≤ tn := hx
  have h30 : s.1 101 30 = iN p := h.1
  obtain ⟨w, w1, w2, w3⟩ := r_wrong (show p ≤ 100 by omega) h
  cases ok with
  | true =>
    have h31 : s.1 101 31 = -1 := h.2
    by_cases c : isD tn tv p
    · have e : dxS tn tv (p, true) = (tv p - 48, (p + 1, true)) := if_pos ⟨rfl, c⟩
      have v0 : iN (tv p) - (48 : Int32) = iN (tv p - 48) := iN_sub (b := 48) c.2.1
      have g1 : (uI s 101 30 (iN (p + 1))).1 101 30 = iN (p + 1) := by rw [rI_same, upd_same]
      have g2 : (uI s 101 30 (iN (p + 1))).1 113 p = iN (tv p) := by rw [rI_ne (by omega)]; exact hT.2 p c.1
      have pc := c.1
      rw [e]
      refine ⟨uI s 101 30 (iN (p + 1)), ?_, fun b => Kz_1 (by omega), g1, by rw [rI_same, upd_ne (by omega)]; exact h31⟩
      unfold fX11_digit
      simp only [gi_101_31, ob, h31, jn_s, if_neg m1_le, oc_101, r_isDigit hT ht hv hx h30, tI_pos c, bd_s, i10, if_false, gi_101_30, h30, iN_addL, pi_101_30, rr_101_28, g1]
      rw [iN_subL (by omega), Nat.add_sub_cancel, ai_113 (by omega), g2]
      simp only [ob, v0]
    · have e : dxS tn tv (p, true) = (0, (p, false)) := if_neg (fun e => c e.2)
      rw [e]
      refine ⟨w, ?_, w2, w3⟩
      unfold fX11_digit
      simp only [gi_101_31, ob, h31, jn_s, if_neg m1_le, oc_101, r_isDigit hT ht hv hx h30, tI_neg c, bd_s, i00, if_true, w1]
      rfl
  | false =>
    have h31 : s.1 101 31 = iN p := h.2
    rw [dg_bad]
    refine ⟨w, ?_, w2, w3⟩
    unfold fX11_digit
    simp only [gi_101_31, ob, h31, jn_s, if_pos (iN_0le (show p < 2147483648 by omega)), oc_101, w1, bd_s]
    rfl
theorem r_two (hT : HT s tn tv) (ht : tn ≤ 100) (hv : ∀ i, i < tn → tv i ≤ 127) (hx : x.1 ≤ tn) (h : Rq s x) : ∃ t, fX11_twoDigits 101 (lay s) = some (iN (twS tn tv x).1, lay t) ∧ (∀ b, Kz b s t) ∧ Rq t (twS tn tv x).2 := by
  obtain ⟨t, t1, t2, t3⟩ := r_digit hT ht hv hx h
  have hd := dg_le (tv := tv) hx
  have hT2 := (t2 0).T hT
  unfold fX11_twoDigits
  simp only [oc_101, ob, t1, bd_s, gi_101_31]
  by_cases c : (dxS tn tv x).2.2 = true
  · have t31 : t.1 101 31 = -1 := t3.2.trans (if_pos c)
    simp only [t31, if_neg m1_le, oc_101, ob, r_isDigit hT2 ht hv hd.1 t3.1, bd_s]
    by_cases d : isD tn tv (dxS tn tv x).2.1
    · have e : twS tn tv x = (10 * (dxS tn tv x).1 + (tv (dxS tn tv x).2.1 - 48), ((dxS tn tv x).2.1 + 1, true)) := if_pos ⟨c, d⟩
      have e2 : dxS tn tv (dxS tn tv x).2 = (tv (dxS tn tv x).2.1 - 48, ((dxS tn tv x).2.1 + 1, true)) := if_pos ⟨c, d⟩
      obtain ⟨u, u1, u2, u3⟩ := r_digit hT2 ht hv hd.1 t3
      rw [e2] at u1 u3
      rw [e]
      simp only [tI_pos d, i10, if_false, u1, bd_s]
      refine ⟨u, ?_, fun b => (t2 b).tr (u2 b), u3⟩
      simp only [iN_add, iN_addL, iN_Ladd, iN_mul, iN_mulL, iN_Lmul]
    · have e : twS tn tv x = dxS tn tv x := if_neg (fun h => d h.2)
      rw [e]
      simp only [tI_neg d, i00, if_true]
      exact ⟨t, rfl, t2, t3⟩
  · have t31 : t.1 101 31 = iN (dxS tn tv x).2.1 := t3.2.trans (if_neg c)
    have e : twS tn tv x = dxS tn tv x := if_neg (fun h => c h.1)
    rw [e]
    simp only [t31, if_pos (iN_0le (show (dxS tn tv x).2.1 < 2147483648 by omega))]
    exact ⟨t, rfl, t2, t3⟩
theorem r_takes (hT : HT s tn tv) (ht : tn ≤ 100) (hv : ∀ i, i < tn → tv i ≤ 127) (hx : x.1 ≤ tn) (h : Rq s x) {c : Nat} (hc : c ≤ 127) : fX11_takes 101 (iN c) (lay s) = if x.2 = true ∧ x.1 < tn ∧ tv x.1 = c then some (1, lay (uI s 101 30 (iN (x.1 + 1)))) else some (0, lay s) := by
  obtain ⟨p, ok⟩ := x
  have hx : p ≤ tn := hx
  have h30 : s.1 101 30 = iN p := h.1
  unfold fX11_takes
  simp only [gi_101_31, ob]
  cases ok with
  | true =>
    have h31 : s.1 101 31 = -1 := h.2
    simp only [h31, if_neg m1_le, gi_101_30, gi_101_29, ob, h30, hT.1]
    by_cases c1 : p < tn
    · have := hv p c1
      rw [if_neg (by rw [iN_le (by omega) (by omega)]; omega)]
      simp only [rr_101_28, gi_101_30, ob, h30, ai_113 (show p < 100 by omega), hT.2 p c1]
      simp (disch := first | assumption | omega) only [iN_eq]
      by_cases c2 : tv p = c
      · rw [if_pos c2, if_pos ⟨trivial, c1, c2⟩]
        simp only [pi_101_30, ob, iN_addL, zz1]
      · rw [if_neg c2, if_neg (fun h => c2 h.2.2)]
        simp only [zz0, ob]
    · rw [if_pos (by rw [iN_le (by omega) (by omega)]; omega), if_neg (fun h => c1 h.2.1)]
      simp only [zz0, ob]
  | false =>
    have h31 : s.1 101 31 = iN p := h.2
    simp only [h31, if_pos (iN_0le (show p < 2147483648 by omega)), zz0, ob]
    rw [if_neg (show ¬ ((false : Bool) = true ∧ p < tn ∧ tv p = c) from fun h => by cases h.1)]
theorem r_must (hT : HT s tn tv) (ht : tn ≤ 100) (hv : ∀ i, i < tn → tv i ≤ 127) (hx : x.1 ≤ tn) (h : Rq s x) : ∃ t, fX11_must 101 46 (lay s) = some ((), lay t) ∧ (∀ b, Kz b s t) ∧ Rq t (dtS tn tv x) := by
  have tk : fX11_takes 101 46 (lay s) = _ := r_takes hT ht hv hx h (c := 46) (by omega)
  unfold fX11_must
  simp only [oc_101, ob, tk]
  by_cases c : x.2 = true ∧ x.1 < tn ∧ tv x.1 = 46
  · rw [if_pos c, show dtS tn tv x = (x.1 + 1, true) from if_pos c]
    simp only [bd_s, i10, if_false]
    exact ⟨_, rfl, fun b => Kz_1 (by omega), by rw [rI_same, upd_same], by rw [rI_same, upd_ne (by omega), h.2, if_pos c.1]; rfl⟩
  · rw [if_neg c, show dtS tn tv x = (x.1, false) from if_neg c]
    obtain ⟨w, w1, w2, w3⟩ := r_wrong (show x.1 ≤ 100 by omega) h
    simp only [bd_s, i00, if_true, oc_101, ob, w1]
    exact ⟨w, rfl, w2, w3⟩
/-- behind some numbers of the n-th clause -/
def St (s : Sto) (tn : Nat) (tv : Nat → Nat) (n j : Nat) (x : Nat × Bool) (W : Nat → Nat) : Prop := HT s tn tv ∧ x.1 ≤ tn ∧ Rq s x ∧ ∀ i, i < j → s.1 114 (7 * n + i) = iN (W i)
theorem St_add (h : St s tn tv n j x W) (ht : ∀ b, Kz b s t) {y : Nat × Bool} (hy : y.1 ≤ tn) (hr : Rq t y) {v : Nat} : St (uI t 114 (7 * n + j) (iN v)) tn tv n (j + 1) y (gs W j v) ∧ Kz (7 * n + j) s (uI t 114 (7 * n + j) (iN v)) := by
  refine ⟨⟨(Kz_v (Nat.zero_le _)).T ((ht 0).T h.1), hy, Rq_v hr, fun i hi => ?_⟩, (ht _).tr (Kz_v (Nat.le_refl _))⟩
  rw [rI_same]
  by_cases c : i = j
  · subst c
    rw [upd_same, gs_same]
  · rw [upd_ne (by omega), gs_ne c, (ht (7 * n + j)).2.2.2 _ (by omega)]
    exact h.2.2.2 i (by omega)
theorem St_dig (ht : tn ≤ 100) (hv : ∀ i, i < tn → tv i ≤ 127) (h : St s tn tv n j x W) : ∃ t, fX11_digit 101 (lay s) = some (iN (dxS tn tv x).1, lay t) ∧ St (uI t 114 (7 * n + j) (iN (dxS tn tv x).1)) tn tv n (j + 1) (dxS tn tv x).2 (gs W j (dxS tn tv x).1) ∧ Kz (7 * n + j) s (uI t 114 (7 * n + j) (iN (dxS tn tv x).1)) := by
  obtain ⟨t, t1, t2, t3⟩ := r_digit h.1 ht hv h.2.1 h.2.2.1
  exact ⟨t, t1, St_add h t2 (dg_le h.2.1).1 t3⟩
theorem St_two (ht : tn ≤ 100) (hv : ∀ i, i < tn → tv i ≤ 127) (h : St s tn tv n j x W) : ∃ t, fX11_twoDigits 101 (lay s) = some (iN (twS tn tv x).1, lay t) ∧ St (uI t 114 (7 * n + j) (iN (twS tn tv x).1)) tn tv n (j + 1) (twS tn tv x).2 (gs W j (twS tn tv x).1) ∧ Kz (7 * n + j) s (uI t 114 (7 * n + j) (iN (twS tn tv x).1)) := by
  obtain ⟨t, t1, t2, t3⟩ := r_two h.1 ht hv h.2.1 h.2.2.1
  exact ⟨t, t1, St_add h t2 (tw_le h.2.1).1 t3⟩
theorem St_dot (ht : tn ≤ 100) (hv : ∀ i, i < tn → tv i ≤ 127) (h : St s tn tv n j x W) : ∃ t, fX11_must 101 46 (lay s) = some ((), lay t) ∧ St t tn tv n j (dtS tn tv x) W ∧ Kz (7 * n + j) s t := by
  obtain ⟨t, t1, t2, t3⟩ := r_must h.1 ht hv h.2.1 h.2.2.1
  exact ⟨t, t1, ⟨(t2 0).T h.1, dt_le h.2.1, t3, fun i hi => by rw [(t2 (7 * n + j)).2.2.2 _ (by omega)]; exact h.2.2.2 i hi⟩, t2 _⟩
/-- k digits in a row -/
theorem St_digsL (ht : tn ≤ 100) (hv : ∀ i, i < tn → tv i ≤ 127) (hn : n < 12) {a N : Nat} : ∀ (m i : Nat) (x : Nat × Bool) (W : Nat → Nat) (s : Sto), N - i < m → i ≤ N → a + N ≤ 7 → St s tn tv n (a + i) x W → ∃ t, X11_digits_L2 (fun μ_25 => some ((), μ_25)) 101 (iN (7 * n + a)) (iN N) m (iN i) (lay s) = some ((), lay t) ∧ St t tn tv n (a + N) (runS tn tv (List.replicate (N - i) 1) (a + i) x W).1 (runS tn tv (List.replicate (N - i) 1) (a + i) x W).2 ∧ Kz (7 * n + (a + i)) s t := by
  intro m
  induction m with
  | zero => intro i x W s h; omega
  | succ m ih =>
    intro i x W s h1 h2 h3 h
    rw [X11_digits_L2]
    simp (disch := first | assumption | omega) only [iN_le]
    by_cases c : N ≤ i
    · rw [if_pos c]
      have : i = N := by omega
      subst this
      rw [Nat.sub_self]
      exact ⟨s, rfl, h, Kz.rf⟩
    · rw [if_neg c]
      obtain ⟨t, t1, t2, t3⟩ := St_dig ht hv h
      simp only [rr_101_32, oc_101, ob, t1, bd_s, iN_add]
      rw [show 7 * n + a + i = 7 * n + (a + i) by omega, si_114 (by omega)]
      simp only [ob, iN_addL]
      obtain ⟨u, u1, u2, u3⟩ := ih (i + 1) _ _ _ (by omega) (by omega) h3 t2
      have el : List.replicate (N - i) 1 = 1 :: List.replicate (N - (i + 1)) 1 := by
        rw [show N - i = (N - (i + 1)) + 1 by omega, List.replicate_succ]
      refine ⟨u, u1, ?_, t3.tr (u3.lo (by omega))⟩
      rw [el, runS]
      exact u2
theorem St_digs (ht : tn ≤ 100) (hv : ∀ i, i < tn → tv i ≤ 127) (hn : n < 12) {N : Nat} {w : Int32} (hw : w = iN N) (hN : j + N ≤ 7) (h : St s tn tv n j x W) : ∃ t, fX11_digits 101 (iN (7 * n + j)) w (lay s) = some ((), lay t) ∧ St t tn tv n (j + N) (runS tn tv (List.replicate N 1) j x W).1 (runS tn tv (List.replicate N 1) j x W).2 ∧ Kz (7 * n + j) s t := by
  obtain ⟨t, t1, t2, t3⟩ := St_digsL ht hv hn (a := j) (N := N) FU 0 x W s (by unfold FU; omega) (Nat.zero_le _) hN h
  rw [show iN 0 = (0 : Int32) from rfl] at t1
  subst hw
  exact ⟨t, t1, t2, t3⟩
end TEXTR
