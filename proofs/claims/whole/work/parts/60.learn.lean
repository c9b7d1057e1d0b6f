/-! ===== the nearest kind of year; learning ===== -/
section NEAR
variable {s : Sto} {g : Nat → Nat}
def nrT (g : Nat → Nat) (m : Nat) (v : Int32) : Nat → Nat → Nat → Nat
  | 0, _, a => a
  | n + 1, k, a => nrT g m v n (k + 1) (if abI (iN (g (4 + 3 * m + a)) - v) ≤ abI (iN (g (4 + 3 * m + k)) - v) then a else k)
def nrS (g : Nat → Nat) (m : Nat) (v : Int32) : Nat := nrT g m v 2 1 0
theorem nrT_lt {m : Nat} {v : Int32} : ∀ n k a, a < 3 → k + n ≤ 3 → nrT g m v n k a < 3
  | 0, _, a, h, _ => h
  | n + 1, k, a, h, h2 => by
    unfold nrT
    refine nrT_lt n (k + 1) _ ?_ (by omega)
    split <;> omega
theorem nrS_lt {m : Nat} {v : Int32} : nrS g m v < 3 := nrT_lt 2 1 0 (by omega) (by omega)
theorem nrT_congr {g' : Nat → Nat} {m : Nat} {v : Int32} (hm : m < 12) (h : ∀ k, k < 40 → g' k = g k) : ∀ n k a, a < 3 → k + n ≤ 3 → nrT g' m v n k a = nrT g m v n k a
  | 0, _, a, _, _ => rfl
  | n + 1, k, a, h1, h2 => by
    unfold nrT
    rw [h _ (by omega), h _ (by omega)]
    exact nrT_congr hm h n (k + 1) _ (by split <;> omega) (by omega)
theorem nrS_congr {g' : Nat → Nat} {m : Nat} {v : Int32} (hm : m < 12) (h : ∀ k, k < 40 → g' k = g k) : nrS g' m v = nrS g m v := nrT_congr hm h 2 1 0 (by omega) (by omega)
theorem c_nearL {G : Int32 → Mem → Option (Int32 × Mem)} {p m : Nat} {v : Int32} (hb : Bs p) (h : RC s p g) (hm : m < 12) : ∀ n k a, 3 - k < n → k ≤ 3 → a < 3 → X0_nearestState_L5 G p (iN m) v n (iN a) (iN k) (lay s) = G (iN (nrT g m v (3 - k) k a)) (lay s) := by
  intro n
  induction n with
  | zero => intro k a h1; omega
  | succ n ih =>
    intro k a h1 h2 h3
    rw [X0_nearestState_L5]
    simp (disch := first | assumption | omega) only [iN_Lle]
    by_cases c : 3 ≤ k
    · rw [if_pos c, show 3 - k = 0 by omega]; rfl
    · rw [if_neg c]
      simp only [bs_c hb, ob]
      rw [c_inflowIn hb h hm (by omega)]
      simp only [bd_s, bs_c hb, ob]
      rw [c_inflowIn hb h hm h3]
      simp only [bd_s, iN_addL]
      rw [show 3 - k = (3 - (k + 1)) + 1 by omega]
      show _ = G (iN (nrT g m v (3 - (k + 1)) (k + 1) (if abI (iN (g (4 + 3 * m + a)) - v) ≤ abI (iN (g (4 + 3 * m + k)) - v) then a else k))) (lay s)
      by_cases d : abI (iN (g (4 + 3 * m + a)) - v) ≤ abI (iN (g (4 + 3 * m + k)) - v)
      · rw [if_pos d, if_pos d]
        exact ih (k + 1) a (by omega) (by omega) h3
      · rw [if_neg d, if_neg d]
        exact ih (k + 1) k (by omega) (by omega) (by omega)
theorem c_near {p m : Nat} {v : Int32} (hb : Bs p) (h : RC s p g) (hm : m < 12) : fX0_nearestState p (iN m) v (lay s) = some (iN (nrS g m v), lay s) := by
  unfold fX0_nearestState
  exact c_nearL (G := fun v3_46 μ_46 => some (v3_46, μ_46)) hb h hm FU 1 0 (by unfold FU; omega) (by omega) (by omega)
theorem r_nearL {G : Int32 → Mem → Option (Int32 × Mem)} {m : Nat} {v : Int32} (h : ∀ k, k < 40 → s.1 102 k = iN (g k)) (hm : m < 12) : ∀ n k a, 3 - k < n → k ≤ 3 → a < 3 → X11_nearest_L28 G 101 v (iN (4 + 3 * m)) n (iN a) (iN k) (lay s) = G (iN (nrT g m v (3 - k) k a)) (lay s) := by
  intro n
  induction n with
  | zero => intro k a h1; omega
  | succ n ih =>
    intro k a h1 h2 h3
    rw [X11_nearest_L28]
    simp (disch := first | assumption | omega) only [iN_Lle]
    by_cases c : 3 ≤ k
    · rw [if_pos c, show 3 - k = 0 by omega]; rfl
    · rw [if_neg c]
      simp only [rr_101_0, ob, iN_add]
      rw [ai_102 (by omega), h _ (by omega)]
      simp only [rr_101_0, ob]
      rw [ai_102 (by omega), h _ (by omega)]
      simp only [ob, iN_addL]
      rw [show 3 - k = (3 - (k + 1)) + 1 by omega]
      show _ = G (iN (nrT g m v (3 - (k + 1)) (k + 1) (if abI (iN (g (4 + 3 * m + a)) - v) ≤ abI (iN (g (4 + 3 * m + k)) - v) then a else k))) (lay s)
      by_cases d : abI (iN (g (4 + 3 * m + a)) - v) ≤ abI (iN (g (4 + 3 * m + k)) - v)
      · rw [if_pos d, if_pos d]
        exact ih (k + 1) a (by omega) (by omega) h3
      · rw [if_neg d, if_neg d]
        exact ih (k + 1) k (by omega) (by omega) (by omega)
theorem r_near {r t x : Nat} (h : ∀ k, k < 40 → s.1 102 k = iN (g k)) (hr : r < 4) (ht : t < 24) (hx : s.1 105 (24 * r + t) = iN x) : fX11_nearest 101 (iN r) (iN t) (lay s) = some (iN (nrS g (t % 12) (iN x)), lay s) := by
  unfold fX11_nearest
  simp only [rr_101_5, ob, iN_add, iN_addL, iN_Ladd, iN_mul, iN_mulL, iN_Lmul]
  rw [ai_105 (by omega), hx]
  simp only [ob]
  simp (disch := first | assumption | omega) only [rmI_L, ob]
  simp only [iN_add, iN_addL, iN_Ladd, iN_mul, iN_mulL, iN_Lmul]
  exact r_nearL (G := fun v5_77 μ_77 => some (v5_77, μ_77)) h (by omega) FU 1 0 (by unfold FU; omega) (by omega) (by omega)
def on1 (g : Nat → Nat) : Nat → Nat → Nat
  | 0 => g
  | k + 1 => gs (on1 g k) (40 + k) 1
def lrI (g v : Nat → Nat) (t : Nat) : Nat := 40 + 3 * nrS g (t % 12) (iN (v t)) + nrS g ((t + 1) % 12) (iN (v (t + 1)))
def lrP (g v : Nat → Nat) : Nat → Nat → Nat
  | 0 => on1 g 9
  | t + 1 => gs (lrP g v t) (lrI g v t) (min 9 (lrP g v t (lrI g v t) + 1))
theorem lrI_in {v : Nat → Nat} {t : Nat} : 40 ≤ lrI g v t ∧ lrI g v t < 49 := by
  have h1 := nrS_lt (g := g) (m := t % 12) (v := iN (v t))
  have h2 := nrS_lt (g := g) (m := (t + 1) % 12) (v := iN (v (t + 1)))
  unfold lrI
  omega
theorem on1_out {j : Nat} : ∀ k, k ≤ 9 → (j < 40 ∨ 49 ≤ j) → on1 g k j = g j
  | 0, _, _ => rfl
  | k + 1, h, hj => by
    unfold on1
    rw [gs_ne (by omega)]
    exact on1_out k (by omega) hj
theorem on1_in {j : Nat} : ∀ k, 40 ≤ j → j < 40 + k → on1 g k j = 1
  | 0, h1, h2 => by omega
  | k + 1, h1, h2 => by
    unfold on1
    by_cases c : j = 40 + k
    · rw [c, gs_same]
    · rw [gs_ne c]
      exact on1_in k h1 (by omega)
theorem lrP_out {v : Nat → Nat} {j : Nat} (hj : j < 40 ∨ 49 ≤ j) : ∀ t, lrP g v t j = g j
  | 0 => on1_out 9 (by omega) hj
  | t + 1 => by
    have := lrI_in (g := g) (v := v) (t := t)
    unfold lrP
    rw [gs_ne (by omega)]
    exact lrP_out hj t
theorem lrP_in {v : Nat → Nat} {j : Nat} (h1 : 40 ≤ j) (h2 : j < 49) : ∀ t, 1 ≤ lrP g v t j ∧ lrP g v t j ≤ 9
  | 0 => by
    show 1 ≤ on1 g 9 j ∧ on1 g 9 j ≤ 9
    rw [on1_in 9 h1 (by omega)]
    omega
  | t + 1 => by
    have ih := lrP_in (v := v) h1 h2 t
    unfold lrP
    by_cases c : j = lrI g v t
    · rw [c, gs_same]
      omega
    · rw [gs_ne c]
      exact ih
theorem ok_lrn {v : Nat → Nat} {t : Nat} (hg : OKs g) : OKs (lrP g v t) ∧ ∀ j, 110 ≤ j → lrP g v t j = g j := by
  have o : ∀ j, (j < 40 ∨ 49 ≤ j) → lrP g v t j = g j := fun j hj => lrP_out hj t
  have hO : OKg (lrP g v t) := by
    obtain ⟨h1, h2, h3, h4, h5, h6, h7⟩ := hg.1
    refine ⟨?_, fun a ha => ?_, fun a ha => ?_, fun i hi => ?_, fun a ha => ?_, fun a ha => ?_, fun d hd => ?_⟩
    · rw [o 0 (by omega), o 1 (by omega), o 2 (by omega), o 3 (by omega), o 73 (by omega)]; exact h1
    · rw [o _ (by omega)]; exact h2 a ha
    · exact (lrP_in (by omega) (by omega) t).2
    · unfold partsS partS
      have := (lrP_in (g := g) (v := v) (j := 40 + 3 * i + 0) (by omega) (by omega) t).1
      omega
    · rw [o _ (by omega)]; exact h5 a ha
    · rw [o _ (by omega)]; exact h6 a ha
    · rw [o 73 (by omega)] at hd
      have := h7 d hd
      unfold dF at *
      rw [o _ (by omega), o _ (by omega), o _ (by omega), o _ (by omega), o _ (by omega), o _ (by omega)]
      exact this
  obtain ⟨_, h2, h3, h4, h5, h6, h7, h8, h9⟩ := hg
  refine ⟨⟨hO, by rw [o 0 (by omega)]; exact h2, fun k hk => by rw [o _ (by omega)]; exact h3 k hk, by rw [o _ (by omega)]; exact h4, by rw [o _ (by omega)]; exact h5, by rw [o _ (by omega)]; exact h6, fun r hr => ?_, fun r hr => ?_, fun r hr => ?_⟩, fun j hj => o j (by omega)⟩
  · rw [o _ (by omega)] at hr
    rw [o _ (by omega), o _ (by omega), o _ (by omega), o _ (by omega)]
    exact h7 r hr
  · rw [o _ (by omega)] at hr
    rw [o _ (by omega), o _ (by omega)]
    exact h8 r hr
  · rw [o _ (by omega)] at hr
    rw [o _ (by omega), o _ (by omega), o _ (by omega)]
    exact h9 r hr
theorem c_learn1 {G : Mem → Option (Unit × Mem)} {q : Nat} (hg : g 73 ≤ 6) : ∀ n k (t : Sto), 9 - k < n → k ≤ 9 → RB t 2 (on1 g k) → ∃ u, X0_learnParts_L2 G 2 q n (iN k) (lay t) = G (lay u) ∧ RB u 2 (on1 g 9) ∧ Kcl t u := by
  have hb : Bs 2 := Or.inl rfl
  intro n
  induction n with
  | zero => intro k t h1; omega
  | succ n ih =>
    intro k t h1 h2 h3
    rw [X0_learnParts_L2]
    simp (disch := first | assumption | omega) only [iN_Lle]
    by_cases c : 9 ≤ k
    · rw [if_pos c]
      have : k = 9 := by omega
      subst this
      exact ⟨t, rfl, h3, Kcl.rf⟩
    · rw [if_neg c]
      simp only [bs_r5 hb, ob]
      rw [show sI (lay t) (2 + 2) (iN k) 1 = some (lay (uI t (2 + 2) k (iN 1))) from bs_s2 hb (by omega)]
      simp only [ob, iN_addL]
      have h73 : on1 g k 73 = g 73 := on1_out k (by omega) (by omega)
      obtain ⟨u, u1, u2, u3⟩ := ih (k + 1) (uI t 4 k (iN 1)) (by omega) (by omega) (RB_set (by omega) h3 (Or.inr (Or.inr (Or.inl ⟨rfl, rfl, by omega⟩))) (by omega))
      exact ⟨u, u1, u2, (Kcl_rI (by omega)).tr u3⟩
theorem r_learn1 {G : Mem → Option (Int32 × Mem)} {r : Nat} : ∀ n k (t : Sto), 9 - k < n → k ≤ 9 → Rg t 102 (on1 g k) → ∃ u, X11_learn_L24 G 101 (iN r) n (iN k) (lay t) = G (lay u) ∧ Rg u 102 (on1 g 9) ∧ Krf t u := by
  intro n
  induction n with
  | zero => intro k t h1; omega
  | succ n ih =>
    intro k t h1 h2 h3
    rw [X11_learn_L24]
    simp (disch := first | assumption | omega) only [iN_Lle]
    by_cases c : 9 ≤ k
    · rw [if_pos c]
      have : k = 9 := by omega
      subst this
      exact ⟨t, rfl, h3, Krf.rf⟩
    · rw [if_neg c]
      simp only [rr_101_0, ob, iN_add, iN_addL, iN_Ladd, iN_mul, iN_mulL, iN_Lmul]
      rw [show sI (lay t) 102 (iN (40 + k)) 1 = some (lay (uI t 102 (40 + k) (iN 1))) from si_102 (by omega)]
      simp only [ob]
      obtain ⟨u, u1, u2, u3⟩ := ih (k + 1) (uI t 102 (40 + k) (iN 1)) (by omega) (by omega) (Rg_set h3 (by omega))
      exact ⟨u, u1, u2, Krf_rI.tr u3⟩
theorem mn9 {a : Nat} (h : a ≤ 20) : mnI 9 (iN a) = iN (min 9 a) := by
  unfold mnI
  rw [show (9 : Int32) = iN 9 from rfl]
  by_cases c : a < 9
  · rw [if_pos (by rw [iN_lt (by omega) (by omega)]; exact c), Nat.min_eq_right (by omega)]
  · rw [if_neg (by rw [iN_lt (by omega) (by omega)]; exact c), Nat.min_eq_left (by omega)]
theorem c_learn2 {G : Mem → Option (Unit × Mem)} {r N : Nat} {v : Nat → Nat} (hg : g 73 ≤ 6) (hr : r < 4) (hN : N ≤ 24) (h2N : 2 ≤ N) : ∀ n k (t : Sto), N - 1 - k < n → k ≤ N - 1 → RB t 2 (lrP g v k) → LI t (81 + 2 * r) 1 N v → ∃ u, X0_learnParts_L23 G 2 (81 + 2 * r) n (iN k) (lay t) = G (lay u) ∧ RB u 2 (lrP g v (N - 1)) ∧ Kcl t u := by
  have hb : Bs 2 := Or.inl rfl
  have hl := rc_l hr
  intro n
  induction n with
  | zero => intro k t h1; omega
  | succ n ih =>
    intro k t h1 h2 h3 h4
    rw [X0_learnParts_L23]
    have e1 : iN N - (1 : Int32) = iN (N - 1) := iN_sub (b := 1) (by omega)
    simp only [ln_g3 hl, h4.1, ob, e1]
    simp (disch := first | assumption | omega) only [iN_le]
    by_cases c : N - 1 ≤ k
    · rw [if_pos c]
      have : k = N - 1 := by omega
      subst this
      exact ⟨t, rfl, h3, Kcl.rf⟩
    · rw [if_neg c]
      have L : ∀ j, j < 40 → lrP g v k j = g j := fun j hj => lrP_out (by omega) k
      have a0 : fX6_at (81 + 2 * r) (iN k) 0 (lay t) = some (iN (v k), lay t) := by
        have := c_at hl h4 hN (r := k) (j := 0) (by omega) (by omega)
        rw [show k * 1 + 0 = k by omega] at this
        exact this
      have a1 : fX6_at (81 + 2 * r) (iN (k + 1)) 0 (lay t) = some (iN (v (k + 1)), lay t) := by
        have := c_at hl h4 hN (r := k + 1) (j := 0) (by omega) (by omega)
        rw [show (k + 1) * 1 + 0 = k + 1 by omega] at this
        exact this
      have n0 : ∀ m x, m < 12 → fX0_nearestState 2 (iN m) x (lay t) = some (iN (nrS g m x), lay t) := fun m x hm => by rw [c_near hb h3.1 hm, nrS_congr hm L]
      have q1 := nrS_lt (g := g) (m := k % 12) (v := iN (v k))
      have q2 := nrS_lt (g := g) (m := (k + 1) % 12) (v := iN (v (k + 1)))
      simp (disch := first | assumption | omega) only [rmI_L, ob, ln_c hl, iN_addL]
      simp only [a0, a1, bd_s, bs_c hb, ob, n0 _ _ (Nat.mod_lt k (by omega : 0 < 12)), n0 _ _ (Nat.mod_lt (k + 1) (by omega : 0 < 12))]
      simp (disch := first | assumption | omega) only [rmI_L, ob, ln_c hl]
      simp only [a1, bd_s, bs_c hb, ob, n0 _ _ (Nat.mod_lt (k + 1) (by omega : 0 < 12)), bs_r5 hb, iN_add, iN_addL, iN_Ladd, iN_mul, iN_mulL, iN_Lmul]
      have ei : 40 + (nrS g (k % 12) (iN (v k)) * 3 + nrS g ((k + 1) % 12) (iN (v (k + 1)))) = lrI g v k := by unfold lrI; omega
      have hi := lrI_in (g := g) (v := v) (t := k)
      rw [bs_a2 hb (by omega), h3.1.2.2.1 _ (by omega), ei]
      have hin := lrP_in (g := g) (v := v) hi.1 hi.2 k
      simp only [ob, iN_addL]
      rw [mn9 (by omega), bs_s2 hb (by omega)]
      simp only [ob]
      have h73 : lrP g v k 73 = g 73 := lrP_out (by omega) k
      have st := RB_set (v := min 9 (lrP g v k (lrI g v k) + 1)) (by omega) h3 (Or.inr (Or.inr (Or.inl ⟨rfl, ei.symm, by omega⟩))) (Or.inl (by omega))
      obtain ⟨u, u1, u2, u3⟩ := ih (k + 1) _ (by omega) (by omega) st (LI_congr h4 (rI_ne (by omega)) (rI_ne (by omega)))
      exact ⟨u, u1, u2, (Kcl_rI (by omega)).tr u3⟩
theorem r_learn2 {G : Mem → Option (Int32 × Mem)} {r N : Nat} {v : Nat → Nat} (hr : r < 4) (hN : N ≤ 24) (h2N : 2 ≤ N) : ∀ n k (t : Sto), N - 1 - k < n → k ≤ N - 1 → Rg t 102 (lrP g v k) → t.1 104 r = iN N → (∀ i, i < N → t.1 105 (24 * r + i) = iN (v i)) → ∃ u, X11_learn_L48 G 101 (iN r) n (iN (k + 1)) (lay t) = G (lay u) ∧ Rg u 102 (lrP g v (N - 1)) ∧ Krf t u := by
  intro n
  induction n with
  | zero => intro k t h1; omega
  | succ n ih =>
    intro k t h1 h2 h3 h4 h5
    rw [X11_learn_L48]
    simp only [rr_101_4, ob, ai_104 hr, h4]
    simp (disch := first | assumption | omega) only [iN_le]
    by_cases c : N ≤ k + 1
    · rw [if_pos c]
      have : k = N - 1 := by omega
      subst this
      exact ⟨t, rfl, h3, Krf.rf⟩
    · rw [if_neg c]
      have L : ∀ j, j < 40 → t.1 102 j = iN (g j) := fun j hj => by rw [h3 j (by omega), lrP_out (by omega) k]
      have e1 : iN (k + 1) - (1 : Int32) = iN k := by
        rw [show iN (k + 1) - (1 : Int32) = iN (k + 1 - 1) from iN_sub (b := 1) (by omega), Nat.add_sub_cancel]
      have a0 := r_near (s := t) (g := g) (r := r) (t := k) L hr (by omega) (h5 k (by omega))
      have a1 := r_near (s := t) (g := g) (r := r) (t := k + 1) L hr (by omega) (h5 (k + 1) (by omega))
      have q1 := nrS_lt (g := g) (m := k % 12) (v := iN (v k))
      have q2 := nrS_lt (g := g) (m := (k + 1) % 12) (v := iN (v (k + 1)))
      have ei : 40 + 3 * nrS g (k % 12) (iN (v k)) + nrS g ((k + 1) % 12) (iN (v (k + 1))) = lrI g v k := rfl
      have hi := lrI_in (g := g) (v := v) (t := k)
      have hin := lrP_in (g := g) (v := v) hi.1 hi.2 k
      simp only [oc_101, ob, e1, a0, a1, bd_s, rr_101_0, iN_add, iN_addL, iN_Ladd, iN_mul, iN_mulL, iN_Lmul, ei]
      rw [ai_102 (by omega), h3 _ (by omega)]
      simp only [ob, iN_addL]
      rw [mn9 (by omega), si_102 (by omega)]
      simp only [ob]
      obtain ⟨u, u1, u2, u3⟩ := ih (k + 1) (uI t 102 (lrI g v k) (iN (min 9 (lrP g v k (lrI g v k) + 1)))) (by omega) (by omega) (Rg_set h3 (by omega)) (by rw [rI_ne (by omega)]; exact h4) (fun i hi => by rw [rI_ne (by omega)]; exact h5 i hi)
      exact ⟨u, u1, u2, Krf_rI.tr u3⟩
theorem k_learn (H : Inv s) (v1 : Int32) : Alike s (fX10_learn 0 v1) (fX11_learn 101 v1) := by
  have H0 := H
  obtain ⟨g, kp, kf, rn, rv, tn, tv, hB, hC⟩ := H0
  have hI := hB.1
  have hg := hI.1.1
  have b1 := hg.1
  have hR := RR_of hI
  have hc := hI.2.1.1
  have hb : Bs 2 := Or.inl rfl
  have hr0 := hB.2.2.1
  have o := hI.1
  by_cases c1 : 0 ≤ v1 ∧ v1 ≤ (3 : Int32)
  · obtain ⟨r, rfl, hr⟩ := rng (k := 3) c1 (by omega)
    have hr4 : r < 4 := by omega
    have hl := rc_l hr4
    have hL := LI_rec hr0 hr4
    obtain ⟨e1, e2, e3, e4⟩ := hr0 r hr4
    by_cases c2 : 2 ≤ rn r
    · have p2 : (2 : Int32) ≤ iN (rn r) := by rw [iN_Lle (by omega) (by omega)]; exact c2
      have f0 := forget_0 (s := s)
      have kF : Kb s (uI (uI s 0 6 0) 0 7 0) := Kb_forget
      generalize hz : uI (uI s 0 6 0) 0 7 0 = z at *
      have hB0 := IB_keep kF hB
      have hL0 := LI_rec hB0.2.2.1 hr4
      obtain ⟨t, t1, t2, t3⟩ := c_learn1 (G := fun μ_21 => X0_learnParts_L23 (fun μ_103 => some ((), μ_103)) 2 (81 + 2 * r) FU ((0 : Int32)) μ_21) (q := 81 + 2 * r) (g := g) (by omega) FU 0 z (by unfold FU; omega) (by omega) hB0.1.2.1.1
      have hLt := LI_congr hL0 (t3.1 _ (by omega)) (t3.1 _ (by omega))
      obtain ⟨u, u1, u2, u3⟩ := c_learn2 (G := fun μ_103 => some ((), μ_103)) (g := g) (v := rv r) (by omega) hr4 e1 c2 FU 0 t (by unfold FU; omega) (by omega) t2 hLt
      have hLu := LI_congr hLt (u3.1 _ (by omega)) (u3.1 _ (by omega))
      have kc := t3.tr u3
      have q4 : ∀ x, x = 104 ∨ x = 105 ∨ x = 102 → u.1 x = s.1 x := fun x hx => by rw [kc.1 x (by omega), kF.1 x (by unfold SP; omega)]
      have hRu : Rg u 102 g := Rg_congr hI.2.2.1 (q4 102 (by omega))
      obtain ⟨w, w1, w2, w3⟩ := r_learn1 (G := fun μ_46 => X11_learn_L48 (fun μ_104 => (gR μ_104 101 11 4).bind fun x105 => (aI μ_104 0 x105 (iN r)).bind fun x109 => some (x109, μ_104)) 101 (iN r) FU ((1 : Int32)) μ_46) (r := r) FU 0 u (by unfold FU; omega) (by omega) hRu
      obtain ⟨y, y1, y2, y3⟩ := r_learn2 (G := fun μ_104 => (gR μ_104 101 11 4).bind fun x105 => (aI μ_104 0 x105 (iN r)).bind fun x109 => some (x109, μ_104)) (g := g) (v := rv r) hr4 e1 c2 FU 0 w (by unfold FU; omega) (by omega) w2 (by rw [w3.1 104 (by omega), q4 104 (by omega)]; exact e3) (fun i hi => by rw [w3.1 105 (by omega), q4 105 (by omega)]; exact (e4 i hi).2.2)
      refine ⟨iN (rn r), u, y, ?_, ?_, ?_⟩
      · unfold fX10_learn
        simp only [c_within, tI_pos c1, bd_s, i10, if_false, rr_0_13, ob, rc_a hr4, ln_g3 hl, e2, if_pos p2, oc_0, c_forget, hz, rr_0_0, rr_1_0, bs_c hb]
        rw [show fX0_learnParts 2 (81 + 2 * r) (lay z) = some ((), lay u) from t1.trans u1]
        simp only [bd_s, rr_0_13, ob, rc_a hr4, ln_g3 hl, hLu.1]
      · unfold fX11_learn
        simp only [r_isRecord, tI_pos c1, bd_s, i10, if_false, rr_101_4, ob, ai_104 hr4]
        rw [q4 104 (by omega), e3, if_pos p2]
        refine w1.trans (y1.trans ?_)
        simp only [rr_101_4, ob, ai_104 hr4]
        rw [y3.1 104 (by omega), w3.1 104 (by omega), q4 104 (by omega), e3]
      · exact Inv_op hB0 f0.1 f0.2 kc (w3.tr y3) u2 y2 (ok_lrn o)
    · have p2 : ¬ ((2 : Int32) ≤ iN (rn r)) := by rw [iN_Lle (by omega) (by omega)]; exact c2
      refine Alike_same (a := -3) ?_ ?_ H
      · unfold fX10_learn
        simp only [c_within, tI_pos c1, bd_s, i10, if_false, rr_0_13, ob, rc_a hr4, ln_g3 hl, e2, if_neg p2]
      · unfold fX11_learn
        simp only [r_isRecord, tI_pos c1, bd_s, i10, if_false, rr_101_4, ob, ai_104 hr4, e3, if_neg p2]
  · refine Alike_same (a := -1) ?_ ?_ H
    · unfold fX10_learn
      simp only [c_within, tI_neg c1, bd_s, i00, if_true]
    · unfold fX11_learn
      simp only [r_isRecord, tI_neg c1, bd_s, i00, if_true]
end NEAR
