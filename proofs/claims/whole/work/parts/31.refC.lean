/-! ===== the reference: the best, found from behind ===== -/
/-- what the finding of the best leaves as it was -/
def Fx (s t : Sto) : Prop := (∀ q, q ≠ 101 → q ≠ 107 → q ≠ 108 → q ≠ 109 → t.1 q = s.1 q) ∧ (∀ q, q ≠ 106 → t.2.1 q = s.2.1 q) ∧ t.2.2 = s.2.2 ∧ (∀ k, k < 10 ∨ 15 < k → t.1 101 k = s.1 101 k)
section REFC
variable {s : Sto} {g : Nat → Nat} {wo : Nat → Bool}
theorem Fx.rf : Fx s s := ⟨fun _ _ _ _ _ => rfl, fun _ _ => rfl, rfl, fun _ _ => rfl⟩
theorem Fx.tr {t u : Sto} (h1 : Fx s t) (h2 : Fx t u) : Fx s u := ⟨fun q a b c d => (h2.1 q a b c d).trans (h1.1 q a b c d), fun q a => (h2.2.1 q a).trans (h1.2.1 q a), h2.2.2.1.trans h1.2.2.1, fun k hk => (h2.2.2.2 k hk).trans (h1.2.2.2 k hk)⟩
theorem Gx.F {t : Sto} (h : Gx s t) : Fx s t := ⟨fun q a _ c _ => h.1 q a c, fun q _ => by rw [h.2.1], by rw [h.2.1], h.2.2⟩
theorem Fx.RR {t : Sto} (h : Fx s t) (hr : RR s g wo) : RR t g wo := RR_congr hr (h.1 102 (by omega) (by omega) (by omega) (by omega)) (h.2.2.2 3 (by omega))
/-- and its line stays -/
def Fl (s t : Sto) : Prop := Fx s t ∧ t.1 109 = s.1 109
theorem Fl.rf : Fl s s := ⟨Fx.rf, rfl⟩
theorem Fl.tr {t u : Sto} (h1 : Fl s t) (h2 : Fl t u) : Fl s u := ⟨h1.1.tr h2.1, h2.2.trans h1.2⟩
theorem Fl.RL {t : Sto} (h : Fl s t) (hr : RLn s g) : RLn t g := fun k hk => by rw [h.2]; exact hr k hk
theorem Gx.L {t : Sto} (h : Gx s t) : Fl s t := ⟨h.F, h.1 109 (by omega) (by omega)⟩
theorem r_place {m x i : Nat} {μ : Mem} : fX11_place (iN m) (iN x) (iN i) μ = some (iN (ix m x i), μ) := c_spot
theorem Fl_set {a : Nat} {b : UInt32} {r : Int32} : Fl s (rI (rF s 106 (vf_upd (s.2.1 106) a b)) 107 (upd (s.1 107) a r)) := ⟨⟨fun q _ h2 _ _ => by rw [rI_ne h2, rF_1], fun q h1 => by rw [rI_2, rF_ne h1], by rw [rI_2, rF_22], fun k _ => by rw [rI_ne (by omega), rF_1]⟩, by rw [rI_ne (by omega), rF_1]⟩
theorem r_oneL {G : Mem → Option (Unit × Mem)} {T : Nat → Nat → UInt32} {m x i B : Nat} (h : RR s g wo) (hl : RLn s g) (hg : OKg g) (hm : m < 12) (hx : x ≤ 13) (hi : i < 3) (hB : B ≤ 200000) (hT : ∀ x j, x ≤ g 0 → j < 3 → aL B (T x j)) (hf : ∀ y j, y ≤ g 0 → j < 3 → s.2.1 106 (ix (m + 1) y j) = T y j) :
    ∀ (n k : Nat) (t : Sto), 21 - k < n → k ≤ 21 → Fl s t → (∀ j, j ≠ ix m x i → t.2.1 106 j = s.2.1 106 j ∧ t.1 107 j = s.1 107 j) → (0 < k → t.2.1 106 (ix m x i) = (pickS (valS g T m x i) (k - 1)).1 ∧ t.1 107 (ix m x i) = iN (pickS (valS g T m x i) (k - 1)).2) →
    ∃ u, X11_findsOne_L11 G 101 (iN m) (iN x) (iN i) (iN (ix m x i)) n (iN k) (lay t) = G (lay u) ∧ Fl s u ∧ (∀ j, j ≠ ix m x i → u.2.1 106 j = s.2.1 106 j ∧ u.1 107 j = s.1 107 j) ∧ u.2.1 106 (ix m x i) = (pickS (valS g T m x i) 20).1 ∧ u.1 107 (ix m x i) = iN (pickS (valS g T m x i) 20).2 := by
  intro n
  have b1 := hg.1
  have hl1 := ix_lt (m := m) (x := x) (i := i) (by omega) hx hi
  have hl2 := ix_lt2 (m := m) (x := x) (i := i) hm hx hi
  induction n with
  | zero => intro k t h1; omega
  | succ n ih =>
    intro k t h1 h2 h3 h4 h5
    rw [X11_findsOne_L11]
    simp (disch := first | assumption | omega) only [iN_Lle]
    by_cases c1 : 21 ≤ k
    · rw [if_pos c1]
      have : k = 21 := by omega
      subst this
      exact ⟨t, rfl, h3, h4, h5 (by omega)⟩
    · rw [if_neg c1]
      obtain ⟨u, u1, u2⟩ := r_comesTo (k := k) (h3.1.RR h) (h3.RL hl) hg hm hx hi (by omega) hB hT (fun y j hy hj => by
        rw [(h4 _ (fun e => by have := (ix_inj (by omega) hj hx hi e).1; omega)).1]
        exact hf y j hy hj)
      simp only [oc_101, ob]
      rw [u1]
      simp (disch := first | assumption | omega) only [bd_s, jn_s, rr_101_6, rr_101_7, ob, si_106 hl1, si_107 hl2, ai_106 hl1, iN_eqL, cv_le0, iN_addL, rI_same, rI_ne, rF_same, rF_ne, rJ_same, rJ_ne, rI_2, rF_1, rF_22, rJ_1, rJ_21, rJ_222, rI_rI, rF_rF, rJ_rJ, upd_same, upd_ne, vfu_same, vfu_ne, vpu_same, vpu_ne]
      have e6 : u.2.1 106 = t.2.1 106 := by rw [u2.2.1]
      have e7 : u.1 107 = t.1 107 := u2.1 107 (by omega) (by omega)
      have hFu : Fl s u := h3.tr u2.L
      have take : (pickS (valS g T m x i) k) = (valS g T m x i k, k) → ∃ u', X11_findsOne_L11 G 101 (iN m) (iN x) (iN i) (iN (ix m x i)) n (iN (k + 1)) (lay (rI (rF u 106 (vf_upd (u.2.1 106) (ix m x i) (valS g T m x i k))) 107 (upd (u.1 107) (ix m x i) (iN k)))) = G (lay u') ∧ Fl s u' ∧ (∀ j, j ≠ ix m x i → u'.2.1 106 j = s.2.1 106 j ∧ u'.1 107 j = s.1 107 j) ∧ u'.2.1 106 (ix m x i) = (pickS (valS g T m x i) 20).1 ∧ u'.1 107 (ix m x i) = iN (pickS (valS g T m x i) 20).2 := fun hp =>
        ih (k + 1) _ (by omega) (by omega) (hFu.tr Fl_set) (fun j hj => by
          simp (disch := first | assumption | omega) only [rI_same, rI_ne, rF_same, rF_ne, rJ_same, rJ_ne, rI_2, rF_1, rF_22, rJ_1, rJ_21, rJ_222, rI_rI, rF_rF, rJ_rJ, upd_same, upd_ne, vfu_same, vfu_ne, vpu_same, vpu_ne]
          rw [e6, e7]
          exact h4 j hj) (fun _ => by
          simp (disch := first | assumption | omega) only [rI_same, rI_ne, rF_same, rF_ne, rJ_same, rJ_ne, rI_2, rF_1, rF_22, rJ_1, rJ_21, rJ_222, rI_rI, rF_rF, rJ_rJ, upd_same, upd_ne, vfu_same, vfu_ne, vpu_same, vpu_ne, Nat.add_sub_cancel]
          rw [hp]
          exact ⟨rfl, rfl⟩)
      by_cases c2 : k = 0
      · simp only [c2, if_true] at take ⊢
        exact take rfl
      · simp only [c2, if_false]
        have h6 := h5 (by omega)
        rw [e6, h6.1]
        obtain ⟨k', rfl⟩ : ∃ k', k = k' + 1 := ⟨k - 1, by omega⟩
        simp only [Nat.add_sub_cancel] at h6 ⊢
        by_cases c3 : FP.fcmp (valS g T m x i (k' + 1)) (pickS (valS g T m x i) k').1 = some .gt
        · rw [if_neg (not_not_intro c3)]
          exact take (by unfold pickS; rw [if_pos c3])
        · rw [if_pos c3]
          refine ih (k' + 1 + 1) u (by omega) (by omega) hFu (fun j hj => by rw [e6, e7]; exact h4 j hj) (fun _ => ?_)
          rw [e6, e7, h6.1, h6.2]
          simp only [Nat.add_sub_cancel]
          have : pickS (valS g T m x i) (k' + 1) = pickS (valS g T m x i) k' := by
            conv => lhs; unfold pickS
            rw [if_neg c3]
          rw [this]
          exact ⟨rfl, rfl⟩
theorem r_one {T : Nat → Nat → UInt32} {m x i B : Nat} (h : RR s g wo) (hl : RLn s g) (hg : OKg g) (hm : m < 12) (hx : x ≤ 13) (hi : i < 3) (hB : B ≤ 200000) (hT : ∀ x j, x ≤ g 0 → j < 3 → aL B (T x j)) (hf : ∀ y j, y ≤ g 0 → j < 3 → s.2.1 106 (ix (m + 1) y j) = T y j) :
    ∃ u, fX11_findsOne 101 (iN m) (iN x) (iN i) (lay s) = some ((), lay u) ∧ Fl s u ∧ (∀ j, j ≠ ix m x i → u.2.1 106 j = s.2.1 106 j ∧ u.1 107 j = s.1 107 j) ∧ u.2.1 106 (ix m x i) = (pickS (valS g T m x i) 20).1 ∧ u.1 107 (ix m x i) = iN (pickS (valS g T m x i) 20).2 := by
  unfold fX11_findsOne
  rw [r_place]
  simp only [bd_s]
  exact r_oneL (G := fun μ => some ((), μ)) h hl hg hm hx hi hB hT hf FU 0 s (by unfold FU; omega) (by omega) Fl.rf (fun _ _ => ⟨rfl, rfl⟩) (fun h0 => absurd h0 (Nat.lt_irrefl 0))
/-- one month's rows are anew, the others as they were -/
def Mo (s u : Sto) (g : Nat → Nat) (T : Nat → Nat → UInt32) (m : Nat) (P : Nat → Nat → Prop) : Prop := (∀ y k, y ≤ g 0 → k < 3 → P y k → u.2.1 106 (ix m y k) = (pickS (valS g T m y k) 20).1 ∧ u.1 107 (ix m y k) = iN (pickS (valS g T m y k) 20).2) ∧ (∀ j, (∀ y k, y ≤ g 0 → k < 3 → P y k → j ≠ ix m y k) → u.2.1 106 j = s.2.1 106 j ∧ u.1 107 j = s.1 107 j)
theorem r_f89 {G : Mem → Option (Unit × Mem)} {v1 : Int32} {T : Nat → Nat → UInt32} {m x B : Nat} (hg : OKg g) (hm : m < 12) (hx : x ≤ g 0) (hB : B ≤ 200000) (hT : ∀ x j, x ≤ g 0 → j < 3 → aL B (T x j)) :
    ∀ (n i : Nat) (s : Sto), 3 - i < n → i ≤ 3 → RR s g wo → RLn s g → (∀ y j, y ≤ g 0 → j < 3 → s.2.1 106 (ix (m + 1) y j) = T y j) → ∃ u, X11_finds_L89 G 101 v1 (iN m) (iN x) n (iN i) (lay s) = G (lay u) ∧ Fl s u ∧ Mo s u g T m (fun y k => y = x ∧ i ≤ k) := by
  intro n
  have b1 := hg.1
  induction n with
  | zero => intro i s h1; omega
  | succ n ih =>
    intro i s h1 h2 h hl hf
    rw [X11_finds_L89]
    simp (disch := first | assumption | omega) only [iN_Lle]
    by_cases c1 : 3 ≤ i
    · rw [if_pos c1]
      exact ⟨s, rfl, Fl.rf, fun y k _ h4 h5 => by omega, fun j _ => ⟨rfl, rfl⟩⟩
    · rw [if_neg c1]
      have hi : i < 3 := by omega
      obtain ⟨u, u1, u2, u3, u4⟩ := r_one h hl hg hm (show x ≤ 13 by omega) hi hB hT hf
      simp only [oc_101, ob]
      rw [u1]
      simp only [bd_s, iN_add, iN_addL, iN_Ladd, iN_mul, iN_mulL, iN_Lmul]
      obtain ⟨w, w1, w2, w3, w4⟩ := ih (i + 1) u (by omega) (by omega) (u2.1.RR h) (u2.RL hl) (fun y j hy hj => by
        rw [(u3 _ (fun e => by have := (ix_inj (by omega) hj (by omega) hi e).1; omega)).1]
        exact hf y j hy hj)
      refine ⟨w, w1, u2.tr w2, fun y k hy hk hP => ?_, fun j hj => ?_⟩
      · obtain ⟨rfl, hik⟩ := hP
        by_cases c2 : k = i
        · subst c2
          have := w4 (ix m y k) (fun y' k' hy' hk' hP e => by have := ix_inj (m := m) (m' := m) (by omega) hi (by omega) hk' e; omega)
          rw [this.1, this.2]
          exact u4
        · exact w3 y k hy hk ⟨rfl, by omega⟩
      · have := w4 j (fun y k hy hk hP => hj y k hy hk ⟨hP.1, by omega⟩)
        rw [this.1, this.2]
        exact u3 j (hj x i hx hi ⟨rfl, Nat.le_refl _⟩)
theorem r_f76 {G : Mem → Option (Unit × Mem)} {v1 : Int32} {T : Nat → Nat → UInt32} {m B : Nat} (hg : OKg g) (hm : m < 12) (hB : B ≤ 200000) (hT : ∀ x j, x ≤ g 0 → j < 3 → aL B (T x j)) :
    ∀ (n x : Nat) (s : Sto), g 0 + 1 - x < n → x ≤ g 0 + 1 → RR s g wo → RLn s g → (∀ y j, y ≤ g 0 → j < 3 → s.2.1 106 (ix (m + 1) y j) = T y j) → ∃ u, X11_finds_L76 G 101 v1 (iN m) n (iN x) (lay s) = G (lay u) ∧ Fl s u ∧ Mo s u g T m (fun y _ => x ≤ y) := by
  intro n
  have b1 := hg.1
  induction n with
  | zero => intro i s h1; omega
  | succ n ih =>
    intro x s h1 h2 h hl hf
    rw [X11_finds_L76]
    have e0 : aI (lay s) 0 102 0 = some (iN (g 0)) := by rw [show (0 : Int32) = iN 0 from rfl, ai_102 (by omega), rr_k h (by omega)]
    simp (disch := first | assumption | omega) only [rr_101_0, ob, e0, iN_lt]
    by_cases c1 : g 0 < x
    · rw [if_pos c1]
      exact ⟨s, rfl, Fl.rf, fun y k h3 h4 h5 => by omega, fun j _ => ⟨rfl, rfl⟩⟩
    · rw [if_neg c1]
      obtain ⟨u, u1, u2, u3, u4⟩ := r_f89 (G := fun μ_109 => X11_finds_L76 G 101 v1 (iN m) n (iN x + 1) μ_109) (v1 := v1) hg hm (show x ≤ g 0 by omega) hB hT FU 0 s (by unfold FU; omega) (by omega) h hl hf
      rw [show (0 : Int32) = iN 0 from rfl, u1]
      simp only [iN_add, iN_addL, iN_Ladd, iN_mul, iN_mulL, iN_Lmul]
      obtain ⟨w, w1, w2, w3, w4⟩ := ih (x + 1) u (by omega) (by omega) (u2.1.RR h) (u2.RL hl) (fun y j hy hj => by
        rw [(u4 _ (fun y' k' hy' hk' hP e => by have := (ix_inj (by omega) hj (by omega) hk' e).1; omega)).1]
        exact hf y j hy hj)
      refine ⟨w, w1, u2.tr w2, fun y k hy hk hP => ?_, fun j hj => ?_⟩
      · by_cases c2 : y = x
        · subst c2
          have := w4 (ix m y k) (fun y' k' hy' hk' hP e => by have := ix_inj (m := m) (m' := m) (by omega) hk (by omega) hk' e; omega)
          rw [this.1, this.2]
          exact u3 y k hy hk ⟨rfl, Nat.zero_le _⟩
        · exact w3 y k hy hk (by omega)
      · have := w4 j (fun y k hy hk hP => hj y k hy hk (by omega))
        rw [this.1, this.2]
        exact u4 j (fun y k hy hk hP => hj y k hy hk (by omega))
/-- the rows of the reference from month k on -/
def TR (s : Sto) (g : Nat → Nat) (k : Nat) : Prop := (∀ m x i, k ≤ m → m ≤ g 1 → x ≤ g 0 → i < 3 → s.2.1 106 (ix m x i) = bstS g (g 1 - m) x i) ∧ (∀ m x i, k ≤ m → m < g 1 → x ≤ g 0 → i < 3 → s.1 107 (ix m x i) = iN (rlsS g (g 1 - m) x i))
theorem r_f69 {G : Mem → Option (Unit × Mem)} {f : Nat} (hg : OKg g) (hf : f ≤ g 1 + 1) :
    ∀ (n k : Nat) (s : Sto), k - f < n → k ≤ g 1 → RR s g wo → RLn s g → TR s g k → ∃ u, X11_finds_L69 G 101 (iN f) n (iZ ((k : Int) - 1)) (lay s) = G (lay u) ∧ Fl s u ∧ TR u g (min f k) := by
  intro n
  have b1 := hg.1
  induction n with
  | zero => intro k s h1; omega
  | succ n ih =>
    intro k s h1 h3 h hl h4
    rw [X11_finds_L69]
    have hc : (iZ ((k : Int) - 1) < iN f) = (k ≤ f) := by
      rw [Int32.lt_iff_toInt_lt, iZ_toInt (by omega) (by omega), iN_toInt (by omega)]
      exact propext (by omega)
    simp only [hc]
    by_cases c1 : k ≤ f
    · rw [if_pos c1, Nat.min_eq_right c1]
      exact ⟨s, rfl, Fl.rf, h4⟩
    · rw [if_neg c1]
      obtain ⟨m, rfl⟩ : ∃ m, k = m + 1 := ⟨k - 1, by omega⟩
      have em : iZ (((m + 1 : Nat) : Int) - 1) = iN m := by
        rw [iN_iZ]
        congr 1
        omega
      have hm : m < 12 := by omega
      have hB : bdS (g 1 - (m + 1)) ≤ 200000 := by unfold bdS; omega
      have hT : ∀ x j, x ≤ g 0 → j < 3 → aL (bdS (g 1 - (m + 1))) (bstS g (g 1 - (m + 1)) x j) := fun x j hx hj => (bstS_aL hg (g 1 - (m + 1)) x j (by omega) hx hj).1
      obtain ⟨u, u1, u2, u3, u4⟩ := r_f76 (G := fun μ_115 => X11_finds_L69 G 101 (iN f) n (iN m + -1) μ_115) (v1 := iN f) hg hm hB hT FU 0 s (by unfold FU; omega) (by omega) h hl (fun y j hy hj => h4.1 (m + 1) y j (Nat.le_refl _) h3 hy hj)
      rw [em, show (0 : Int32) = iN 0 from rfl, u1]
      have en : iN m + -1 = iZ ((m : Int) - 1) := by
        rw [iN_iZ, show (-1 : Int32) = iZ (-1) from rfl, iZ_add]
        rfl
      simp only [en]
      obtain ⟨w, w1, w2, w3⟩ := ih m u (by omega) (by omega) (u2.1.RR h) (u2.RL hl) ⟨fun m' x i h5 h6 h7 h8 => by
          by_cases c2 : m' = m
          · subst c2
            rw [(u3 x i h7 h8 (Nat.zero_le _)).1, show g 1 - m' = (g 1 - (m' + 1)) + 1 by omega, bstS, show g 1 - (g 1 - (m' + 1) + 1) = m' by omega]
          · rw [(u4 _ (fun y k h9 h10 _ e => c2 (ix_inj (by omega) h8 (by omega) h10 e).1)).1]
            exact h4.1 m' x i (by omega) h6 h7 h8, fun m' x i h5 h6 h7 h8 => by
          by_cases c2 : m' = m
          · subst c2
            rw [(u3 x i h7 h8 (Nat.zero_le _)).2, show g 1 - m' = (g 1 - (m' + 1)) + 1 by omega, rlsS, show g 1 - (g 1 - (m' + 1) + 1) = m' by omega]
          · rw [(u4 _ (fun y k h9 h10 _ e => c2 (ix_inj (by omega) h8 (by omega) h10 e).1)).2]
            exact h4.2 m' x i (by omega) h6 h7 h8⟩
      rw [show min f (m + 1) = min f m by omega]
      exact ⟨w, w1, u2.tr w2, w3⟩
theorem Fl_106 {f : Nat → UInt32} : Fl s (rF s 106 f) := ⟨⟨fun q _ h2 _ _ => rfl, fun q h1 => rF_ne h1, rfl, fun k _ => rfl⟩, rfl⟩
theorem r_f18 {G : Mem → Option (Unit × Mem)} {v1 : Int32} {x : Nat} (hg : OKg g) (h : RR s g wo) (hx : x ≤ g 0) :
    ∀ (n i : Nat) (f : Nat → UInt32), 3 - i < n → i ≤ 3 → ∃ f', X11_finds_L18 G 101 v1 (iN x) n (iN i) (lay (rF s 106 f)) = G (lay (rF s 106 f')) ∧ (∀ k, i ≤ k → k < 3 → f' (ix (g 1) x k) = bstS g 0 x k) ∧ (∀ j, (∀ k, i ≤ k → k < 3 → j ≠ ix (g 1) x k) → f' j = f j) := by
  intro n
  have b1 := hg.1
  induction n with
  | zero => intro i f h1; omega
  | succ n ih =>
    intro i f h1 h2
    have hS : RR (rF s 106 f) g wo := RR_congr h rfl rfl
    have e1 : aI (lay (rF s 106 f)) 0 102 1 = some (iN (g 1)) := by rw [show (1 : Int32) = iN 1 from rfl, ai_102 (by omega), rr_k hS (by omega)]
    have e3 : aI (lay (rF s 106 f)) 0 102 3 = some (iN (g 3)) := by rw [show (3 : Int32) = iN 3 from rfl, ai_102 (by omega), rr_k hS (by omega)]
    rw [X11_finds_L18]
    simp (disch := first | assumption | omega) only [iN_Lle]
    by_cases c1 : 3 ≤ i
    · rw [if_pos c1]
      exact ⟨f, rfl, fun k h3 h4 => by omega, fun j _ => rfl⟩
    · rw [if_neg c1]
      have hi : i < 3 := by omega
      have hl := ix_lt (m := g 1) (x := x) (i := i) (by omega) (by omega) hi
      simp only [rr_101_6, rr_101_0, ob, bd_s, e1, e3, r_place, si_106 hl, rI_same, rI_ne, rF_same, rF_ne, rJ_same, rJ_ne, rI_2, rF_1, rF_22, rJ_1, rJ_21, rJ_222, rI_rI, rF_rF, rJ_rJ, upd_same, upd_ne, vfu_same, vfu_ne, vpu_same, vpu_ne, iN_add, iN_addL, iN_Ladd, iN_mul, iN_mulL, iN_Lmul]
      obtain ⟨f', d1, d2, d3⟩ := ih (i + 1) (vf_upd f (ix (g 1) x i) (FP.i2f (iN (g 3 * x)))) (by omega) (by omega)
      refine ⟨f', d1, fun k h3 h4 => ?_, fun j hj => ?_⟩
      · by_cases c2 : k = i
        · subst c2
          rw [d3 _ (fun k' h5 h6 e => by have := ix_inj (m := g 1) (m' := g 1) (by omega) hi (by omega) h6 e; omega), vfu_same]
          rfl
        · exact d2 k (by omega) h4
      · rw [d3 j (fun k h5 h6 => hj k (by omega) h6), vfu_ne (hj i (by omega) hi)]
theorem r_f6 {G : Mem → Option (Unit × Mem)} {v1 : Int32} (hg : OKg g) (h : RR s g wo) :
    ∀ (n x : Nat) (f : Nat → UInt32), g 0 + 1 - x < n → x ≤ g 0 + 1 → ∃ f', X11_finds_L6 G 101 v1 n (iN x) (lay (rF s 106 f)) = G (lay (rF s 106 f')) ∧ (∀ y k, x ≤ y → y ≤ g 0 → k < 3 → f' (ix (g 1) y k) = bstS g 0 y k) ∧ (∀ j, (∀ y k, x ≤ y → y ≤ g 0 → k < 3 → j ≠ ix (g 1) y k) → f' j = f j) := by
  intro n
  have b1 := hg.1
  induction n with
  | zero => intro x f h1; omega
  | succ n ih =>
    intro x f h1 h2
    have hS : RR (rF s 106 f) g wo := RR_congr h rfl rfl
    have e0 : aI (lay (rF s 106 f)) 0 102 0 = some (iN (g 0)) := by rw [show (0 : Int32) = iN 0 from rfl, ai_102 (by omega), rr_k hS (by omega)]
    rw [X11_finds_L6]
    simp (disch := first | assumption | omega) only [rr_101_0, ob, e0, iN_lt]
    by_cases c1 : g 0 < x
    · rw [if_pos c1]
      exact ⟨f, rfl, fun y k h3 h4 => by omega, fun j _ => rfl⟩
    · rw [if_neg c1]
      obtain ⟨f1, e1, e2, e3⟩ := r_f18 (G := fun μ_54 => X11_finds_L6 G 101 v1 n (iN x + 1) μ_54) (v1 := v1) hg h (show x ≤ g 0 by omega) FU 0 f (by unfold FU; omega) (by omega)
      rw [show (0 : Int32) = iN 0 from rfl, e1]
      simp only [iN_add, iN_addL, iN_Ladd, iN_mul, iN_mulL, iN_Lmul]
      obtain ⟨f', d1, d2, d3⟩ := ih (x + 1) f1 (by omega) (by omega)
      refine ⟨f', d1, fun y k h3 h4 h5 => ?_, fun j hj => ?_⟩
      · by_cases c2 : y = x
        · subst c2
          rw [d3 (ix (g 1) y k) (fun z k' h6 h7 h8 e => by have := ix_inj (m := g 1) (m' := g 1) (by omega) h5 (by omega) h8 e; omega)]
          exact e2 k (by omega) h5
        · exact d2 y k (by omega) h4 h5
      · rw [d3 j (fun y k h5 h6 h7 => hj y k (by omega) h6 h7)]
        exact e3 j (fun k h5 h6 => hj x k (by omega) (by omega) h6)
theorem r_finds (hg : OKg g) (h : RR s g wo) {f : Nat} (hf : f ≤ g 1 + 1) : ∃ u, fX11_finds 101 (iN f) (lay s) = some ((), lay u) ∧ Fx s u ∧ RLn u g ∧ TR u g (min f (g 1)) := by
  have b1 := hg.1
  unfold fX11_finds
  obtain ⟨fl, l1, l2⟩ := r_ranks h hg
  simp only [oc_101, ob]
  rw [l1]
  simp only [bd_s]
  have hS : RR (rI s 109 fl) g wo := RR_congr h rfl rfl
  obtain ⟨f1, e1, e2, e3⟩ := r_f6 (G := fun μ_60 => (gR μ_60 101 11 0).bind fun x61 => (aI μ_60 0 x61 ((1 : Int32))).bind fun x65 => X11_finds_L69 (fun μ_121 => some ((), μ_121)) 101 (iN f) FU ((x65 - (1 : Int32))) μ_60) (v1 := iN f) hg hS FU 0 ((rI s 109 fl).2.1 106) (by unfold FU; omega) (by omega)
  rw [rF_self] at e1
  rw [show (0 : Int32) = iN 0 from rfl, e1]
  have hS2 : RR (rF (rI s 109 fl) 106 f1) g wo := RR_congr hS rfl rfl
  have e4 : aI (lay (rF (rI s 109 fl) 106 f1)) 0 102 1 = some (iN (g 1)) := by rw [show (1 : Int32) = iN 1 from rfl, ai_102 (by omega), rr_k hS2 (by omega)]
  simp only [rr_101_0, ob, e4]
  rw [show iN (g 1) - 1 = iZ ((g 1 : Int) - 1) by rw [iN_iZ, show (1 : Int32) = iZ 1 from rfl, iZ_sub]]
  have hF : Fx s (rF (rI s 109 fl) 106 f1) := ⟨fun q _ _ _ h4 => rI_ne h4, fun q h1 => by rw [rF_ne h1, rI_2], by rw [rF_22, rI_2], fun k _ => rfl⟩
  obtain ⟨u, u1, u2, u3⟩ := r_f69 (G := fun μ => some ((), μ)) hg hf FU (g 1) (rF (rI s 109 fl) 106 f1) (by unfold FU; omega) (Nat.le_refl _) hS2 l2 ⟨fun m x i h5 h6 h7 h8 => by
      have : m = g 1 := by omega
      subst this
      rw [rF_same, e2 x i (Nat.zero_le _) h7 h8, Nat.sub_self], fun m x i h5 h6 => by omega⟩
  exact ⟨u, u1, hF.tr u2.1, u2.RL l2, u3⟩
end REFC
