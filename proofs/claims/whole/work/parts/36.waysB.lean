/-! ===== ways: the class counts trails, passing over what is hopeless; the reference counts all ===== -/
section WAYS
variable {s : Sto} {g : Nat → Nat} {wo : Nat → Bool}
/-- the k-th figure of n of a way -/
def dgS (w n k : Nat) : Nat := w / 3 ^ (n - 1 - k) % 3
/-- what the class has found, on its way of n months -/
def LK (s : Sto) (n : Nat) (a : UInt32 × Nat) : Prop := s.2.1 64 6 = a.1 ∧ (a.1 ≠ nOne → ∀ k, k < n → s.1 69 k = iN (dgS a.2 n k))
/-- behind its first place the trail has the n figures of w -/
def TL (s : Sto) (n w : Nat) : Prop := ∀ k, k < n → s.1 68 (k + 1) = iN (dgS w n k)
/-- what finding leaves as it was -/
def Wx (s t : Sto) : Prop := (∀ q, q ≠ 68 → q ≠ 69 → t.1 q = s.1 q) ∧ (∀ q, q ≠ 64 → q ≠ 118 → t.2.1 q = s.2.1 q) ∧ t.2.2 = s.2.2
theorem Wx.rf : Wx s s := ⟨fun _ _ _ => rfl, fun _ _ _ => rfl, rfl⟩
theorem Wx.tr {t u : Sto} (h1 : Wx s t) (h2 : Wx t u) : Wx s u := ⟨fun q a b => (h2.1 q a b).trans (h1.1 q a b), fun q a b => (h2.2.1 q a b).trans (h1.2.1 q a b), h2.2.2.trans h1.2.2⟩
theorem Wx_68 {f : Nat → Int32} : Wx s (rI s 68 f) := ⟨fun q a _ => rI_ne a, fun q _ _ => by rw [rI_2], by rw [rI_2]⟩
theorem Wx_69 {f : Nat → Int32} : Wx s (rI s 69 f) := ⟨fun q _ a => rI_ne a, fun q _ _ => by rw [rI_2], by rw [rI_2]⟩
theorem Wx_118 {f : Nat → UInt32} : Wx s (rF s 118 f) := ⟨fun q _ _ => by rw [rF_1], fun q _ a => rF_ne a, by rw [rF_22]⟩
theorem Wx_64 {f : Nat → UInt32} : Wx s (rF s 64 f) := ⟨fun q _ _ => by rw [rF_1], fun q a _ => rF_ne a, by rw [rF_22]⟩
theorem cv_gt0 {o : Option Ordering} (h : o ≠ none) : (0 < Op.cmpValue o .g) = (o = some .gt) := by
  rcases o with _ | o
  · exact absurd rfl h
  · cases o
    · exact propext ⟨fun h => absurd h (by decide), fun h => (by cases h)⟩
    · exact propext ⟨fun h => absurd h (by decide), fun h => (by cases h)⟩
    · exact propext ⟨fun _ => rfl, fun _ => (by decide)⟩
/-! figures -/
theorem dg_up {w n k : Nat} (hk : k < n) : dgS w (n + 1) k = dgS (w / 3) n k := by
  unfold dgS
  obtain ⟨e, h1, h2⟩ : ∃ e, n + 1 - 1 - k = e + 1 ∧ n - 1 - k = e := ⟨n - 1 - k, by omega, rfl⟩
  rw [h1, h2, Nat.pow_succ, Nat.mul_comm (3 ^ e) 3, ← Nat.div_div_eq_div_mul]
theorem dg_low {w n : Nat} : dgS w (n + 1) n = w % 3 := by
  unfold dgS
  rw [show n + 1 - 1 - n = 0 by omega, Nat.pow_zero, Nat.div_one]
theorem dg_pre {w n p k : Nat} (hk : k < p) (hp : p ≤ n) : dgS w n k = dgS (w / 3 ^ (n - p)) p k := by
  unfold dgS
  rw [Nat.div_div_eq_div_mul, ← Nat.pow_add, show n - p + (p - 1 - k) = n - 1 - k by omega]
theorem dg_zero {b n p k : Nat} (hk : p ≤ k) (hn : k < n) : dgS (b * 3 ^ (n - p)) n k = 0 := by
  unfold dgS
  have := dig_mod (d := b) (w := 0) (r := n - p) (k := n - 1 - k) (by omega)
  rw [Nat.add_zero, Nat.zero_div] at this
  exact this
/-! chances along the first figures -/
def lsS (st p w : Nat) : Nat := if p = 0 then st else w % 3
theorem ls_lt {st p w : Nat} (h : st < 3) : lsS st p w < 3 := by
  unfold lsS
  split
  · exact h
  · exact Nat.mod_lt _ (by decide)
theorem ls_s {st p w : Nat} : lsS (w / 3 ^ p % 3) p w = lsS st (p + 1) w := by
  unfold lsS
  rw [if_neg (show ¬ p + 1 = 0 by omega)]
  by_cases c : p = 0
  · rw [if_pos c, c, Nat.pow_zero, Nat.div_one]
  · rw [if_neg c]
theorem chS_split {q i : Nat} (hi : i < 3 ^ q) {B : Nat} : ∀ (p st : Nat) (c : UInt32), chS g st c (p + q) (B * 3 ^ q + i) = chS g (lsS st p B) (chS g st c p B) q i
  | 0, st, c => by
    rw [Nat.zero_add, chS_mod q _ _ (Nat.le_refl _)]
    rfl
  | p + 1, st, c => by
    have hd : (B * 3 ^ q + i) / 3 ^ (p + q) = B / 3 ^ p := by
      rw [Nat.pow_add, Nat.mul_comm (3 ^ p), ← Nat.div_div_eq_div_mul, Nat.add_comm, Nat.add_mul_div_right _ _ (Nat.pow_pos (by decide)), Nat.div_eq_of_lt hi, Nat.zero_add]
    rw [show p + 1 + q = (p + q) + 1 by omega]
    show chS g ((B * 3 ^ q + i) / 3 ^ (p + q) % 3) (FP.fmul c (odS g st ((B * 3 ^ q + i) / 3 ^ (p + q) % 3))) (p + q) (B * 3 ^ q + i) = chS g (lsS st (p + 1) B) (chS g (B / 3 ^ p % 3) (FP.fmul c (odS g st (B / 3 ^ p % 3))) p B) q i
    rw [hd, chS_split hi p, ls_s]
theorem chS_snoc {p st w : Nat} {c : UInt32} : chS g st c (p + 1) w = FP.fmul (chS g st c p (w / 3)) (odS g (lsS st p (w / 3)) (w % 3)) := by
  have := chS_split (g := g) (q := 1) (i := w % 3) (B := w / 3) (Nat.mod_lt _ (by decide)) p st c
  rw [show w / 3 * 3 ^ 1 + w % 3 = w by omega] at this
  rw [this]
  show FP.fmul _ (odS g _ (w % 3 / 3 ^ 0 % 3)) = _
  rw [Nat.pow_zero, Nat.div_one, Nat.mod_mod]
/-- the chance along the first p of N figures -/
def chP (g : Nat → Nat) (a N p w : Nat) : UInt32 := chS g a FP.fconst1 p (w / 3 ^ (N - p))
theorem chP_s {a N p w : Nat} (hp : p < N) : chP g a N (p + 1) w = FP.fmul (chP g a N p w) (odS g (lsS a p (w / 3 ^ (N - p))) (dgS w N p)) := by
  unfold chP
  rw [chS_snoc]
  have e : w / 3 ^ (N - (p + 1)) / 3 = w / 3 ^ (N - p) := by
    rw [Nat.div_div_eq_div_mul, ← Nat.pow_succ, show (N - (p + 1)).succ = N - p by omega]
  have e2 : w / 3 ^ (N - (p + 1)) % 3 = dgS w N p := by
    unfold dgS
    rw [show N - 1 - p = N - (p + 1) by omega]
  rw [e, e2]
theorem chP_n {a N w : Nat} : chP g a N N w = chS g a FP.fconst1 N w := by
  unfold chP
  rw [Nat.sub_self, Nat.pow_zero, Nat.div_one]
theorem pk_start {v : Nat → UInt32} {w0 : Nat} (hv : chO (v 0)) : ∀ m, pkW v 0 (m + 1) (nOne, w0) = pkW v 0 (m + 1) (nOne, 0)
  | 0 => by
    show stW (v 0) (0 + 0) (nOne, w0) = stW (v 0) (0 + 0) (nOne, 0)
    unfold stW
    rw [if_pos (gt_nOne hv), if_pos (gt_nOne hv)]
  | m + 1 => by
    have := pk_start (w0 := w0) hv m
    unfold pkW
    rw [this]
/-- the way of n months from a, and its chance -/
def wyS (g : Nat → Nat) (a n : Nat) : UInt32 × Nat := pkW (chS g a FP.fconst1 n) 0 (3 ^ n) (nOne, 0)
theorem ch_one : chO FP.fconst1 := by
  refine ⟨⟨aL_one.1, by decide +kernel⟩, ?_⟩
  have := aL_one.2
  rw [Nat.one_mul] at this
  exact this
theorem ch_ok (hg : OKg g) : ∀ (n st : Nat) (c : UInt32) (w : Nat), st < 3 → chO c → chO (chS g st c n w)
  | 0, _, _, _, _, hc => hc
  | n + 1, st, c, w, hs, hc => by
    unfold chS
    exact ch_ok hg n _ _ w (Nat.mod_lt _ (by decide)) (ch_mul hc (od_ch hg hs (Nat.mod_lt _ (by decide)))).1
theorem pk_ok {v : Nat → UInt32} (hv : ∀ i, chO (v i)) : ∀ m, chO (pkW v 0 (m + 1) (nOne, 0)).1 ∧ (pkW v 0 (m + 1) (nOne, 0)).2 ≤ m
  | 0 => by
    show chO (stW (v 0) (0 + 0) (nOne, 0)).1 ∧ _
    have : stW (v 0) (0 + 0) (nOne, 0) = (v 0, 0) := if_pos (gt_nOne (hv 0))
    rw [this]
    refine ⟨hv 0, ?_⟩
    show (stW (v 0) (0 + 0) (nOne, 0)).2 ≤ 0
    rw [this]
    exact Nat.le_refl _
  | m + 1 => by
    obtain ⟨h1, h2⟩ := pk_ok hv m
    have e : pkW v 0 (m + 1 + 1) (nOne, 0) = stW (v (m + 1)) (0 + (m + 1)) (pkW v 0 (m + 1) (nOne, 0)) := rfl
    rw [e]
    unfold stW
    split
    · exact ⟨hv _, by show 0 + (m + 1) ≤ m + 1; omega⟩
    · exact ⟨h1, by omega⟩
theorem wy_ok (hg : OKg g) {a n : Nat} (ha : a < 3) : chO (wyS g a n).1 ∧ (wyS g a n).2 < 3 ^ n := by
  have hp : 0 < 3 ^ n := Nat.pow_pos (by decide)
  obtain ⟨m, hm⟩ : ∃ m, 3 ^ n = m + 1 := ⟨3 ^ n - 1, by omega⟩
  unfold wyS
  rw [hm]
  obtain ⟨h1, h2⟩ := pk_ok (v := chS g a FP.fconst1 n) (fun i => ch_ok hg n a _ i ha ch_one) m
  exact ⟨h1, by omega⟩
theorem ch_ne {c : UInt32} (h : chO c) : c ≠ nOne := fun e => by
  subst e
  have : FP.Core.sgn (FP.Core.val32 nOne) = true := by decide +kernel
  have := h.1.2
  simp_all
theorem pk_ac {v : Nat → UInt32} (hv : ∀ i, chO (v i)) : ∀ m, acO (pkW v 0 m (nOne, 0)).1
  | 0 => Or.inl rfl
  | m + 1 => st_ac (hv m) (pk_ac hv m)
/-- ways whose first p figures are B are passed over, where B's chance is no greater than what has been found -/
theorem pk_prune (hg : OKg g) {a N p B : Nat} {acc : UInt32 × Nat} (ha : a < 3) (hp : p ≤ N) (hacc : acO acc.1) (h : ¬ FP.fcmp (chS g a FP.fconst1 p B) acc.1 = some .gt) (he : pkW (chS g a FP.fconst1 N) 0 (B * 3 ^ (N - p)) (nOne, 0) = acc) : pkW (chS g a FP.fconst1 N) 0 ((B + 1) * 3 ^ (N - p)) (nOne, 0) = acc := by
  rw [Nat.add_mul, Nat.one_mul, pkW_add, he, Nat.zero_add]
  rw [pkW_congr (v' := chS g (lsS a p B) (chS g a FP.fconst1 p B) (N - p)) (3 ^ (N - p)) (fun i hi => by
    have := chS_split (g := g) hi (B := B) p a FP.fconst1
    rw [show p + (N - p) = N by omega] at this
    exact this)]
  rw [← flW_eq]
  exact fl_prune hg (N - p) _ _ acc B (ls_lt ha) (ch_ok hg p a _ B ha ch_one) hacc h
theorem tr_at {a N p w : Nat} (h0 : s.1 68 0 = iN a) (ht : TL s N w) (hp : p ≤ N) : s.1 68 p = iN (lsS a p (w / 3 ^ (N - p))) := by
  unfold lsS
  by_cases c : p = 0
  · rw [if_pos c, c]
    exact h0
  · rw [if_neg c]
    have := ht (p - 1) (by omega)
    rw [show p - 1 + 1 = p by omega] at this
    rw [this]
    unfold dgS
    rw [show N - 1 - (p - 1) = N - p by omega]
/-! the class's three loops -/
theorem iN_pred {n : Nat} : iN (n + 1) + -1 = iN n := by
  rw [iN_iZ, iN_iZ, show (-1 : Int32) = iZ (-1) from rfl, iZ_add]
  congr 1
  omega
theorem c_turnL : ∀ (p n B : Nat) (s : Sto), p < n → p ≤ 8 → B < 3 ^ p → TL s p B → ∃ r f, X2_turnOn_L2 (fun μ => some ((0 : Int32), μ)) 64 n (iN p) (lay s) = some (iN r, lay (rI s 68 f)) ∧ f 0 = s.1 68 0 ∧ (∀ k, p < k → f k = s.1 68 k) ∧ r ≤ p ∧ ((r = 0 ∧ B + 1 = 3 ^ p) ∨ (1 ≤ r ∧ B + 1 < 3 ^ p ∧ (∀ k, k < p → f (k + 1) = iN (dgS (B + 1) p k)) ∧ (B + 1) % 3 ^ (p - r) = 0 ∧ ∀ j, j < r → (B + 1) / 3 ^ (p - j) = B / 3 ^ (p - j))) := by
  intro p
  induction p with
  | zero =>
    intro n B s h1 h2 h3 h4
    obtain ⟨n, rfl⟩ : ∃ m, n = m + 1 := ⟨n - 1, by omega⟩
    have e1 : (3 : Nat) ^ 0 = 1 := rfl
    refine ⟨0, s.1 68, ?_, rfl, fun _ _ => rfl, Nat.le_refl _, Or.inl ⟨rfl, by omega⟩⟩
    rw [X2_turnOn_L2, if_pos (by decide), rI_self]
    rfl
  | succ p ih =>
    intro n B s h1 h2 h3 h4
    obtain ⟨n, rfl⟩ : ∃ m, n = m + 1 := ⟨n - 1, by omega⟩
    have e3 : (3 : Nat) ^ (p + 1) = 3 * 3 ^ p := by rw [Nat.pow_succ, Nat.mul_comm]
    have ht := h4 p (by omega)
    rw [dg_low] at ht
    rw [X2_turnOn_L2]
    simp (disch := first | assumption | omega) only [iN_leL]
    rw [if_neg (by omega)]
    simp (disch := first | assumption | omega) only [rr_64_3, ob, ai_68, ht, iN_Lle, si_68, iN_add, iN_addL, iN_Ladd, iN_mul, iN_mulL, iN_Lmul]
    by_cases c : 2 ≤ B % 3
    · rw [if_pos c, iN_pred]
      have hq : (B + 1) / 3 = B / 3 + 1 := by omega
      obtain ⟨r, f, q1, q2, q3, q4, q5⟩ := ih n (B / 3) (rI s 68 (upd (s.1 68) (p + 1) 0)) (by omega) (by omega) (by omega) (fun k hk => by
        rw [rI_same, upd_ne (by omega), h4 k (by omega), dg_up hk])
      rw [rI_same] at q2 q3
      refine ⟨r, f, ?_, ?_, ?_, by omega, ?_⟩
      · rw [q1, rI_rI]
      · rw [q2, upd_ne (by omega)]
      · intro k hk
        rw [q3 k (by omega), upd_ne (by omega)]
      · rcases q5 with ⟨a1, a2⟩ | ⟨a1, a2, a3, a4, a5⟩
        · exact Or.inl ⟨a1, by omega⟩
        · refine Or.inr ⟨a1, by omega, ?_, ?_, ?_⟩
          · intro k hk
            by_cases ck : k = p
            · subst ck
              rw [q3 (k + 1) (by omega), upd_same, dg_low, show (B + 1) % 3 = 0 by omega]
              rfl
            · rw [a3 k (by omega), dg_up (by omega), hq]
          · rw [show p + 1 - r = (p - r) + 1 by omega, Nat.pow_succ, Nat.mul_comm, show B + 1 = 3 * (B / 3 + 1) by omega, Nat.mul_mod_mul_left, a4]
          · intro j hj
            rw [show p + 1 - j = (p - j) + 1 by omega, Nat.pow_succ, Nat.mul_comm (3 ^ (p - j)) 3, ← Nat.div_div_eq_div_mul, ← Nat.div_div_eq_div_mul, hq]
            exact a5 j hj
    · rw [if_neg c]
      have hq : (B + 1) / 3 = B / 3 := by omega
      refine ⟨p + 1, upd (s.1 68) (p + 1) (iN (B % 3 + 1)), rfl, by rw [upd_ne (by omega)], fun k hk => by rw [upd_ne (by omega)], Nat.le_refl _, Or.inr ⟨by omega, by omega, ?_, ?_, ?_⟩⟩
      · intro k hk
        by_cases ck : k = p
        · subst ck
          rw [upd_same, dg_low, show (B + 1) % 3 = B % 3 + 1 by omega]
        · rw [upd_ne (by omega), h4 k (by omega), dg_up (by omega), dg_up (by omega), hq]
      · rw [Nat.sub_self, Nat.pow_zero, Nat.mod_one]
      · intro j hj
        rw [show p + 1 - j = (p - j) + 1 by omega, Nat.pow_succ, Nat.mul_comm (3 ^ (p - j)) 3, ← Nat.div_div_eq_div_mul, ← Nat.div_div_eq_div_mul, hq]
theorem c_turnOn {p B : Nat} (hp : p ≤ 8) (hB : B < 3 ^ p) (ht : TL s p B) : ∃ r f, fX2_turnOn 64 (iN p) (lay s) = some (iN r, lay (rI s 68 f)) ∧ f 0 = s.1 68 0 ∧ (∀ k, p < k → f k = s.1 68 k) ∧ r ≤ p ∧ ((r = 0 ∧ B + 1 = 3 ^ p) ∨ (1 ≤ r ∧ B + 1 < 3 ^ p ∧ (∀ k, k < p → f (k + 1) = iN (dgS (B + 1) p k)) ∧ (B + 1) % 3 ^ (p - r) = 0 ∧ ∀ j, j < r → (B + 1) / 3 ^ (p - j) = B / 3 ^ (p - j))) := by
  unfold fX2_turnOn
  exact c_turnL p FU B s (by unfold FU; omega) hp hB ht
/-- a trail is weighed from a place on -/
theorem c_weighL (hg : OKg g) {a N w : Nat} (ha : a < 3) (hN : N ≤ 8) {acc : UInt32} (hacc : acO acc) : ∀ (n p : Nat) (s : Sto), N + 1 - p < n → 1 ≤ p → p ≤ N + 1 → OD (s.2.1 65) g → s.1 68 0 = iN a → TL s N w → s.2.1 64 6 = acc → (∀ k, k < p → s.2.1 118 k = chP g a N k w) → (p ≤ N ∨ FP.fcmp (chP g a N N w) acc = some .gt) → ∃ h f, X2_weighFrom_L2 (fun μ => some (iN (N + 1), μ)) 64 (iN N) n (iN p) (lay s) = some (iN h, lay (rF s 118 f)) ∧ p ≤ h ∧ h ≤ N + 1 ∧ (∀ k, k < h → f k = chP g a N k w) ∧ (h ≤ N → ¬ FP.fcmp (chP g a N h w) acc = some .gt) ∧ (h = N + 1 → FP.fcmp (chP g a N N w) acc = some .gt) := by
  intro n
  induction n with
  | zero => intro p s h1; omega
  | succ n ih =>
    intro p s h1 h2 h3 hod h0 ht hgr hch hl
    rw [X2_weighFrom_L2]
    simp (disch := first | assumption | omega) only [iN_lt]
    by_cases c : N < p
    · rw [if_pos c]
      have : p = N + 1 := by omega
      subst this
      refine ⟨N + 1, s.2.1 118, by rw [rF_self], Nat.le_refl _, Nat.le_refl _, hch, fun h => by omega, fun _ => ?_⟩
      rcases hl with h | h
      · omega
      · exact h
    · rw [if_neg c]
      obtain ⟨p, rfl⟩ : ∃ q, p = q + 1 := ⟨p - 1, by omega⟩
      have hst : lsS a p (w / 3 ^ (N - p)) < 3 := ls_lt ha
      have hd : dgS w N p < 3 := Nat.mod_lt _ (by decide)
      have e1 := hch p (by omega)
      have e2 := tr_at h0 ht (p := p) (by omega)
      have e3 := ht p (by omega)
      have hm := (ch_mul (ch_ok hg p a _ (w / 3 ^ (N - p)) ha ch_one) (od_ch hg hst hd)).1
      have hm : chO (FP.fmul (chP g a N p w) (odS g (lsS a p (w / 3 ^ (N - p))) (dgS w N p))) := hm
      have hcv : FP.fcmp (FP.fmul (chP g a N p w) (odS g (lsS a p (w / 3 ^ (N - p))) (dgS w N p))) acc ≠ none := fun e => by
        rcases (FP.Core.fcmp_none _ _).mp e with h | h
        · exact hm.1.1.ne_nan h
        · exact ac_nan hacc h
      simp (disch := first | assumption | omega) only [rr_64_4, rr_64_3, rr_64_0, ob, iN_subL, Nat.add_sub_cancel, ai_118, ai_68, ai_65, e1, e2, e3, iN_add, iN_addL, iN_Ladd, iN_mul, iN_mulL, iN_Lmul, hod _ _ hst hd, nn_aL hm.aL, si_118, rF_same, vfu_same, gf_64_6, rF_ne (show (64 : Nat) ≠ 118 by decide), hgr, cv_gt0 hcv]
      rw [← chP_s (by omega)] at hm hcv ⊢
      by_cases c2 : FP.fcmp (chP g a N (p + 1) w) acc = some .gt
      · rw [if_pos c2]
        obtain ⟨h, f, q1, q2, q3, q4, q5, q6⟩ := ih (p + 1 + 1) (uF s 118 (p + 1) (chP g a N (p + 1) w)) (by omega) (by omega) (by omega) (by rw [rF_ne (by omega)]; exact hod) (by rw [rF_1]; exact h0) (fun k hk => by rw [rF_1]; exact ht k hk) (by rw [rF_ne (by omega)]; exact hgr) (fun k hk => by
          rw [rF_same]
          by_cases ck : k = p + 1
          · rw [ck, vfu_same]
          · rw [vfu_ne ck]
            exact hch k (by omega)) (by
          by_cases cn : p + 1 + 1 ≤ N
          · exact Or.inl cn
          · right
            have : N = p + 1 := by omega
            subst this
            exact c2)
        exact ⟨h, f, by rw [q1, rF_rF], by omega, q3, q4, q5, q6⟩
      · rw [if_neg c2]
        refine ⟨p + 1, vf_upd (s.2.1 118) (p + 1) (chP g a N (p + 1) w), rfl, Nat.le_refl _, by omega, fun k hk => ?_, fun _ => c2, fun h => by omega⟩
        rw [vfu_ne (by omega)]
        exact hch k hk
theorem c_weigh (hg : OKg g) {a N w p : Nat} (ha : a < 3) (hN : N ≤ 8) {acc : UInt32} (hacc : acO acc) (h2 : 1 ≤ p) (h3 : p ≤ N + 1) (hod : OD (s.2.1 65) g) (h0 : s.1 68 0 = iN a) (ht : TL s N w) (hgr : s.2.1 64 6 = acc) (hch : ∀ k, k < p → s.2.1 118 k = chP g a N k w) (hl : p ≤ N ∨ FP.fcmp (chP g a N N w) acc = some .gt) : ∃ h f, fX2_weighFrom 64 (iN p) (iN N) (lay s) = some (iN h, lay (rF s 118 f)) ∧ p ≤ h ∧ h ≤ N + 1 ∧ (∀ k, k < h → f k = chP g a N k w) ∧ (h ≤ N → ¬ FP.fcmp (chP g a N h w) acc = some .gt) ∧ (h = N + 1 → FP.fcmp (chP g a N N w) acc = some .gt) := by
  unfold fX2_weighFrom
  simp only [iN_addL]
  exact c_weighL hg ha hN hacc FU p s (by unfold FU; omega) h2 h3 hod h0 ht hgr hch hl
/-- all ways from w on -/
theorem c_likeL {G : Mem → Option (Unit × Mem)} (hg : OKg g) {a N : Nat} (ha : a < 3) (hN : N ≤ 8) : ∀ (n k r w : Nat) (s : Sto), 3 ^ N - w < n → k ≤ w → w < 3 ^ N → 1 ≤ r → r ≤ N + 1 → (r ≤ N ∨ FP.fcmp (chP g a N N w) (pkW (chS g a FP.fconst1 N) 0 w (nOne, 0)).1 = some .gt) → w % 3 ^ (N - r) = 0 → OD (s.2.1 65) g → s.1 68 0 = iN a → TL s N w → (∀ j, j < r → s.2.1 118 j = chP g a N j w) → LK s N (pkW (chS g a FP.fconst1 N) 0 w (nOne, 0)) → ∃ t, X2_findLikeliest_L56 G 64 (iN N) n (iN r) (iN k) (lay s) = G (lay t) ∧ Wx s t ∧ LK t N (wyS g a N) := by
  have hp : 3 ^ N ≤ 3 ^ 8 := Nat.pow_le_pow_right (by decide) hN
  have e8 : 3 ^ 8 = 6561 := rfl
  intro n
  induction n with
  | zero => intro k r w s h1; omega
  | succ n ih =>
    intro k r w s h1 hk hw hr1 hr2 hl hz hod h0 ht hch hlk
    have hac : acO (pkW (chS g a FP.fconst1 N) 0 w (nOne, 0)).1 := pk_ac (fun i => ch_ok hg N a _ i ha ch_one) w
    obtain ⟨h, f, q1, q2, q3, q4, q5, q6⟩ := c_weigh hg ha hN hac hr1 hr2 hod h0 ht hlk.1 hch hl
    rw [X2_findLikeliest_L56]
    simp (disch := first | assumption | omega) only [iN_Lle, iN_leL]
    rw [if_neg (show ¬ 6561 ≤ k by omega), if_neg (show ¬ r ≤ 0 by omega)]
    simp only [oc_64, ob, q1, bd_s, jn_s]
    -- how many figures the next trail begins with, and what stands when it is looked for
    have key : ∃ p u, p = min h N ∧ (if iN h ≤ iN N then ((isC (lay (rF s 118 f)) 64 2).bind fun _ => bd (fX2_turnOn 64 (mnI (iN h) (iN N)) (lay (rF s 118 f))) fun x115 μ115 => X2_findLikeliest_L56 G 64 (iN N) n x115 (iN k + 1) μ115) else ((gR (lay (rF s 118 f)) 64 2 4).bind fun x86 => (aF (lay (rF s 118 f)) x86 (iN N)).bind fun x90 => (pV (lay (rF s 118 f)) 64 2 6 (.float x90)).bind fun μ91 => (gR μ91 64 2 3).bind fun x95 => (gR μ91 64 2 5).bind fun x100 => (cpI μ91 x95 (1 : Int32) x100 (0 : Int32) (iN N)).bind fun μ105 => (isC μ105 64 2).bind fun _ => bd (fX2_turnOn 64 (mnI (iN h) (iN N)) μ105) fun x115 μ115 => X2_findLikeliest_L56 G 64 (iN N) n x115 (iN k + 1) μ115)) = bd (fX2_turnOn 64 (iN p) (lay u)) (fun x115 μ115 => X2_findLikeliest_L56 G 64 (iN N) n x115 (iN (k + 1)) μ115) ∧ Wx s u ∧ u.1 68 = s.1 68 ∧ u.2.1 118 = f ∧ LK u N (pkW (chS g a FP.fconst1 N) 0 ((w / 3 ^ (N - p) + 1) * 3 ^ (N - p)) (nOne, 0)) ∧ w = w / 3 ^ (N - p) * 3 ^ (N - p) := by
      by_cases c : h ≤ N
      · have hB : w = w / 3 ^ (N - h) * 3 ^ (N - h) := by
          have d1 : 3 ^ (N - h) ∣ 3 ^ (N - r) := Nat.pow_dvd_pow 3 (by omega)
          exact (Nat.div_mul_cancel (Nat.dvd_trans d1 (Nat.dvd_of_mod_eq_zero hz))).symm
        refine ⟨h, rF s 118 f, by omega, ?_, Wx_118, by rw [rF_1], rF_same, ?_, hB⟩
        · rw [if_pos (by rw [iN_le (by omega) (by omega)]; exact c)]
          simp (disch := first | assumption | omega) only [oc_64, ob, mnI_iN, iN_add, iN_addL, iN_Ladd, iN_mul, iN_mulL, iN_Lmul]
          rw [Nat.min_eq_left c]
        · rw [pk_prune hg ha c hac (q5 c) (by rw [← hB])]
          exact ⟨by rw [rF_ne (by omega)]; exact hlk.1, fun h1 k hk => by rw [rF_1]; exact hlk.2 h1 k hk⟩
      · have hh : h = N + 1 := by omega
        have e1 : ∀ u : Sto, cpI (lay u) 68 1 69 0 (iN N) = some (lay (rI u 69 (va_cpy (u.1 68) (u.1 69) 1 0 N))) := fun u => cpI_lay (p := 68) (q := 69) (a := 1) (b := 0) (by show 1 + N ≤ 9; omega) (by show 0 + N ≤ 8; omega) (by decide) (by decide)
        have g1 := q6 hh
        refine ⟨N, rI (rF (rF s 118 f) 64 (vf_upd ((rF s 118 f).2.1 64) 6 (chP g a N N w))) 69 (va_cpy (s.1 68) (s.1 69) 1 0 N), by omega, ?_, (Wx_118.tr Wx_64).tr Wx_69, by rw [rI_ne (by omega), rF_1, rF_1], by rw [rI_2, rF_ne (by omega), rF_same], ?_, by rw [Nat.sub_self, Nat.pow_zero, Nat.div_one, Nat.mul_one]⟩
        · rw [if_neg (by rw [iN_le (by omega) (by omega)]; exact c)]
          simp (disch := first | assumption | omega) only [rr_64_4, ob, ai_118, rF_same, q4 N (by omega), pf_64_6, rr_64_3, rr_64_5, e1, rF_1, oc_64, mnI_iN, iN_add, iN_addL, iN_Ladd, iN_mul, iN_mulL, iN_Lmul]
          rw [Nat.min_eq_right (by omega)]
        · rw [Nat.sub_self, Nat.pow_zero, Nat.div_one, Nat.mul_one]
          show LK _ N (stW (chS g a FP.fconst1 N w) (0 + w) (pkW (chS g a FP.fconst1 N) 0 w (nOne, 0)))
          rw [chP_n] at g1 ⊢
          have e2 : stW (chS g a FP.fconst1 N w) (0 + w) (pkW (chS g a FP.fconst1 N) 0 w (nOne, 0)) = (chS g a FP.fconst1 N w, 0 + w) := if_pos g1
          rw [e2, Nat.zero_add]
          refine ⟨by rw [rI_2, rF_same, vfu_same], fun _ k hk => ?_⟩
          rw [rI_same]
          unfold va_cpy
          rw [if_pos (by omega), Nat.sub_zero, Nat.add_comm]
          exact ht k hk
    obtain ⟨p, u, hpm, k1, k2, k3, k4, k5, k6⟩ := key
    have hpN : p ≤ N := by omega
    have hB3 : w / 3 ^ (N - p) < 3 ^ p := by
      rw [Nat.div_lt_iff_lt_mul (Nat.pow_pos (by decide)), ← Nat.pow_add, show p + (N - p) = N by omega]
      exact hw
    obtain ⟨r2, F, t1, t2, t3, t4, t5⟩ := c_turnOn (s := u) (p := p) (by omega) hB3 (fun j hj => by rw [k3, ht j (by omega), dg_pre hj hpN])
    refine Exists.elim (?_ : ∃ t, (bd (fX2_turnOn 64 (iN p) (lay u)) (fun x115 μ115 => X2_findLikeliest_L56 G 64 (iN N) n x115 (iN (k + 1)) μ115)) = G (lay t) ∧ Wx s t ∧ LK t N (wyS g a N)) (fun t h => ⟨t, (Eq.trans ?_ h.1), h.2⟩)
    · rw [t1, bd_s]
      have hW : Wx s (rI u 68 F) := k2.tr Wx_68
      rcases t5 with ⟨a1, a2⟩ | ⟨a1, a2, a3, a4, a5⟩
      · subst a1
        have e3 : (w / 3 ^ (N - p) + 1) * 3 ^ (N - p) = 3 ^ N := by rw [a2, ← Nat.pow_add, show p + (N - p) = N by omega]
        rw [e3] at k5
        refine ⟨rI u 68 F, ?_, hW, ⟨by rw [rI_2]; exact k5.1, fun h j hj => by rw [rI_ne (by omega)]; exact k5.2 h j hj⟩⟩
        obtain ⟨n, rfl⟩ : ∃ m, n = m + 1 := ⟨n - 1, by omega⟩
        rw [X2_findLikeliest_L56]
        split
        · rfl
        · rw [if_pos (by decide)]
      · have hq0 : 0 < 3 ^ (N - p) := Nat.pow_pos (by decide)
        have hsum : (w / 3 ^ (N - p) + 1) * 3 ^ (N - p) = w + 3 ^ (N - p) := by rw [Nat.add_mul, Nat.one_mul, ← k6]
        have hlt : (w / 3 ^ (N - p) + 1) * 3 ^ (N - p) < 3 ^ N := by
          have := (Nat.mul_lt_mul_right hq0).mpr a2
          rw [← Nat.pow_add, show p + (N - p) = N by omega] at this
          exact this
        have hdiv : (w / 3 ^ (N - p) + 1) * 3 ^ (N - p) / 3 ^ (N - p) = w / 3 ^ (N - p) + 1 := Nat.mul_div_cancel _ hq0
        have hx : ∀ j, j ≤ p → ∀ x, x / 3 ^ (N - j) = x / 3 ^ (N - p) / 3 ^ (p - j) := fun j hj x => by rw [Nat.div_div_eq_div_mul, ← Nat.pow_add, show N - p + (p - j) = N - j by omega]
        obtain ⟨t, b1, b2, b3⟩ := ih (k + 1) r2 ((w / 3 ^ (N - p) + 1) * 3 ^ (N - p)) (rI u 68 F) (by omega) (by omega) hlt a1 (by omega) (Or.inl (by omega)) (by
          rw [show N - r2 = (p - r2) + (N - p) by omega, Nat.pow_add, Nat.mul_mod_mul_right, a4, Nat.zero_mul]) (by rw [rI_2, k2.2.1 65 (by omega) (by omega)]; exact hod) (by rw [rI_same, t2, k3]; exact h0) (fun j hj => by
          rw [rI_same]
          by_cases cj : j < p
          · rw [a3 j cj, dg_pre cj hpN, hdiv]
          · rw [t3 (j + 1) (by omega), k3, ht j hj, dg_zero (by omega) hj]
            have := dg_zero (b := w / 3 ^ (N - p)) (n := N) (p := p) (k := j) (by omega) hj
            rw [← k6] at this
            rw [this]) (fun j hj => by
          rw [rI_2, k4, q4 j (by omega)]
          unfold chP
          rw [hx j (by omega), hx j (by omega), hdiv, a5 j hj]) ⟨by rw [rI_2]; exact k5.1, fun h j hj => by rw [rI_ne (by omega)]; exact k5.2 h j hj⟩
        exact ⟨t, b1, hW.tr b2, b3⟩
    · exact k1
theorem c_zeroL {G : Mem → Option (Unit × Mem)} {v1 : Int32} {N : Nat} (hN : N ≤ 8) : ∀ (n p : Nat) (s : Sto), N + 1 - p < n → 1 ≤ p → p ≤ N + 1 → ∃ f, X2_findLikeliest_L10 G 64 v1 (iN N) n (iN p) (lay s) = G (lay (rI s 68 f)) ∧ (∀ k, p ≤ k → k ≤ N → f k = 0) ∧ (∀ k, k < p → f k = s.1 68 k) := by
  intro n
  induction n with
  | zero => intro p s h1; omega
  | succ n ih =>
    intro p s h1 h2 h3
    rw [X2_findLikeliest_L10]
    simp (disch := first | assumption | omega) only [iN_lt]
    by_cases c : N < p
    · rw [if_pos c]
      exact ⟨s.1 68, by rw [rI_self], fun k a b => by omega, fun _ _ => rfl⟩
    · rw [if_neg c]
      simp (disch := first | assumption | omega) only [rr_64_3, ob, si_68, iN_add, iN_addL, iN_Ladd, iN_mul, iN_mulL, iN_Lmul]
      obtain ⟨f, q1, q2, q3⟩ := ih (p + 1) (rI s 68 (upd (s.1 68) p 0)) (by omega) (by omega) (by omega)
      refine ⟨f, by rw [q1, rI_rI], fun k a b => ?_, fun k hk => ?_⟩
      · by_cases ck : k = p
        · rw [ck, q3 p (by omega), rI_same, upd_same]
        · exact q2 k (by omega) b
      · rw [q3 k (by omega), rI_same, upd_ne (by omega)]
theorem c_likeliest (hg : OKg g) {a n : Nat} (ha : a < 3) (hn : n ≤ 8) (hod : OD (s.2.1 65) g) : ∃ t, fX2_findLikeliest 64 (iN a) (iN n) (lay s) = some ((), lay t) ∧ Wx s t ∧ t.2.1 64 6 = (wyS g a n).1 ∧ (∀ k, k < n → t.1 69 k = iN (dgS (wyS g a n).2 n k)) := by
  unfold fX2_findLikeliest
  simp (disch := first | assumption | omega) only [mnI_L]
  rw [Nat.min_eq_left hn]
  obtain ⟨f, z1, z2, z3⟩ := c_zeroL (G := fun μ_30 => (gR μ_30 64 2 3).bind fun x31 => (sI μ_30 x31 ((0 : Int32)) (iN a)).bind fun μ36 => (gR μ36 64 2 4).bind fun x38 => (sF μ36 x38 ((0 : Int32)) FP.fconst1).bind fun μ43 => (pV μ43 64 2 6 (.float ((3212836864 : UInt32)))).bind fun μ47 => X2_findLikeliest_L56 (fun μ_126 => some ((), μ_126)) 64 (iN n) FU ((1 : Int32)) ((0 : Int32)) μ47) (v1 := iN a) hn FU 1 s (by unfold FU; omega) (by omega) (by omega)
  rw [show iN 1 = (1 : Int32) from rfl] at z1
  rw [z1]
  have s0 : ∀ (u : Sto) (x : Int32), sI (lay u) 68 (0 : Int32) x = some (lay (uI u 68 0 x)) := fun u x => si_68 (i := 0) (by omega)
  have s1 : ∀ (u : Sto) (x : UInt32), sF (lay u) 118 (0 : Int32) x = some (lay (uF u 118 0 x)) := fun u x => si_118 (i := 0) (by omega)
  simp only [rr_64_3, rr_64_4, ob, s0, s1, pf_64_6]
  have hw := (wy_ok hg (n := n) ha).1
  have hp : 3 ^ n ≤ 3 ^ 8 := Nat.pow_le_pow_right (by decide) hn
  have hp0 : 0 < 3 ^ n := Nat.pow_pos (by decide)
  have e8 : 3 ^ 8 = 6561 := rfl
  obtain ⟨t, t1, t2, t3⟩ := c_likeL (G := fun μ_126 => some ((), μ_126)) (s := rF (rF (rI (rI s 68 f) 68 (upd ((rI s 68 f).1 68) 0 (iN a))) 118 (vf_upd ((rI (rI s 68 f) 68 (upd ((rI s 68 f).1 68) 0 (iN a))).2.1 118) 0 FP.fconst1)) 64 (vf_upd ((rF (rI (rI s 68 f) 68 (upd ((rI s 68 f).1 68) 0 (iN a))) 118 (vf_upd ((rI (rI s 68 f) 68 (upd ((rI s 68 f).1 68) 0 (iN a))).2.1 118) 0 FP.fconst1)).2.1 64) 6 3212836864)) hg ha hn FU 0 1 0 (by unfold FU; omega) (Nat.le_refl _) hp0 (Nat.le_refl _) (by omega) (by
    by_cases c : 1 ≤ n
    · exact Or.inl c
    · right
      have : n = 0 := by omega
      subst this
      exact gt_nOne ch_one) (Nat.zero_mod _) (by rw [rF_ne (by omega), rF_ne (by omega), rI_2, rI_2]; exact hod) (by rw [rF_1, rF_1, rI_same, upd_same]) (fun k hk => by
    rw [rF_1, rF_1, rI_same, upd_ne (by omega), rI_same, z2 (k + 1) (by omega) (by omega)]
    unfold dgS
    rw [Nat.zero_div]
    rfl) (fun j hj => by
    have : j = 0 := by omega
    subst this
    rw [rF_ne (by omega), rF_same, vfu_same]
    rfl) ⟨by rw [rF_same, vfu_same]; rfl, fun h => absurd rfl h⟩
  have t1' := t1
  rw [show iN 1 = (1 : Int32) from rfl, show iN 0 = (0 : Int32) from rfl] at t1'
  rw [t1']
  refine ⟨t, rfl, Wx.tr ?_ t2, t3.1, t3.2 (ch_ne hw)⟩
  exact ((Wx_68.tr Wx_68).tr Wx_118).tr Wx_64
/-! the reference -/
theorem r_stateOfL {G : Int32 → Mem → Option (Int32 × Mem)} {k : Nat} {μ : Mem} (hk : k ≤ 8) : ∀ (n i v : Nat), i - k < n → k ≤ i → i ≤ 8 → v < 100000 → X11_stateOf_L7 G (iN k) n (iN v) (iN i) μ = G (iN (v / 3 ^ (i - k))) μ := by
  intro n
  induction n with
  | zero => intro i v h; omega
  | succ n ih =>
    intro i v h1 h2 h3 h4
    rw [X11_stateOf_L7]
    simp (disch := first | assumption | omega) only [iN_le]
    by_cases c1 : i ≤ k
    · rw [if_pos c1, show i - k = 0 by omega, Nat.pow_zero, Nat.div_one]
    · rw [if_neg c1]
      simp (disch := first | assumption | omega) only [dvI_L, ob]
      have e : iN i + -1 = iN (i - 1) := by
        rw [iN_iZ, iN_iZ, show (-1 : Int32) = iZ (-1) from rfl, iZ_add]
        congr 1
        omega
      have hd : v / 3 ≤ v := Nat.div_le_self _ _
      rw [e, ih (i - 1) (v / 3) (by omega) (by omega) (by omega) (by omega), Nat.div_div_eq_div_mul, show i - k = (i - 1 - k) + 1 by omega, Nat.pow_succ, Nat.mul_comm (3 ^ _) 3]
theorem r_stateOf {w n k : Nat} {μ : Mem} (hw : w < 100000) (hn : n ≤ 8) (hk : k < n) : fX11_stateOf (iN w) (iN n) (iN k) μ = some (iN (dgS w n k), μ) := by
  unfold fX11_stateOf
  simp (disch := first | assumption | omega) only [iN_subL]
  rw [r_stateOfL (by omega) FU (n - 1) w (by unfold FU; omega) (by omega) (by omega) hw]
  have h1 : w / 3 ^ (n - 1 - k) ≤ w := Nat.div_le_self _ _
  simp (disch := first | assumption | omega) only [rmI_L, ob]
  rfl
theorem r_chanceL {G : UInt32 → Mem → Option (Unit × Mem)} {v1 v3 : Int32} {w N : Nat} (hg : OKg g) (h : RR s g wo) (hN : N ≤ 8) (hw : w < 100000) : ∀ (n k st : Nat) (c : UInt32), N - k < n → k ≤ N → st < 3 → chO c → X11_findWay_L45 G 101 v1 (iN N) v3 (iN w) n c (iN st) (iN k) (lay s) = G (chS g st c (N - k) w) (lay s) := by
  intro n
  induction n with
  | zero => intro k st c h1; omega
  | succ n ih =>
    intro k st c h1 h2 h3 hc
    rw [X11_findWay_L45]
    simp (disch := first | assumption | omega) only [iN_le]
    by_cases c1 : N ≤ k
    · rw [if_pos c1, show N - k = 0 by omega]
      rfl
    · rw [if_neg c1, r_stateOf hw hN (by omega)]
      have hd : dgS w N k < 3 := Nat.mod_lt _ (by decide)
      have ho := od_ch hg h3 hd
      simp only [bd_s, oc_101, ob, r_part h h3 hd, r_parts h h3]
      have a2 : nn (FP.fdiv (FP.i2f (iN (partS g st (dgS w N k)))) (FP.i2f (iN (partsS g st)))) = some (odS g st (dgS w N k)) := nn_aL ho.aL
      rw [a2]
      simp only [ob]
      have hm := (ch_mul hc ho).1
      rw [nn_aL hm.aL]
      simp only [ob, iN_add, iN_addL, iN_Ladd, iN_mul, iN_mulL, iN_Lmul]
      rw [ih (k + 1) (dgS w N k) _ (by omega) (by omega) hd hm]
      have e : N - k = (N - (k + 1)) + 1 := by omega
      have e2 : dgS w N k = w / 3 ^ (N - (k + 1)) % 3 := by
        unfold dgS
        rw [show N - 1 - k = N - (k + 1) by omega]
      rw [e, e2]
      rfl
/-- what the counting of ways leaves as it was -/
def Wr (s t : Sto) : Prop := (∀ q, q ≠ 101 → t.1 q = s.1 q) ∧ (∀ k, k ≠ 18 → t.1 101 k = s.1 101 k) ∧ (∀ q, q ≠ 101 → t.2.1 q = s.2.1 q) ∧ t.2.2 = s.2.2
theorem r_wayL {G : Mem → Option (Unit × Mem)} {a N : Nat} (hg : OKg g) (hN : N ≤ 8) (ha : a < 3) : ∀ (n w : Nat) (s : Sto) (w0 : Nat), 3 ^ N - w < n → w ≤ 3 ^ N → RR s g wo → s.2.1 101 17 = (pkW (chS g a FP.fconst1 N) 0 w (nOne, w0)).1 → (0 < w → s.1 101 18 = iN (pkW (chS g a FP.fconst1 N) 0 w (nOne, w0)).2) → acO (s.2.1 101 17) → ∃ t, X11_findWay_L30 G 101 (iN a) (iN N) (iN (3 ^ N)) n (iN w) (lay s) = G (lay t) ∧ Wr s t ∧ t.2.1 101 17 = (pkW (chS g a FP.fconst1 N) 0 (3 ^ N) (nOne, w0)).1 ∧ t.1 101 18 = iN (pkW (chS g a FP.fconst1 N) 0 (3 ^ N) (nOne, w0)).2 := by
  intro n
  have hp : 3 ^ N ≤ 3 ^ 8 := Nat.pow_le_pow_right (by decide) hN
  have hp0 : 0 < 3 ^ N := Nat.pow_pos (by decide)
  have e8 : 3 ^ 8 = 6561 := rfl
  induction n with
  | zero => intro w s w0 h1; omega
  | succ n ih =>
    intro w s w0 h1 h2 hR h3 h4 h5
    rw [X11_findWay_L30]
    simp (disch := first | assumption | omega) only [iN_le]
    by_cases c1 : 3 ^ N ≤ w
    · rw [if_pos c1]
      have : w = 3 ^ N := by omega
      subst this
      exact ⟨s, rfl, ⟨fun _ _ => rfl, fun _ _ => rfl, fun _ _ => rfl, rfl⟩, h3, h4 hp0⟩
    · rw [if_neg c1]
      have hL := r_chanceL (G := fun v5_93 μ_93 => (gF μ_93 101 11 17).bind fun x96 => if (Op.cmpValue (FP.fcmp v5_93 x96) .l) ≤ 0 then (X11_findWay_L30 G 101 (iN a) (iN N) (iN (3 ^ N)) n ((iN w + 1)) μ_93) else ((pV μ_93 101 11 17 (.float v5_93)).bind fun μ106 => (pV μ106 101 11 18 (.int (iN w))).bind fun μ112 => X11_findWay_L30 G 101 (iN a) (iN N) (iN (3 ^ N)) n ((iN w + 1)) μ112)) (v1 := iN a) (v3 := iN (3 ^ N)) (w := w) hg hR hN (by omega) FU 0 a FP.fconst1 (by unfold FU; omega) (Nat.zero_le _) ha ch_one
      rw [Nat.sub_zero] at hL
      rw [show (0 : Int32) = iN 0 from rfl] at hL ⊢
      rw [hL]
      simp only [show iN 0 = (0 : Int32) from rfl]
      simp only [gf_101_17, ob, cv_le0, pf_101_17, pi_101_18, h3, iN_add, iN_addL, iN_Ladd, iN_mul, iN_mulL, iN_Lmul]
      have hv := ch_ok hg N a FP.fconst1 w ha ch_one
      have e : pkW (chS g a FP.fconst1 N) 0 (w + 1) (nOne, w0) = stW (chS g a FP.fconst1 N w) (0 + w) (pkW (chS g a FP.fconst1 N) 0 w (nOne, w0)) := rfl
      by_cases c2 : FP.fcmp (chS g a FP.fconst1 N w) (pkW (chS g a FP.fconst1 N) 0 w (nOne, w0)).1 = some .gt
      · rw [if_neg (not_not_intro c2)]
        have e2 : stW (chS g a FP.fconst1 N w) (0 + w) (pkW (chS g a FP.fconst1 N) 0 w (nOne, w0)) = (chS g a FP.fconst1 N w, 0 + w) := if_pos c2
        rw [e2] at e
        obtain ⟨t, t1, t2, t3, t4⟩ := ih (w + 1) (rI (rF s 101 (vf_upd (s.2.1 101) 17 (chS g a FP.fconst1 N w))) 101 (upd (s.1 101) 18 (iN w))) w0 (by omega) (by omega) (RR_congr hR (by rw [rI_ne (by omega), rF_1]) (by rw [rI_same, upd_ne (by omega)])) (by rw [e, rI_2, rF_same, vfu_same]) (fun _ => by rw [e, rI_same, upd_same, Nat.zero_add]) (by rw [rI_2, rF_same, vfu_same]; exact Or.inr hv)
        exact ⟨t, t1, ⟨fun q h => by rw [t2.1 q h, rI_ne h, rF_1], fun k h => by rw [t2.2.1 k h, rI_same, upd_ne h], fun q h => by rw [t2.2.2.1 q h, rI_2, rF_ne h], by rw [t2.2.2.2, rI_2, rF_22]⟩, t3, t4⟩
      · rw [if_pos c2]
        have e2 : stW (chS g a FP.fconst1 N w) (0 + w) (pkW (chS g a FP.fconst1 N) 0 w (nOne, w0)) = pkW (chS g a FP.fconst1 N) 0 w (nOne, w0) := if_neg c2
        rw [e2] at e
        refine ih (w + 1) s w0 (by omega) (by omega) hR (by rw [e]; exact h3) (fun _ => ?_) h5
        rw [e]
        refine h4 (Nat.pos_of_ne_zero fun hw => ?_)
        subst hw
        exact c2 (gt_nOne hv)
theorem r_powL {G : Int32 → Mem → Option (Unit × Mem)} {v1 : Int32} {N : Nat} {μ : Mem} (hN : N ≤ 8) : ∀ (n k : Nat), N - k < n → k ≤ N → X11_findWay_L5 G 101 v1 (iN N) n (iN (3 ^ k)) (iN k) μ = G (iN (3 ^ N)) μ := by
  intro n
  induction n with
  | zero => intro k h; omega
  | succ n ih =>
    intro k h1 h2
    rw [X11_findWay_L5]
    simp (disch := first | assumption | omega) only [iN_le]
    by_cases c1 : N ≤ k
    · rw [if_pos c1, show k = N by omega]
    · rw [if_neg c1]
      simp only [iN_add, iN_addL, iN_Ladd, iN_mul, iN_mulL, iN_Lmul]
      have := ih (k + 1) (by omega) (by omega)
      rw [Nat.pow_succ] at this
      exact this
theorem r_findWay (hg : OKg g) (h : RR s g wo) {a N : Nat} (hN : N ≤ 8) (ha : a < 3) : ∃ t, fX11_findWay 101 (iN a) (iN N) (lay s) = some ((), lay t) ∧ Wr s t ∧ t.2.1 101 17 = (wyS g a N).1 ∧ t.1 101 18 = iN (wyS g a N).2 := by
  unfold fX11_findWay
  have hp : 3 ^ N ≤ 3 ^ 8 := Nat.pow_le_pow_right (by decide) hN
  have e8 : 3 ^ 8 = 6561 := rfl
  have hL := r_powL (G := fun v3_21 μ_21 => (pV μ_21 101 11 17 (.float ((3212836864 : UInt32)))).bind fun μ24 => X11_findWay_L30 (fun μ_121 => some ((), μ_121)) 101 (iN a) (iN N) v3_21 FU ((0 : Int32)) μ24) (v1 := iN a) (μ := lay s) hN FU 0 (by unfold FU; omega) (Nat.zero_le _)
  rw [show (1 : Int32) = iN (3 ^ 0) from rfl]
  refine Eq.mp ?_ (?_ : ∃ t, X11_findWay_L5 (fun v3_21 μ_21 => (pV μ_21 101 11 17 (.float ((3212836864 : UInt32)))).bind fun μ24 => X11_findWay_L30 (fun μ_121 => some ((), μ_121)) 101 (iN a) (iN N) v3_21 FU ((0 : Int32)) μ24) 101 (iN a) (iN N) FU (iN (3 ^ 0)) (iN 0) (lay s) = some ((), lay t) ∧ Wr s t ∧ t.2.1 101 17 = (wyS g a N).1 ∧ t.1 101 18 = iN (wyS g a N).2)
  · rfl
  · rw [hL]
    simp only [pf_101_17, ob]
    obtain ⟨t, t1, t2, t3, t4⟩ := r_wayL (G := fun μ => some ((), μ)) hg hN ha FU 0 (rF s 101 (vf_upd (s.2.1 101) 17 3212836864)) 0 (by unfold FU; omega) (Nat.zero_le _) (RR_congr h rfl rfl) (by rw [rF_same, vfu_same]; rfl) (fun h0 => absurd h0 (Nat.lt_irrefl 0)) (by rw [rF_same, vfu_same]; exact Or.inl rfl)
    exact ⟨t, t1, ⟨fun q h => by rw [t2.1 q h, rF_1], fun k h => by rw [t2.2.1 k h, rF_1], fun q h => by rw [t2.2.2.1 q h, rF_ne h], by rw [t2.2.2.2, rF_22]⟩, t3, t4⟩
end WAYS
