/-! ===== the reference: reads, ranks, serving ===== -/
theorem lit64_le {v : Int32} {k : Nat} (hk : @OfNat.ofNat Nat k (instOfNatNat k) < 2147483648) : ((no_index (@OfNat.ofNat Int64 k Int64.instOfNat)) ≤ v.toInt64) = ((@OfNat.ofNat Int32 k Int32.instOfNat) ≤ v) := by
  have hk : k < 2147483648 := hk
  rw [Int64.le_iff_toInt_le, Int32.le_iff_toInt_le, Int32.toInt_toInt64, lit_toInt hk]
  have : (@OfNat.ofNat Int64 k Int64.instOfNat).toInt = (k : Int) := Int64.toInt_ofNat_of_lt (by omega)
  rw [this]
theorem le_lit64 {v : Int32} {k : Nat} (hk : @OfNat.ofNat Nat k (instOfNatNat k) < 2147483648) : (v.toInt64 ≤ (no_index (@OfNat.ofNat Int64 k Int64.instOfNat))) = (v ≤ (@OfNat.ofNat Int32 k Int32.instOfNat)) := by
  have hk : k < 2147483648 := hk
  rw [Int64.le_iff_toInt_le, Int32.le_iff_toInt_le, Int32.toInt_toInt64, lit_toInt hk]
  have : (@OfNat.ofNat Int64 k Int64.instOfNat).toInt = (k : Int) := Int64.toInt_ofNat_of_lt (by omega)
  rw [this]
theorem le_64 {u v : Int32} : (u.toInt64 ≤ v.toInt64) = (u ≤ v) := by
  rw [Int64.le_iff_toInt_le, Int32.le_iff_toInt_le, Int32.toInt_toInt64, Int32.toInt_toInt64]
theorem r_in {v a b : Int64} {μ : Mem} : fX11_in v a b μ = some (tI (a ≤ v ∧ v ≤ b), μ) := by
  unfold fX11_in tI
  have e1 : (lg_cmp v a < 0) = ¬ (a ≤ v) := propext ⟨fun h h2 => absurd ((lg_cmp_ge v a).mpr h2) (Int32.not_le.mpr h), fun h => Int32.not_le.mp (fun h2 => h ((lg_cmp_ge v a).mp h2))⟩
  have e2 : (0 < lg_cmp v b) = ¬ (v ≤ b) := propext ⟨fun h h2 => absurd ((lg_cmp_le v b).mpr h2) (Int32.not_le.mpr h), fun h => Int32.not_le.mp (fun h2 => h ((lg_cmp_le v b).mp h2))⟩
  simp only [e1, e2]
  by_cases h1 : a ≤ v
  · rw [if_neg (not_not_intro h1)]
    by_cases h2 : v ≤ b
    · rw [if_neg (not_not_intro h2), if_pos ⟨h1, h2⟩]; rfl
    · rw [if_pos h2, if_neg (fun h => h2 h.2)]; rfl
  · rw [if_pos h1, if_neg (fun h => h1 h.1)]; rfl
theorem le_pred {v : Int32} {n : Nat} (hn : n < 2147483648) : (v ≤ iN n - 1) = (v < iN n) := by
  have := v.le_toInt
  rw [Int32.le_iff_toInt_le, Int32.lt_iff_toInt_lt, iN_iZ, show (1 : Int32) = iZ 1 from rfl, iZ_sub, iZ_toInt (by omega) (by omega), iZ_toInt (by omega) (by omega)]
  exact propext (by omega)
/-- the reference holds the numbers g, but for what demands of wo want: these are none in thought -/
def RR (s : Sto) (g : Nat → Nat) (wo : Nat → Bool) : Prop := (∀ k, k < 173 → (∀ d, d < 6 → wo d = true → k ≠ 76 + 6 * d) → s.1 102 k = iN (g k)) ∧ (∀ d, d < 6 → (((s.1 101 3 >>> (iN d &&& 31)) &&& 1 = 1) = (wo d = true))) ∧ (∀ d, d < 6 → wo d = true → dF g d 2 = 0)
/-- its line by rank -/
def RLn (s : Sto) (g : Nat → Nat) : Prop := ∀ k, k < g 73 → s.1 109 k = iN (lnS g k)
section REFA
variable {s : Sto} {g : Nat → Nat} {wo : Nat → Bool}
theorem rr_k (h : RR s g wo) {k : Nat} (hk : k < 74 ∨ (110 ≤ k ∧ k < 173)) : s.1 102 k = iN (g k) := h.1 k (by omega) (fun d hd _ => by omega)
theorem rr_at (h : RR s g wo) {d f : Nat} (hd : d < 6) (hf : f < 6) (h2 : f ≠ 2) : s.1 102 (74 + 6 * d + f) = iN (dF g d f) := h.1 _ (by omega) (fun d' hd' _ => by omega)
theorem rr_at2 (h : RR s g wo) {d : Nat} (hd : d < 6) (h2 : wo d = false) : s.1 102 (74 + 6 * d + 2) = iN (dF g d 2) := h.1 _ (by omega) (fun d' hd' hw => by
  by_cases e : d' = d
  · subst e; rw [h2] at hw; cases hw
  · omega)
theorem r_isMonth {v : Int32} {μ : Mem} : fX11_isMonth v μ = some (tI (0 ≤ v ∧ v ≤ 11), μ) := by
  unfold fX11_isMonth
  simp (disch := first | assumption | omega) only [r_in, ob, bd_s, jn_s, zz0, zz1, i10, i00, if_true, if_false, zz_tI, lit64_le, le_lit64]
theorem r_isState {v : Int32} {μ : Mem} : fX11_isState v μ = some (tI (0 ≤ v ∧ v ≤ 2), μ) := by
  unfold fX11_isState
  simp (disch := first | assumption | omega) only [r_in, ob, bd_s, jn_s, zz0, zz1, i10, i00, if_true, if_false, zz_tI, lit64_le, le_lit64]
theorem r_isRecord {v : Int32} {μ : Mem} : fX11_isRecord v μ = some (tI (0 ≤ v ∧ v ≤ 3), μ) := by
  unfold fX11_isRecord
  simp (disch := first | assumption | omega) only [r_in, ob, bd_s, jn_s, zz0, zz1, i10, i00, if_true, if_false, zz_tI, lit64_le, le_lit64]
theorem r_isTape {v : Int32} {μ : Mem} : fX11_isTape v μ = some (tI (0 ≤ v ∧ v ≤ 5), μ) := by
  unfold fX11_isTape
  simp (disch := first | assumption | omega) only [r_in, ob, bd_s, jn_s, zz0, zz1, i10, i00, if_true, if_false, zz_tI, lit64_le, le_lit64]
theorem r_isStore (h : RR s g wo) {v : Int32} : fX11_isStore 101 v (lay s) = some (tI (0 ≤ v ∧ v ≤ iN (g 0)), lay s) := by
  unfold fX11_isStore
  rw [show (0 : Int32) = iN 0 from rfl]
  simp (disch := first | assumption | omega) only [ob, bd_s, jn_s, zz0, zz1, i10, i00, if_true, if_false, rr_101_0, oc_101, ai_102, rr_k h (k := 0) (by omega), r_in, zz_tI, lit64_le, le_64]
  rfl
theorem r_isAhead (h : RR s g wo) (hg : OKg g) {v : Int32} : fX11_isAhead 101 v (lay s) = some (tI (0 ≤ v ∧ v < iN (g 1)), lay s) := by
  have b1 := hg.1
  unfold fX11_isAhead
  simp (disch := first | assumption | omega) only [rr_101_0, ob]
  rw [show (1 : Int32) = iN 1 from rfl]
  simp (disch := first | assumption | omega) only [ob, bd_s, jn_s, zz0, zz1, i10, i00, if_true, if_false, rr_101_0, oc_101, ai_102, rr_k h (k := 1) (by omega), r_in, zz_tI, lit64_le, le_64]
  rw [show iN 1 = (1 : Int32) from rfl]
  simp (disch := first | assumption | omega) only [le_pred]
theorem r_many (h : RR s g wo) : aI (lay s) 0 102 73 = some (iN (g 73)) := by
  rw [show (73 : Int32) = iN 73 from rfl, ai_102 (by omega), rr_k h (by omega)]
theorem r_isDemand (h : RR s g wo) (hg : OKg g) {v : Int32} : fX11_isDemand 101 v (lay s) = some (tI (0 ≤ v ∧ v < iN (g 73)), lay s) := by
  have b1 := hg.1
  unfold fX11_isDemand
  simp (disch := first | assumption | omega) only [ob, bd_s, jn_s, zz0, zz1, i10, i00, if_true, if_false, rr_101_0, r_many h, r_in, zz_tI, lit64_le, le_64, le_pred]
theorem r_part (h : RR s g wo) {i j : Nat} (hi : i < 3) (hj : j < 3) : fX11_part 101 (iN i) (iN j) (lay s) = some (iN (partS g i j), lay s) := by
  unfold fX11_part
  simp (disch := first | assumption | omega) only [ob, bd_s, jn_s, zz0, zz1, i10, i00, if_true, if_false, rr_101_0, oc_101, ai_102, iN_add, iN_addL, iN_Ladd, iN_mul, iN_mulL, iN_Lmul]
  rw [rr_k h (by omega)]
  rfl
theorem r_parts (h : RR s g wo) {i : Nat} (hi : i < 3) : fX11_parts 101 (iN i) (lay s) = some (iN (partsS g i), lay s) := by
  unfold fX11_parts
  simp only [show (0 : Int32) = iN 0 from rfl, show (1 : Int32) = iN 1 from rfl, show (2 : Int32) = iN 2 from rfl]
  simp (disch := first | assumption | omega) only [ob, bd_s, jn_s, zz0, zz1, i10, i00, if_true, if_false, oc_101, r_part h hi, iN_add, iN_addL, iN_Ladd, iN_mul, iN_mulL, iN_Lmul]
  rfl
theorem r_at (h : RR s g wo) {d f : Nat} (hd : d < 6) (hf : f < 6) (h2 : f ≠ 2) : fX11_at 101 (iN d) (iN f) (lay s) = some (iN (dF g d f), lay s) := by
  unfold fX11_at
  simp (disch := first | assumption | omega) only [ob, bd_s, jn_s, zz0, zz1, i10, i00, if_true, if_false, rr_101_0, oc_101, ai_102, iN_add, iN_addL, iN_Ladd, iN_mul, iN_mulL, iN_Lmul, rr_at h hd hf h2]
theorem r_at2 (h : RR s g wo) {d : Nat} (hd : d < 6) (h2 : wo d = false) : fX11_at 101 (iN d) (iN 2) (lay s) = some (iN (dF g d 2), lay s) := by
  unfold fX11_at
  simp (disch := first | assumption | omega) only [ob, bd_s, jn_s, zz0, zz1, i10, i00, if_true, if_false, rr_101_0, oc_101, ai_102, iN_add, iN_addL, iN_Ladd, iN_mul, iN_mulL, iN_Lmul, rr_at2 h hd h2]
theorem r_top (h : RR s g wo) (hg : OKg g) {m : Nat} (hm : m < 12) : fX11_top 101 (iN m) (lay s) = some (iN (topS g m), lay s) := by
  have b1 := hg.1
  have b2 := hg.2.2.2.2.2.1 m hm
  unfold fX11_top
  rw [show (0 : Int32) = iN 0 from rfl]
  simp (disch := first | assumption | omega) only [ob, bd_s, jn_s, zz0, zz1, i10, i00, if_true, if_false, rr_101_0, oc_101, ai_102, iN_add, iN_addL, iN_Ladd, iN_mul, iN_mulL, iN_Lmul]
  rw [rr_k h (k := 0) (by omega), rr_k h (k := 61 + m) (by omega)]
  congr 2
  unfold mxI topS
  by_cases c : g 0 ≤ g (61 + m)
  · rw [if_neg, show g 0 - g (61 + m) = 0 by omega]
    rw [Int32.lt_iff_toInt_lt, iN_iZ (g 0), iN_iZ (g (61 + m)), iZ_sub, iZ_toInt (by omega) (by omega), iN_toInt (by omega)]
    omega
  · rw [iN_sub (by omega), if_pos (by rw [iN_lt (by omega) (by omega)]; omega)]
theorem r_ahead (h : RR s g wo) (hg : OKg g) {o d : Nat} (ho : o < g 73) (hd : d < g 73) (hne : o ≠ d) : fX11_isServedAhead 101 (iN o) (iN d) (lay s) = some (tI (ahS g o d), lay s) := by
  have b1 := hg.1
  have b2 := hg.2.2.2.2.2.2 d hd
  have b3 := hg.2.2.2.2.2.2 o ho
  unfold fX11_isServedAhead
  simp only [show (1 : Int32) = iN 1 from rfl]
  simp (disch := first | assumption | omega) only [ob, bd_s, jn_s, zz0, zz1, i10, i00, if_true, if_false, oc_101, r_at h, iN_eq, iN_le]
  simp only [show iN 1 = (1 : Int32) from rfl, zz1, ob]
  by_cases c1 : dF g o 1 = dF g d 1
  · rw [if_pos c1]
    by_cases c2 : d ≤ o
    · rw [if_pos c2, tI_neg (by unfold ahS; omega)]
    · rw [if_neg c2, tI_pos (Or.inr ⟨c1, by omega⟩)]
  · rw [if_neg c1]
    by_cases c2 : dF g d 1 ≤ dF g o 1
    · rw [if_pos c2, tI_neg (by unfold ahS; omega)]
    · rw [if_neg c2, tI_pos (Or.inl (by omega))]
theorem r_rankL {G : Int32 → Mem → Option (Int32 × Mem)} (h : RR s g wo) (hg : OKg g) {d : Nat} (hd : d < g 73) : ∀ (n k : Nat), g 73 - k < n → k ≤ g 73 → X11_rankOf_L4 G 101 (iN d) n (iN (rkTo g d k)) (iN k) (lay s) = G (iN (rkS g d)) (lay s) := by
  intro n
  have b1 := hg.1
  induction n with
  | zero => intro k h1; omega
  | succ n ih =>
    intro k h1 h2
    rw [X11_rankOf_L4]
    simp (disch := first | assumption | omega) only [ob, bd_s, jn_s, zz0, zz1, i10, i00, if_true, if_false, rr_101_0, r_many h, iN_le, iN_eq, oc_101, iN_addL, Nat.add_zero]
    by_cases c1 : g 73 ≤ k
    · rw [if_pos c1, show k = g 73 by omega]
      rfl
    · rw [if_neg c1]
      have e : rkTo g d (k + 1) = rkTo g d k + if ahS g k d then 1 else 0 := rfl
      have i1 := ih (k + 1) (by omega) (by omega)
      rw [e] at i1
      by_cases c2 : k = d
      · rw [if_pos c2]
        subst c2
        rw [if_neg (by unfold ahS; omega), Nat.add_zero] at i1
        exact i1
      · rw [if_neg c2, r_ahead h hg (by omega) hd c2]
        simp only [bd_s, tI_eq0]
        by_cases c3 : ahS g k d
        · rw [if_neg (not_not_intro c3)]
          rw [if_pos c3] at i1
          exact i1
        · rw [if_pos c3]
          rw [if_neg c3, Nat.add_zero] at i1
          exact i1
theorem r_rankOf (h : RR s g wo) (hg : OKg g) {d : Nat} (hd : d < g 73) : fX11_rankOf 101 (iN d) (lay s) = some (iN (rkS g d), lay s) := by
  unfold fX11_rankOf
  have b1 := hg.1
  exact r_rankL h hg hd FU 0 (by unfold FU; omega) (Nat.zero_le _)
theorem r_byRankL {G : Mem → Option (Int32 × Mem)} (h : RR s g wo) (hg : OKg g) {k : Nat} (hk : k < g 73) : ∀ (n d : Nat), g 73 - d < n → d ≤ lnS g k → X11_byRank_L2 G 101 (iN k) n (iN d) (lay s) = some (iN (lnS g k), lay s) := by
  intro n
  have b1 := hg.1
  have hl := lnS_spec hk
  induction n with
  | zero => intro d h1; omega
  | succ n ih =>
    intro d h1 h2
    rw [X11_byRank_L2]
    have hr := rkS_lt (g := g) (d := d) (by omega)
    simp (disch := first | assumption | omega) only [ob, bd_s, jn_s, zz0, zz1, i10, i00, if_true, if_false, rr_101_0, r_many h, iN_le, oc_101, r_rankOf h hg (d := d) (by omega), iN_eq, iN_addL]
    rw [if_neg (by omega)]
    by_cases c : rkS g d = k
    · rw [if_pos c]
      have : d = lnS g k := by
        refine Decidable.byContradiction fun hn => hl.2.2 d (by omega) c
      rw [this]
    · rw [if_neg c]
      refine ih (d + 1) (by omega) ?_
      have : d ≠ lnS g k := fun e => c (by rw [e]; exact hl.2.1)
      omega
theorem r_byRank (h : RR s g wo) (hg : OKg g) {k : Nat} (hk : k < g 73) : fX11_byRank 101 (iN k) (lay s) = some (iN (lnS g k), lay s) := by
  unfold fX11_byRank
  have b1 := hg.1
  exact r_byRankL h hg hk FU 0 (by unfold FU; omega) (Nat.zero_le _)
theorem RR_congr {t : Sto} (h : RR s g wo) (e1 : t.1 102 = s.1 102) (e2 : t.1 101 3 = s.1 101 3) : RR t g wo := ⟨fun k h1 h2 => by rw [e1]; exact h.1 k h1 h2, fun d hd => by rw [e2]; exact h.2.1 d hd, h.2.2⟩
theorem r_ranksL {G : Mem → Option (Unit × Mem)} (h : RR s g wo) (hg : OKg g) : ∀ (n k : Nat) (f : Nat → Int32), g 73 - k < n → k ≤ g 73 → (∀ j, j < k → f j = iN (lnS g j)) → ∃ f', X11_ranks_L2 G 101 n (iN k) (lay (rI s 109 f)) = G (lay (rI s 109 f')) ∧ ∀ j, j < g 73 → f' j = iN (lnS g j) := by
  intro n
  have b1 := hg.1
  induction n with
  | zero => intro k f h1; omega
  | succ n ih =>
    intro k f h1 h2 h3
    have hS : RR (rI s 109 f) g wo := RR_congr h rfl rfl
    rw [X11_ranks_L2]
    simp (disch := first | assumption | omega) only [ob, bd_s, jn_s, zz0, zz1, i10, i00, if_true, if_false, rr_101_0, rr_101_9, r_many hS, iN_le, oc_101]
    by_cases c1 : g 73 ≤ k
    · rw [if_pos c1]
      exact ⟨f, rfl, fun j hj => h3 j (by omega)⟩
    · rw [if_neg c1]
      simp (disch := first | assumption | omega) only [r_byRank hS hg (k := k) (by omega), bd_s, ob, si_109, rI_same, rI_ne, rF_same, rF_ne, rJ_same, rJ_ne, rI_2, rF_1, rF_22, rJ_1, rJ_21, rJ_222, rI_rI, rF_rF, rJ_rJ, upd_same, upd_ne, vfu_same, vfu_ne, vpu_same, vpu_ne, iN_add, iN_addL, iN_Ladd, iN_mul, iN_mulL, iN_Lmul]
      refine ih (k + 1) _ (by omega) (by omega) (fun j hj => ?_)
      by_cases c2 : j = k
      · subst c2
        exact upd_same
      · rw [upd_ne c2]
        exact h3 j (by omega)
theorem r_ranks (h : RR s g wo) (hg : OKg g) : ∃ f, fX11_ranks 101 (lay s) = some ((), lay (rI s 109 f)) ∧ RLn (rI s 109 f) g := by
  have b1 := hg.1
  obtain ⟨f, h1, h2⟩ := r_ranksL (G := fun μ => some ((), μ)) h hg FU 0 (s.1 109) (by unfold FU; omega) (Nat.zero_le _) (fun j hj => absurd hj (Nat.not_lt_zero j))
  rw [rI_self] at h1
  exact ⟨f, h1, fun k hk => by rw [rI_same]; exact h2 k hk⟩
theorem want0 {d m : Nat} (h : dF g d 2 = 0) : wantS g d m = 0 := by unfold wantS; rw [h]; simp
theorem r_wants (h : RR s g wo) (hg : OKg g) {d m : Nat} (hd : d < g 73) (hm : m < 12) : fX11_wants 101 (iN d) (iN m) (lay s) = some (iN (wantS g d m), lay s) := by
  have b1 := hg.1
  have b2 := hg.2.2.2.2.2.2 d hd
  have hd6 : d < 6 := by omega
  have a0 : fX11_at 101 (iN d) 0 (lay s) = some (iN (dF g d 0), lay s) := r_at (f := 0) h hd6 (by omega) (by omega)
  have a4 : fX11_at 101 (iN d) 4 (lay s) = some (iN (dF g d 4), lay s) := r_at (f := 4) h hd6 (by omega) (by omega)
  have a5 : fX11_at 101 (iN d) 5 (lay s) = some (iN (dF g d 5), lay s) := r_at (f := 5) h hd6 (by omega) (by omega)
  unfold fX11_wants
  simp only [oc_101, ob, bd_s, a4, a5]
  cases hw : wo d with
  | true =>
    have hm1 : ((s.1 101 3 >>> (iN d &&& 31)) &&& 1 = 1) = True := by rw [h.2.1 d hd6, hw]; simp
    rw [want0 (h.2.2 d hd6 hw)]
    simp (disch := first | assumption | omega) only [jn_s, gi_101_3, ob, hm1, if_true, r_in, bd_s, iN_lt, iN_le, le_64, tI_eq0, ob, bd_s, jn_s, zz0, zz1, i10, i00, if_true, if_false]
    repeat' split
    all_goals rfl
  | false =>
    have hm1 : ((s.1 101 3 >>> (iN d &&& 31)) &&& 1 = 1) = False := by rw [h.2.1 d hd6, hw]; simp
    have a2 : fX11_at 101 (iN d) 2 (lay s) = some (iN (dF g d 2), lay s) := r_at2 h hd6 hw
    simp (disch := first | assumption | omega) only [jn_s, gi_101_3, ob, hm1, if_false, oc_101, a0, a2, r_in, bd_s, le_64, lit64_le, le_lit64, tI_eq0, ob, bd_s, jn_s, zz0, zz1, i10, i00, if_true, if_false, iN_le, iN_lt, iN_eq, iN_leL, iN_Lle, iN_ltL, iN_Llt, iN_eqL, iN_Leq, iN_add, iN_addL, iN_Ladd, iN_mul, iN_mulL, iN_Lmul]
    unfold wantS inB
    repeat' split
    all_goals first | rfl | (exfalso; simp only [decide_eq_true_eq, tI_eq0] at *; omega)
end REFA
