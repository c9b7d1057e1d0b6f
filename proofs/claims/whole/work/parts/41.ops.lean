/-! ===== what a call makes of the numbers: the class's side, the reference's ===== -/
abbrev nz (v : Int32) : Nat := v.toNatClampNeg
theorem nz_iN {n : Nat} (h : n < 2147483648) : nz (iN n) = n := iN_nat h
/-- only the reservoir now has changed -/
def Kcl (s t : Sto) : Prop := (∀ q, q < 2 ∨ 14 < q → t.1 q = s.1 q) ∧ t.2 = s.2
/-- only the reference's row of numbers has changed -/
def Krf (s t : Sto) : Prop := (∀ q, q ≠ 102 → t.1 q = s.1 q) ∧ t.2 = s.2
section OPS
variable {s t : Sto} {g : Nat → Nat}
theorem Kcl.rf : Kcl s s := ⟨fun _ _ => rfl, rfl⟩
theorem Krf.rf : Krf s s := ⟨fun _ _ => rfl, rfl⟩
theorem Kcl.tr {u : Sto} (h1 : Kcl s t) (h2 : Kcl t u) : Kcl s u := ⟨fun q h => (h2.1 q h).trans (h1.1 q h), h2.2.trans h1.2⟩
theorem Krf.tr {u : Sto} (h1 : Krf s t) (h2 : Krf t u) : Krf s u := ⟨fun q h => (h2.1 q h).trans (h1.1 q h), h2.2.trans h1.2⟩
theorem Kcl_rI {q : Nat} {f : Nat → Int32} (h : 2 ≤ q ∧ q ≤ 14) : Kcl s (rI s q f) := ⟨fun k hk => rI_ne (by omega), rfl⟩
theorem Krf_rI {f : Nat → Int32} : Krf s (rI s 102 f) := ⟨fun k hk => rI_ne hk, rfl⟩
/-- the class does it: an answer, new numbers -/
def CO (s : Sto) (f : Mem → Option (Int32 × Mem)) (o : Int32 × (Nat → Nat)) : Prop := ∃ t, f (lay s) = some (o.1, lay t) ∧ RB t 2 o.2 ∧ Kcl s t
def RO (s : Sto) (f : Mem → Option (Int32 × Mem)) (o : Int32 × (Nat → Nat)) : Prop := ∃ t, f (lay s) = some (o.1, lay t) ∧ Rg t 102 o.2 ∧ Krf s t
theorem CO_no {f : Mem → Option (Int32 × Mem)} {a : Int32} (h : RB s 2 g) (e : f (lay s) = some (a, lay s)) : CO s f (a, g) := ⟨s, e, h, Kcl.rf⟩
theorem RO_no {f : Mem → Option (Int32 × Mem)} {a : Int32} (h : Rg s 102 g) (e : f (lay s) = some (a, lay s)) : RO s f (a, g) := ⟨s, e, h, Krf.rf⟩
theorem r_becomes (h : Rg s 102 g) {k v : Nat} (hk : k < 173) : fX11_becomes 101 (iN k) (iN v) (lay s) = some (iN (g k), lay (uI s 102 k (iN v))) := by
  unfold fX11_becomes
  simp only [rr_101_0, ob, gi_g h hk, si_102 hk]
theorem RO_set {f : Mem → Option (Int32 × Mem)} {k v : Nat} (h : Rg s 102 g) (hk : k < 173) (e : f (lay s) = some (iN (g k), lay (uI s 102 k (iN v)))) : RO s f (iN (g k), gs g k v) := ⟨_, e, Rg_set h hk, Krf_rI⟩
theorem CO_set {f : Mem → Option (Int32 × Mem)} {q j k v : Nat} {a : Int32} (hg : OKg g) (h : RB s 2 g) (w : Wh 2 q j k) (hk : k < 74 ∨ ∀ d, k ≠ 75 + 6 * d) (e : f (lay s) = some (a, lay (uI s q j (iN v)))) : CO s f (a, gs g k v) := by
  have wl := Wh_le w
  exact ⟨_, e, RB_set hg.1.2.2.2.2.2.2 h w hk, Kcl_rI (by omega)⟩
/-! put -/
abbrev okP (u v : Int32) : Prop := if u = 2 then 0 ≤ v ∧ v ≤ (9 : Int32) else if u = 3 then 0 ≤ v ∧ v ≤ (99 : Int32) else (1 : Int32) ≤ v ∧ v ≤ (12 : Int32)
theorem okP_n {n : Nat} {v : Int32} (hn : n ≤ 3) (h : okP (iN n) v) : ∃ k, v = iN k ∧ (n = 0 ∨ n = 1 → 1 ≤ k ∧ k ≤ 12) ∧ (n = 2 → k ≤ 9) ∧ (n = 3 → k ≤ 99) ∧ k ≤ 99 := by
  rcases (show n = 0 ∨ n = 1 ∨ n = 2 ∨ n = 3 by omega) with rfl | rfl | rfl | rfl
  · have h : (1 : Int32) ≤ v ∧ v ≤ (12 : Int32) := h
    obtain ⟨k, rfl, hk⟩ := rng (k := 12) ⟨Int32.le_trans (by decide) h.1, h.2⟩ (by omega)
    have := h.1
    rw [iN_Lle (by omega) (by omega)] at this
    exact ⟨k, rfl, by omega, by omega, by omega, by omega⟩
  · have h : (1 : Int32) ≤ v ∧ v ≤ (12 : Int32) := h
    obtain ⟨k, rfl, hk⟩ := rng (k := 12) ⟨Int32.le_trans (by decide) h.1, h.2⟩ (by omega)
    have := h.1
    rw [iN_Lle (by omega) (by omega)] at this
    exact ⟨k, rfl, by omega, by omega, by omega, by omega⟩
  · have h : (0 : Int32) ≤ v ∧ v ≤ (9 : Int32) := h
    obtain ⟨k, rfl, hk⟩ := rng (k := 9) h (by omega)
    exact ⟨k, rfl, by omega, by omega, by omega, by omega⟩
  · have h : (0 : Int32) ≤ v ∧ v ≤ (99 : Int32) := h
    obtain ⟨k, rfl, hk⟩ := rng (k := 99) h (by omega)
    exact ⟨k, rfl, by omega, by omega, by omega, by omega⟩
theorem parts_low {k v i : Nat} (hk : k < 40 ∨ 49 ≤ k) (hi : i < 3) : partsS (gs g k v) i = partsS g i := by
  unfold partsS partS
  rw [gs_ne (by omega), gs_ne (by omega), gs_ne (by omega)]
/-- what put makes of the numbers -/
def opPut (g : Nat → Nat) (u v : Int32) : Int32 × (Nat → Nat) := if 0 ≤ u ∧ u ≤ (3 : Int32) then (if okP u v then (iN (g (nz u)), gs g (nz u) (nz v)) else (-2, g)) else (-1, g)
def Ok2 (g : Nat → Nat) (o : Int32 × (Nat → Nat)) : Prop := OKs o.2 ∧ ∀ j, 110 ≤ j → o.2 j = g j
theorem Ok2_no {a : Int32} (hg : OKs g) : Ok2 g (a, g) := ⟨hg, fun _ _ => rfl⟩
theorem ok_put {u v : Int32} (hg : OKs g) : Ok2 g (opPut g u v) := by
  unfold opPut
  by_cases c1 : 0 ≤ u ∧ u ≤ (3 : Int32)
  · rw [if_pos c1]
    by_cases c2 : okP u v
    · rw [if_pos c2]
      obtain ⟨n, rfl, hn⟩ := rng (k := 3) c1 (by omega)
      obtain ⟨k, rfl, h1, h2, h3, h4⟩ := okP_n hn c2
      rw [nz_iN (by omega), nz_iN (by omega)]
      exact ⟨OKs_set hg (OKg_set hg.1 (by omega) (by omega) (by omega) (by omega) (by omega) (by omega) (fun i hi => by rw [parts_low (by omega) hi]; exact hg.1.2.2.2.1 i hi) (by omega) (by omega) (fun d hd => by omega)) (by omega) (by omega) (by omega), fun j hj => gs_ne (by omega)⟩
    · rw [if_neg c2]
      exact Ok2_no hg
  · rw [if_neg c1]
    exact Ok2_no hg
theorem co_put (hg : OKg g) (h : RB s 2 g) (u v : Int32) : CO s (fX0_changeSetting 2 u v) (opPut g u v) := by
  have hb : Bs 2 := Or.inl rfl
  unfold opPut
  by_cases c1 : 0 ≤ u ∧ u ≤ (3 : Int32)
  · rw [if_pos c1]
    obtain ⟨n, rfl, hn⟩ := rng (k := 3) c1 (by omega)
    have key : fX0_changeSetting 2 (iN n) v (lay s) = if okP (iN n) v then some (iN (g n), lay (uI s 2 n v)) else some (-2, lay s) := by
      unfold fX0_changeSetting fX0_settingOf
      simp only [c_within, tI_pos c1, bd_s, i10, if_false]
      have k1 : ∀ n < 4, kI [1, 1, 0, 0] (iN n) = some ([1, 1, 0, 0].getD n 0) ∧ kI [12, 12, 9, 99] (iN n) = some ([12, 12, 9, 99].getD n 0) := by decide
      rw [(k1 n (by omega)).1, (k1 n (by omega)).2]
      simp only [ob, c_within, bd_s, tI_eq0, bs_c hb, bs_g0 hb, bs_g1 hb, bs_g2 hb, bs_g3 hb, bs_p0 hb, bs_p1 hb, bs_p2 hb, bs_p3 hb, h.1.1.1, h.1.1.2.1, h.1.1.2.2.1, h.1.1.2.2.2.1]
      rcases (show n = 0 ∨ n = 1 ∨ n = 2 ∨ n = 3 by omega) with rfl | rfl | rfl | rfl
      · show (if ¬ ((1 : Int32) ≤ v ∧ v ≤ (12 : Int32)) then _ else _) = if (1 : Int32) ≤ v ∧ v ≤ (12 : Int32) then _ else _
        by_cases c : (1 : Int32) ≤ v ∧ v ≤ (12 : Int32)
        · rw [if_neg (not_not_intro c), if_pos c]; rfl
        · rw [if_pos c, if_neg c]
      · show (if ¬ ((1 : Int32) ≤ v ∧ v ≤ (12 : Int32)) then _ else _) = if (1 : Int32) ≤ v ∧ v ≤ (12 : Int32) then _ else _
        by_cases c : (1 : Int32) ≤ v ∧ v ≤ (12 : Int32)
        · rw [if_neg (not_not_intro c), if_pos c]; rfl
        · rw [if_pos c, if_neg c]
      · show (if ¬ ((0 : Int32) ≤ v ∧ v ≤ (9 : Int32)) then _ else _) = if (0 : Int32) ≤ v ∧ v ≤ (9 : Int32) then _ else _
        by_cases c : (0 : Int32) ≤ v ∧ v ≤ (9 : Int32)
        · rw [if_neg (not_not_intro c), if_pos c]; rfl
        · rw [if_pos c, if_neg c]
      · show (if ¬ ((0 : Int32) ≤ v ∧ v ≤ (99 : Int32)) then _ else _) = if (0 : Int32) ≤ v ∧ v ≤ (99 : Int32) then _ else _
        by_cases c : (0 : Int32) ≤ v ∧ v ≤ (99 : Int32)
        · rw [if_neg (not_not_intro c), if_pos c]; rfl
        · rw [if_pos c, if_neg c]
    by_cases c2 : okP (iN n) v
    · rw [if_pos c2] at key
      rw [if_pos c2]
      obtain ⟨k, rfl, _, _, _, h4⟩ := okP_n hn c2
      rw [nz_iN (by omega), nz_iN (by omega)]
      exact CO_set hg h (Or.inl ⟨rfl, rfl, by omega⟩) (by omega) key
    · rw [if_neg c2] at key
      rw [if_neg c2]
      exact CO_no h key
  · rw [if_neg c1]
    refine CO_no h ?_
    unfold fX0_changeSetting
    simp only [c_within, tI_neg c1, bd_s, i00, if_true]
theorem ro_put (h : Rg s 102 g) (u v : Int32) : RO s (fX11_put 101 u v) (opPut g u v) := by
  unfold opPut
  by_cases c1 : 0 ≤ u ∧ u ≤ (3 : Int32)
  · rw [if_pos c1]
    obtain ⟨n, rfl, hn⟩ := rng (k := 3) c1 (by omega)
    have key : fX11_put 101 (iN n) v (lay s) = if okP (iN n) v then bd (fX11_becomes 101 (iN n) v (lay s)) (fun x65 μ65 => some (x65, μ65)) else some (-2, lay s) := by
      unfold fX11_put
      rw [r_in]
      simp (disch := first | assumption | omega) only [lit64_le, le_lit64, le_64, tI_pos c1, bd_s, i10, if_false, jn_s]
      simp (disch := first | assumption | omega) only [r_in, lit64_le, le_lit64, le_64, bd_s, tI_eq0, oc_101, ob]
      rcases (show n = 0 ∨ n = 1 ∨ n = 2 ∨ n = 3 by omega) with rfl | rfl | rfl | rfl
      · show (if ¬ ((1 : Int32) ≤ v ∧ v ≤ (12 : Int32)) then _ else _) = if (1 : Int32) ≤ v ∧ v ≤ (12 : Int32) then _ else _
        by_cases c : (1 : Int32) ≤ v ∧ v ≤ (12 : Int32)
        · rw [if_neg (not_not_intro c), if_pos c]
        · rw [if_pos c, if_neg c]
      · show (if ¬ ((1 : Int32) ≤ v ∧ v ≤ (12 : Int32)) then _ else _) = if (1 : Int32) ≤ v ∧ v ≤ (12 : Int32) then _ else _
        by_cases c : (1 : Int32) ≤ v ∧ v ≤ (12 : Int32)
        · rw [if_neg (not_not_intro c), if_pos c]
        · rw [if_pos c, if_neg c]
      · show (if ¬ ((0 : Int32) ≤ v ∧ v ≤ (9 : Int32)) then _ else _) = if (0 : Int32) ≤ v ∧ v ≤ (9 : Int32) then _ else _
        by_cases c : (0 : Int32) ≤ v ∧ v ≤ (9 : Int32)
        · rw [if_neg (not_not_intro c), if_pos c]
        · rw [if_pos c, if_neg c]
      · show (if ¬ ((0 : Int32) ≤ v ∧ v ≤ (99 : Int32)) then _ else _) = if (0 : Int32) ≤ v ∧ v ≤ (99 : Int32) then _ else _
        by_cases c : (0 : Int32) ≤ v ∧ v ≤ (99 : Int32)
        · rw [if_neg (not_not_intro c), if_pos c]
        · rw [if_pos c, if_neg c]
    by_cases c2 : okP (iN n) v
    · rw [if_pos c2] at key
      rw [if_pos c2]
      obtain ⟨k, rfl, _, _, _, h4⟩ := okP_n hn c2
      rw [nz_iN (by omega), nz_iN (by omega)]
      rw [r_becomes h (by omega)] at key
      exact RO_set h (by omega) key
    · rw [if_neg c2] at key
      rw [if_neg c2]
      exact RO_no h key
  · rw [if_neg c1]
    refine RO_no h ?_
    unfold fX11_put
    rw [r_in]
    simp (disch := first | assumption | omega) only [lit64_le, le_lit64, le_64, tI_neg c1, bd_s, i00, if_true]
/-! inflow -/
def opInf (g : Nat → Nat) (u v w : Int32) : Int32 × (Nat → Nat) := if (0 ≤ u ∧ u ≤ (11 : Int32)) ∧ 0 ≤ v ∧ v ≤ (2 : Int32) then (if 0 ≤ w ∧ w ≤ (9 : Int32) then (iN (g (4 + 3 * nz u + nz v)), gs g (4 + 3 * nz u + nz v) (nz w)) else (-2, g)) else (-1, g)
theorem ok_inf {u v w : Int32} (hg : OKs g) : Ok2 g (opInf g u v w) := by
  unfold opInf
  by_cases c1 : (0 ≤ u ∧ u ≤ (11 : Int32)) ∧ 0 ≤ v ∧ v ≤ (2 : Int32)
  · rw [if_pos c1]
    by_cases c2 : 0 ≤ w ∧ w ≤ (9 : Int32)
    · rw [if_pos c2]
      obtain ⟨m, rfl, hm⟩ := rng (k := 11) c1.1 (by omega)
      obtain ⟨i, rfl, hi⟩ := rng (k := 2) c1.2 (by omega)
      obtain ⟨k, rfl, hk⟩ := rng (k := 9) c2 (by omega)
      rw [nz_iN (by omega), nz_iN (by omega), nz_iN (by omega)]
      exact ⟨OKs_set hg (OKg_set hg.1 (by omega) (by omega) (by omega) (by omega) (by omega) (by omega) (fun i hi => by rw [parts_low (by omega) hi]; exact hg.1.2.2.2.1 i hi) (by omega) (by omega) (fun d hd => by omega)) (by omega) (by omega) (by omega), fun j hj => gs_ne (by omega)⟩
    · rw [if_neg c2]
      exact Ok2_no hg
  · rw [if_neg c1]
    exact Ok2_no hg
theorem co_inf (hg : OKg g) (h : RB s 2 g) (u v w : Int32) : CO s (fX0_changeInflow 2 u v w) (opInf g u v w) := by
  have hb : Bs 2 := Or.inl rfl
  unfold opInf
  by_cases c0 : 0 ≤ u ∧ u ≤ (11 : Int32)
  · by_cases c1 : 0 ≤ v ∧ v ≤ (2 : Int32)
    · rw [if_pos ⟨c0, c1⟩]
      by_cases c2 : 0 ≤ w ∧ w ≤ (9 : Int32)
      · rw [if_pos c2]
        obtain ⟨m, rfl, hm⟩ := rng (k := 11) c0 (by omega)
        obtain ⟨i, rfl, hi⟩ := rng (k := 2) c1 (by omega)
        obtain ⟨k, rfl, hk⟩ := rng (k := 9) c2 (by omega)
        rw [nz_iN (by omega), nz_iN (by omega), nz_iN (by omega)]
        refine CO_set (q := 3) (j := m * 3 + i) hg h (Or.inr (Or.inl ⟨rfl, by omega, by omega⟩)) (by omega) ?_
        unfold fX0_changeInflow
        simp only [c_within, c_isState, tI_pos c0, tI_pos c1, tI_pos c2, bd_s, i10, if_false, bs_r4 hb, ob, iN_add, iN_addL, iN_Ladd, iN_mul, iN_mulL, iN_Lmul]
        rw [bs_a1 hb (by omega), h.1.2.1 _ (by omega), show 4 + (m * 3 + i) = 4 + 3 * m + i by omega]
        simp only [ob]
        rw [bs_s1 hb (by omega)]
        rfl
      · rw [if_neg c2]
        refine CO_no h ?_
        unfold fX0_changeInflow
        simp only [c_within, c_isState, tI_pos c0, tI_pos c1, tI_neg c2, bd_s, i10, i00, if_true, if_false]
    · rw [if_neg (fun h => c1 h.2)]
      refine CO_no h ?_
      unfold fX0_changeInflow
      simp only [c_within, c_isState, tI_pos c0, tI_neg c1, bd_s, i10, i00, if_true, if_false]
  · rw [if_neg (fun h => c0 h.1)]
    refine CO_no h ?_
    unfold fX0_changeInflow
    simp only [c_within, tI_neg c0, bd_s, i00, if_true]
theorem ro_inf (h : Rg s 102 g) (u v w : Int32) : RO s (fX11_inflow 101 u v w) (opInf g u v w) := by
  unfold opInf
  by_cases c0 : 0 ≤ u ∧ u ≤ (11 : Int32)
  · by_cases c1 : 0 ≤ v ∧ v ≤ (2 : Int32)
    · rw [if_pos ⟨c0, c1⟩]
      by_cases c2 : 0 ≤ w ∧ w ≤ (9 : Int32)
      · rw [if_pos c2]
        obtain ⟨m, rfl, hm⟩ := rng (k := 11) c0 (by omega)
        obtain ⟨i, rfl, hi⟩ := rng (k := 2) c1 (by omega)
        obtain ⟨k, rfl, hk⟩ := rng (k := 9) c2 (by omega)
        rw [nz_iN (by omega), nz_iN (by omega), nz_iN (by omega)]
        refine RO_set h (by omega) ?_
        unfold fX11_inflow
        simp (disch := first | assumption | omega) only [r_isMonth, r_isState, r_in, lit64_le, le_lit64, le_64, tI_pos c0, tI_pos c1, tI_pos c2, bd_s, i10, if_false, oc_101, ob, iN_add, iN_addL, iN_Ladd, iN_mul, iN_mulL, iN_Lmul]
        rw [r_becomes h (by omega)]
        rfl
      · rw [if_neg c2]
        refine RO_no h ?_
        unfold fX11_inflow
        simp (disch := first | assumption | omega) only [r_isMonth, r_isState, r_in, lit64_le, le_lit64, le_64, tI_pos c0, tI_pos c1, tI_neg c2, bd_s, i10, i00, if_true, if_false]
    · rw [if_neg (fun h => c1 h.2)]
      refine RO_no h ?_
      unfold fX11_inflow
      simp (disch := first | assumption | omega) only [r_isMonth, r_isState, tI_pos c0, tI_neg c1, bd_s, i10, i00, if_true, if_false]
  · rw [if_neg (fun h => c0 h.1)]
    refine RO_no h ?_
    unfold fX11_inflow
    simp (disch := first | assumption | omega) only [r_isMonth, tI_neg c0, bd_s, i00, if_true]
/-! month -/
def opMon (g : Nat → Nat) (u v w : Int32) : Int32 × (Nat → Nat) := if (0 ≤ u ∧ u ≤ (11 : Int32)) ∧ 0 ≤ v ∧ v ≤ (1 : Int32) then (if 0 ≤ w ∧ w ≤ (9 : Int32) then (iN (g ((if v = 0 then 49 else 61) + nz u)), gs g ((if v = 0 then 49 else 61) + nz u) (nz w)) else (-2, g)) else (-1, g)
theorem ok_mon {u v w : Int32} (hg : OKs g) : Ok2 g (opMon g u v w) := by
  unfold opMon
  by_cases c1 : (0 ≤ u ∧ u ≤ (11 : Int32)) ∧ 0 ≤ v ∧ v ≤ (1 : Int32)
  · rw [if_pos c1]
    by_cases c2 : 0 ≤ w ∧ w ≤ (9 : Int32)
    · rw [if_pos c2]
      obtain ⟨m, rfl, hm⟩ := rng (k := 11) c1.1 (by omega)
      obtain ⟨k, rfl, hk⟩ := rng (k := 9) c2 (by omega)
      rw [nz_iN (by omega), nz_iN (by omega)]
      have hx : (if v = 0 then 49 else 61) = 49 ∨ (if v = 0 then 49 else 61) = 61 := by split <;> omega
      generalize (if v = 0 then 49 else 61) = x at *
      exact ⟨OKs_set hg (OKg_set hg.1 (by omega) (by omega) (by omega) (by omega) (by omega) (by omega) (fun i hi => by rw [parts_low (by omega) hi]; exact hg.1.2.2.2.1 i hi) (by omega) (by omega) (fun d hd => by omega)) (by omega) (by omega) (by omega), fun j hj => gs_ne (by omega)⟩
    · rw [if_neg c2]
      exact Ok2_no hg
  · rw [if_neg c1]
    exact Ok2_no hg
theorem co_mon (hg : OKg g) (h : RB s 2 g) (u v w : Int32) : CO s (fX0_changeMonth 2 u v w) (opMon g u v w) := by
  have hb : Bs 2 := Or.inl rfl
  unfold opMon
  by_cases c0 : 0 ≤ u ∧ u ≤ (11 : Int32)
  · by_cases c1 : 0 ≤ v ∧ v ≤ (1 : Int32)
    · rw [if_pos ⟨c0, c1⟩]
      by_cases c2 : 0 ≤ w ∧ w ≤ (9 : Int32)
      · rw [if_pos c2]
        obtain ⟨m, rfl, hm⟩ := rng (k := 11) c0 (by omega)
        obtain ⟨k, rfl, hk⟩ := rng (k := 9) c2 (by omega)
        have hm12 : m < 12 := by omega
        rw [nz_iN (by omega), nz_iN (by omega)]
        by_cases e : v = 0
        · simp only [if_pos e]
          refine CO_set (q := 5) (j := m) hg h (Or.inr (Or.inr (Or.inr (Or.inl ⟨rfl, by omega, by omega⟩)))) (by omega) ?_
          unfold fX0_changeMonth
          simp only [c_within, tI_pos c0, tI_pos c1, tI_pos c2, bd_s, i10, if_false, jn_s, if_pos e, bs_r6 hb, ob, bs_a3 hb hm12, bs_s3 hb hm12, h.1.2.2.2.1 m hm12]
        · simp only [if_neg e]
          refine CO_set (q := 6) (j := m) hg h (Or.inr (Or.inr (Or.inr (Or.inr (Or.inl ⟨rfl, by omega, by omega⟩))))) (by omega) ?_
          unfold fX0_changeMonth
          simp only [c_within, tI_pos c0, tI_pos c1, tI_pos c2, bd_s, i10, if_false, jn_s, if_neg e, bs_r7 hb, ob, bs_a4 hb hm12, bs_s4 hb hm12, h.1.2.2.2.2.1 m hm12]
      · rw [if_neg c2]
        refine CO_no h ?_
        unfold fX0_changeMonth
        simp only [c_within, tI_pos c0, tI_pos c1, tI_neg c2, bd_s, i10, i00, if_true, if_false]
    · rw [if_neg (fun h => c1 h.2)]
      refine CO_no h ?_
      unfold fX0_changeMonth
      simp only [c_within, tI_pos c0, tI_neg c1, bd_s, i10, i00, if_true, if_false]
  · rw [if_neg (fun h => c0 h.1)]
    refine CO_no h ?_
    unfold fX0_changeMonth
    simp only [c_within, tI_neg c0, bd_s, i00, if_true]
theorem ro_mon (h : Rg s 102 g) (u v w : Int32) : RO s (fX11_month 101 u v w) (opMon g u v w) := by
  unfold opMon
  by_cases c0 : 0 ≤ u ∧ u ≤ (11 : Int32)
  · by_cases c1 : 0 ≤ v ∧ v ≤ (1 : Int32)
    · rw [if_pos ⟨c0, c1⟩]
      by_cases c2 : 0 ≤ w ∧ w ≤ (9 : Int32)
      · rw [if_pos c2]
        obtain ⟨m, rfl, hm⟩ := rng (k := 11) c0 (by omega)
        obtain ⟨k, rfl, hk⟩ := rng (k := 9) c2 (by omega)
        rw [nz_iN (by omega), nz_iN (by omega)]
        have hx : (if v = 0 then 49 else 61) = 49 ∨ (if v = 0 then 49 else 61) = 61 := by split <;> omega
        refine RO_set h (by omega) ?_
        unfold fX11_month
        simp (disch := first | assumption | omega) only [r_isMonth, r_in, lit64_le, le_lit64, le_64, tI_pos c0, tI_pos c1, tI_pos c2, bd_s, i10, if_false, oc_101, ob, jn_s, iN_add, iN_addL, iN_Ladd, iN_mul, iN_mulL, iN_Lmul]
        by_cases e : v = 0
        · simp only [if_pos e]
          rw [r_becomes h (by omega)]
          rfl
        · simp only [if_neg e]
          rw [r_becomes h (by omega)]
          rfl
      · rw [if_neg c2]
        refine RO_no h ?_
        unfold fX11_month
        simp (disch := first | assumption | omega) only [r_isMonth, r_in, lit64_le, le_lit64, le_64, tI_pos c0, tI_pos c1, tI_neg c2, bd_s, i10, i00, if_true, if_false]
    · rw [if_neg (fun h => c1 h.2)]
      refine RO_no h ?_
      unfold fX11_month
      simp (disch := first | assumption | omega) only [r_isMonth, r_in, lit64_le, le_lit64, le_64, tI_pos c0, tI_neg c1, bd_s, i10, i00, if_true, if_false]
  · rw [if_neg (fun h => c0 h.1)]
    refine RO_no h ?_
    unfold fX11_month
    simp (disch := first | assumption | omega) only [r_isMonth, tI_neg c0, bd_s, i00, if_true]
end OPS
