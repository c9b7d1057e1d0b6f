/-! ===== parts, demands: the class's side, the reference's ===== -/
section OPSB
variable {s t : Sto} {g : Nat → Nat}
/-! part -/
def opPar (g : Nat → Nat) (u v w : Int32) : Int32 × (Nat → Nat) := if (0 ≤ u ∧ u ≤ (2 : Int32)) ∧ 0 ≤ v ∧ v ≤ (2 : Int32) then (if (0 ≤ w ∧ w ≤ (9 : Int32)) ∧ ¬ (partsS g (nz u) - partS g (nz u) (nz v) + nz w = 0) then (iN (partS g (nz u) (nz v)), gs g (40 + 3 * nz u + nz v) (nz w)) else (-2, g)) else (-1, g)
theorem parts_of {i j k : Nat} (hj : j < 3) : partsS (gs g (40 + 3 * i + j) k) i = partsS g i - partS g i j + k ∧ partS g i j ≤ partsS g i := by
  unfold partsS partS gs
  rcases (show j = 0 ∨ j = 1 ∨ j = 2 by omega) with rfl | rfl | rfl
  · simp only [Nat.add_zero, if_true]
    rw [if_neg (by omega), if_neg (by omega)]
    omega
  · simp only [if_true]
    rw [if_neg (by omega), if_neg (by omega)]
    omega
  · simp only [if_true]
    rw [if_neg (by omega), if_neg (by omega)]
    omega
theorem parts_ot {i i' j k : Nat} (hi : i' ≠ i) (hj : j < 3) : partsS (gs g (40 + 3 * i + j) k) i' = partsS g i' := by
  unfold partsS partS
  rw [gs_ne (by omega), gs_ne (by omega), gs_ne (by omega)]
theorem ok_par {u v w : Int32} (hg : OKs g) : Ok2 g (opPar g u v w) := by
  unfold opPar
  by_cases c1 : (0 ≤ u ∧ u ≤ (2 : Int32)) ∧ 0 ≤ v ∧ v ≤ (2 : Int32)
  · rw [if_pos c1]
    by_cases c2 : (0 ≤ w ∧ w ≤ (9 : Int32)) ∧ ¬ (partsS g (nz u) - partS g (nz u) (nz v) + nz w = 0)
    · rw [if_pos c2]
      obtain ⟨i, rfl, hi⟩ := rng (k := 2) c1.1 (by omega)
      obtain ⟨j, rfl, hj⟩ := rng (k := 2) c1.2 (by omega)
      obtain ⟨k, rfl, hk⟩ := rng (k := 9) c2.1 (by omega)
      have c3 := c2.2
      rw [nz_iN (by omega), nz_iN (by omega), nz_iN (by omega)] at *
      refine ⟨OKs_set hg (OKg_set hg.1 (by omega) (by omega) (by omega) (by omega) (by omega) (by omega) (fun i' hi' => ?_) (by omega) (by omega) (fun d hd => by omega)) (by omega) (by omega) (by omega), fun j hj => gs_ne (by omega)⟩
      by_cases e : i' = i
      · subst e
        rw [(parts_of (by omega)).1]
        omega
      · rw [parts_ot e (by omega)]
        exact hg.1.2.2.2.1 i' hi'
    · rw [if_neg c2]
      exact Ok2_no hg
  · rw [if_neg c1]
    exact Ok2_no hg
theorem part_sum {i j k : Nat} (hg : OKg g) (hi : i < 3) (hj : j < 3) (hk : k ≤ 9) : ((iN (partsS g i) - iN (partS g i j) + iN k = 0) = (partsS g i - partS g i j + k = 0)) := by
  have h1 := parts_le hg hi
  have h2 := (parts_of (g := g) (i := i) (k := k) hj).2
  rw [iN_sub h2, iN_add, show (0 : Int32) = iN 0 from rfl, iN_eq (by omega) (by omega)]
theorem co_par (hg : OKg g) (h : RB s 2 g) (u v w : Int32) : CO s (fX0_changePart 2 u v w) (opPar g u v w) := by
  have hb : Bs 2 := Or.inl rfl
  unfold opPar
  by_cases c0 : 0 ≤ u ∧ u ≤ (2 : Int32)
  · by_cases c1 : 0 ≤ v ∧ v ≤ (2 : Int32)
    · rw [if_pos ⟨c0, c1⟩]
      obtain ⟨i, rfl, hi⟩ := rng (k := 2) c0 (by omega)
      obtain ⟨j, rfl, hj⟩ := rng (k := 2) c1 (by omega)
      have hi3 : i < 3 := by omega
      have hj3 : j < 3 := by omega
      have hl : i * 3 + j < 9 := by omega
      rw [nz_iN (n := i) (by omega), nz_iN (n := j) (by omega)]
      by_cases c2 : 0 ≤ w ∧ w ≤ (9 : Int32)
      · obtain ⟨k, rfl, hk⟩ := rng (k := 9) c2 (by omega)
        rw [nz_iN (n := k) (by omega)]
        have key : fX0_changePart 2 (iN i) (iN j) (iN k) (lay s) = if partsS g i - partS g i j + k = 0 then some (-2, lay s) else some (iN (partS g i j), lay (uI s 4 (i * 3 + j) (iN k))) := by
          unfold fX0_changePart
          simp only [c_within, c_isState, tI_pos c0, tI_pos c1, tI_pos c2, bd_s, i10, if_false, bs_r5 hb, bs_c hb, ob, iN_add, iN_addL, iN_Ladd, iN_mul, iN_mulL, iN_Lmul, bs_a2 hb hl, c_part h.1 hi3 hj3, c_allParts hb h.1 hi3, bs_s2 hb hl]
          have e := part_sum (k := k) hg hi3 hj3 hk
          by_cases c : partsS g i - partS g i j + k = 0
          · rw [if_pos (e.mpr c), if_pos c]
          · rw [if_neg (fun h => c (e.mp h)), if_neg c]
        by_cases c : partsS g i - partS g i j + k = 0
        · rw [if_pos c] at key
          rw [if_neg (fun h => h.2 c)]
          exact CO_no h key
        · rw [if_neg c] at key
          rw [if_pos ⟨c2, c⟩]
          exact CO_set (q := 4) (j := i * 3 + j) hg h (Or.inr (Or.inr (Or.inl ⟨rfl, by omega, by omega⟩))) (by omega) key
      · rw [if_neg (fun h => c2 h.1)]
        refine CO_no h ?_
        unfold fX0_changePart
        simp only [c_within, c_isState, tI_pos c0, tI_pos c1, tI_neg c2, bd_s, i10, i00, if_true, if_false, bs_r5 hb, ob, iN_add, iN_addL, iN_Ladd, iN_mul, iN_mulL, iN_Lmul, bs_a2 hb hl]
    · rw [if_neg (fun h => c1 h.2)]
      refine CO_no h ?_
      unfold fX0_changePart
      simp only [c_isState, tI_pos c0, tI_neg c1, bd_s, i10, i00, if_true, if_false]
  · rw [if_neg (fun h => c0 h.1)]
    refine CO_no h ?_
    unfold fX0_changePart
    simp only [c_isState, tI_neg c0, bd_s, i00, if_true]
theorem ro_par (hg : OKg g) (hR : RR s g (fun _ => false)) (h : Rg s 102 g) (u v w : Int32) : RO s (fX11_part_ 101 u v w) (opPar g u v w) := by
  unfold opPar
  by_cases c0 : 0 ≤ u ∧ u ≤ (2 : Int32)
  · by_cases c1 : 0 ≤ v ∧ v ≤ (2 : Int32)
    · rw [if_pos ⟨c0, c1⟩]
      obtain ⟨i, rfl, hi⟩ := rng (k := 2) c0 (by omega)
      obtain ⟨j, rfl, hj⟩ := rng (k := 2) c1 (by omega)
      have hi3 : i < 3 := by omega
      have hj3 : j < 3 := by omega
      rw [nz_iN (n := i) (by omega), nz_iN (n := j) (by omega)]
      by_cases c2 : 0 ≤ w ∧ w ≤ (9 : Int32)
      · obtain ⟨k, rfl, hk⟩ := rng (k := 9) c2 (by omega)
        rw [nz_iN (n := k) (by omega)]
        have key : fX11_part_ 101 (iN i) (iN j) (iN k) (lay s) = if partsS g i - partS g i j + k = 0 then some (-2, lay s) else some (iN (g (40 + 3 * i + j)), lay (uI s 102 (40 + 3 * i + j) (iN k))) := by
          unfold fX11_part_
          simp (disch := first | assumption | omega) only [r_isState, r_in, lit64_le, le_lit64, le_64, tI_pos c0, tI_pos c1, tI_pos c2, bd_s, i10, if_false, oc_101, ob, r_parts hR hi3, r_part hR hi3 hj3]
          have e := part_sum (k := k) hg hi3 hj3 hk
          by_cases c : partsS g i - partS g i j + k = 0
          · rw [if_pos (e.mpr c), if_pos c]
          · rw [if_neg (fun h => c (e.mp h)), if_neg c]
            simp only [iN_add, iN_addL, iN_Ladd, iN_mul, iN_mulL, iN_Lmul]
            rw [r_becomes h (by omega)]
            rfl
        by_cases c : partsS g i - partS g i j + k = 0
        · rw [if_pos c] at key
          rw [if_neg (fun h => h.2 c)]
          exact RO_no h key
        · rw [if_neg c] at key
          rw [if_pos ⟨c2, c⟩]
          exact RO_set h (by omega) key
      · rw [if_neg (fun h => c2 h.1)]
        refine RO_no h ?_
        unfold fX11_part_
        simp (disch := first | assumption | omega) only [r_isState, r_in, lit64_le, le_lit64, le_64, tI_pos c0, tI_pos c1, tI_neg c2, bd_s, i10, i00, if_true, if_false]
    · rw [if_neg (fun h => c1 h.2)]
      refine RO_no h ?_
      unfold fX11_part_
      simp (disch := first | assumption | omega) only [r_isState, tI_pos c0, tI_neg c1, bd_s, i10, i00, if_true, if_false]
  · rw [if_neg (fun h => c0 h.1)]
    refine RO_no h ?_
    unfold fX11_part_
    simp (disch := first | assumption | omega) only [r_isState, tI_neg c0, bd_s, i00, if_true]
/-! renew -/
abbrev okR (w v : Int32) : Prop := if w = 0 then 0 ≤ v ∧ v ≤ (9 : Int32) else if w = 1 then (1 : Int32) ≤ v ∧ v ≤ (9 : Int32) else 0 ≤ v ∧ v ≤ (99 : Int32)
theorem okR_n {n : Nat} {v : Int32} (hn : n ≤ 2) (h : okR (iN n) v) : ∃ k, v = iN k ∧ (n = 0 → k ≤ 9) ∧ (n = 1 → k ≤ 9) ∧ (n = 2 → k ≤ 99) ∧ k ≤ 99 := by
  rcases (show n = 0 ∨ n = 1 ∨ n = 2 by omega) with rfl | rfl | rfl
  · have h : (0 : Int32) ≤ v ∧ v ≤ (9 : Int32) := h
    obtain ⟨k, rfl, hk⟩ := rng (k := 9) h (by omega)
    exact ⟨k, rfl, by omega, by omega, by omega, by omega⟩
  · have h : (1 : Int32) ≤ v ∧ v ≤ (9 : Int32) := h
    obtain ⟨k, rfl, hk⟩ := rng (k := 9) ⟨Int32.le_trans (by decide) h.1, h.2⟩ (by omega)
    exact ⟨k, rfl, by omega, by omega, by omega, by omega⟩
  · have h : (0 : Int32) ≤ v ∧ v ≤ (99 : Int32) := h
    obtain ⟨k, rfl, hk⟩ := rng (k := 99) h (by omega)
    exact ⟨k, rfl, by omega, by omega, by omega, by omega⟩
def opRen (g : Nat → Nat) (u w v : Int32) : Int32 × (Nat → Nat) := if (0 ≤ u ∧ u < iN (g 73)) ∧ 0 ≤ w ∧ w ≤ (2 : Int32) then (if okR w v then (iN (g (75 + 6 * nz u + nz w)), gs g (75 + 6 * nz u + nz w) (nz v)) else (-2, g)) else (-1, g)
theorem ok_ren {u v w : Int32} (hg : OKs g) : Ok2 g (opRen g u w v) := by
  have b1 := hg.1.1
  unfold opRen
  by_cases c1 : (0 ≤ u ∧ u < iN (g 73)) ∧ 0 ≤ w ∧ w ≤ (2 : Int32)
  · rw [if_pos c1]
    by_cases c2 : okR w v
    · rw [if_pos c2]
      obtain ⟨d, rfl, hd⟩ := rnl c1.1 (by omega)
      obtain ⟨n, rfl, hn⟩ := rng (k := 2) c1.2 (by omega)
      obtain ⟨k, rfl, h1, h2, h3, h4⟩ := okR_n hn c2
      rw [nz_iN (by omega), nz_iN (by omega), nz_iN (by omega)]
      exact ⟨OKs_set hg (OKg_set hg.1 (by omega) (by omega) (by omega) (by omega) (by omega) (by omega) (fun i hi => by rw [parts_low (by omega) hi]; exact hg.1.2.2.2.1 i hi) (by omega) (by omega) (fun d hd => by omega)) (by omega) (by omega) (by omega), fun j hj => gs_ne (by omega)⟩
    · rw [if_neg c2]
      exact Ok2_no hg
  · rw [if_neg c1]
    exact Ok2_no hg
theorem c_isFit {n : Nat} {v : Int32} {μ : Mem} (hn : n ≤ 2) : fX0_isFit (iN n) v μ = some (tI (okR (iN n) v), μ) := by
  unfold fX0_isFit
  have k1 : ∀ n < 3, kI [0, 1, 0] (iN n) = some ([0, 1, 0].getD n 0) ∧ kI [9, 9, 99] (iN n) = some ([9, 9, 99].getD n 0) := by decide
  rw [(k1 n (by omega)).1, (k1 n (by omega)).2]
  simp only [ob, c_within, bd_s, zz_tI]
  rcases (show n = 0 ∨ n = 1 ∨ n = 2 by omega) with rfl | rfl | rfl <;> rfl
theorem Kcl_sort {f : Nat → Int32} : Kcl s (rI s 8 f) := Kcl_rI (by omega)
theorem co_ren (hg : OKg g) (h : RB s 2 g) (u w v : Int32) : CO s (fX0_changeDemand 2 u w v) (opRen g u w v) := by
  have b1 := hg.1
  have hb : Bs 2 := Or.inl rfl
  unfold opRen
  by_cases c0 : 0 ≤ u ∧ u < iN (g 73)
  · by_cases c1 : 0 ≤ w ∧ w ≤ (2 : Int32)
    · rw [if_pos ⟨c0, c1⟩]
      obtain ⟨d, rfl, hd⟩ := rnl c0 (by omega)
      obtain ⟨n, rfl, hn⟩ := rng (k := 2) c1 (by omega)
      have d6 : d < 6 := by omega
      by_cases c2 : okR (iN n) v
      · rw [if_pos c2]
        obtain ⟨k, rfl, h1, h2, h3, h4⟩ := okR_n hn c2
        rw [nz_iN (by omega), nz_iN (by omega), nz_iN (by omega)]
        have wh : Wh 2 (2 + 7 + d) (n + 1) (75 + 6 * d + n) := Or.inr (Or.inr (Or.inr (Or.inr (Or.inr ⟨d, rfl, by omega, by omega, d6⟩))))
        have ht : fX5_tell (2 + 7 + d) (iN n + 1) (lay s) = some (iN (dF g d (n + 1)), lay s) := by
          unfold fX5_tell
          simp (disch := first | assumption | omega) only [bs_gd hb d6, c_dF h.1 hd, ob]
          rcases (show n = 0 ∨ n = 1 ∨ n = 2 by omega) with rfl | rfl | rfl <;> rfl
        have e0 : g (75 + 6 * d + n) = dF g d (n + 1) := by
          unfold dF
          rw [show 74 + 6 * d + (n + 1) = 75 + 6 * d + n by omega]
        rw [e0]
        have base : fX0_changeDemand 2 (iN d) (iN n) (iN k) (lay s) = if n = 0 then bd (fX0_sortByRank 2 (lay (uI s (2 + 7 + d) 1 (iN k)))) (fun _ μ83 => some (iN (dF g d (n + 1)), μ83)) else some (iN (dF g d (n + 1)), lay (uI s (2 + 7 + d) (n + 1) (iN k))) := by
          unfold fX0_changeDemand
          simp only [bs_c hb, ob, c_hasDemand hb hg h.1, c_within, c_isFit hn, tI_pos c0, tI_pos c1, tI_pos c2, bd_s, i10, if_false, bs_r8 hb, bs_d hb d6, bs_cd hb d6, ht]
          have p1 := bs_pd (s := s) (x := iN k) hb d6 (k := 1) (by omega)
          have p2 := bs_pd (s := s) (x := iN k) hb d6 (k := 2) (by omega)
          have p3 := bs_pd (s := s) (x := iN k) hb d6 (k := 3) (by omega)
          simp only [p1, p2, p3, ob, bs_c hb]
          rcases (show n = 0 ∨ n = 1 ∨ n = 2 by omega) with rfl | rfl | rfl <;> rfl
        by_cases en : n = 0
        · rw [if_pos en] at base
          subst en
          have hg' : OKg (gs g (75 + 6 * d + 0) k) := OKg_set hg (by omega) (by omega) (by omega) (by omega) (by omega) (by omega) (fun i hi => by rw [parts_low (by omega) hi]; exact hg.2.2.2.1 i hi) (by omega) (by omega) (fun d hd => by omega)
          have hS := RC_set (v := k) (by omega) h.1 wh
          obtain ⟨f, q1, q2⟩ := c_sort hb hg' hS
          rw [q1] at base
          exact ⟨_, base, q2, (Kcl_rI (by omega)).tr (Kcl_rI (by omega))⟩
        · rw [if_neg en] at base
          exact CO_set hg h wh (Or.inr (fun d' => by omega)) base
      · rw [if_neg c2]
        refine CO_no h ?_
        unfold fX0_changeDemand
        simp only [bs_c hb, ob, c_hasDemand hb hg h.1, c_within, c_isFit hn, tI_pos c0, tI_pos c1, tI_neg c2, bd_s, i10, i00, if_true, if_false]
    · rw [if_neg (fun h => c1 h.2)]
      refine CO_no h ?_
      unfold fX0_changeDemand
      simp only [bs_c hb, ob, c_hasDemand hb hg h.1, c_within, tI_pos c0, tI_neg c1, bd_s, i10, i00, if_true, if_false]
  · rw [if_neg (fun h => c0 h.1)]
    refine CO_no h ?_
    unfold fX0_changeDemand
    simp only [bs_c hb, ob, c_hasDemand hb hg h.1, tI_neg c0, bd_s, i00, if_true]
theorem ro_ren (hg : OKg g) (hR : RR s g (fun _ => false)) (h : Rg s 102 g) (u w v : Int32) : RO s (fX11_renew 101 u w v) (opRen g u w v) := by
  have b1 := hg.1
  unfold opRen
  by_cases c0 : 0 ≤ u ∧ u < iN (g 73)
  · by_cases c1 : 0 ≤ w ∧ w ≤ (2 : Int32)
    · rw [if_pos ⟨c0, c1⟩]
      obtain ⟨d, rfl, hd⟩ := rnl c0 (by omega)
      obtain ⟨n, rfl, hn⟩ := rng (k := 2) c1 (by omega)
      have key : fX11_renew 101 (iN d) (iN n) v (lay s) = if okR (iN n) v then bd (fX11_becomes 101 (iN (74 + 6 * d + 1 + n)) v (lay s)) (fun x65 μ65 => some (x65, μ65)) else some (-2, lay s) := by
        unfold fX11_renew
        simp only [oc_101, ob, r_isDemand hR hg, tI_pos c0, bd_s, i10, if_false]
        rw [r_in]
        simp (disch := first | assumption | omega) only [lit64_le, le_lit64, le_64, tI_pos c1, bd_s, i10, if_false, jn_s]
        simp (disch := first | assumption | omega) only [r_in, lit64_le, le_lit64, le_64, bd_s, tI_eq0, oc_101, ob, iN_add, iN_addL, iN_Ladd, iN_mul, iN_mulL, iN_Lmul]
        rcases (show n = 0 ∨ n = 1 ∨ n = 2 by omega) with rfl | rfl | rfl
        · show (if ¬ ((0 : Int32) ≤ v ∧ v ≤ (9 : Int32)) then _ else _) = if (0 : Int32) ≤ v ∧ v ≤ (9 : Int32) then _ else _
          by_cases c : (0 : Int32) ≤ v ∧ v ≤ (9 : Int32)
          · rw [if_neg (not_not_intro c), if_pos c]
          · rw [if_pos c, if_neg c]
        · show (if ¬ ((1 : Int32) ≤ v ∧ v ≤ (9 : Int32)) then _ else _) = if (1 : Int32) ≤ v ∧ v ≤ (9 : Int32) then _ else _
          by_cases c : (1 : Int32) ≤ v ∧ v ≤ (9 : Int32)
          · rw [if_neg (not_not_intro c), if_pos c]
          · rw [if_pos c, if_neg c]
        · show (if ¬ ((0 : Int32) ≤ v ∧ v ≤ (99 : Int32)) then _ else _) = if (0 : Int32) ≤ v ∧ v ≤ (99 : Int32) then _ else _
          by_cases c : (0 : Int32) ≤ v ∧ v ≤ (99 : Int32)
          · rw [if_neg (not_not_intro c), if_pos c]
          · rw [if_pos c, if_neg c]
      by_cases c2 : okR (iN n) v
      · rw [if_pos c2] at key
        rw [if_pos c2]
        obtain ⟨k, rfl, _, _, _, h4⟩ := okR_n hn c2
        rw [nz_iN (by omega), nz_iN (by omega), nz_iN (by omega)]
        rw [show 74 + 6 * d + 1 + n = 75 + 6 * d + n by omega, r_becomes h (by omega)] at key
        exact RO_set h (by omega) key
      · rw [if_neg c2] at key
        rw [if_neg c2]
        exact RO_no h key
    · rw [if_neg (fun h => c1 h.2)]
      refine RO_no h ?_
      unfold fX11_renew
      simp only [oc_101, ob, r_isDemand hR hg, tI_pos c0, bd_s, i10, if_false]
      rw [r_in]
      simp (disch := first | assumption | omega) only [lit64_le, le_lit64, le_64, tI_neg c1, bd_s, i00, if_true]
  · rw [if_neg (fun h => c0 h.1)]
    refine RO_no h ?_
    unfold fX11_renew
    simp only [oc_101, ob, r_isDemand hR hg, tI_neg c0, bd_s, i00, if_true]
end OPSB
