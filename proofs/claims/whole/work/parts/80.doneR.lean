/-! ===== the reference's side ===== -/
section DONER
variable {s t : Sto} {g w : Nat → Nat} {k : Nat}
theorem RR_mkd (h : Rg s 102 g) (h0 : s.1 101 3 = 0) : RR s g (fun _ => false) := ⟨fun k hk _ => h k hk, fun d hd => by
  rw [h0]
  have : ∀ d < 6, ¬ (((0 : Int32) >>> (iN d &&& 31)) &&& 1 = 1) := by decide
  exact propext ⟨fun h => absurd h (this d hd), fun h => (by cases h)⟩, fun d hd h => by cases h⟩
theorem r_pasL {G : Mem → Option (Int32 × Mem)} {a b c d n : Nat} (h : Rg s 102 g) (hk : k < 12) (ha : a ≤ 2) (e2 : s.1 114 (7 * k + 2) = iN b) (e3 : s.1 114 (7 * k + 3) = iN c) (e4 : s.1 114 (7 * k + 4) = iN d) : ∃ t, X11_isDone_L215 G 101 (iN (7 * k)) (iN a) (n + 4) 0 (lay s) = G (lay t) ∧ Rg t 102 (g3 g a b c d) ∧ Krf s t := by
  have step : ∀ (m j : Nat) (z : Sto) (g' : Nat → Nat) (v : Nat), j < 3 → Rg z 102 g' → z.1 114 (7 * k + 2 + j) = iN v → X11_isDone_L215 G 101 (iN (7 * k)) (iN a) (m + 1) (iN j) (lay z) = X11_isDone_L215 G 101 (iN (7 * k)) (iN a) m (iN (j + 1)) (lay (uI z 102 (40 + 3 * a + j) (iN v))) := by
    intro m j z g' v hj hz hv
    rw [X11_isDone_L215, if_neg (by rw [iN_Lle (by omega) (by omega)]; omega)]
    simp only [rr_101_0, rr_101_32, ob, iN_addL, iN_Lmul, iN_Ladd, iN_add, ai_114 (show 7 * k + 2 + j < 84 by omega), hv, si_102 (show 40 + 3 * a + j < 173 by omega)]
  have r1 := Rg_set (k := 40 + 3 * a + 0) (v := b) h (by omega)
  have r2 := Rg_set (k := 40 + 3 * a + 1) (v := c) r1 (by omega)
  have r3 := Rg_set (k := 40 + 3 * a + 2) (v := d) r2 (by omega)
  refine ⟨_, ?_, r3, (Krf_rI.tr Krf_rI).tr Krf_rI⟩
  rw [show (0 : Int32) = iN 0 from rfl]
  rw [step (n + 3) 0 s g b (by omega) h e2]
  rw [step (n + 2) (0 + 1) _ _ c (by omega) r1 (by rw [rI_ne (by omega)]; exact e3)]
  rw [step (n + 1) (0 + 1 + 1) _ _ d (by omega) r2 (by rw [rI_ne (by omega), rI_ne (by omega)]; exact e4)]
  rw [X11_isDone_L215, if_pos (by decide)]
theorem r_isDone_100 (hs : OKs g) (h : Rg s 102 g) (h0 : s.1 101 3 = 0) (hk : k < 12) (e : w 0 = 100) (hv : ∀ i, i < slw w → s.1 114 (7 * k + i) = iN (w i)) : RO s (fX11_isDone 101 (iN (7 * k))) (opCl g w) := by
  have es := slw_of e
  have en : nsl (FM (fmI 100)) = 6 := by decide
  have e0 : s.1 114 (7 * k) = (100 : Int32) := by
    have := hv 0 (by omega)
    rw [Nat.add_zero, e] at this
    exact this
  have e1 := hv 1 (by omega)
  have e2 := hv 2 (by omega)
  have e3 := hv 3 (by omega)
  have e4 := hv 4 (by omega)
  have e5 := hv 5 (by omega)
  have e6 := hv 6 (by omega)
  have eo : opCl g w = yesO (opDem g (iN (w 1)) (iN (w 2)) (iN (w 3)) (iN (w 4)) (iN (w 5)) (iN (w 6))) := by
    unfold opCl
    rw [if_pos e]
  rw [eo]
  refine RO_eq ?_ (RO_yes (ro_dem hs.1 (RR_mkd h h0) h (iN (w 1)) (iN (w 2)) (iN (w 3)) (iN (w 4)) (iN (w 5)) (iN (w 6))))
  unfold fX11_isDone
  simp only [rr_101_32, ob, iN_addL, ai_114 (show 7 * k < 84 by omega), ai_114 (show 7 * k + 1 < 84 by omega), ai_114 (show 7 * k + 2 < 84 by omega), ai_114 (show 7 * k + 3 < 84 by omega), ai_114 (show 7 * k + 4 < 84 by omega), ai_114 (show 7 * k + 5 < 84 by omega), ai_114 (show 7 * k + 6 < 84 by omega), e0, e1, e2, e3, e4, e5, e6]
  simp only [show ((100 : Int32) = 99) = False by decide, show ((100 : Int32) = 100) = True by decide, if_true, if_false, oc_101, ob]
theorem r_isDone_101 (hs : OKs g) (h : Rg s 102 g) (h0 : s.1 101 3 = 0) (hk : k < 12) (e : w 0 = 101) (hv : ∀ i, i < slw w → s.1 114 (7 * k + i) = iN (w i)) : RO s (fX11_isDone 101 (iN (7 * k))) (opCl g w) := by
  have es := slw_of e
  have en : nsl (FM (fmI 101)) = 2 := by decide
  have e0 : s.1 114 (7 * k) = (101 : Int32) := by
    have := hv 0 (by omega)
    rw [Nat.add_zero, e] at this
    exact this
  have e1 := hv 1 (by omega)
  have e2 := hv 2 (by omega)
  have eo : opCl g w = yesO (opMon g (iN (w 1)) 0 (iN (w 2))) := by
    unfold opCl
    rw [if_neg (show ¬ w 0 = 100 by omega), if_neg (show ¬ w 0 = 113 by omega), if_neg (show ¬ w 0 = 112 by omega), if_pos e]
  rw [eo]
  refine RO_eq ?_ (RO_yes (ro_mon h (iN (w 1)) 0 (iN (w 2))))
  unfold fX11_isDone
  simp only [rr_101_32, ob, iN_addL, ai_114 (show 7 * k < 84 by omega), ai_114 (show 7 * k + 1 < 84 by omega), ai_114 (show 7 * k + 2 < 84 by omega), ai_114 (show 7 * k + 3 < 84 by omega), ai_114 (show 7 * k + 4 < 84 by omega), ai_114 (show 7 * k + 5 < 84 by omega), ai_114 (show 7 * k + 6 < 84 by omega), e0, e1, e2]
  simp only [show ((101 : Int32) = 99) = False by decide, show ((101 : Int32) = 100) = False by decide, show ((101 : Int32) = 112) = False by decide, show ((101 : Int32) = 113) = False by decide, if_false, oc_101, ob]
  simp only [jn_s, if_true, rr_101_32, ob, ai_114 (show 7 * k + 2 < 84 by omega), e2, oc_101]
theorem r_isDone_102 (hs : OKs g) (h : Rg s 102 g) (h0 : s.1 101 3 = 0) (hk : k < 12) (e : w 0 = 102) (hv : ∀ i, i < slw w → s.1 114 (7 * k + i) = iN (w i)) : RO s (fX11_isDone 101 (iN (7 * k))) (opCl g w) := by
  have es := slw_of e
  have en : nsl (FM (fmI 102)) = 2 := by decide
  have e0 : s.1 114 (7 * k) = (102 : Int32) := by
    have := hv 0 (by omega)
    rw [Nat.add_zero, e] at this
    exact this
  have e1 := hv 1 (by omega)
  have e2 := hv 2 (by omega)
  have eo : opCl g w = yesO (opMon g (iN (w 1)) 1 (iN (w 2))) := by
    unfold opCl
    rw [if_neg (show ¬ w 0 = 100 by omega), if_neg (show ¬ w 0 = 113 by omega), if_neg (show ¬ w 0 = 112 by omega), if_neg (show ¬ w 0 = 101 by omega), if_pos e]
  rw [eo]
  refine RO_eq ?_ (RO_yes (ro_mon h (iN (w 1)) 1 (iN (w 2))))
  unfold fX11_isDone
  simp only [rr_101_32, ob, iN_addL, ai_114 (show 7 * k < 84 by omega), ai_114 (show 7 * k + 1 < 84 by omega), ai_114 (show 7 * k + 2 < 84 by omega), ai_114 (show 7 * k + 3 < 84 by omega), ai_114 (show 7 * k + 4 < 84 by omega), ai_114 (show 7 * k + 5 < 84 by omega), ai_114 (show 7 * k + 6 < 84 by omega), e0, e1, e2]
  simp only [show ((102 : Int32) = 99) = False by decide, show ((102 : Int32) = 100) = False by decide, show ((102 : Int32) = 112) = False by decide, show ((102 : Int32) = 113) = False by decide, if_false, oc_101, ob]
  simp only [jn_s, show ((102 : Int32) = 101) = False by decide, if_false, rr_101_32, ob, ai_114 (show 7 * k + 2 < 84 by omega), e2, oc_101]
theorem r_isDone_99 (hs : OKs g) (h : Rg s 102 g) (h0 : s.1 101 3 = 0) (hk : k < 12) (e : w 0 = 99) (hv : ∀ i, i < slw w → s.1 114 (7 * k + i) = iN (w i)) : RO s (fX11_isDone 101 (iN (7 * k))) (opCl g w) := by
  have es := slw_of e
  have en : nsl (FM (fmI 99)) = 1 := by decide
  have e0 : s.1 114 (7 * k) = (99 : Int32) := by
    have := hv 0 (by omega)
    rw [Nat.add_zero, e] at this
    exact this
  have e1 := hv 1 (by omega)
  have eo : opCl g w = yesO (opPut g 0 (iN (w 1))) := by
    unfold opCl
    rw [if_neg (show ¬ w 0 = 100 by omega), if_neg (show ¬ w 0 = 113 by omega), if_neg (show ¬ w 0 = 112 by omega), if_neg (show ¬ w 0 = 101 by omega), if_neg (show ¬ w 0 = 102 by omega)]
  rw [eo]
  refine RO_eq ?_ (RO_yes (ro_put h 0 (iN (w 1))))
  unfold fX11_isDone
  simp only [rr_101_32, ob, iN_addL, ai_114 (show 7 * k < 84 by omega), ai_114 (show 7 * k + 1 < 84 by omega), ai_114 (show 7 * k + 2 < 84 by omega), ai_114 (show 7 * k + 3 < 84 by omega), ai_114 (show 7 * k + 4 < 84 by omega), ai_114 (show 7 * k + 5 < 84 by omega), ai_114 (show 7 * k + 6 < 84 by omega), e0, e1]
  simp only [show ((99 : Int32) = 99) = True by decide, if_true, if_false, oc_101, ob]
theorem r_isDone_112 (hs : OKs g) (h : Rg s 102 g) (h0 : s.1 101 3 = 0) (hk : k < 12) (hw : goodW w) (e : w 0 = 112) (hv : ∀ i, i < slw w → s.1 114 (7 * k + i) = iN (w i)) : RO s (fX11_isDone 101 (iN (7 * k))) (opCl g w) := by
  have es := slw_of e
  have en : nsl (FM (fmI 112)) = 4 := by decide
  have e0 : s.1 114 (7 * k) = (112 : Int32) := by
    have := hv 0 (by omega)
    rw [Nat.add_zero, e] at this
    exact this
  have e1 := hv 1 (by omega)
  have e2 := hv 2 (by omega)
  have e3 := hv 3 (by omega)
  have e4 := hv 4 (by omega)
  have eo : opCl g w = opPas g (w 1) (w 2) (w 3) (w 4) := by
    unfold opCl
    rw [if_neg (show ¬ w 0 = 100 by omega), if_neg (show ¬ w 0 = 113 by omega), if_pos e]
  have b := hw.2 e
  have run : fX11_isDone 101 (iN (7 * k)) (lay s) = if w 1 ≤ 2 then (if w 2 + w 3 + w 4 = 0 then some (0, lay s) else X11_isDone_L215 (fun μ_249 => (zz ((1 : Int32))).bind fun z => some (z, μ_249)) 101 (iN (7 * k)) (iN (w 1)) FU ((0 : Int32)) (lay s)) else some (0, lay s) := by
    unfold fX11_isDone
    simp only [rr_101_32, ob, iN_addL, ai_114 (show 7 * k < 84 by omega), ai_114 (show 7 * k + 1 < 84 by omega), e0, e1]
    simp only [show ((112 : Int32) = 99) = False by decide, show ((112 : Int32) = 100) = False by decide, show ((112 : Int32) = 112) = True by decide, if_true, if_false, r_isState, bd_s]
    by_cases c : w 1 ≤ 2
    · have i1 : 0 ≤ iN (w 1) ∧ iN (w 1) ≤ (2 : Int32) := ⟨by rw [iN_Lle (by omega) (by omega)]; omega, by rw [iN_leL (by omega) (by omega)]; omega⟩
      simp only [tI_pos i1, i10, if_false, if_pos c, rr_101_32, ob, ai_114 (show 7 * k + 2 < 84 by omega), ai_114 (show 7 * k + 3 < 84 by omega), ai_114 (show 7 * k + 4 < 84 by omega), e2, e3, e4, sum_iff b.2.1 b.2.2.1 b.2.2.2, zz0]
    · have i1 : ¬ (0 ≤ iN (w 1) ∧ iN (w 1) ≤ (2 : Int32)) := by
        have := b.1
        rw [iN_leL (by omega) (by omega)]
        omega
      simp only [tI_neg i1, i00, if_true, if_neg c, zz0, ob]
  rw [eo]
  unfold opPas
  by_cases c1 : w 1 ≤ 2
  · by_cases c2 : w 2 + w 3 + w 4 = 0
    · rw [if_neg (fun h => h.2 c2)]
      rw [if_pos c1, if_pos c2] at run
      exact RO_no h run
    · rw [if_pos ⟨c1, c2⟩]
      rw [if_pos c1, if_neg c2] at run
      obtain ⟨t, t1, t2, t3⟩ := r_pasL (n := 9996) (G := fun μ_249 => (zz ((1 : Int32))).bind fun z => some (z, μ_249)) h hk c1 e2 e3 e4
      have ef : FU = 9996 + 4 := rfl
      rw [ef, t1] at run
      exact ⟨t, run.trans rfl, t2, t3⟩
  · rw [if_neg (fun h => c1 h.1)]
    rw [if_neg c1] at run
    exact RO_no h run
theorem r_isDone_113 (hs : OKs g) (h : Rg s 102 g) (h0 : s.1 101 3 = 0) (hk : k < 12) (e : w 0 = 113) (hv : ∀ i, i < slw w → s.1 114 (7 * k + i) = iN (w i)) : RO s (fX11_isDone 101 (iN (7 * k))) (opCl g w) := by
  have es := slw_of e
  have en : nsl (FM (fmI 113)) = 4 := by decide
  have e0 : s.1 114 (7 * k) = (113 : Int32) := by
    have := hv 0 (by omega)
    rw [Nat.add_zero, e] at this
    exact this
  have e1 := hv 1 (by omega)
  have e2 := hv 2 (by omega)
  have e3 := hv 3 (by omega)
  have e4 := hv 4 (by omega)
  have eo : opCl g w = andO (opInf g (iN (w 1)) 0 (iN (w 2))) (fun g => andO (opInf g (iN (w 1)) 1 (iN (w 3))) (fun g => yesO (opInf g (iN (w 1)) 2 (iN (w 4))))) := by
    unfold opCl
    rw [if_neg (show ¬ w 0 = 100 by omega), if_pos e]
  rw [eo]
  by_cases c : 0 ≤ iN (w 1) ∧ iN (w 1) ≤ (11 : Int32)
  · refine RO_eq ?_ (RO_and (F := fun μ129 => (gR μ129 101 11 32).bind fun x139 => (aI μ129 0 x139 (iN (7 * k) + (3 : Int32))).bind fun x145 => (isC μ129 101 11).bind fun _ => bd (fX11_inflow 101 (iN (w 1)) ((1 : Int32)) x145 μ129) fun x146 μ146 => if x146 < 0 then ((zz ((0 : Int32))).bind fun z => some (z, μ146)) else ((gR μ146 101 11 32).bind fun x156 => (aI μ146 0 x156 (iN (7 * k) + (4 : Int32))).bind fun x162 => (isC μ146 101 11).bind fun _ => bd (fX11_inflow 101 (iN (w 1)) ((2 : Int32)) x162 μ146) fun x163 μ163 => if x163 < 0 then ((zz ((0 : Int32))).bind fun z => some (z, μ163)) else ((zz ((1 : Int32))).bind fun z => some (z, μ163)))) (ro_inf h (iN (w 1)) 0 (iN (w 2))) (fun t ht kt => RO_eq (f' := fun μ => bd (fX11_inflow 101 (iN (w 1)) ((1 : Int32)) (iN (w 3)) μ) fun x146 μ146 => if x146 < 0 then ((zz ((0 : Int32))).bind fun z => some (z, μ146)) else ((gR μ146 101 11 32).bind fun x156 => (aI μ146 0 x156 (iN (7 * k) + (4 : Int32))).bind fun x162 => (isC μ146 101 11).bind fun _ => bd (fX11_inflow 101 (iN (w 1)) ((2 : Int32)) x162 μ146) fun x163 μ163 => if x163 < 0 then ((zz ((0 : Int32))).bind fun z => some (z, μ163)) else ((zz ((1 : Int32))).bind fun z => some (z, μ163)))) ?_ (RO_and (F := fun μ146 => (gR μ146 101 11 32).bind fun x156 => (aI μ146 0 x156 (iN (7 * k) + (4 : Int32))).bind fun x162 => (isC μ146 101 11).bind fun _ => bd (fX11_inflow 101 (iN (w 1)) ((2 : Int32)) x162 μ146) fun x163 μ163 => if x163 < 0 then ((zz ((0 : Int32))).bind fun z => some (z, μ163)) else ((zz ((1 : Int32))).bind fun z => some (z, μ163))) (ro_inf ht (iN (w 1)) 1 (iN (w 3))) (fun t2 ht2 kt2 => RO_eq (f' := fun μ => bd (fX11_inflow 101 (iN (w 1)) ((2 : Int32)) (iN (w 4)) μ) fun x163 μ163 => if x163 < 0 then ((zz ((0 : Int32))).bind fun z => some (z, μ163)) else ((zz ((1 : Int32))).bind fun z => some (z, μ163))) ?_ (RO_yes (ro_inf ht2 (iN (w 1)) 2 (iN (w 4))))))))
    · unfold fX11_isDone
      simp only [rr_101_32, ob, ai_114 (show 7 * k < 84 by omega), iN_addL, ai_114 (show 7 * k + 1 < 84 by omega), ai_114 (show 7 * k + 2 < 84 by omega), e0, e1, e2]
      simp only [show ((113 : Int32) = 99) = False by decide, show ((113 : Int32) = 100) = False by decide, show ((113 : Int32) = 112) = False by decide, show ((113 : Int32) = 113) = True by decide, if_true, if_false, r_isMonth, tI_pos c, bd_s, i10, oc_101, ob, rr_101_32, ai_114 (show 7 * k + 2 < 84 by omega), e2]
    · have q3 : t.1 114 (7 * k + 3) = iN (w 3) := by rw [kt.1 114 (by omega)]; exact e3
      simp only [rr_101_32, ob, iN_addL, ai_114 (show 7 * k + 3 < 84 by omega), q3, oc_101]
    · have q4 : t2.1 114 (7 * k + 4) = iN (w 4) := by rw [kt2.1 114 (by omega), kt.1 114 (by omega)]; exact e4
      simp only [rr_101_32, ob, iN_addL, ai_114 (show 7 * k + 4 < 84 by omega), q4, oc_101]
  · have en : opInf g (iN (w 1)) 0 (iN (w 2)) = (-1, g) := if_neg (fun h => c h.1)
    rw [en]
    unfold andO
    rw [if_pos (show ((-1 : Int32), g).1 < 0 from m1_neg)]
    refine RO_no h ?_
    unfold fX11_isDone
    simp only [rr_101_32, ob, ai_114 (show 7 * k < 84 by omega), iN_addL, ai_114 (show 7 * k + 1 < 84 by omega), e0, e1]
    simp only [show ((113 : Int32) = 99) = False by decide, show ((113 : Int32) = 100) = False by decide, show ((113 : Int32) = 112) = False by decide, show ((113 : Int32) = 113) = True by decide, if_true, if_false, r_isMonth, tI_neg c, bd_s, i00, zz0, ob]
theorem r_isDone (hs : OKs g) (h : Rg s 102 g) (h0 : s.1 101 3 = 0) (hk : k < 12) (hw : goodW w) (hv : ∀ i, i < slw w → s.1 114 (7 * k + i) = iN (w i)) : RO s (fX11_isDone 101 (iN (7 * k))) (opCl g w) := by
  rcases good_c hw with e | e | e | e | e | e
  · exact r_isDone_100 hs h h0 hk e hv
  · exact r_isDone_113 hs h h0 hk e hv
  · exact r_isDone_112 hs h h0 hk hw e hv
  · exact r_isDone_101 hs h h0 hk e hv
  · exact r_isDone_102 hs h h0 hk e hv
  · exact r_isDone_99 hs h h0 hk e hv
theorem r_doL {W : Nat → Nat → Nat} {n : Nat} (hg : OKs g) (hn : n ≤ 12) (hw : ∀ k, k < n → goodW (W k)) : ∀ (m k : Nat) (s : Sto), n - k < m → k ≤ n → Rg s 102 (foldS g W k).2 → s.1 101 3 = 0 → Wv s 114 n W → ∃ t, X11_read_L85 (fun v2_115 μ_115 => some (v2_115, μ_115)) 101 (iN n) m (iN (foldS g W k).1) (iN k) (lay s) = some (iN (foldS g W n).1, lay t) ∧ Rg t 102 (foldS g W n).2 ∧ Krf s t := by
  intro m
  induction m with
  | zero => intro k s h; omega
  | succ m ih =>
    intro k s h1 h2 hB h3 hW
    rw [X11_read_L85]
    simp (disch := first | assumption | omega) only [iN_le]
    by_cases c : n ≤ k
    · rw [if_pos c]
      have : k = n := by omega
      subst this
      exact ⟨s, rfl, hB, Krf.rf⟩
    · rw [if_neg c]
      obtain ⟨t, t1, t2, t3⟩ := r_isDone (ok_fold hg k (fun j hj => hw j (by omega))).1 hB h3 (show k < 12 by omega) (hw k (by omega)) (fun i hi => hW k i (by omega) hi)
      simp only [oc_101, ob, iN_Lmul, iN_addL, Nat.add_zero]
      rw [t1]
      simp only [bd_s]
      have e2 : (foldS g W (k + 1)).2 = (opCl (foldS g W k).2 (W k)).2 := rfl
      have e1 : (foldS g W (k + 1)).1 = if (opCl (foldS g W k).2 (W k)).1 = 0 then (foldS g W k).1 else (foldS g W k).1 + 1 := rfl
      obtain ⟨u, u1, u2, u3⟩ := ih (k + 1) t (by omega) (by omega) (by rw [e2]; exact t2) (by rw [t3.1 101 (by omega)]; exact h3) (fun a i ha hi => by rw [t3.1 114 (by omega)]; exact hW a i ha hi)
      refine ⟨u, ?_, u2, t3.tr u3⟩
      by_cases d : (opCl (foldS g W k).2 (W k)).1 = 0
      · rw [if_pos d] at e1
        rw [if_pos d, ← e1]
        exact u1
      · rw [if_neg d] at e1
        rw [if_neg d, ← e1]
        exact u1
end DONER
