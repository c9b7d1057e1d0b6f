/-! ===== which LEFT fits what is seen ===== -/
section FITS
variable {s : Sto} {g : Nat → Nat}
theorem seen_all {v : Nat} : ∀ n, seenB g v n = true → ∀ r, r < n → lfB g r v = true
  | 0, _, r, h => by omega
  | n + 1, h, r, hr => by
    unfold seenB at h
    rw [Bool.and_eq_true] at h
    by_cases c : r = n
    · rw [c]; exact h.2
    · exact seen_all n h.1 r (by omega)
theorem seen_step {v n : Nat} (h : seenB g v n = true) (h2 : lfB g n v = true) : seenB g v (n + 1) = true := by
  unfold seenB
  rw [h, h2]
  rfl
theorem lfB_iff {r v : Nat} : (lfB g r v = true) = (g (111 + 4 * r) < g 1 ∧ g (112 + 4 * r) ≤ g 0 ∧ rlsS (gs g 3 v) (g 1 - g (111 + 4 * r)) (g (112 + 4 * r)) (g (113 + 4 * r)) = g (114 + 4 * r)) := by
  unfold lfB gs
  exact propext ⟨fun h => of_decide_eq_true h, fun h => decide_eq_true h⟩
theorem RR_mk {G : Nat → Nat} (h : Rg s 102 G) (h3 : s.1 101 3 = 0) : RR s G (fun _ => false) := ⟨fun k hk _ => h k hk, fun d hd => by
  rw [h3]
  have : ∀ d < 6, ¬ (((0 : Int32) >>> (iN d &&& 31)) &&& 1 = 1) := by decide
  exact propext ⟨fun h => absurd h (this d hd), fun h => (by cases h)⟩, fun d hd h => by cases h⟩
theorem OKg_left {v : Nat} (hg : OKs g) (hv : v ≤ 20) : OKg (gs g 3 v) := OKg_set hg.1 (by omega) (by omega) (by omega) (by omega) (by omega) (by omega) (fun i hi => by rw [parts_low (by omega) hi]; exact hg.1.2.2.2.1 i hi) (by omega) (by omega) (fun d hd => by omega)
theorem gs3 {v j : Nat} (h : j ≠ 3) : gs g 3 v j = g j := gs_ne h
theorem r_seenL {v : Nat} (hg : OKs g) (hv : v ≤ 20) (h : Rg s 102 (gs g 3 v)) (h3 : s.1 101 3 = 0) (ht : TR s (gs g 3 v) 0) : ∀ n k, g 110 - k < n → k ≤ g 110 → seenB g v k = true → X11_isSeen_L7 (fun μ_70 => (zz ((1 : Int32))).bind fun z => some (z, μ_70)) 101 n (iN k) (lay s) = some (tI (seenB g v (g 110) = true), lay s) := by
  have o := OKg_left hg hv
  have b5 := hg.2.2.2.1
  have b := hg.1.1
  have hR := RR_mk h h3
  have g110 : aI (lay s) 0 102 110 = some (iN (g 110)) := by rw [show aI (lay s) 0 102 110 = some (iN (gs g 3 v 110)) from gi_g (k := 110) h (by omega), gs3 (by omega)]
  intro n
  induction n with
  | zero => intro k h1; omega
  | succ n ih =>
    intro k h1 h2 hs
    rw [X11_isSeen_L7]
    simp only [rr_101_0, ob, g110]
    simp (disch := first | assumption | omega) only [iN_le]
    by_cases c : g 110 ≤ k
    · rw [if_pos c]
      have : k = g 110 := by omega
      subst this
      rw [tI_pos hs]
      rfl
    · rw [if_neg c]
      have hr := hg.2.2.2.2.2.2.1 k (by omega)
      have a0 : aI (lay s) 0 102 (iN (111 + 4 * k)) = some (iN (g (111 + 4 * k))) := by rw [gi_g h (by omega), gs3 (by omega)]
      have a1 : aI (lay s) 0 102 (iN (111 + 4 * k + 1)) = some (iN (g (112 + 4 * k))) := by rw [gi_g h (by omega), gs3 (by omega), show 111 + 4 * k + 1 = 112 + 4 * k by omega]
      have a2 : aI (lay s) 0 102 (iN (111 + 4 * k + 2)) = some (iN (g (113 + 4 * k))) := by rw [gi_g h (by omega), gs3 (by omega), show 111 + 4 * k + 2 = 113 + 4 * k by omega]
      have a3 : aI (lay s) 0 102 (iN (111 + 4 * k + 3)) = some (iN (g (114 + 4 * k))) := by rw [gi_g h (by omega), gs3 (by omega), show 111 + 4 * k + 3 = 114 + 4 * k by omega]
      have rr := r_isRelease (m := g (111 + 4 * k)) (x := g (112 + 4 * k)) (i := g (113 + 4 * k)) (v := g (114 + 4 * k)) hR o ht (fun _ => Nat.zero_le _) (by omega) (by omega) (by omega) (by omega)
      rw [gs3 (by omega), gs3 (by omega)] at rr
      simp only [iN_add, iN_addL, iN_Ladd, iN_mul, iN_mulL, iN_Lmul, a0, a1, a2, a3, ob, oc_101, rr, bd_s]
      by_cases d : lfB g k v = true
      · have d2 := d
        rw [lfB_iff] at d2
        rw [tI_pos d2]
        simp only [i10, if_false]
        exact ih (k + 1) (by omega) (by omega) (seen_step hs d)
      · have d2 := d
        rw [lfB_iff] at d2
        rw [tI_neg d2, tI_neg (fun hh => d (seen_all _ hh k (by omega)))]
        rfl
theorem r_isSeen {v : Nat} (hg : OKs g) (hv : v ≤ 20) (h : Rg s 102 (gs g 3 v)) (h3 : s.1 101 3 = 0) : ∃ t, fX11_isSeen 101 (lay s) = some (tI (seenB g v (g 110) = true), lay t) ∧ Fx s t := by
  have b5 := hg.2.2.2.1
  obtain ⟨y, y1, y2, y3, y4⟩ := r_finds (OKg_left hg hv) (RR_mk h h3) (f := 0) (by omega)
  rw [Nat.min_eq_left (Nat.zero_le _)] at y4
  refine ⟨y, ?_, y2⟩
  unfold fX11_isSeen
  simp only [oc_101, ob]
  rw [show fX11_finds 101 0 (lay s) = _ from y1]
  simp only [bd_s]
  exact r_seenL hg hv (Rg_congr h (y2.1 102 (by omega) (by omega) (by omega) (by omega))) (by rw [y2.2.2.2 3 (by omega)]; exact h3) y4 FU 0 (by unfold FU; omega) (by omega) rfl
theorem upd_upd {f : Nat → Int32} {k : Nat} {a b : Int32} : upd (upd f k a) k b = upd f k b := funext fun j => by
  by_cases c : j = k
  · rw [c, upd_same, upd_same]
  · rw [upd_ne c, upd_ne c, upd_ne c]
theorem Fx_set {t : Sto} {a b : Int32} (h : Fx (uI s 102 3 a) t) : Fx (uI s 102 3 b) (uI t 102 3 b) := by
  refine ⟨fun q h1 h2 h3 h4 => ?_, fun q hq => by rw [rI_2, rI_2, h.2.1 q hq, rI_2], by rw [rI_2, rI_2, h.2.2.1, rI_2], fun k hk => by rw [rI_ne (by omega), rI_ne (by omega), h.2.2.2 k hk, rI_ne (by omega)]⟩
  by_cases c : q = 102
  · subst c
    rw [rI_same, rI_same, h.1 102 h1 h2 h3 h4, rI_same, upd_upd]
  · rw [rI_ne c, rI_ne c, h.1 q h1 h2 h3 h4, rI_ne c]
theorem back3 (h : Rg s 102 g) : uI s 102 3 (iN (g 3)) = s := by
  have e : upd (s.1 102) 3 (iN (g 3)) = s.1 102 := funext fun j => by
    by_cases c : j = 3
    · rw [c, upd_same, h 3 (by omega)]
    · rw [upd_ne c]
  show rI s 102 (upd (s.1 102) 3 (iN (g 3))) = s
  rw [e, rI_self]
theorem iZ20 {n : Nat} (h : n ≤ 20) : iZ ((20 : Int) - (n : Int)) = iN (20 - n) := by
  rw [iN_iZ]
  congr 1
  omega
theorem fit_le : ∀ n, n ≤ 21 → (fitS g n).1 ≤ n
  | 0, _ => Nat.le_refl _
  | n + 1, h => by
    have := fit_le n (by omega)
    unfold fitS
    split
    · show (fitS g n).1 + 1 ≤ n + 1
      omega
    · omega
theorem r_fitsL {v1 x : Int32} (hg : OKs g) (h : Rg s 102 g) (h3 : s.1 101 3 = 0) {G : Int32 → Int32 → Mem → Option (Int32 × Mem)} : ∀ m n (w : Nat) (t : Sto), 21 - n < m → n ≤ 21 → Fx (uI s 102 3 (iN w)) t → ∃ w' u, X11_fits_L29 G 101 v1 x m (iN (fitS g n).1) (iZ (fitS g n).2) (iZ ((20 : Int) - (n : Int))) (lay t) = G (iN (fitS g 21).1) (iZ (fitS g 21).2) (lay u) ∧ Fx (uI s 102 3 (iN w')) u := by
  intro m
  induction m with
  | zero => intro n w t h1; omega
  | succ m ih =>
    intro n w t h1 h2 hF
    rw [X11_fits_L29]
    by_cases c : n = 21
    · subst c
      rw [if_pos (by decide)]
      exact ⟨w, t, rfl, hF⟩
    · have hn : n ≤ 20 := by omega
      have e20 := iZ20 hn
      have ne : ¬ (iZ ((20 : Int) - (n : Int)) < 0) := by rw [e20]; exact iN_nn (by omega)
      rw [if_neg ne]
      have nx : iZ ((20 : Int) - (n : Int)) + -1 = iZ ((20 : Int) - ((n + 1 : Nat) : Int)) := by
        rw [show (-1 : Int32) = iZ (-1) from rfl, iZ_add]
        congr 1
        omega
      have w1 : sI (lay t) 102 3 (iZ ((20 : Int) - (n : Int))) = some (lay (uI t 102 3 (iN (20 - n)))) := by
        rw [e20]
        exact si_102 (i := 3) (by omega)
      have hF2 : Fx (uI s 102 3 (iN (20 - n))) (uI t 102 3 (iN (20 - n))) := Fx_set hF
      have hR2 : Rg (uI t 102 3 (iN (20 - n))) 102 (gs g 3 (20 - n)) := Rg_congr (Rg_set (v := 20 - n) h (by omega)) (hF2.1 102 (by omega) (by omega) (by omega) (by omega))
      have h32 : (uI t 102 3 (iN (20 - n))).1 101 3 = 0 := by rw [hF2.2.2.2 3 (by omega), rI_ne (by omega)]; exact h3
      obtain ⟨y, y1, y2⟩ := r_isSeen hg (v := 20 - n) (by omega) hR2 h32
      simp only [rr_101_0, ob, w1, oc_101]
      rw [y1]
      simp only [bd_s, nx]
      have hf := fit_le (g := g) n (by omega)
      have st : fitS g (n + 1) = if seenB g (20 - n) (g 110) = true then ((fitS g n).1 + 1, ((20 - n : Nat) : Int)) else fitS g n := rfl
      by_cases d : seenB g (20 - n) (g 110) = true
      · rw [tI_pos d]
        rw [if_pos d] at st
        simp only [i10, if_false, iN_addL]
        obtain ⟨w', u, u1, u2⟩ := ih (n + 1) (20 - n) y (by omega) (by omega) (hF2.tr y2)
        refine ⟨w', u, ?_, u2⟩
        rw [← u1, st]
        show X11_fits_L29 G 101 v1 x m (iN ((fitS g n).1 + 1)) (iZ ((20 : Int) - (n : Int))) _ _ = X11_fits_L29 G 101 v1 x m (iN ((fitS g n).1 + 1)) (iZ ((20 - n : Nat) : Int)) _ _
        rw [e20, iN_iZ (20 - n)]
      · rw [tI_neg d]
        rw [if_neg d] at st
        simp only [i00, if_true]
        obtain ⟨w', u, u1, u2⟩ := ih (n + 1) (20 - n) y (by omega) (by omega) (hF2.tr y2)
        refine ⟨w', u, ?_, u2⟩
        rw [← u1, st]
theorem r_fits (hg : OKs g) (h : Rg s 102 g) (h3 : s.1 101 3 = 0) {v : Nat} (hv : v ≤ 1) : ∃ u, fX11_fits 101 (iN v) (lay s) = some (if v = 0 then iN (fitS g 21).1 else iZ (fitS g 21).2, lay u) ∧ Fx s u := by
  have c1 : (0 : Int32) ≤ iN v ∧ iN v ≤ (1 : Int32) := by rw [iN_Lle (by omega) (by omega), iN_leL (by omega) (by omega)]; omega
  obtain ⟨w', u, u1, u2⟩ := r_fitsL (v1 := iN v) (x := iN (g 3)) (G := fun v3_62 v4_62 μ_62 => (gR μ_62 101 11 0).bind fun x63 => (sI μ_62 x63 ((3 : Int32)) (iN (g 3))).bind fun μ68 => if iN v = 0 then (some (v3_62, μ68)) else (some (v4_62, μ68))) hg h h3 FU 0 (g 3) s (by unfold FU; omega) (by omega) (by rw [back3 h]; exact Fx.rf)
  have w1 : sI (lay u) 102 3 (iN (g 3)) = some (lay (uI u 102 3 (iN (g 3)))) := si_102 (i := 3) (by omega)
  have hF := Fx_set (b := iN (g 3)) u2
  rw [back3 h] at hF
  refine ⟨uI u 102 3 (iN (g 3)), ?_, hF⟩
  unfold fX11_fits
  rw [r_in]
  simp (disch := first | assumption | omega) only [lit64_le, le_lit64, le_64, tI_pos c1, bd_s, i10, if_false, rr_101_0, ob]
  rw [show aI (lay s) 0 102 3 = some (iN (g 3)) from gi_g (k := 3) h (by omega)]
  simp only [ob]
  refine u1.trans ?_
  simp only [rr_101_0, ob, w1]
  simp (disch := first | assumption | omega) only [iN_eqL]
  by_cases c : v = 0
  · rw [if_pos c, if_pos c]
  · rw [if_neg c, if_neg c]
end FITS
