/-- months in which a demand wants, and in which it gets all -/
def wnC (g : Nat → Nat) (d : Nat) : Nat → Nat
  | 0 => 0
  | t + 1 => wnC g d t + if 0 < wantS g d (t % 12) then 1 else 0
def mtC (g R : Nat → Nat) (rl x0 d : Nat) : Nat → Nat
  | 0 => 0
  | t + 1 => mtC g R rl x0 d t + if 0 < wantS g d (t % 12) ∧ gotS g (t % 12) (rwC g R rl x0 t) (rkS g d) = wantS g d (t % 12) then 1 else 0
section COURSEC
variable {s : Sto} {g R : Nat → Nat} {rl x0 : Nat}
/-- what the reference holds behind k months -/
def Rs (s : Sto) (g R : Nat → Nat) (rl x0 : Nat) (v5 : Int32) (k : Nat) : Prop := s.1 101 19 = iZ (smY g R rl x0 k) ∧ s.1 101 20 = iN (smP g R rl x0 k) ∧ s.1 101 21 = iN (smD g R rl x0 k) ∧ s.1 101 22 = iN (smO g R rl x0 k) ∧ s.1 101 23 = iN (lsC g R rl x0 k) ∧ (∀ j, j ≤ k → s.1 111 j = iN (crS g R rl x0 j)) ∧ (∀ d, d < g 73 → v5 = iN d → s.1 101 26 = iN (wnC g d k) ∧ s.1 101 25 = iN (mtC g R rl x0 d k))
def Kh (s t : Sto) : Prop := (∀ q, q ≠ 101 → q ≠ 108 → q ≠ 111 → t.1 q = s.1 q) ∧ t.2 = s.2 ∧ (∀ k, k < 10 ∨ (15 < k ∧ k < 19) ∨ k = 24 ∨ 26 < k → t.1 101 k = s.1 101 k)
theorem Kh.rf : Kh s s := ⟨fun _ _ _ _ => rfl, rfl, fun _ _ => rfl⟩
theorem Kh.tr {t u : Sto} (h1 : Kh s t) (h2 : Kh t u) : Kh s u := ⟨fun q a b c => (h2.1 q a b c).trans (h1.1 q a b c), h2.2.1.trans h1.2.1, fun k a => (h2.2.2 k a).trans (h1.2.2 k a)⟩
theorem Kh.b {t : Sto} (h : Kh s t) : Kb s t := ⟨fun q hq => h.1 q (by unfold SP at hq; omega) (by unfold SP at hq; omega) (by unfold SP at hq; omega), by rw [h.1 0 (by omega) (by omega) (by omega)], fun k hk => h.2.2 k (by omega), by rw [h.2.1], fun ht => by unfold Tw at *; rw [h.2.1]; exact ht⟩
theorem Kh.c {t : Sto} (h : Kh s t) : Kc s t := ⟨fun k _ => by rw [h.1 0 (by omega) (by omega) (by omega)], h.1 57 (by omega) (by omega) (by omega), h.1 58 (by omega) (by omega) (by omega), by rw [h.2.1], by rw [h.2.1]⟩
theorem Kh_Gx {t : Sto} (h : Gx s t) : Kh s t := ⟨fun q a b _ => h.1 q a b, h.2.1, fun k hk => h.2.2 k (by omega)⟩
theorem r_replL {r N n : Nat} {v5 : Int32} (hg : OKg g) (hr : r < 4) (hN : N ≤ 24) (hn : n ≤ N) (hrl : rl ≤ 20) (hx0 : x0 ≤ g 0) (hR : ∀ i, i < N → R i ≤ 9) (h5 : v5 = -1 ∨ ∃ d, d < g 73 ∧ v5 = iN d) : ∀ m k (t : Sto), n - k < m → k ≤ n → RR t g (fun _ => false) → RLn t g → TR t g 0 → (∀ i, i < N → t.1 105 (24 * r + i) = iN (R i)) → Rs t g R rl x0 v5 k → ∃ u, X11_replays_L50 (fun μ_281 => some ((), μ_281)) 101 (iN r) (iN rl) (iN n) v5 m (iN k) (lay t) = some ((), lay u) ∧ Kh t u ∧ Rs u g R rl x0 v5 n := by
  have b := hg.1
  intro m
  induction m with
  | zero => intro k t h1; omega
  | succ m ih =>
    intro k t h1 h2 hRR hLn hTR h105 hC
    obtain ⟨c19, c20, c21, c22, c23, c111, cd⟩ := hC
    rw [X11_replays_L50]
    simp (disch := first | assumption | omega) only [iN_le]
    by_cases c : n ≤ k
    · rw [if_pos c]
      have : k = n := by omega
      subst this
      exact ⟨t, rfl, Kh.rf, c19, c20, c21, c22, c23, c111, cd⟩
    · rw [if_neg c]
      have k24 : k < 24 := by omega
      have hm : k % 12 < 12 := Nat.mod_lt _ (by omega)
      have hcr := cr_le (g := g) (R := R) (rl := rl) hx0 k
      have hcr1 := cr_le (g := g) (R := R) (rl := rl) hx0 (k + 1)
      have hls := ls_le (g := g) (R := R) (rl := rl) hx0 k
      have hRk := hR k (by omega)
      have hrc := rlC_le (g := g) (R := R) (rl := rl) (t := k) (x := crS g R rl x0 k) hrl
      obtain ⟨w, w1, w2, w3, w4⟩ := r_goes (s := t) hRR hLn hg (m := k % 12) (x := crS g R rl x0 k) (q := R k) (r := rlC g R rl k (crS g R rl x0 k)) hm (by omega) (by omega) (by omega)
      obtain ⟨q10, q11, q12, q13, q14, q15⟩ := w3
      have L40 : ∀ j, j < 40 → t.1 102 j = iN (g j) := fun j hj => hRR.1 j (by omega) (fun d _ h => by cases h)
      have go : ∀ K : Int32 → Mem → Option (Unit × Mem), jn K (fun j113 => if iN rl ≤ 0 then ((isC (lay t) 101 11).bind fun _ => bd (fX11_isAhead 101 (iN (k % 12)) (lay t)) fun x84 μ84 => if x84 = 0 then (j113 ((0 : Int32)) μ84) else ((gR μ84 101 11 7).bind fun x91 => (isC μ84 101 11).bind fun _ => bd (fX11_nearest 101 (iN r) (iN k) μ84) fun x102 μ102 => bd (fX11_place (iN (k % 12)) (iN (crS g R rl x0 k)) x102 μ102) fun x105 μ105 => (aI μ105 0 x91 x105).bind fun x108 => j113 x108 μ105)) else (j113 (iN rl) (lay t))) = K (iN (rlC g R rl k (crS g R rl x0 k))) (lay t) := by
        intro K
        simp only [jn_s]
        by_cases c0 : rl = 0
        · rw [if_pos (by rw [c0]; decide)]
          simp only [oc_101, ob, r_isAhead hRR hg, bd_s]
          have e1 : (0 ≤ iN (k % 12) ∧ iN (k % 12) < iN (g 1)) = (k % 12 < g 1) := by rw [iN_Lle (by omega) (by omega), iN_lt (by omega) (by omega)]; exact propext ⟨fun h => h.2, fun h => ⟨Nat.zero_le _, h⟩⟩
          simp only [e1]
          by_cases d : k % 12 < g 1
          · have hl := ix_lt2 (m := k % 12) (x := crS g R rl x0 k) (i := nrS g (k % 12) (iN (R k))) (by omega) (by omega) nrS_lt
            simp only [tI_pos d, i10, if_false, rr_101_7, ob, oc_101, r_near L40 hr k24 (h105 k (by omega)), bd_s, r_place, ai_107 hl, hTR.2 _ _ _ (Nat.zero_le _) d hcr nrS_lt]
            unfold rlC
            rw [if_pos c0, if_pos d]
          · simp only [tI_neg d, i00, if_true]
            unfold rlC
            rw [if_pos c0, if_neg d]
            rfl
        · rw [if_neg (by rw [iN_leL (by omega) (by omega)]; omega)]
          unfold rlC
          rw [if_neg c0]
      simp (disch := first | assumption | omega) only [rmI_L, ob, rr_101_24]
      rw [ai_111 (by omega), c111 k (Nat.le_refl _)]
      simp only [ob]
      rw [go]
      simp only [rr_101_5, ob, iN_add, iN_addL, iN_Ladd, iN_mul, iN_mulL, iN_Lmul]
      rw [ai_105 (by omega), h105 k (by omega)]
      simp only [ob, oc_101]
      rw [w1]
      simp only [bd_s, gi_101_19, gi_101_20, gi_101_21, gi_101_22, gi_101_23, gi_101_10, gi_101_12, gi_101_13, gi_101_14, gi_101_15, pi_101_19, pi_101_20, pi_101_21, pi_101_22, pi_101_23, rr_101_24, ob, si_111 (show k + 1 < 25 by omega)]
      have key : ∀ z, Kh t z → Rs z g R rl x0 v5 (k + 1) → ∃ u, X11_replays_L50 (fun μ_281 => some ((), μ_281)) 101 (iN r) (iN rl) (iN n) v5 m (iN (k + 1)) (lay z) = some ((), lay u) ∧ Kh t u ∧ Rs u g R rl x0 v5 n := fun z kz cz => by
        have ez : ∀ q, q ≠ 101 → q ≠ 108 → q ≠ 111 → z.1 q = t.1 q := kz.1
        obtain ⟨u, u1, u2, u3⟩ := ih (k + 1) z (by omega) (by omega) (RR_congr hRR (ez 102 (by omega) (by omega) (by omega)) (kz.2.2 3 (by omega))) (fun j hj => by rw [ez 109 (by omega) (by omega) (by omega)]; exact hLn j hj) ⟨fun a1 a2 a3 a4 a5 a6 a7 => by rw [kz.2.1]; exact hTR.1 a1 a2 a3 a4 a5 a6 a7, fun a1 a2 a3 a4 a5 a6 a7 => by rw [ez 107 (by omega) (by omega) (by omega)]; exact hTR.2 a1 a2 a3 a4 a5 a6 a7⟩ (fun i hi => by rw [ez 105 (by omega) (by omega) (by omega)]; exact h105 i hi) cz
        exact ⟨u, u1, kz.tr u2, u3⟩
      generalize hZ : (uI (uI (uI (uI (uI (uI w 101 19 _) 101 20 _) 101 21 _) 101 22 _) 111 (k + 1) _) 101 23 _ : Sto) = Z
      have v19 : w.1 101 19 = iZ (smY g R rl x0 k) := by rw [w2.2.2 19 (by omega)]; exact c19
      have v20 : w.1 101 20 = iN (smP g R rl x0 k) := by rw [w2.2.2 20 (by omega)]; exact c20
      have v21 : w.1 101 21 = iN (smD g R rl x0 k) := by rw [w2.2.2 21 (by omega)]; exact c21
      have v22 : w.1 101 22 = iN (smO g R rl x0 k) := by rw [w2.2.2 22 (by omega)]; exact c22
      have v23 : w.1 101 23 = iN (lsC g R rl x0 k) := by rw [w2.2.2 23 (by omega)]; exact c23
      have eN : nextS g (k % 12) (crS g R rl x0 k) (R k) (rlC g R rl k (crS g R rl x0 k)) = crS g R rl x0 (k + 1) := rfl
      rw [eN] at q14
      have z19 : Z.1 101 19 = iZ (smY g R rl x0 (k + 1)) := by
        rw [← hZ]
        simp (disch := first | assumption | omega) only [rI_same, rI_ne, rF_same, rF_ne, rJ_same, rJ_ne, rI_2, rF_1, rF_22, rJ_1, rJ_21, rJ_222, rI_rI, rF_rF, rJ_rJ, upd_same, upd_ne, vfu_same, vfu_ne, vpu_same, vpu_ne, v19, q15, iZ_add]
        rfl
      have z20 : Z.1 101 20 = iN (smP g R rl x0 (k + 1)) := by
        rw [← hZ]
        simp (disch := first | assumption | omega) only [rI_same, rI_ne, rF_same, rF_ne, rJ_same, rJ_ne, rI_2, rF_1, rF_22, rJ_1, rJ_21, rJ_222, rI_rI, rF_rF, rJ_rJ, upd_same, upd_ne, vfu_same, vfu_ne, vpu_same, vpu_ne, v20, q13, iN_add]
        rfl
      have z21 : Z.1 101 21 = iN (smD g R rl x0 (k + 1)) := by
        rw [← hZ]
        simp (disch := first | assumption | omega) only [rI_same, rI_ne, rF_same, rF_ne, rJ_same, rJ_ne, rI_2, rF_1, rF_22, rJ_1, rJ_21, rJ_222, rI_rI, rF_rF, rJ_rJ, upd_same, upd_ne, vfu_same, vfu_ne, vpu_same, vpu_ne, v21, q10, iN_add]
        rfl
      have z22 : Z.1 101 22 = iN (smO g R rl x0 (k + 1)) := by
        rw [← hZ]
        simp (disch := first | assumption | omega) only [rI_same, rI_ne, rF_same, rF_ne, rJ_same, rJ_ne, rI_2, rF_1, rF_22, rJ_1, rJ_21, rJ_222, rI_rI, rF_rF, rJ_rJ, upd_same, upd_ne, vfu_same, vfu_ne, vpu_same, vpu_ne, v22, q12, iN_add]
        rfl
      have z23 : Z.1 101 23 = iN (lsC g R rl x0 (k + 1)) := by
        rw [← hZ]
        simp (disch := first | assumption | omega) only [rI_same, rI_ne, rF_same, rF_ne, rJ_same, rJ_ne, rI_2, rF_1, rF_22, rJ_1, rJ_21, rJ_222, rI_rI, rF_rF, rJ_rJ, upd_same, upd_ne, vfu_same, vfu_ne, vpu_same, vpu_ne, v23, q14]
        rw [mnI_min (by omega) (by omega)]
        rfl
      have z25 : Z.1 101 25 = t.1 101 25 := by
        rw [← hZ]
        simp (disch := first | assumption | omega) only [rI_same, rI_ne, rF_same, rF_ne, rJ_same, rJ_ne, rI_2, rF_1, rF_22, rJ_1, rJ_21, rJ_222, rI_rI, rF_rF, rJ_rJ, upd_same, upd_ne, vfu_same, vfu_ne, vpu_same, vpu_ne]
        exact w2.2.2 25 (by omega)
      have z26 : Z.1 101 26 = t.1 101 26 := by
        rw [← hZ]
        simp (disch := first | assumption | omega) only [rI_same, rI_ne, rF_same, rF_ne, rJ_same, rJ_ne, rI_2, rF_1, rF_22, rJ_1, rJ_21, rJ_222, rI_rI, rF_rF, rJ_rJ, upd_same, upd_ne, vfu_same, vfu_ne, vpu_same, vpu_ne]
        exact w2.2.2 26 (by omega)
      have z111 : ∀ j, j ≤ k + 1 → Z.1 111 j = iN (crS g R rl x0 j) := fun j hj => by
        by_cases cj : j = k + 1
        · subst cj
          rw [← hZ]
          simp (disch := first | assumption | omega) only [rI_same, rI_ne, rF_same, rF_ne, rJ_same, rJ_ne, rI_2, rF_1, rF_22, rJ_1, rJ_21, rJ_222, rI_rI, rF_rF, rJ_rJ, upd_same, upd_ne, vfu_same, vfu_ne, vpu_same, vpu_ne, q14]
        · rw [← hZ]
          simp (disch := first | assumption | omega) only [rI_same, rI_ne, rF_same, rF_ne, rJ_same, rJ_ne, rI_2, rF_1, rF_22, rJ_1, rJ_21, rJ_222, rI_rI, rF_rF, rJ_rJ, upd_same, upd_ne, vfu_same, vfu_ne, vpu_same, vpu_ne]
          rw [w2.1 111 (by omega) (by omega)]
          exact c111 j (by omega)
      have z108 : Z.1 108 = w.1 108 := by
        rw [← hZ]
        simp (disch := first | assumption | omega) only [rI_same, rI_ne, rF_same, rF_ne, rJ_same, rJ_ne, rI_2, rF_1, rF_22, rJ_1, rJ_21, rJ_222, rI_rI, rF_rF, rJ_rJ, upd_same, upd_ne, vfu_same, vfu_ne, vpu_same, vpu_ne]
      have kZ : Kh t Z := by
        refine ⟨fun q a1 a2 a3 => ?_, ?_, fun j hj => ?_⟩
        · rw [← hZ]
          simp (disch := first | assumption | omega) only [rI_same, rI_ne, rF_same, rF_ne, rJ_same, rJ_ne, rI_2, rF_1, rF_22, rJ_1, rJ_21, rJ_222, rI_rI, rF_rF, rJ_rJ, upd_same, upd_ne, vfu_same, vfu_ne, vpu_same, vpu_ne]
          exact w2.1 q a1 a2
        · rw [← hZ]
          simp only [rI_2]
          exact w2.2.1
        · rw [← hZ]
          simp (disch := first | assumption | omega) only [rI_same, rI_ne, rF_same, rF_ne, rJ_same, rJ_ne, rI_2, rF_1, rF_22, rJ_1, rJ_21, rJ_222, rI_rI, rF_rF, rJ_rJ, upd_same, upd_ne, vfu_same, vfu_ne, vpu_same, vpu_ne]
          exact w2.2.2 j (by omega)
      clear hZ
      rcases h5 with rfl | ⟨d, hd, rfl⟩
      · rw [if_pos (by decide)]
        exact key Z kZ ⟨z19, z20, z21, z22, z23, z111, fun d hd e => by
          exfalso
          have : (iN d).toInt = d := iN_toInt (by omega)
          rw [← e] at this
          have e0 : (-1 : Int32).toInt = -1 := by decide
          omega⟩
      · rw [if_neg (iN_nn (by omega))]
        have hRZ : RR Z g (fun _ => false) := RR_congr hRR (kZ.1 102 (by omega) (by omega) (by omega)) (kZ.2.2 3 (by omega))
        have hwt : wantS g d (k % 12) ≤ 18 := wantS_le hg hd
        have g73 := b.2.2.2.2.2.2
        obtain ⟨d26, d25⟩ := cd d hd rfl
        simp only [oc_101, ob, r_wants hRZ hg hd hm, bd_s]
        have eW : wnC g d (k + 1) = wnC g d k + if 0 < wantS g d (k % 12) then 1 else 0 := rfl
        have eT : mtC g R rl x0 d (k + 1) = mtC g R rl x0 d k + if 0 < wantS g d (k % 12) ∧ gotS g (k % 12) (rwC g R rl x0 k) (rkS g d) = wantS g d (k % 12) then 1 else 0 := rfl
        have uq : ∀ d', iN d = iN d' → d' < g 73 → d' = d := fun d' e h => by
          rw [iN_eq (by omega) (by omega)] at e
          exact e.symm
        by_cases c0 : wantS g d (k % 12) = 0
        · rw [if_pos (by rw [c0]; decide)]
          rw [if_neg (by omega)] at eW
          rw [if_neg (by omega)] at eT
          exact key Z kZ ⟨z19, z20, z21, z22, z23, z111, fun d' hd' e => by
            have := uq d' e hd'
            subst this
            rw [z26, z25, eW, eT]
            exact ⟨d26, d25⟩⟩
        · rw [if_neg (by rw [iN_leL (by omega) (by omega)]; omega)]
          rw [if_pos (by omega)] at eW
          have g108 : (uI Z 101 26 (iN (wnC g d (k + 1)))).1 108 d = iN (gotS g (k % 12) (rwC g R rl x0 k) (rkS g d)) := by
            rw [rI_ne (by omega), z108]
            exact w4 d hd
          have hRZ2 : RR (uI Z 101 26 (iN (wnC g d (k + 1)))) g (fun _ => false) := RR_congr hRZ (rI_ne (by omega)) (by rw [rI_same, upd_ne (by omega)])
          have y26 : Z.1 101 26 + 1 = iN (wnC g d (k + 1)) := by rw [z26, d26, eW, iN_addL]
          have y25 : (uI Z 101 26 (iN (wnC g d (k + 1)))).1 101 25 = iN (mtC g R rl x0 d k) := by rw [rI_same, upd_ne (by omega), z25, d25]
          have hgt : gotS g (k % 12) (rwC g R rl x0 k) (rkS g d) ≤ wantS g (lnS g (rkS g d)) (k % 12) := Nat.min_le_left _ _
          have hgl : gotS g (k % 12) (rwC g R rl x0 k) (rkS g d) < 2147483648 := by
            have : lnS g (rkS g d) < g 73 := (lnS_spec (rkS_lt hd)).1
            have := wantS_le (m := k % 12) hg this
            omega
          simp only [gi_101_26, ob, y26, pi_101_26, gi_101_25, y25, rr_101_8, ai_108 (show d < 6 by omega), g108, oc_101, r_wants hRZ2 hg hd hm, bd_s, pi_101_25]
          simp (disch := first | assumption | omega) only [iN_eq]
          by_cases c1 : gotS g (k % 12) (rwC g R rl x0 k) (rkS g d) = wantS g d (k % 12)
          · rw [if_pos ⟨by omega, c1⟩] at eT
            rw [if_pos c1]
            simp only [iN_addL]
            refine key _ (kZ.tr ⟨fun q a1 a2 a3 => by simp (disch := first | assumption | omega) only [rI_same, rI_ne, rF_same, rF_ne, rJ_same, rJ_ne, rI_2, rF_1, rF_22, rJ_1, rJ_21, rJ_222, rI_rI, rF_rF, rJ_rJ, upd_same, upd_ne, vfu_same, vfu_ne, vpu_same, vpu_ne], by simp only [rI_2], fun j hj => by simp (disch := first | assumption | omega) only [rI_same, rI_ne, rF_same, rF_ne, rJ_same, rJ_ne, rI_2, rF_1, rF_22, rJ_1, rJ_21, rJ_222, rI_rI, rF_rF, rJ_rJ, upd_same, upd_ne, vfu_same, vfu_ne, vpu_same, vpu_ne]⟩) ⟨?_, ?_, ?_, ?_, ?_, fun j hj => ?_, fun d' hd' e => ?_⟩
            · simp (disch := first | assumption | omega) only [rI_same, rI_ne, rF_same, rF_ne, rJ_same, rJ_ne, rI_2, rF_1, rF_22, rJ_1, rJ_21, rJ_222, rI_rI, rF_rF, rJ_rJ, upd_same, upd_ne, vfu_same, vfu_ne, vpu_same, vpu_ne]; exact z19
            · simp (disch := first | assumption | omega) only [rI_same, rI_ne, rF_same, rF_ne, rJ_same, rJ_ne, rI_2, rF_1, rF_22, rJ_1, rJ_21, rJ_222, rI_rI, rF_rF, rJ_rJ, upd_same, upd_ne, vfu_same, vfu_ne, vpu_same, vpu_ne]; exact z20
            · simp (disch := first | assumption | omega) only [rI_same, rI_ne, rF_same, rF_ne, rJ_same, rJ_ne, rI_2, rF_1, rF_22, rJ_1, rJ_21, rJ_222, rI_rI, rF_rF, rJ_rJ, upd_same, upd_ne, vfu_same, vfu_ne, vpu_same, vpu_ne]; exact z21
            · simp (disch := first | assumption | omega) only [rI_same, rI_ne, rF_same, rF_ne, rJ_same, rJ_ne, rI_2, rF_1, rF_22, rJ_1, rJ_21, rJ_222, rI_rI, rF_rF, rJ_rJ, upd_same, upd_ne, vfu_same, vfu_ne, vpu_same, vpu_ne]; exact z22
            · simp (disch := first | assumption | omega) only [rI_same, rI_ne, rF_same, rF_ne, rJ_same, rJ_ne, rI_2, rF_1, rF_22, rJ_1, rJ_21, rJ_222, rI_rI, rF_rF, rJ_rJ, upd_same, upd_ne, vfu_same, vfu_ne, vpu_same, vpu_ne]; exact z23
            · simp (disch := first | assumption | omega) only [rI_same, rI_ne, rF_same, rF_ne, rJ_same, rJ_ne, rI_2, rF_1, rF_22, rJ_1, rJ_21, rJ_222, rI_rI, rF_rF, rJ_rJ, upd_same, upd_ne, vfu_same, vfu_ne, vpu_same, vpu_ne]; exact z111 j hj
            · have := uq d' e hd'
              subst this
              simp (disch := first | assumption | omega) only [rI_same, rI_ne, rF_same, rF_ne, rJ_same, rJ_ne, rI_2, rF_1, rF_22, rJ_1, rJ_21, rJ_222, rI_rI, rF_rF, rJ_rJ, upd_same, upd_ne, vfu_same, vfu_ne, vpu_same, vpu_ne, eT]
              trivial
          · rw [if_neg (fun h => c1 h.2)] at eT
            rw [if_neg c1]
            simp only [iN_addL]
            refine key _ (kZ.tr ⟨fun q a1 a2 a3 => by simp (disch := first | assumption | omega) only [rI_same, rI_ne, rF_same, rF_ne, rJ_same, rJ_ne, rI_2, rF_1, rF_22, rJ_1, rJ_21, rJ_222, rI_rI, rF_rF, rJ_rJ, upd_same, upd_ne, vfu_same, vfu_ne, vpu_same, vpu_ne], by simp only [rI_2], fun j hj => by simp (disch := first | assumption | omega) only [rI_same, rI_ne, rF_same, rF_ne, rJ_same, rJ_ne, rI_2, rF_1, rF_22, rJ_1, rJ_21, rJ_222, rI_rI, rF_rF, rJ_rJ, upd_same, upd_ne, vfu_same, vfu_ne, vpu_same, vpu_ne]⟩) ⟨?_, ?_, ?_, ?_, ?_, fun j hj => ?_, fun d' hd' e => ?_⟩
            · simp (disch := first | assumption | omega) only [rI_same, rI_ne, rF_same, rF_ne, rJ_same, rJ_ne, rI_2, rF_1, rF_22, rJ_1, rJ_21, rJ_222, rI_rI, rF_rF, rJ_rJ, upd_same, upd_ne, vfu_same, vfu_ne, vpu_same, vpu_ne]; exact z19
            · simp (disch := first | assumption | omega) only [rI_same, rI_ne, rF_same, rF_ne, rJ_same, rJ_ne, rI_2, rF_1, rF_22, rJ_1, rJ_21, rJ_222, rI_rI, rF_rF, rJ_rJ, upd_same, upd_ne, vfu_same, vfu_ne, vpu_same, vpu_ne]; exact z20
            · simp (disch := first | assumption | omega) only [rI_same, rI_ne, rF_same, rF_ne, rJ_same, rJ_ne, rI_2, rF_1, rF_22, rJ_1, rJ_21, rJ_222, rI_rI, rF_rF, rJ_rJ, upd_same, upd_ne, vfu_same, vfu_ne, vpu_same, vpu_ne]; exact z21
            · simp (disch := first | assumption | omega) only [rI_same, rI_ne, rF_same, rF_ne, rJ_same, rJ_ne, rI_2, rF_1, rF_22, rJ_1, rJ_21, rJ_222, rI_rI, rF_rF, rJ_rJ, upd_same, upd_ne, vfu_same, vfu_ne, vpu_same, vpu_ne]; exact z22
            · simp (disch := first | assumption | omega) only [rI_same, rI_ne, rF_same, rF_ne, rJ_same, rJ_ne, rI_2, rF_1, rF_22, rJ_1, rJ_21, rJ_222, rI_rI, rF_rF, rJ_rJ, upd_same, upd_ne, vfu_same, vfu_ne, vpu_same, vpu_ne]; exact z23
            · simp (disch := first | assumption | omega) only [rI_same, rI_ne, rF_same, rF_ne, rJ_same, rJ_ne, rI_2, rF_1, rF_22, rJ_1, rJ_21, rJ_222, rI_rI, rF_rF, rJ_rJ, upd_same, upd_ne, vfu_same, vfu_ne, vpu_same, vpu_ne]; exact z111 j hj
            · have := uq d' e hd'
              subst this
              simp (disch := first | assumption | omega) only [rI_same, rI_ne, rF_same, rF_ne, rJ_same, rJ_ne, rI_2, rF_1, rF_22, rJ_1, rJ_21, rJ_222, rI_rI, rF_rF, rJ_rJ, upd_same, upd_ne, vfu_same, vfu_ne, vpu_same, vpu_ne, eT]
              trivial
end COURSEC
