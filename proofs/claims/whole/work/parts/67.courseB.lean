section COURSEB
variable {s : Sto} {g R : Nat → Nat} {rl x0 : Nat}
theorem c_goL {r N n : Nat} (hg : OKg g) (hr : r < 4) (hN : N ≤ 24) (hn : n ≤ N) (hrl : rl ≤ 20) (hx0 : x0 ≤ g 0) (hR : ∀ i, i < N → R i ≤ 9) : ∀ m k (t : Sto), n - k < m → k ≤ n → RB t 2 g → (rl = 0 → TBs g 0 (t.2.1 55) (t.2.1 56) (t.1 57)) → LI t (81 + 2 * r) 1 N R → Cs t g R rl x0 n k → ∃ u, X4_go_L44 (fun μ_218 => some ((), μ_218)) 71 2 54 (81 + 2 * r) (iN rl) m (iN k) (lay t) = some ((), lay u) ∧ Kg t u ∧ Cs u g R rl x0 n n := by
  have hb : Bs 2 := Or.inl rfl
  have hl := rc_l hr
  have b := hg.1
  have hP : Pg 72 := Or.inr rfl
  intro m
  induction m with
  | zero => intro k t h1; omega
  | succ m ih =>
    intro k t h1 h2 hB hT hL hC
    obtain ⟨c3, c4, c5, c6, c7, c8, c9⟩ := hC
    rw [X4_go_L44]
    simp only [gi_71_3, ob, c3]
    simp (disch := first | assumption | omega) only [iN_le]
    by_cases c : n ≤ k
    · rw [if_pos c]
      have : k = n := by omega
      subst this
      exact ⟨t, rfl, Kg.rf, c3, c4, c5, c6, c7, c8, c9⟩
    · rw [if_neg c]
      have k24 : k < 24 := by omega
      have hm : k % 12 < 12 := Nat.mod_lt _ (by omega)
      have hcr := cr_le (g := g) (R := R) (rl := rl) hx0 k
      have hRk := hR k (by omega)
      have hrc := rlC_le (g := g) (R := R) (rl := rl) (t := k) (x := crS g R rl x0 k) hrl
      have a0 : fX6_at (81 + 2 * r) (iN k) 0 (lay t) = some (iN (R k), lay t) := by
        have := c_at hl hL hN (r := k) (j := 0) (by omega) (by omega)
        rw [show k * 1 + 0 = k by omega] at this
        exact this
      obtain ⟨F, f1, f2, f3, f4, f5, f6, f7⟩ := c_go (s := t) hP hb hg hB (m := k % 12) (x := crS g R rl x0 k) (q := R k) (r := rlC g R rl k (crS g R rl x0 k)) hm (by omega) (by omega) (by omega)
      have rel : (if iN rl = 0 then iN (if k % 12 < g 1 then rlsS g (g 1 - k % 12) (crS g R rl x0 k) (nrS g (k % 12) (iN (R k))) else 0) else iN rl) = iN (rlC g R rl k (crS g R rl x0 k)) := by
        unfold rlC
        simp (disch := first | assumption | omega) only [iN_eqL]
        split <;> rfl
      have go : ∀ K : Int32 → Mem → Option (Unit × Mem), jn K (fun j95 => if iN rl = 0 then ((gR (lay t) 71 4 1).bind fun x79 => (aI (lay t) 0 x79 (iN k)).bind fun x84 => bd (fX4_bestRelease 2 54 (iN (k % 12)) x84 (iN (R k)) (lay t)) fun x87 μ87 => j95 x87 μ87) else (j95 (iN rl) (lay t))) = K (iN (rlC g R rl k (crS g R rl x0 k))) (lay t) := by
        intro K
        rw [← rel]
        simp only [jn_s]
        by_cases c0 : iN rl = 0
        · rw [if_pos c0, if_pos c0]
          have r0 : rl = 0 := by
            rw [iN_eqL (by omega) (by omega)] at c0
            exact c0
          simp only [rr_71_1, ob, ai_73 (show k < 25 by omega), c8 k (Nat.le_refl _), c_bestRel hg hB (hT r0) hm hcr, bd_s]
        · rw [if_neg c0, if_neg c0]
      simp (disch := first | assumption | omega) only [rmI_L, ob, ln_c hl, a0, bd_s]
      rw [go]
      simp only [rr_71_0, rr_71_1, ob, ai_73 (show k < 25 by omega), c8 k (Nat.le_refl _), oc_72]
      rw [f1]
      have key : ∀ z, Kg t z → Cs z g R rl x0 n (k + 1) → ∃ u, X4_go_L44 (fun μ_218 => some ((), μ_218)) 71 2 54 (81 + 2 * r) (iN rl) m (iN (k + 1)) (lay z) = some ((), lay u) ∧ Kg t u ∧ Cs u g R rl x0 n n := fun z kz cz => by
        obtain ⟨u, u1, u2, u3⟩ := ih (k + 1) z (by omega) (by omega) (RB_congr hB (by omega) (fun q h1 h2 => kz.1 q (by omega))) (fun h0 => by rw [kz.2, kz.1 57 (by omega)]; exact hT h0) (LI_congr hL (kz.1 _ (by omega)) (kz.1 _ (by omega))) cz
        exact ⟨u, u1, kz.tr u2, u3⟩
      simp only [bd_s, gi_71_4, gi_71_5, gi_71_6, gi_71_7, pi_71_4, pi_71_5, pi_71_6, pi_71_7, rr_71_0, rr_71_1, rr_71_2, gi_72_0, gi_72_2, gi_72_3, gi_72_4, gi_72_5, ob, si_74 k24, iN_addL, si_73 (show k + 1 < 25 by omega)]
      refine key _ ⟨fun q hq => by simp (disch := first | assumption | omega) only [rI_same, rI_ne, rF_same, rF_ne, rJ_same, rJ_ne, rI_2, rF_1, rF_22, rJ_1, rJ_21, rJ_222, rI_rI, rF_rF, rJ_rJ, upd_same, upd_ne, vfu_same, vfu_ne, vpu_same, vpu_ne], by simp only [rI_2]⟩ ⟨?_, ?_, ?_, ?_, ?_, fun j hj => ?_, fun j hj => ?_⟩
      · simp (disch := first | assumption | omega) only [rI_same, rI_ne, rF_same, rF_ne, rJ_same, rJ_ne, rI_2, rF_1, rF_22, rJ_1, rJ_21, rJ_222, rI_rI, rF_rF, rJ_rJ, upd_same, upd_ne, vfu_same, vfu_ne, vpu_same, vpu_ne, c3]
      · simp (disch := first | assumption | omega) only [rI_same, rI_ne, rF_same, rF_ne, rJ_same, rJ_ne, rI_2, rF_1, rF_22, rJ_1, rJ_21, rJ_222, rI_rI, rF_rF, rJ_rJ, upd_same, upd_ne, vfu_same, vfu_ne, vpu_same, vpu_ne, c4, f7, iZ_add]
        rfl
      · simp (disch := first | assumption | omega) only [rI_same, rI_ne, rF_same, rF_ne, rJ_same, rJ_ne, rI_2, rF_1, rF_22, rJ_1, rJ_21, rJ_222, rI_rI, rF_rF, rJ_rJ, upd_same, upd_ne, vfu_same, vfu_ne, vpu_same, vpu_ne, c5, f5, iN_add]
        rfl
      · simp (disch := first | assumption | omega) only [rI_same, rI_ne, rF_same, rF_ne, rJ_same, rJ_ne, rI_2, rF_1, rF_22, rJ_1, rJ_21, rJ_222, rI_rI, rF_rF, rJ_rJ, upd_same, upd_ne, vfu_same, vfu_ne, vpu_same, vpu_ne, c6, f2, iN_add]
        rfl
      · simp (disch := first | assumption | omega) only [rI_same, rI_ne, rF_same, rF_ne, rJ_same, rJ_ne, rI_2, rF_1, rF_22, rJ_1, rJ_21, rJ_222, rI_rI, rF_rF, rJ_rJ, upd_same, upd_ne, vfu_same, vfu_ne, vpu_same, vpu_ne, c7, f4, iN_add]
        rfl
      · by_cases cj : j = k + 1
        · subst cj
          simp (disch := first | assumption | omega) only [rI_same, rI_ne, rF_same, rF_ne, rJ_same, rJ_ne, rI_2, rF_1, rF_22, rJ_1, rJ_21, rJ_222, rI_rI, rF_rF, rJ_rJ, upd_same, upd_ne, vfu_same, vfu_ne, vpu_same, vpu_ne, f6]
          rfl
        · simp (disch := first | assumption | omega) only [rI_same, rI_ne, rF_same, rF_ne, rJ_same, rJ_ne, rI_2, rF_1, rF_22, rJ_1, rJ_21, rJ_222, rI_rI, rF_rF, rJ_rJ, upd_same, upd_ne, vfu_same, vfu_ne, vpu_same, vpu_ne]
          exact c8 j (by omega)
      · by_cases cj : j = k
        · subst cj
          simp (disch := first | assumption | omega) only [rI_same, rI_ne, rF_same, rF_ne, rJ_same, rJ_ne, rI_2, rF_1, rF_22, rJ_1, rJ_21, rJ_222, rI_rI, rF_rF, rJ_rJ, upd_same, upd_ne, vfu_same, vfu_ne, vpu_same, vpu_ne, f4]
          rfl
        · simp (disch := first | assumption | omega) only [rI_same, rI_ne, rF_same, rF_ne, rJ_same, rJ_ne, rI_2, rF_1, rF_22, rJ_1, rJ_21, rJ_222, rI_rI, rF_rF, rJ_rJ, upd_same, upd_ne, vfu_same, vfu_ne, vpu_same, vpu_ne]
          exact c9 j (by omega)
theorem Cs_0 {n : Nat} : Cs (uI (uI (uI (uI (uI (uI s 71 3 (iN n)) 71 4 0) 71 5 0) 71 6 0) 71 7 0) 73 0 (iN x0)) g R rl x0 n 0 := by
  have e1 : smY g R rl x0 0 = 0 := rfl
  have e2 : smP g R rl x0 0 = 0 := rfl
  have e3 : smD g R rl x0 0 = 0 := rfl
  have e4 : smO g R rl x0 0 = 0 := rfl
  have e5 : crS g R rl x0 0 = x0 := rfl
  have i0 : iN 0 = 0 := rfl
  have z0 : iZ 0 = 0 := by decide
  refine ⟨?_, ?_, ?_, ?_, ?_, fun j hj => ?_, fun j hj => by omega⟩
  · simp (disch := first | assumption | omega) only [rI_same, rI_ne, rF_same, rF_ne, rJ_same, rJ_ne, rI_2, rF_1, rF_22, rJ_1, rJ_21, rJ_222, rI_rI, rF_rF, rJ_rJ, upd_same, upd_ne, vfu_same, vfu_ne, vpu_same, vpu_ne]
  · rw [e1, z0]; simp (disch := first | assumption | omega) only [rI_same, rI_ne, rF_same, rF_ne, rJ_same, rJ_ne, rI_2, rF_1, rF_22, rJ_1, rJ_21, rJ_222, rI_rI, rF_rF, rJ_rJ, upd_same, upd_ne, vfu_same, vfu_ne, vpu_same, vpu_ne]
  · rw [e2, i0]; simp (disch := first | assumption | omega) only [rI_same, rI_ne, rF_same, rF_ne, rJ_same, rJ_ne, rI_2, rF_1, rF_22, rJ_1, rJ_21, rJ_222, rI_rI, rF_rF, rJ_rJ, upd_same, upd_ne, vfu_same, vfu_ne, vpu_same, vpu_ne]
  · rw [e3, i0]; simp (disch := first | assumption | omega) only [rI_same, rI_ne, rF_same, rF_ne, rJ_same, rJ_ne, rI_2, rF_1, rF_22, rJ_1, rJ_21, rJ_222, rI_rI, rF_rF, rJ_rJ, upd_same, upd_ne, vfu_same, vfu_ne, vpu_same, vpu_ne]
  · rw [e4, i0]; simp (disch := first | assumption | omega) only [rI_same, rI_ne, rF_same, rF_ne, rJ_same, rJ_ne, rI_2, rF_1, rF_22, rJ_1, rJ_21, rJ_222, rI_rI, rF_rF, rJ_rJ, upd_same, upd_ne, vfu_same, vfu_ne, vpu_same, vpu_ne]
  · have : j = 0 := by omega
    subst this
    rw [e5]
    simp (disch := first | assumption | omega) only [rI_same, rI_ne, rF_same, rF_ne, rJ_same, rJ_ne, rI_2, rF_1, rF_22, rJ_1, rJ_21, rJ_222, rI_rI, rF_rF, rJ_rJ, upd_same, upd_ne, vfu_same, vfu_ne, vpu_same, vpu_ne]
theorem c_goC {r N n : Nat} (hg : OKg g) (hr : r < 4) (hN : N ≤ 24) (hn : n ≤ N) (hrl : rl ≤ 20) (hx0 : x0 ≤ g 0) (hR : ∀ i, i < N → R i ≤ 9) (hB : RB s 2 g) (hT : rl = 0 → TBs g 0 (s.2.1 55) (s.2.1 56) (s.1 57)) (hL : LI s (81 + 2 * r) 1 N R) : ∃ u, fX4_go 71 2 54 (81 + 2 * r) (iN x0) (iN rl) (iN n) (lay s) = some ((), lay u) ∧ Kg s u ∧ Cs u g R rl x0 n n := by
  have hl := rc_l hr
  have b := hg.1
  have kz : Kg s (uI (uI (uI (uI (uI (uI s 71 3 (iN n)) 71 4 0) 71 5 0) 71 6 0) 71 7 0) 73 0 (iN x0)) := ⟨fun q hq => by simp (disch := first | assumption | omega) only [rI_same, rI_ne, rF_same, rF_ne, rJ_same, rJ_ne, rI_2, rF_1, rF_22, rJ_1, rJ_21, rJ_222, rI_rI, rF_rF, rJ_rJ, upd_same, upd_ne, vfu_same, vfu_ne, vpu_same, vpu_ne], by simp only [rI_2]⟩
  have cs : Cs (uI (uI (uI (uI (uI (uI s 71 3 (iN n)) 71 4 0) 71 5 0) 71 6 0) 71 7 0) 73 0 (iN x0)) g R rl x0 n 0 := Cs_0
  generalize hz : uI (uI (uI (uI (uI (uI s 71 3 (iN n)) 71 4 0) 71 5 0) 71 6 0) 71 7 0) 73 0 (iN x0) = z at *
  obtain ⟨u, u1, u2, u3⟩ := c_goL hg hr hN hn hrl hx0 hR FU 0 z (by unfold FU; omega) (by omega) (RB_congr hB (by omega) (fun q h1 h2 => kz.1 q (by omega))) (fun h0 => by rw [kz.2, kz.1 57 (by omega)]; exact hT h0) (LI_congr hL (kz.1 _ (by omega)) (kz.1 _ (by omega))) cs
  refine ⟨u, ?_, kz.tr u2, u3⟩
  unfold fX4_go
  simp only [ln_g3 hl, hL.1, ob]
  rw [mnI_le hn (by omega)]
  simp only [pi_71_3, pi_71_4, pi_71_5, pi_71_6, pi_71_7, rr_71_1, ob]
  rw [show ∀ z : Sto, sI (lay z) 73 0 (iN x0) = some (lay (uI z 73 0 (iN x0))) from fun z => si_73 (i := 0) (by omega)]
  simp only [ob, hz]
  exact u1
end COURSEB
