section REPLAY
variable {s : Sto} {g R : Nat → Nat} {rl x0 : Nat}
theorem c_through {r N n : Nat} (hg : OKg g) (hr : r < 4) (hN : N ≤ 24) (hn : n ≤ N) (hrl : rl ≤ 20) (hx0 : x0 ≤ g 0) (hR : ∀ i, i < N → R i ≤ 9) (hB : RB s 2 g) (hC : Ic s g) (hL : LI s (81 + 2 * r) 1 N R) : ∃ u, fX10_goThrough 0 (iN r) (iN x0) (iN rl) (iN n) (lay s) = some ((), lay u) ∧ Kb s u ∧ Ic u g ∧ Cs u g R rl x0 n n := by
  have b := hg.1
  unfold fX10_goThrough
  simp only [jn_s]
  simp (disch := first | assumption | omega) only [iN_eqL]
  by_cases c : rl = 0
  · rw [if_pos c]
    obtain ⟨t, t1, t2, t3, t4⟩ := c_solveNow hg hB hC
    have hBt := RB_congr hB (by omega) (fun q h1 h2 => t2.1 q (by omega) (by omega) (by omega))
    obtain ⟨u, u1, u2, u3⟩ := c_goC (s := t) hg hr hN hn hrl hx0 hR hBt (fun _ => t3.2.2) (LI_congr hL (t2.1 _ (by omega) (by omega) (by omega)) (t2.1 _ (by omega) (by omega) (by omega)))
    refine ⟨u, ?_, t2.b.tr u2.b, Ic_keep u2.c t4, u3⟩
    simp only [oc_0, ob]
    rw [t1]
    simp only [bd_s, rr_0_12, rr_0_0, rr_1_0, rr_0_4, rr_0_13, ob, rc_a hr, oc_71]
    rw [u1]
    rfl
  · rw [if_neg c]
    obtain ⟨u, u1, u2, u3⟩ := c_goC (s := s) hg hr hN hn hrl hx0 hR hB (fun h => absurd h c) hL
    refine ⟨u, ?_, u2.b, Ic_keep u2.c hC, u3⟩
    simp only [rr_0_12, rr_0_0, rr_1_0, rr_0_4, rr_0_13, ob, rc_a hr, oc_71]
    rw [u1]
    rfl
theorem r_replays {r N n : Nat} {v5 : Int32} (hg : OKg g) (hr : r < 4) (hN : N ≤ 24) (hn : n ≤ N) (hrl : rl ≤ 20) (hx0 : x0 ≤ g 0) (hR : ∀ i, i < N → R i ≤ 9) (h5 : v5 = -1 ∨ ∃ d, d < g 73 ∧ v5 = iN d) (hRR : RR s g (fun _ => false)) (h105 : ∀ i, i < N → s.1 105 (24 * r + i) = iN (R i)) : ∃ u, fX11_replays 101 (iN r) (iN x0) (iN rl) (iN n) v5 (lay s) = some ((), lay u) ∧ Kb s u ∧ Kc s u ∧ Rs u g R rl x0 v5 n := by
  have b := hg.1
  obtain ⟨y, y1, y2, y3, y4⟩ := r_finds hg hRR (f := 0) (by omega)
  rw [Nat.min_eq_left (Nat.zero_le _)] at y4
  have kz : Kh y (uI (uI (uI (uI (uI (uI (uI (uI y 101 19 0) 101 20 0) 101 21 0) 101 22 0) 101 25 0) 101 26 0) 101 23 (iN x0)) 111 0 (iN x0)) := ⟨fun q a1 a2 a3 => by simp (disch := first | assumption | omega) only [rI_same, rI_ne, rF_same, rF_ne, rJ_same, rJ_ne, rI_2, rF_1, rF_22, rJ_1, rJ_21, rJ_222, rI_rI, rF_rF, rJ_rJ, upd_same, upd_ne, vfu_same, vfu_ne, vpu_same, vpu_ne], by simp only [rI_2], fun j hj => by simp (disch := first | assumption | omega) only [rI_same, rI_ne, rF_same, rF_ne, rJ_same, rJ_ne, rI_2, rF_1, rF_22, rJ_1, rJ_21, rJ_222, rI_rI, rF_rF, rJ_rJ, upd_same, upd_ne, vfu_same, vfu_ne, vpu_same, vpu_ne]⟩
  have e1 : smY g R rl x0 0 = 0 := rfl
  have e2 : smP g R rl x0 0 = 0 := rfl
  have e3 : smD g R rl x0 0 = 0 := rfl
  have e4 : smO g R rl x0 0 = 0 := rfl
  have e5 : crS g R rl x0 0 = x0 := rfl
  have e6 : lsC g R rl x0 0 = x0 := rfl
  have e7 : ∀ d, wnC g d 0 = 0 := fun d => rfl
  have e8 : ∀ d, mtC g R rl x0 d 0 = 0 := fun d => rfl
  have i0 : iN 0 = 0 := rfl
  have z0 : iZ 0 = 0 := by decide
  have cs : Rs (uI (uI (uI (uI (uI (uI (uI (uI y 101 19 0) 101 20 0) 101 21 0) 101 22 0) 101 25 0) 101 26 0) 101 23 (iN x0)) 111 0 (iN x0)) g R rl x0 v5 0 := by
    refine ⟨?_, ?_, ?_, ?_, ?_, fun j hj => ?_, fun d hd e => ⟨?_, ?_⟩⟩
    · rw [e1, z0]; simp (disch := first | assumption | omega) only [rI_same, rI_ne, rF_same, rF_ne, rJ_same, rJ_ne, rI_2, rF_1, rF_22, rJ_1, rJ_21, rJ_222, rI_rI, rF_rF, rJ_rJ, upd_same, upd_ne, vfu_same, vfu_ne, vpu_same, vpu_ne]
    · rw [e2, i0]; simp (disch := first | assumption | omega) only [rI_same, rI_ne, rF_same, rF_ne, rJ_same, rJ_ne, rI_2, rF_1, rF_22, rJ_1, rJ_21, rJ_222, rI_rI, rF_rF, rJ_rJ, upd_same, upd_ne, vfu_same, vfu_ne, vpu_same, vpu_ne]
    · rw [e3, i0]; simp (disch := first | assumption | omega) only [rI_same, rI_ne, rF_same, rF_ne, rJ_same, rJ_ne, rI_2, rF_1, rF_22, rJ_1, rJ_21, rJ_222, rI_rI, rF_rF, rJ_rJ, upd_same, upd_ne, vfu_same, vfu_ne, vpu_same, vpu_ne]
    · rw [e4, i0]; simp (disch := first | assumption | omega) only [rI_same, rI_ne, rF_same, rF_ne, rJ_same, rJ_ne, rI_2, rF_1, rF_22, rJ_1, rJ_21, rJ_222, rI_rI, rF_rF, rJ_rJ, upd_same, upd_ne, vfu_same, vfu_ne, vpu_same, vpu_ne]
    · rw [e6]; simp (disch := first | assumption | omega) only [rI_same, rI_ne, rF_same, rF_ne, rJ_same, rJ_ne, rI_2, rF_1, rF_22, rJ_1, rJ_21, rJ_222, rI_rI, rF_rF, rJ_rJ, upd_same, upd_ne, vfu_same, vfu_ne, vpu_same, vpu_ne]
    · have : j = 0 := by omega
      subst this
      rw [e5]
      simp (disch := first | assumption | omega) only [rI_same, rI_ne, rF_same, rF_ne, rJ_same, rJ_ne, rI_2, rF_1, rF_22, rJ_1, rJ_21, rJ_222, rI_rI, rF_rF, rJ_rJ, upd_same, upd_ne, vfu_same, vfu_ne, vpu_same, vpu_ne]
    · rw [e7, i0]; simp (disch := first | assumption | omega) only [rI_same, rI_ne, rF_same, rF_ne, rJ_same, rJ_ne, rI_2, rF_1, rF_22, rJ_1, rJ_21, rJ_222, rI_rI, rF_rF, rJ_rJ, upd_same, upd_ne, vfu_same, vfu_ne, vpu_same, vpu_ne]
    · rw [e8, i0]; simp (disch := first | assumption | omega) only [rI_same, rI_ne, rF_same, rF_ne, rJ_same, rJ_ne, rI_2, rF_1, rF_22, rJ_1, rJ_21, rJ_222, rI_rI, rF_rF, rJ_rJ, upd_same, upd_ne, vfu_same, vfu_ne, vpu_same, vpu_ne]
  have s0 : ∀ z : Sto, sI (lay z) 111 0 (iN x0) = some (lay (uI z 111 0 (iN x0))) := fun z => si_111 (i := 0) (by omega)
  generalize hz : uI (uI (uI (uI (uI (uI (uI (uI y 101 19 0) 101 20 0) 101 21 0) 101 22 0) 101 25 0) 101 26 0) 101 23 (iN x0)) 111 0 (iN x0) = z at *
  have hRz : RR z g (fun _ => false) := RR_congr (y2.RR hRR) (kz.1 102 (by omega) (by omega) (by omega)) (kz.2.2 3 (by omega))
  obtain ⟨u, u1, u2, u3⟩ := r_replL (v5 := v5) hg hr hN hn hrl hx0 hR h5 FU 0 z (by unfold FU; omega) (by omega) hRz (fun j hj => by rw [kz.1 109 (by omega) (by omega) (by omega)]; exact y3 j hj) ⟨fun a1 a2 a3 a4 a5 a6 a7 => by rw [kz.2.1]; exact y4.1 a1 a2 a3 a4 a5 a6 a7, fun a1 a2 a3 a4 a5 a6 a7 => by rw [kz.1 107 (by omega) (by omega) (by omega)]; exact y4.2 a1 a2 a3 a4 a5 a6 a7⟩ (fun i hi => by rw [kz.1 105 (by omega) (by omega) (by omega), y2.1 105 (by omega) (by omega) (by omega) (by omega)]; exact h105 i hi) cs
  refine ⟨u, ?_, (Kb_Fx y2).tr (kz.tr u2).b, (Kc_Fx y2).tr (kz.tr u2).c, u3⟩
  unfold fX11_replays
  simp only [oc_101, ob]
  rw [show fX11_finds 101 0 (lay s) = _ from y1]
  simp only [bd_s, pi_101_19, pi_101_20, pi_101_21, pi_101_22, pi_101_23, pi_101_25, pi_101_26, rr_101_24, ob, s0, hz]
  exact u1
abbrev okRp (g : Nat → Nat) (v1 v2 v3 : Int32) : Prop := (0 ≤ v1 ∧ v1 ≤ (3 : Int32)) ∧ (0 ≤ v2 ∧ v2 ≤ iN (g 0)) ∧ 0 ≤ v3 ∧ v3 ≤ (20 : Int32)
theorem c_canReplay (hc : RB s 2 g) {v1 v2 v3 : Int32} : fX10_canReplay 0 v1 v2 v3 (lay s) = some (tI (okRp g v1 v2 v3), lay s) := by
  unfold fX10_canReplay
  simp only [c_within, bd_s, oc_0, ob, c_isStore hc]
  by_cases c1 : 0 ≤ v1 ∧ v1 ≤ (3 : Int32)
  · by_cases c2 : 0 ≤ v2 ∧ v2 ≤ iN (g 0)
    · by_cases c3 : 0 ≤ v3 ∧ v3 ≤ (20 : Int32)
      · simp only [tI_pos c1, tI_pos c2, tI_pos c3, i10, if_false, tI_pos (show okRp g v1 v2 v3 from ⟨c1, c2, c3⟩), zz1, ob]
      · simp only [tI_pos c1, tI_pos c2, tI_neg c3, i10, i00, if_true, if_false, tI_neg (show ¬ okRp g v1 v2 v3 from fun h => c3 h.2.2), zz0, ob]
    · simp only [tI_pos c1, tI_neg c2, i10, i00, if_true, if_false, tI_neg (show ¬ okRp g v1 v2 v3 from fun h => c2 h.2.1), zz0, ob]
  · simp only [tI_neg c1, i00, if_true, tI_neg (show ¬ okRp g v1 v2 v3 from fun h => c1 h.1), zz0, ob]
theorem r_isReplay (hR : RR s g (fun _ => false)) {v1 v2 v3 : Int32} : fX11_isReplay 101 v1 v2 v3 (lay s) = some (tI (okRp g v1 v2 v3), lay s) := by
  unfold fX11_isReplay
  simp (disch := first | assumption | omega) only [r_isRecord, bd_s, oc_101, ob, r_isStore hR, r_in, lit64_le, le_lit64, le_64]
  by_cases c1 : 0 ≤ v1 ∧ v1 ≤ (3 : Int32)
  · by_cases c2 : 0 ≤ v2 ∧ v2 ≤ iN (g 0)
    · by_cases c3 : 0 ≤ v3 ∧ v3 ≤ (20 : Int32)
      · simp only [tI_pos c1, tI_pos c2, tI_pos c3, i10, if_false, tI_pos (show okRp g v1 v2 v3 from ⟨c1, c2, c3⟩), zz1, ob]
      · simp only [tI_pos c1, tI_pos c2, tI_neg c3, i10, i00, if_true, if_false, tI_neg (show ¬ okRp g v1 v2 v3 from fun h => c3 h.2.2), zz0, ob]
    · simp only [tI_pos c1, tI_neg c2, i10, i00, if_true, if_false, tI_neg (show ¬ okRp g v1 v2 v3 from fun h => c2 h.2.1), zz0, ob]
  · simp only [tI_neg c1, i00, if_true, tI_neg (show ¬ okRp g v1 v2 v3 from fun h => c1 h.1), zz0, ob]
end REPLAY
