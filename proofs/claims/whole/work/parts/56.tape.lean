/-! ===== tapes ===== -/
section TAPE
variable {s t u : Sto} {g kp : Nat → Nat} {kf : Bool} {rn : Nat → Nat} {rv : Nat → Nat → Nat} {tn : Nat} {tv : Nat → Nat}
/-- all but the tapes is as it was -/
def Kp (s t : Sto) : Prop := (∀ q, q < 89 ∨ (100 < q ∧ q ≠ 115 ∧ q ≠ 116) → t.1 q = s.1 q) ∧ t.2.1 = s.2.1 ∧ t.2.2.2 = s.2.2.2
theorem Kp.rf : Kp s s := ⟨fun _ _ => rfl, rfl, rfl⟩
theorem Kp.tr (h1 : Kp s t) (h2 : Kp t u) : Kp s u := ⟨fun x a => (h2.1 x a).trans (h1.1 x a), h2.2.1.trans h1.2.1, h2.2.2.trans h1.2.2⟩
theorem Kp_rI {q : Nat} {f : Nat → Int32} (h : (89 ≤ q ∧ q ≤ 100) ∨ q = 115 ∨ q = 116) : Kp s (rI s q f) := ⟨fun x a => rI_ne (by omega), rfl, rfl⟩
theorem Kp_rJ {q : Nat} {f : Nat → Int64} : Kp s (rJ s q f) := ⟨fun x a => rfl, rfl, rfl⟩
theorem Inv_tape (hk : Kp s t) (hB : IB s g kp kf rn rv tn tv) (hC : Ic s g) (h : Ip t) : Inv t := by
  obtain ⟨⟨a1, a2, a3, a4⟩, b, c, d, e, f⟩ := hB
  obtain ⟨k1, k2, k3⟩ := hk
  refine ⟨g, kp, kf, rn, rv, tn, tv, ⟨⟨a1, RS_congr a2 a1.m (fun q h1 h2 => k1 q (by omega)), Rg_congr a3 (k1 102 (by omega)), by rw [k1 101 (by omega)]; exact a4⟩, ?_, fun r hr => ?_, ?_, h, by unfold Tw at *; rw [k3]; exact f⟩, Ic_keep ⟨fun k _ => by rw [k1 0 (by omega)], k1 57 (by omega), k1 58 (by omega), by rw [k2], by rw [k2]⟩ hC⟩
  · rcases b with ⟨b1, b2, b3⟩ | ⟨b1, b2, b3, b4, b5, b6⟩
    · exact Or.inl ⟨b1, by rw [k1 0 (by omega)]; exact b2, by rw [k1 101 (by omega)]; exact b3⟩
    · exact Or.inr ⟨b1, by rw [k1 0 (by omega)]; exact b2, by rw [k1 101 (by omega)]; exact b3, b4, RS_congr b5 b4.m (fun q h1 h2 => k1 q (by omega)), Rg_congr b6 (k1 103 (by omega))⟩
  · obtain ⟨c1, c2, c3, c4⟩ := c r hr
    rw [k1 (81 + 2 * r) (by omega), k1 104 (by omega), k1 (82 + 2 * r) (by omega), k1 105 (by omega)]
    exact ⟨c1, c2, c3, c4⟩
  · obtain ⟨d1, d2, d3, d4⟩ := d
    unfold It
    rw [k1 76 (by omega), k1 101 (by omega), k1 77 (by omega), k1 113 (by omega)]
    exact ⟨d1, d2, d3, d4⟩
theorem rJ_self (z : Sto) (q : Nat) : rJ z q (z.2.2.1 q) = z := by
  unfold rJ
  refine Prod.ext rfl (Prod.ext rfl (Prod.ext (funext fun x => ?_) rfl))
  show (if x = q then z.2.2.1 q else z.2.2.1 x) = z.2.2.1 x
  split
  · rename_i e; rw [e]
  · rfl
theorem c_becomeL {G : Mem → Option (Unit × Mem)} {r : Nat} (hr : r < 6) : ∀ (n k : Nat) (z : Sto), 60 - k < n → k ≤ 60 → ∃ f, X9_become_L12 G (89 + 2 * r) n (iN k) (lay z) = G (lay (rJ z (90 + 2 * r) f)) ∧ (∀ j, k ≤ j → j < 60 → f j = 0) ∧ (∀ j, j < k → f j = z.2.2.1 (90 + 2 * r) j) := by
  intro n
  induction n with
  | zero => intro k z h; omega
  | succ n ih =>
    intro k z h1 h2
    rw [X9_become_L12]
    simp (disch := first | assumption | omega) only [iN_Lle]
    by_cases c1 : 60 ≤ k
    · rw [if_pos c1]
      exact ⟨z.2.2.1 (90 + 2 * r), by rw [rJ_self], fun j h3 h4 => by omega, fun _ _ => rfl⟩
    · rw [if_neg c1]
      simp only [tp_r hr, ob, tp_si hr (show k < 60 by omega), iN_addL]
      obtain ⟨f, f1, f2, f3⟩ := ih (k + 1) (uJ z (90 + 2 * r) k 0) (by omega) (by omega)
      rw [rJ_rJ] at f1
      refine ⟨f, f1, fun j h3 h4 => ?_, fun j h3 => ?_⟩
      · by_cases c : j = k
        · subst c
          rw [f3 j (by omega), rJ_same, vpu_same]
        · exact f2 j (by omega) h4
      · rw [f3 j (by omega), rJ_same, vpu_ne (by omega)]
theorem r_tapeL {G : Mem → Option (Int32 × Mem)} {r : Nat} (hr : r < 6) : ∀ (n k : Nat) (z : Sto), 60 - k < n → k ≤ 60 → ∃ f, X11_tape_L72 G 101 (iN r) n (iN k) (lay z) = G (lay (rJ z 117 f)) ∧ (∀ j, k ≤ j → j < 60 → f (60 * r + j) = 0) ∧ (∀ j, j < 60 * r + k ∨ 60 * r + 60 ≤ j → f j = z.2.2.1 117 j) := by
  intro n
  induction n with
  | zero => intro k z h; omega
  | succ n ih =>
    intro k z h1 h2
    rw [X11_tape_L72]
    simp (disch := first | assumption | omega) only [iN_Lle]
    by_cases c1 : 60 ≤ k
    · rw [if_pos c1]
      exact ⟨z.2.2.1 117, by rw [rJ_self], fun j h3 h4 => by omega, fun _ _ => rfl⟩
    · rw [if_neg c1]
      simp only [rr_101_35, ob, iN_add, iN_addL, iN_Ladd, iN_mul, iN_mulL, iN_Lmul]
      rw [si_117 (by omega)]
      simp only [ob]
      obtain ⟨f, f1, f2, f3⟩ := ih (k + 1) (uJ z 117 (60 * r + k) 0) (by omega) (by omega)
      rw [rJ_rJ] at f1
      refine ⟨f, f1, fun j h3 h4 => ?_, fun j h3 => ?_⟩
      · by_cases c : j = k
        · subst c
          rw [f3 _ (by omega), rJ_same, vpu_same]
        · exact f2 j (by omega) h4
      · rw [f3 j (by omega), rJ_same, vpu_ne (by omega)]
theorem k_tape (H : Inv s) (v1 v2 v3 : Int32) : Alike s (fX10_tape 0 v1 v2 v3) (fX11_tape 101 v1 v2 v3) := by
  have H0 := H
  obtain ⟨g, kp, kf, rn, rv, tn, tv, hB, hC⟩ := H0
  have hI := hB.1
  have hg := hI.1.1
  have b1 := hg.1
  have hR := RR_of hI
  have hc := hI.2.1.1
  have hb : Bs 2 := Or.inl rfl
  have hp := hB.2.2.2.2.1
  have m1 : (-1 : Int64) = (-1 : Int32).toInt64 := by decide
  have p4 : (4 : Int64) = (4 : Int32).toInt64 := by decide
  by_cases c1 : 0 ≤ v1 ∧ v1 ≤ (5 : Int32)
  · obtain ⟨r, rfl, hr⟩ := rng (k := 5) c1 (by omega)
    have hr6 : r < 6 := by omega
    by_cases c2 : (-1 : Int32) ≤ v2 ∧ v2 ≤ (4 : Int32)
    · have key : ∀ (k : Int32) (n : Nat), (k = -1 ∧ n = 0 ∨ ∃ a, a ≤ 4 ∧ k = iN a) → n ≤ 60 → ∃ z w, fX9_become (89 + 2 * r) k (iN n) (lay s) = some ((), lay z) ∧ (((sI (lay z) 115 (iN r) k).bind fun μ53 => (sI μ53 116 (iN r) (iN n)).bind fun μ68 => X11_tape_L72 (fun μ_98 => some ((1 : Int32), μ_98)) 101 (iN r) FU ((0 : Int32)) μ68) = some (1, lay w)) ∧ Inv w := by
        intro k n hk hn
        obtain ⟨f, f1, f2, f3⟩ := c_becomeL (G := fun μ_31 => some ((), μ_31)) hr6 FU 0 (uI (uI s (89 + 2 * r) 0 k) (89 + 2 * r) 1 (iN n)) (by unfold FU; omega) (by omega)
        obtain ⟨f', q1, q2, q3⟩ := r_tapeL (G := fun μ_98 => some ((1 : Int32), μ_98)) hr6 FU 0 (uI (uI (rJ (uI (uI s (89 + 2 * r) 0 k) (89 + 2 * r) 1 (iN n)) (90 + 2 * r) f) 115 r k) 116 r (iN n)) (by unfold FU; omega) (by omega)
        refine ⟨rJ (uI (uI s (89 + 2 * r) 0 k) (89 + 2 * r) 1 (iN n)) (90 + 2 * r) f, rJ (uI (uI (rJ (uI (uI s (89 + 2 * r) 0 k) (89 + 2 * r) 1 (iN n)) (90 + 2 * r) f) 115 r k) 116 r (iN n)) 117 f', ?_, ?_, ?_⟩
        rotate_left
        · simp only [si_115 hr6, si_116 hr6, ob]
          exact q1
        · refine Inv_tape (s := s) ((Kp_rI (by omega)).tr ((Kp_rI (by omega)).tr (Kp_rJ.tr ((Kp_rI (by omega)).tr ((Kp_rI (by omega)).tr Kp_rJ))))) hB hC (fun a ha => ?_)
          obtain ⟨h1, h2, h3, h4⟩ := hp a ha
          by_cases ca : a = r
          · subst ca
            refine ⟨?_, ?_, ⟨n, hn, ?_, ?_, ?_⟩, fun i hi => ?_⟩
            · simp (disch := first | assumption | omega) only [rI_same, rI_ne, rF_same, rF_ne, rJ_same, rJ_ne, rI_2, rF_1, rF_22, rJ_1, rJ_21, rJ_222, rI_rI, rF_rF, rJ_rJ, upd_same, upd_ne, vfu_same, vfu_ne, vpu_same, vpu_ne]
            · simp (disch := first | assumption | omega) only [rI_same, rI_ne, rF_same, rF_ne, rJ_same, rJ_ne, rI_2, rF_1, rF_22, rJ_1, rJ_21, rJ_222, rI_rI, rF_rF, rJ_rJ, upd_same, upd_ne, vfu_same, vfu_ne, vpu_same, vpu_ne]
              rcases hk with ⟨h, _⟩ | h
              · exact Or.inl h
              · exact Or.inr h
            · simp (disch := first | assumption | omega) only [rI_same, rI_ne, rF_same, rF_ne, rJ_same, rJ_ne, rI_2, rF_1, rF_22, rJ_1, rJ_21, rJ_222, rI_rI, rF_rF, rJ_rJ, upd_same, upd_ne, vfu_same, vfu_ne, vpu_same, vpu_ne]
            · simp (disch := first | assumption | omega) only [rI_same, rI_ne, rF_same, rF_ne, rJ_same, rJ_ne, rI_2, rF_1, rF_22, rJ_1, rJ_21, rJ_222, rI_rI, rF_rF, rJ_rJ, upd_same, upd_ne, vfu_same, vfu_ne, vpu_same, vpu_ne]
            · simp (disch := first | assumption | omega) only [rI_same, rI_ne, rF_same, rF_ne, rJ_same, rJ_ne, rI_2, rF_1, rF_22, rJ_1, rJ_21, rJ_222, rI_rI, rF_rF, rJ_rJ, upd_same, upd_ne, vfu_same, vfu_ne, vpu_same, vpu_ne]
              rintro rfl
              rcases hk with ⟨_, h⟩ | ⟨b, hb1, hb2⟩
              · exact h
              · exfalso
                have : (iN b).toInt = b := iN_toInt (by omega)
                rw [← hb2] at this
                have e : (-1 : Int32).toInt = -1 := by decide
                omega
            · rw [rJ_same, q2 i (by omega) hi, rJ_ne (by omega)]
              simp (disch := first | assumption | omega) only [rI_same, rI_ne, rF_same, rF_ne, rJ_same, rJ_ne, rI_2, rF_1, rF_22, rJ_1, rJ_21, rJ_222, rI_rI, rF_rF, rJ_rJ, upd_same, upd_ne, vfu_same, vfu_ne, vpu_same, vpu_ne]
              exact f2 i (by omega) hi
          · have ne1 : (rJ (uI (uI (rJ (uI (uI s (89 + 2 * r) 0 k) (89 + 2 * r) 1 (iN n)) (90 + 2 * r) f) 115 r k) 116 r (iN n)) 117 f').1 (89 + 2 * a) = s.1 (89 + 2 * a) := by
              simp (disch := first | assumption | omega) only [rI_same, rI_ne, rF_same, rF_ne, rJ_same, rJ_ne, rI_2, rF_1, rF_22, rJ_1, rJ_21, rJ_222, rI_rI, rF_rF, rJ_rJ, upd_same, upd_ne, vfu_same, vfu_ne, vpu_same, vpu_ne]
            have ne2 : (rJ (uI (uI (rJ (uI (uI s (89 + 2 * r) 0 k) (89 + 2 * r) 1 (iN n)) (90 + 2 * r) f) 115 r k) 116 r (iN n)) 117 f').1 115 a = s.1 115 a := by
              simp (disch := first | assumption | omega) only [rI_same, rI_ne, rF_same, rF_ne, rJ_same, rJ_ne, rI_2, rF_1, rF_22, rJ_1, rJ_21, rJ_222, rI_rI, rF_rF, rJ_rJ, upd_same, upd_ne, vfu_same, vfu_ne, vpu_same, vpu_ne]
            have ne3 : (rJ (uI (uI (rJ (uI (uI s (89 + 2 * r) 0 k) (89 + 2 * r) 1 (iN n)) (90 + 2 * r) f) 115 r k) 116 r (iN n)) 117 f').1 116 a = s.1 116 a := by
              simp (disch := first | assumption | omega) only [rI_same, rI_ne, rF_same, rF_ne, rJ_same, rJ_ne, rI_2, rF_1, rF_22, rJ_1, rJ_21, rJ_222, rI_rI, rF_rF, rJ_rJ, upd_same, upd_ne, vfu_same, vfu_ne, vpu_same, vpu_ne]
            rw [ne1, ne2, ne3]
            refine ⟨h1, h2, h3, fun i hi => ?_⟩
            rw [rJ_same, q3 _ (by omega), rJ_ne (by omega)]
            simp (disch := first | assumption | omega) only [rI_same, rI_ne, rF_same, rF_ne, rJ_same, rJ_ne, rI_2, rF_1, rF_22, rJ_1, rJ_21, rJ_222, rI_rI, rF_rF, rJ_rJ, upd_same, upd_ne, vfu_same, vfu_ne, vpu_same, vpu_ne]
            exact h4 i hi
        · unfold fX9_become
          simp only [tp_p0 hr6, tp_p1 hr6, ob]
          exact f1
      by_cases c0 : v2 = -1
      · subst c0
        obtain ⟨z, w, z1, z2, z3⟩ := key (-1) 0 (Or.inl ⟨rfl, rfl⟩) (by omega)
        refine ⟨1, z, w, ?_, ?_, z3⟩
        · unfold fX10_tape
          simp only [c_isTape, c_within, tI_pos c1, tI_pos c2, bd_s, i10, if_false, jn_s, if_true, rr_0_16, ob, tp_a hr6, tp_c hr6]
          rw [show fX9_become (89 + 2 * r) (-1) 0 (lay s) = _ from z1]
          rfl
        · unfold fX11_tape
          simp only [r_isTape, tI_pos c1, bd_s, i10, if_false, r_in, m1, p4, le_64, tI_pos c2, jn_s, if_pos (show (-1 : Int32) < 0 by decide), if_neg (show ¬ (0 : Int32) ≤ -1 by decide), rr_101_33, rr_101_34, ob, si_115 hr6]
          rw [si_115 hr6] at z2
          exact z2
      · obtain ⟨k, rfl, hk⟩ : ∃ k, v2 = iN k ∧ k ≤ 4 := by
          have hz : 0 ≤ v2 := by
            rw [Int32.le_iff_toInt_le] at c2 ⊢
            have e1 : (-1 : Int32).toInt = -1 := by decide
            have e0 : (0 : Int32).toInt = 0 := by decide
            have e2 : v2.toInt ≠ -1 := fun h => c0 (Int32.toInt_inj.mp (h.trans e1.symm))
            omega
          exact rng (k := 4) ⟨hz, c2.2⟩ (by omega)
        have nz0 : ¬ (iN k < 0) := iN_nn (by omega)
        have pz0 : (0 : Int32) ≤ iN k := by rw [iN_Lle (by omega) (by omega)]; omega
        by_cases c3 : v3 ≤ (60 : Int32)
        · by_cases c4 : 0 ≤ v3
          · obtain ⟨n, rfl, hn⟩ := rng (k := 60) ⟨c4, c3⟩ (by omega)
            obtain ⟨z, w, z1, z2, z3⟩ := key (iN k) n (Or.inr ⟨k, hk, rfl⟩) hn
            refine ⟨1, z, w, ?_, ?_, z3⟩
            · unfold fX10_tape
              simp only [c_isTape, c_within, tI_pos c1, tI_pos c2, bd_s, i10, if_false, jn_s, if_neg c0, if_pos c3, if_pos c4, rr_0_16, ob, tp_a hr6, tp_c hr6]
              rw [z1]
              rfl
            · unfold fX11_tape
              simp only [r_isTape, tI_pos c1, bd_s, i10, if_false, r_in, m1, p4, le_64, tI_pos c2, jn_s, if_neg nz0, if_pos c3, if_pos c4, if_pos pz0, rr_101_33, rr_101_34, ob, si_115 hr6]
              rw [si_115 hr6] at z2
              exact z2
          · refine Alike_same (a := -14) ?_ ?_ H
            · unfold fX10_tape
              simp only [c_isTape, c_within, tI_pos c1, tI_pos c2, bd_s, i10, if_false, jn_s, if_neg c0, if_pos c3, if_neg c4]
            · unfold fX11_tape
              simp only [r_isTape, tI_pos c1, bd_s, i10, if_false, r_in, m1, p4, le_64, tI_pos c2, jn_s, if_neg nz0, if_pos c3, if_neg c4]
        · refine Alike_same (a := -2) ?_ ?_ H
          · unfold fX10_tape
            simp only [c_isTape, c_within, tI_pos c1, tI_pos c2, bd_s, i10, if_false, jn_s, if_neg c0, if_neg c3]
          · unfold fX11_tape
            simp only [r_isTape, tI_pos c1, bd_s, i10, if_false, r_in, m1, p4, le_64, tI_pos c2, jn_s, if_neg nz0, if_neg c3]
    · refine Alike_same (a := -2) ?_ ?_ H
      · unfold fX10_tape
        simp only [c_isTape, c_within, tI_pos c1, tI_neg c2, bd_s, i10, i00, if_true, if_false]
      · unfold fX11_tape
        simp only [r_isTape, tI_pos c1, bd_s, i10, i00, if_true, if_false, r_in, m1, p4, le_64, tI_neg c2]
  · refine Alike_same (a := -1) ?_ ?_ H
    · unfold fX10_tape
      simp only [c_isTape, tI_neg c1, bd_s, i00, if_true]
    · unfold fX11_tape
      simp only [r_isTape, tI_neg c1, bd_s, i00, if_true]
end TAPE
