/-! ===== what a demand, a unit of room, of flood space is worth ===== -/
section WORTH
variable {s : Sto}
theorem upd_back {f : Nat → Int32} {k : Nat} {a b : Int32} (h : f k = b) : upd (upd f k a) k b = f := by
  funext j
  unfold upd
  by_cases c : j = k
  · rw [if_pos c, c, h]
  · rw [if_neg c, if_neg c]
/-- the class: best now, and best in thought by G, side by side -/
theorem c_two {t : Sto} {g G kp : Nat → Nat} {kf : Bool} {rn : Nat → Nat} {rv : Nat → Nat → Nat} {tn : Nat} {tv : Nat → Nat} (hB : IB s g kp kf rn rv tn tv) (hC : Ic s g) (ht : Of 41 s t) (hG : OKg G) (hT : RB t 41 G) (e1 : G 1 = g 1) {x i : Nat} (hx : x ≤ g 0) (hx2 : x ≤ G 0) (hi : i < 3) :
    ∃ u, (∀ K : UInt32 → UInt32 → Mem → Option (Int64 × Mem), ((isC (lay t) 0 10).bind fun _ => bd (fX10_solveNow 0 (lay t)) fun _ μ93 => (isC μ93 0 10).bind fun _ => bd (fX10_solveThought 0 μ93) fun _ μ97 => (gR μ97 0 10 4).bind fun x101 => (isC μ97 x101 1).bind fun _ => bd (fX1_bestAt x101 ((0 : Int32)) (iN x) (iN i) μ97) fun x108 μ108 => (gR μ108 0 10 5).bind fun x114 => (isC μ108 x114 1).bind fun _ => bd (fX1_bestAt x114 ((0 : Int32)) (iN x) (iN i) μ108) fun x121 μ121 => K x108 x121 μ121) = K (bstS g (g 1) x i) (bstS G (g 1) x i) (lay u)) ∧ Kb s u ∧ Ic u g := by
  have hg := hB.1.1.1
  have b1 := hg.1
  have hB1 := IB_keep (Kb_Of ht) hB
  obtain ⟨t1, a1, a2, a3, a4⟩ := c_solveNow hg hB1.1.2.1.1 (Ic_keep (Kc_Of ht) hC)
  have hT1 : RB t1 41 G := RB_congr hT hG.1.2.2.2.2.2.2 (fun q h1 h2 => a2.1 q (by omega) (by omega) (by omega))
  obtain ⟨t2, c1, c2, c3⟩ := c_solveThought hG hT1
  have tb : TBs g 0 (t2.2.1 (54 + 1)) (t2.2.1 (54 + 2)) (t2.1 (54 + 3)) := by
    rw [c2.2.1 _ (by omega) (by omega), c2.2.1 _ (by omega) (by omega), c2.1 _ (by omega) (by omega)]
    exact a3.2.2
  refine ⟨t2, fun K => ?_, ((Kb_Of ht).tr a2.b).tr c2.b, Ic_keep c2.c a4⟩
  simp only [oc_0, ob]
  rw [a1]
  simp only [bd_s, oc_0, ob]
  rw [c1]
  simp only [bd_s, rr_0_4, rr_0_5, ob, rw_c (r := 54) (Or.inl rfl), rw_c (r := 59) (Or.inr rfl)]
  have b2 : fX1_bestAt 54 0 (iN x) (iN i) (lay t2) = some (bstS g (g 1 - 0) x i, lay t2) := c_bestAt (r := 54) (m := 0) (Or.inl rfl) (Nat.zero_le _) (by omega) hx hi hg tb
  have b3 : fX1_bestAt 59 0 (iN x) (iN i) (lay t2) = some (bstS G (G 1 - 0) x i, lay t2) := c_bestAt (r := 59) (m := 0) (Or.inr rfl) (Nat.zero_le _) (by omega) hx2 hi hG c3
  rw [b2]
  simp only [bd_s, rr_0_5, ob, rw_c (r := 59) (Or.inr rfl)]
  rw [b3, e1]
  rfl
theorem c_bitsub {x y : UInt32} {N M : Nat} (hx : aL N x) (hy : aL M y) (hn : nzr x) (h : N + M ≤ 2 ^ 24) {μ : Mem} : nn (FP.fsub x y) = some (FP.fsub x y) ∧ fX10_bitsOf (FP.fsub x y) μ = some ((FP.fsub x y).toInt32, μ) ∧ fX11_bits (FP.fsub x y) μ = some ((FP.fsub x y).toInt32.toInt64, μ) := by
  have h1 := aL_sub hx hy h
  exact ⟨nn_aL h1, c_bitsOf h1.1 (nzr_sub hx.1 hy.1 hn), r_bits h1.1⟩
theorem mask_one : ∀ k < 6, ∀ d < 6, (((((1 : Int32) <<< (iN k &&& 31)) >>> (iN d &&& 31)) &&& 1 = 1) ↔ d = k) := by decide
theorem k_worth (H : Inv s) (u v y z : Int32) : Alike s (fX10_worth 0 u v y z) (fX11_worth 101 u v y z) := by
  have H0 := H
  obtain ⟨g, kp, kf, rn, rv, tn, tv, hB, hC⟩ := H0
  have hI := hB.1
  have hg := hI.1.1
  have b1 := hg.1
  have hR := RR_of hI
  have hc := hI.2.1.1
  have hb : Bs 2 := Or.inl rfl
  have okc : ∀ n v, n ≤ 2 → fX10_canBeWorth 0 (iN n) v (lay s) = some (if n = 0 then tI (0 ≤ v ∧ v < iN (g 73)) else if n = 1 then 1 else tI (0 ≤ v ∧ v ≤ (11 : Int32)), lay s) := by
    intro n v hn
    unfold fX10_canBeWorth
    simp only [rr_0_0, rr_1_0, ob, bs_c hb, c_hasDemand hb hg hc.1, bd_s, zz_tI, c_within, zz1]
    rcases (show n = 0 ∨ n = 1 ∨ n = 2 by omega) with rfl | rfl | rfl <;> rfl
  by_cases c0 : 0 ≤ u ∧ u ≤ (2 : Int32)
  · obtain ⟨n, rfl, hn⟩ := rng (k := 2) c0 (by omega)
    -- the reference's guard
    have okrA : ∀ (s : Sto), RR s g (fun _ => false) → ∀ K : Int32 → Mem → Option (Int64 × Mem), jn K (fun j34 => if iN n = 0 then ((isC (lay s) 101 11).bind fun _ => bd (fX11_isDemand 101 v (lay s)) fun x6 μ6 => j34 x6 μ6) else (jn (fun  (μ_29 : Mem) => j34 ((1 : Int32)) μ_29) (fun j29 => if iN n = (1 : Int32) then (j29 (lay s)) else (jn (fun  (μ_33 : Mem) => j34 ((0 : Int32)) μ_33) (fun j33 => if iN n = (2 : Int32) then (bd (fX11_isMonth v (lay s)) fun x23 μ23 => if x23 = 0 then (j33 μ23) else (j29 μ23)) else (j33 (lay s))))))) = K (if n = 0 then tI (0 ≤ v ∧ v < iN (g 73)) else if n = 1 then 1 else tI (0 ≤ v ∧ v ≤ (11 : Int32))) (lay s) := by
      intro s hR K
      simp only [jn_s, oc_101, ob, r_isDemand hR hg, bd_s, r_isMonth]
      rcases (show n = 0 ∨ n = 1 ∨ n = 2 by omega) with rfl | rfl | rfl
      · rfl
      · rfl
      · show (if tI (0 ≤ v ∧ v ≤ (11 : Int32)) = 0 then K 0 (lay s) else K 1 (lay s)) = K (tI (0 ≤ v ∧ v ≤ (11 : Int32))) (lay s)
        by_cases c : 0 ≤ v ∧ v ≤ (11 : Int32)
        · rw [tI_pos c]; rfl
        · rw [tI_neg c]; rfl
    have okr := okrA s hR
    by_cases c1 : (if n = 0 then tI (0 ≤ v ∧ v < iN (g 73)) else if n = 1 then 1 else tI (0 ≤ v ∧ v ≤ (11 : Int32))) = 0
    · refine Alike_same (a := -9223372036854775808) ?_ ?_ H
      · unfold fX10_worth
        simp only [oc_0, ob, okc n v hn, bd_s, if_pos c1]
      · unfold fX11_worth
        rw [okr]
        simp only [if_pos c1]
    · by_cases c2 : 0 ≤ y ∧ y ≤ iN (g 0)
      · obtain ⟨x, rfl, hx⟩ := rng c2 (by omega)
        by_cases c3 : 0 ≤ z ∧ z ≤ (2 : Int32)
        · obtain ⟨i, rfl, hi⟩ := rng (k := 2) c3 (by omega)
          have hi3 : i < 3 := by omega
          have hT41 : Bs 41 := Or.inr (Or.inr rfl)
          obtain ⟨t, t1, t2, t3⟩ := c_bcopy (s := s) (p := 41) (q := 2) hT41 hb (by omega)
          have hT := t3 g (by omega) hc
          have hNow := bstS_aL hg (g 1) x i (Nat.le_refl _) hx hi3
          -- by which numbers in thought, and how each side comes to it
          have main : ∀ (G : Nat → Nat) (w : Sto), OKg G → G 1 = g 1 → g 0 ≤ G 0 → Of 41 s w → RB w 41 G → (∀ K : Mem → Option (Int64 × Mem), (if iN n = 0 then ((gR (lay t) 0 10 3).bind fun x48 => (isC (lay t) x48 0).bind fun _ => bd (fX0_silence x48 v (lay t)) fun _ μ52 => K μ52) else (if iN n = (1 : Int32) then ((gR (lay t) 0 10 3).bind fun x64 => (gI (lay t) x64 0 0).bind fun x68 => (pV (lay t) x64 0 0 (.int ((x68 + (1 : Int32))))).bind fun μ73 => K μ73) else ((gR (lay t) 0 10 3).bind fun x80 => (gR (lay t) x80 0 7).bind fun x83 => (aI (lay t) 0 x83 v).bind fun x88 => (sI (lay t) x83 v ((x88 + (1 : Int32)))).bind fun μ91 => K μ91))) = K (lay w)) →
              (∀ (a : Sto), IB a g kp kf rn rv tn tv → ∃ b, Kb a b ∧ Kc a b ∧ ∀ K : UInt32 → Mem → Option (Int64 × Mem), (if iN n = 0 then ((pV (lay a) 101 11 3 (.int (((1 : Int32) <<< (v &&& 31))))).bind fun μ78 => (isC μ78 101 11).bind fun _ => bd (fX11_bestNow 101 (iN x) (iN i) μ78) fun x85 μ85 => (pV μ85 101 11 3 (.int ((0 : Int32)))).bind fun μ92 => K x85 μ92) else (if iN n = (1 : Int32) then ((gR (lay a) 101 11 0).bind fun x114 => (aI (lay a) 0 x114 0).bind fun x120 => (sI (lay a) x114 0 ((x120 + (1 : Int32)))).bind fun μ123 => (isC μ123 101 11).bind fun _ => bd (fX11_bestNow 101 (iN x) (iN i) μ123) fun x128 μ128 => (gR μ128 101 11 0).bind fun x134 => (aI μ128 0 x134 0).bind fun x140 => (sI μ128 x134 0 ((x140 - (1 : Int32)))).bind fun μ143 => K x128 μ143) else ((gR (lay a) 101 11 0).bind fun x114 => (aI (lay a) 0 x114 (((61 : Int32) + v))).bind fun x120 => (sI (lay a) x114 (((61 : Int32) + v)) ((x120 + (1 : Int32)))).bind fun μ123 => (isC μ123 101 11).bind fun _ => bd (fX11_bestNow 101 (iN x) (iN i) μ123) fun x128 μ128 => (gR μ128 101 11 0).bind fun x134 => (aI μ128 0 x134 (((61 : Int32) + v))).bind fun x140 => (sI μ128 x134 (((61 : Int32) + v)) ((x140 - (1 : Int32)))).bind fun μ143 => K x128 μ143))) = K (bstS G (g 1) x i) (lay b)) →
              Alike s (fX10_worth 0 (iN n) v (iN x) (iN i)) (fX11_worth 101 (iN n) v (iN x) (iN i)) := by
            intro G w hG eG g0 hw hwT hcls href
            have hTho := bstS_aL hG (g 1) x i (by omega) (by omega) hi3
            have bd12 : bdS (g 1) ≤ 200000 := by unfold bdS; omega
            obtain ⟨a, a1, a2, a3⟩ := c_two hB hC hw hG hwT eG hx (show x ≤ G 0 by omega) hi3
            have hBa := IB_keep a2 hB
            obtain ⟨a', p1, p2⟩ := r_bestNow hg (RR_of hBa.1) hx hi3
            have hBa' := IB_keep (Kb_Fx p2) hBa
            obtain ⟨b, q1, q2, q3⟩ := href a' hBa'
            have f1 := fun μ => c_bitsub (μ := μ) hNow.1 hTho.1 hNow.2 (by omega)
            have f2 := fun μ => c_bitsub (μ := μ) hTho.1 hNow.1 hTho.2 (by omega)
            refine ⟨(if iN n = (1 : Int32) then FP.fsub (bstS G (g 1) x i) (bstS g (g 1) x i) else FP.fsub (bstS g (g 1) x i) (bstS G (g 1) x i)).toInt32.toInt64, a, b, ?_, ?_, ?_⟩
            · unfold fX10_worth
              simp only [oc_0, ob, okc n v hn, bd_s, if_neg c1, c_isStore hc, c_isState, tI_pos c2, tI_pos c3, i10, if_false, rr_0_3, rr_0_0, rr_1_0, bs_c hT41]
              rw [t1]
              simp only [bd_s, jn_s]
              rw [hcls]
              rw [a1]
              by_cases e : iN n = (1 : Int32)
              · simp only [if_pos e]
                rw [(f2 (lay a)).1]
                simp only [ob]
                rw [(f2 (lay a)).2.1]
                rfl
              · simp only [if_neg e]
                rw [(f1 (lay a)).1]
                simp only [ob]
                rw [(f1 (lay a)).2.1]
                rfl
            · unfold fX11_worth
              rw [okrA a (RR_of hBa.1)]
              have hRa := RR_of hBa.1
              simp only [jn_s, if_neg c1, oc_101, ob, r_isStore hRa, r_isState, tI_pos c2, tI_pos c3, bd_s, i10, if_false]
              rw [p1]
              simp only [bd_s]
              rw [q3]
              by_cases e : iN n = (1 : Int32)
              · simp only [if_pos e]
                rw [(f2 (lay b)).1]
                simp only [ob]
                rw [(f2 (lay b)).2.2]
                rfl
              · simp only [if_neg e]
                rw [(f1 (lay b)).1]
                simp only [ob]
                rw [(f1 (lay b)).2.2]
                rfl
            · exact Inv_of hB ((a2.tr (Kb_Fx p2)).tr q1) (Ic_keep q2 (Ic_keep (Kc_Fx p2) a3))
          -- set a number of the reference, look, and put it back
          have setb : ∀ (a : Sto) (k : Nat), IB a g kp kf rn rv tn tv → k < 73 → OKg (gs g k (g k + 1)) → x ≤ gs g k (g k + 1) 0 → gs g k (g k + 1) 1 = g 1 → g k ≤ 99 → ∃ b, Kb a b ∧ Kc a b ∧ ∀ K : UInt32 → Mem → Option (Int64 × Mem), ((gR (lay a) 101 11 0).bind fun x114 => (aI (lay a) 0 x114 (iN k)).bind fun x120 => (sI (lay a) x114 (iN k) ((x120 + (1 : Int32)))).bind fun μ123 => (isC μ123 101 11).bind fun _ => bd (fX11_bestNow 101 (iN x) (iN i) μ123) fun x128 μ128 => (gR μ128 101 11 0).bind fun x134 => (aI μ128 0 x134 (iN k)).bind fun x140 => (sI μ128 x134 (iN k) ((x140 - (1 : Int32)))).bind fun μ143 => K x128 μ143) = K (bstS (gs g k (g k + 1)) (g 1) x i) (lay b) := by
            intro a k ha hk hG hx2 e1 hk99
            have hRg := ha.1.2.2.1
            have h102 := Rg_set (v := g k + 1) hRg (show k < 173 by omega)
            have hRR : RR (uI a 102 k (iN (g k + 1))) (gs g k (g k + 1)) (fun _ => false) := ⟨fun j hj _ => h102 j hj, fun d hd => by rw [rI_ne (by omega)]; exact (RR_of ha.1).2.1 d hd, fun d hd h => by cases h⟩
            obtain ⟨b, p1, p2⟩ := r_bestNow hG hRR hx2 hi3
            have eb : b.1 102 = upd (a.1 102) k (iN (g k + 1)) := by rw [p2.1 102 (by omega) (by omega) (by omega) (by omega), rI_same]
            have hback : rI b 102 (a.1 102) = rI b 102 (a.1 102) := rfl
            refine ⟨rI b 102 (a.1 102), ⟨fun q hq => ?_, ?_, fun j hj => ?_, ?_, fun ht => ?_⟩, ⟨fun j hj => ?_, ?_, ?_, ?_, ?_⟩, fun K => ?_⟩
            · by_cases c : q = 102
              · subst c; rw [rI_same]
              · rw [rI_ne c, p2.1 q (by unfold SP at hq; omega) (by unfold SP at hq; omega) (by unfold SP at hq; omega) (by unfold SP at hq; omega), rI_ne c]
            · rw [rI_ne (by omega), p2.1 0 (by omega) (by omega) (by omega) (by omega), rI_ne (by omega)]
            · rw [rI_ne (by omega), p2.2.2.2 j (by omega), rI_ne (by omega)]
            · rw [rI_2, p2.2.2.1, rI_2]
            · unfold Tw at *
              rw [rI_2, p2.2.2.1, rI_2]
              exact ht
            · rw [rI_ne (by omega), p2.1 0 (by omega) (by omega) (by omega) (by omega), rI_ne (by omega)]
            · rw [rI_ne (by omega), p2.1 57 (by omega) (by omega) (by omega) (by omega), rI_ne (by omega)]
            · rw [rI_ne (by omega), p2.1 58 (by omega) (by omega) (by omega) (by omega), rI_ne (by omega)]
            · rw [rI_2, p2.2.1 55 (by omega), rI_2]
            · rw [rI_2, p2.2.1 56 (by omega), rI_2]
            · simp only [rr_101_0, ob, gi_g hRg (show k < 173 by omega), iN_addL, si_102 (show k < 173 by omega), oc_101]
              rw [p1]
              simp only [bd_s, rr_101_0, ob, ai_102 (show k < 173 by omega), si_102 (show k < 173 by omega)]
              have e9 : uI b 102 k (iN (g k)) = rI b 102 (a.1 102) := by
                show rI b 102 (upd (b.1 102) k (iN (g k))) = _
                rw [eb, upd_back (hRg k (by omega))]
              rw [eb, upd_same, iN_subL (by omega), Nat.add_sub_cancel, e9, e1]
          rcases (show n = 0 ∨ n = 1 ∨ n = 2 by omega) with rfl | rfl | rfl
          · -- without a demand
            have cd : 0 ≤ v ∧ v < iN (g 73) := Decidable.byContradiction fun h => c1 (by rw [if_pos rfl, tI_neg h])
            obtain ⟨d, rfl, hd⟩ := rnl cd (by omega)
            have d6 : d < 6 := by omega
            obtain ⟨w, w1, w2, w3⟩ := c_silence hT41 hg hT d6
            refine main (gs g (76 + 6 * d) 0) w (ok_sil hg d6) (gs_ne (by omega)) (by rw [gs_ne (by omega)]; exact Nat.le_refl _) (t2.tr w2) w3 (fun K => ?_) (fun a ha => ?_)
            · show ((gR (lay t) 0 10 3).bind fun x48 => (isC (lay t) x48 0).bind fun _ => bd (fX0_silence x48 (iN d) (lay t)) fun _ μ52 => K μ52) = _
              simp only [rr_0_3, ob, bs_c hT41]
              rw [w1]
              rfl
            · have hRg := ha.1.2.2.1
              have hRR : RR (uI a 101 3 ((1 : Int32) <<< (iN d &&& 31))) (gs g (76 + 6 * d) 0) (fun e => decide (e = d)) := by
                refine ⟨fun j hj hno => ?_, fun e he => ?_, fun e he hw => ?_⟩
                · rw [rI_ne (by omega), gs_ne (hno d d6 (by simp))]
                  exact hRg j hj
                · rw [rI_same, upd_same]
                  exact propext ⟨fun h => by simpa using (mask_one d d6 e he).mp h, fun h => (mask_one d d6 e he).mpr (by simpa using h)⟩
                · have : e = d := by simpa using hw
                  subst this
                  unfold dF
                  rw [show 74 + 6 * e + 2 = 76 + 6 * e by omega]
                  exact gs_same
              obtain ⟨b, p1, p2⟩ := r_bestNow (ok_sil hg d6) hRR (show x ≤ gs g (76 + 6 * d) 0 0 by rw [gs_ne (by omega)]; exact hx) hi3
              refine ⟨uI b 101 3 0, ⟨fun q hq => ?_, ?_, fun j hj => ?_, ?_, fun ht => ?_⟩, ⟨fun j hj => ?_, ?_, ?_, ?_, ?_⟩, fun K => ?_⟩
              · have q101 : q ≠ 101 := by unfold SP at hq; omega
                rw [rI_ne q101, p2.1 q q101 (by unfold SP at hq; omega) (by unfold SP at hq; omega) (by unfold SP at hq; omega), rI_ne q101]
              · rw [rI_ne (by omega), p2.1 0 (by omega) (by omega) (by omega) (by omega), rI_ne (by omega)]
              · rw [rI_same]
                by_cases c : j = 3
                · subst c
                  rw [upd_same]
                  exact ha.1.2.2.2.symm
                · rw [upd_ne c, p2.2.2.2 j (by omega), rI_same, upd_ne c]
              · rw [rI_2, p2.2.2.1, rI_2]
              · unfold Tw at *
                rw [rI_2, p2.2.2.1, rI_2]
                exact ht
              · rw [rI_ne (by omega), p2.1 0 (by omega) (by omega) (by omega) (by omega), rI_ne (by omega)]
              · rw [rI_ne (by omega), p2.1 57 (by omega) (by omega) (by omega) (by omega), rI_ne (by omega)]
              · rw [rI_ne (by omega), p2.1 58 (by omega) (by omega) (by omega) (by omega), rI_ne (by omega)]
              · rw [rI_2, p2.2.1 55 (by omega), rI_2]
              · rw [rI_2, p2.2.1 56 (by omega), rI_2]
              · show ((pV (lay a) 101 11 3 (.int (((1 : Int32) <<< (iN d &&& 31))))).bind fun μ78 => (isC μ78 101 11).bind fun _ => bd (fX11_bestNow 101 (iN x) (iN i) μ78) fun x85 μ85 => (pV μ85 101 11 3 (.int ((0 : Int32)))).bind fun μ92 => K x85 μ92) = _
                simp only [pi_101_3, ob, oc_101]
                rw [p1]
                simp only [bd_s, pi_101_3, ob]
                rw [show gs g (76 + 6 * d) 0 1 = g 1 from gs_ne (by omega)]
          · -- a unit of room more
            have hG : OKg (gs g 0 (g 0 + 1)) := OKg_set hg (by omega) (fun _ => ⟨by omega, by have := hI.1.2.1; omega⟩) (by omega) (by omega) (by omega) (by omega) (fun i hi => by rw [parts_low (by omega) hi]; exact hg.2.2.2.1 i hi) (by omega) (by omega) (fun d hd => by omega)
            refine main (gs g 0 (g 0 + 1)) (uI t 41 0 (iN (g 0 + 1))) hG (gs_ne (by omega)) (by rw [gs_same]; omega) (t2.tr (Of_rI (by omega))) (RB_set (by omega) hT (Or.inl ⟨rfl, rfl, by omega⟩) (by omega)) (fun K => ?_) (fun a ha => ?_)
            · show ((gR (lay t) 0 10 3).bind fun x64 => (gI (lay t) x64 0 0).bind fun x68 => (pV (lay t) x64 0 0 (.int ((x68 + (1 : Int32))))).bind fun μ73 => K μ73) = _
              simp only [rr_0_3, ob, bs_g0 hT41, bs_p0 hT41, hT.1.1.1, iN_add, iN_addL, iN_Ladd, iN_mul, iN_mulL, iN_Lmul]
            · exact setb a 0 ha (by omega) hG (by rw [gs_same]; omega) (gs_ne (by omega)) (by omega)
          · -- a unit of flood space more
            have cd : 0 ≤ v ∧ v ≤ (11 : Int32) := Decidable.byContradiction fun h => c1 (by rw [if_neg (by omega), if_neg (by omega), tI_neg h])
            obtain ⟨m, rfl, hm⟩ := rng (k := 11) cd (by omega)
            have hm12 : m < 12 := by omega
            have fl := hI.1.2.2.1 m hm12
            have hG : OKg (gs g (61 + m) (g (61 + m) + 1)) := OKg_set hg (by omega) (by omega) (by omega) (by omega) (by omega) (by omega) (fun i hi => by rw [parts_low (by omega) hi]; exact hg.2.2.2.1 i hi) (by omega) (fun _ _ => by omega) (fun d hd => by omega)
            refine main (gs g (61 + m) (g (61 + m) + 1)) (uI t 45 m (iN (g (61 + m) + 1))) hG (gs_ne (by omega)) (by rw [gs_ne (by omega)]; exact Nat.le_refl _) (t2.tr (Of_rI (by omega))) (RB_set (by omega) hT (Or.inr (Or.inr (Or.inr (Or.inr (Or.inl ⟨rfl, rfl, by omega⟩))))) (by omega)) (fun K => ?_) (fun a ha => ?_)
            · show ((gR (lay t) 0 10 3).bind fun x80 => (gR (lay t) x80 0 7).bind fun x83 => (aI (lay t) 0 x83 (iN m)).bind fun x88 => (sI (lay t) x83 (iN m) ((x88 + (1 : Int32)))).bind fun μ91 => K μ91) = _
              simp only [rr_0_3, ob, bs_r7 hT41, bs_a4 hT41 hm12, bs_s4 hT41 hm12, hT.1.2.2.2.2.1 m hm12, iN_add, iN_addL, iN_Ladd, iN_mul, iN_mulL, iN_Lmul]
            · have := setb a (61 + m) ha (by omega) hG (by rw [gs_ne (by omega)]; exact hx) (gs_ne (by omega)) (by omega)
              simp only [iN_add, iN_addL, iN_Ladd, iN_mul, iN_mulL, iN_Lmul]
              exact this
        · refine Alike_same (a := -9223372036854775808) ?_ ?_ H
          · unfold fX10_worth
            simp only [oc_0, ob, okc n v hn, bd_s, if_neg c1, c_isStore hc, c_isState, tI_pos c2, tI_neg c3, i10, i00, if_true, if_false]
          · unfold fX11_worth
            rw [okr]
            simp only [if_neg c1, oc_101, ob, r_isStore hR, r_isState, tI_pos c2, tI_neg c3, bd_s, i10, i00, if_true, if_false]
      · refine Alike_same (a := -9223372036854775808) ?_ ?_ H
        · unfold fX10_worth
          simp only [oc_0, ob, okc n v hn, bd_s, if_neg c1, c_isStore hc, tI_neg c2, i00, if_true]
        · unfold fX11_worth
          rw [okr]
          simp only [if_neg c1, oc_101, ob, r_isStore hR, tI_neg c2, bd_s, i00, if_true]
  · have n0 : ¬ (u = 0) := fun e => c0 (by subst e; decide)
    have n1 : ¬ (u = 1) := fun e => c0 (by subst e; decide)
    have n2 : ¬ (u = 2) := fun e => c0 (by subst e; decide)
    refine Alike_same (a := -9223372036854775808) ?_ ?_ H
    · unfold fX10_worth fX10_canBeWorth
      simp only [oc_0, ob, if_neg n0, if_neg n1, if_neg n2, zz0, bd_s, i00, if_true]
    · unfold fX11_worth
      simp only [jn_s, if_neg n0, if_neg n1, if_neg n2, i00, if_true]
end WORTH
