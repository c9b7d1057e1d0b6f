/-! ===== clauses are done ===== -/
section DONEB
variable {s t : Sto} {g w : Nat → Nat} {k : Nat}
theorem good_c (h : goodW w) : w 0 = 100 ∨ w 0 = 113 ∨ w 0 = 112 ∨ w 0 = 101 ∨ w 0 = 102 ∨ w 0 = 99 := by
  have c1 := h.1
  unfold fmI at c1
  by_cases h1 : w 0 = 100
  · exact Or.inl h1
  · by_cases h2 : w 0 = 113
    · exact Or.inr (Or.inl h2)
    · by_cases h3 : w 0 = 112
      · exact Or.inr (Or.inr (Or.inl h3))
      · by_cases h4 : w 0 = 101
        · exact Or.inr (Or.inr (Or.inr (Or.inl h4)))
        · by_cases h5 : w 0 = 102
          · exact Or.inr (Or.inr (Or.inr (Or.inr (Or.inl h5))))
          · by_cases h6 : w 0 = 99
            · exact Or.inr (Or.inr (Or.inr (Or.inr (Or.inr h6))))
            · rw [if_neg h1, if_neg h2, if_neg h3, if_neg h4, if_neg h5, if_neg h6] at c1
              omega
theorem slw_of {c : Nat} (h : w 0 = c) : slw w = 1 + nsl (FM (fmI c)) := by
  unfold slw
  rw [h]
theorem c_isDone_100 (hs : OKs g) (h : RB s 2 g) (hk : k < 12) (e : w 0 = 100) (hv : ∀ i, i < slw w → s.1 79 (7 * k + i) = iN (w i)) : CO s (fX3_isDone 78 2 (iN (7 * k))) (opCl g w) := by
  have hb : Bs 2 := Or.inl rfl
  have es := slw_of e
  have en : nsl (FM (fmI 100)) = 6 := by decide
  have e0 : s.1 79 (7 * k) = (100 : Int32) := by
    have := hv 0 (by omega)
    rw [Nat.add_zero, e] at this
    exact this
  have e1 := hv 1 (by omega)
  have e2 := hv 2 (by omega)
  have e3 := hv 3 (by omega)
  have e4 := hv 4 (by omega)
  have e5 := hv 5 (by omega)
  have e6 := hv 6 (by omega)
  have eo : opCl g w = yesO (opDem g (iN (w 1)) (iN (w 2)) (iN (w 3)) (iN (w 4)) (iN (w 5)) (iN (w 6))) := by
    unfold opCl
    rw [if_pos e]
  rw [eo]
  refine CO_eq ?_ (CO_yes (co_dem hs h (iN (w 1)) (iN (w 2)) (iN (w 3)) (iN (w 4)) (iN (w 5)) (iN (w 6))))
  unfold fX3_isDone
  simp only [rr_78_0, ob, iN_addL, ai_79 (show 7 * k < 84 by omega), ai_79 (show 7 * k + 1 < 84 by omega), ai_79 (show 7 * k + 2 < 84 by omega), ai_79 (show 7 * k + 3 < 84 by omega), ai_79 (show 7 * k + 4 < 84 by omega), ai_79 (show 7 * k + 5 < 84 by omega), ai_79 (show 7 * k + 6 < 84 by omega), e0, e1, e2, e3, e4, e5, e6]
  simp only [show ((100 : Int32) = 100) = True by decide, if_true, if_false, bs_c hb, ob]
theorem c_isDone_113 (hs : OKs g) (h : RB s 2 g) (hk : k < 12) (e : w 0 = 113) (hv : ∀ i, i < slw w → s.1 79 (7 * k + i) = iN (w i)) : CO s (fX3_isDone 78 2 (iN (7 * k))) (opCl g w) := by
  have hb : Bs 2 := Or.inl rfl
  have es := slw_of e
  have en : nsl (FM (fmI 113)) = 4 := by decide
  have e0 : s.1 79 (7 * k) = (113 : Int32) := by
    have := hv 0 (by omega)
    rw [Nat.add_zero, e] at this
    exact this
  have e1 := hv 1 (by omega)
  have e2 := hv 2 (by omega)
  have e3 := hv 3 (by omega)
  have e4 := hv 4 (by omega)
  have eo : opCl g w = andO (opInf g (iN (w 1)) 0 (iN (w 2))) (fun g => andO (opInf g (iN (w 1)) 1 (iN (w 3))) (fun g => yesO (opInf g (iN (w 1)) 2 (iN (w 4))))) := by
    unfold opCl
    rw [if_neg (show ¬ w 0 = 100 by omega), if_pos e]
  rw [eo]
  refine CO_eq ?_ (CO_and (F := fun μ158 => (isC μ158 2 0).bind fun _ => bd (fX0_changeInflow 2 (iN (w 1)) ((1 : Int32)) (iN (w 3)) μ158) fun x169 μ169 => if x169 < 0 then ((zz ((0 : Int32))).bind fun z => some (z, μ169)) else ((isC μ169 2 0).bind fun _ => bd (fX0_changeInflow 2 (iN (w 1)) ((2 : Int32)) (iN (w 4)) μ169) fun x180 μ180 => if x180 < 0 then ((zz ((0 : Int32))).bind fun z => some (z, μ180)) else ((zz ((1 : Int32))).bind fun z => some (z, μ180)))) (co_inf hs.1 h (iN (w 1)) 0 (iN (w 2))) (fun t ht _ => CO_eq (f' := fun μ => bd (fX0_changeInflow 2 (iN (w 1)) ((1 : Int32)) (iN (w 3)) μ) fun x169 μ169 => if x169 < 0 then ((zz ((0 : Int32))).bind fun z => some (z, μ169)) else ((isC μ169 2 0).bind fun _ => bd (fX0_changeInflow 2 (iN (w 1)) ((2 : Int32)) (iN (w 4)) μ169) fun x180 μ180 => if x180 < 0 then ((zz ((0 : Int32))).bind fun z => some (z, μ180)) else ((zz ((1 : Int32))).bind fun z => some (z, μ180)))) (by simp only [bs_c hb, ob]) (CO_and (F := fun μ169 => (isC μ169 2 0).bind fun _ => bd (fX0_changeInflow 2 (iN (w 1)) ((2 : Int32)) (iN (w 4)) μ169) fun x180 μ180 => if x180 < 0 then ((zz ((0 : Int32))).bind fun z => some (z, μ180)) else ((zz ((1 : Int32))).bind fun z => some (z, μ180))) (co_inf (ok_inf hs).1.1 ht (iN (w 1)) 1 (iN (w 3))) (fun t2 ht2 _ => CO_eq (f' := fun μ => bd (fX0_changeInflow 2 (iN (w 1)) ((2 : Int32)) (iN (w 4)) μ) fun x180 μ180 => if x180 < 0 then ((zz ((0 : Int32))).bind fun z => some (z, μ180)) else ((zz ((1 : Int32))).bind fun z => some (z, μ180))) (by simp only [bs_c hb, ob]) (CO_yes (co_inf (ok_inf (ok_inf hs).1).1.1 ht2 (iN (w 1)) 2 (iN (w 4))))))))
  unfold fX3_isDone
  simp only [rr_78_0, ob, iN_addL, ai_79 (show 7 * k < 84 by omega), ai_79 (show 7 * k + 1 < 84 by omega), ai_79 (show 7 * k + 2 < 84 by omega), ai_79 (show 7 * k + 3 < 84 by omega), ai_79 (show 7 * k + 4 < 84 by omega), ai_79 (show 7 * k + 5 < 84 by omega), ai_79 (show 7 * k + 6 < 84 by omega), e0, e1, e2, e3, e4]
  simp only [show ((113 : Int32) = 100) = False by decide, show ((113 : Int32) = 101) = False by decide, show ((113 : Int32) = 102) = False by decide, show ((113 : Int32) = 103) = False by decide, show ((113 : Int32) = 104) = False by decide, show ((113 : Int32) = 105) = False by decide, show ((113 : Int32) = 106) = False by decide, show ((113 : Int32) = 107) = False by decide, show ((113 : Int32) = 108) = False by decide, show ((113 : Int32) = 109) = False by decide, show ((113 : Int32) = 110) = False by decide, show ((113 : Int32) = 111) = False by decide, show ((113 : Int32) = 112) = False by decide, show ((113 : Int32) = 113) = True by decide, if_true, if_false, bs_c hb, ob]
theorem c_isDone_112 (hs : OKs g) (h : RB s 2 g) (hk : k < 12) (hw : goodW w) (e : w 0 = 112) (hv : ∀ i, i < slw w → s.1 79 (7 * k + i) = iN (w i)) : CO s (fX3_isDone 78 2 (iN (7 * k))) (opCl g w) := by
  have hb : Bs 2 := Or.inl rfl
  have es := slw_of e
  have en : nsl (FM (fmI 112)) = 4 := by decide
  have e0 : s.1 79 (7 * k) = (112 : Int32) := by
    have := hv 0 (by omega)
    rw [Nat.add_zero, e] at this
    exact this
  have e1 := hv 1 (by omega)
  have e2 := hv 2 (by omega)
  have e3 := hv 3 (by omega)
  have e4 := hv 4 (by omega)
  have eo : opCl g w = opPas g (w 1) (w 2) (w 3) (w 4) := by
    unfold opCl
    rw [if_neg (show ¬ w 0 = 100 by omega), if_neg (show ¬ w 0 = 113 by omega), if_pos e]
  rw [eo]
  have b := hw.2 e
  refine CO_eq ?_ (CO_zz (co_pas hs.1 h (by omega) b.2.1 b.2.2.1 b.2.2.2) pas_01)
  unfold fX3_isDone
  simp only [rr_78_0, ob, iN_addL, ai_79 (show 7 * k < 84 by omega), ai_79 (show 7 * k + 1 < 84 by omega), ai_79 (show 7 * k + 2 < 84 by omega), ai_79 (show 7 * k + 3 < 84 by omega), ai_79 (show 7 * k + 4 < 84 by omega), ai_79 (show 7 * k + 5 < 84 by omega), ai_79 (show 7 * k + 6 < 84 by omega), e0, e1, e2, e3, e4]
  simp only [show ((112 : Int32) = 100) = False by decide, show ((112 : Int32) = 101) = False by decide, show ((112 : Int32) = 102) = False by decide, show ((112 : Int32) = 103) = False by decide, show ((112 : Int32) = 104) = False by decide, show ((112 : Int32) = 105) = False by decide, show ((112 : Int32) = 106) = False by decide, show ((112 : Int32) = 107) = False by decide, show ((112 : Int32) = 108) = False by decide, show ((112 : Int32) = 109) = False by decide, show ((112 : Int32) = 110) = False by decide, show ((112 : Int32) = 111) = False by decide, show ((112 : Int32) = 112) = True by decide, if_true, if_false, bs_c hb, ob]
theorem c_isDone_101 (hs : OKs g) (h : RB s 2 g) (hk : k < 12) (e : w 0 = 101) (hv : ∀ i, i < slw w → s.1 79 (7 * k + i) = iN (w i)) : CO s (fX3_isDone 78 2 (iN (7 * k))) (opCl g w) := by
  have hb : Bs 2 := Or.inl rfl
  have es := slw_of e
  have en : nsl (FM (fmI 101)) = 2 := by decide
  have e0 : s.1 79 (7 * k) = (101 : Int32) := by
    have := hv 0 (by omega)
    rw [Nat.add_zero, e] at this
    exact this
  have e1 := hv 1 (by omega)
  have e2 := hv 2 (by omega)
  have eo : opCl g w = yesO (opMon g (iN (w 1)) 0 (iN (w 2))) := by
    unfold opCl
    rw [if_neg (show ¬ w 0 = 100 by omega), if_neg (show ¬ w 0 = 113 by omega), if_neg (show ¬ w 0 = 112 by omega), if_pos e]
  rw [eo]
  refine CO_eq ?_ (CO_yes (co_mon hs.1 h (iN (w 1)) 0 (iN (w 2))))
  unfold fX3_isDone
  simp only [rr_78_0, ob, iN_addL, ai_79 (show 7 * k < 84 by omega), ai_79 (show 7 * k + 1 < 84 by omega), ai_79 (show 7 * k + 2 < 84 by omega), ai_79 (show 7 * k + 3 < 84 by omega), ai_79 (show 7 * k + 4 < 84 by omega), ai_79 (show 7 * k + 5 < 84 by omega), ai_79 (show 7 * k + 6 < 84 by omega), e0, e1, e2]
  simp only [show ((101 : Int32) = 100) = False by decide, show ((101 : Int32) = 101) = True by decide, if_true, if_false, bs_c hb, ob]
theorem c_isDone_102 (hs : OKs g) (h : RB s 2 g) (hk : k < 12) (e : w 0 = 102) (hv : ∀ i, i < slw w → s.1 79 (7 * k + i) = iN (w i)) : CO s (fX3_isDone 78 2 (iN (7 * k))) (opCl g w) := by
  have hb : Bs 2 := Or.inl rfl
  have es := slw_of e
  have en : nsl (FM (fmI 102)) = 2 := by decide
  have e0 : s.1 79 (7 * k) = (102 : Int32) := by
    have := hv 0 (by omega)
    rw [Nat.add_zero, e] at this
    exact this
  have e1 := hv 1 (by omega)
  have e2 := hv 2 (by omega)
  have eo : opCl g w = yesO (opMon g (iN (w 1)) 1 (iN (w 2))) := by
    unfold opCl
    rw [if_neg (show ¬ w 0 = 100 by omega), if_neg (show ¬ w 0 = 113 by omega), if_neg (show ¬ w 0 = 112 by omega), if_neg (show ¬ w 0 = 101 by omega), if_pos e]
  rw [eo]
  refine CO_eq ?_ (CO_yes (co_mon hs.1 h (iN (w 1)) 1 (iN (w 2))))
  unfold fX3_isDone
  simp only [rr_78_0, ob, iN_addL, ai_79 (show 7 * k < 84 by omega), ai_79 (show 7 * k + 1 < 84 by omega), ai_79 (show 7 * k + 2 < 84 by omega), ai_79 (show 7 * k + 3 < 84 by omega), ai_79 (show 7 * k + 4 < 84 by omega), ai_79 (show 7 * k + 5 < 84 by omega), ai_79 (show 7 * k + 6 < 84 by omega), e0, e1, e2]
  simp only [show ((102 : Int32) = 100) = False by decide, show ((102 : Int32) = 101) = False by decide, show ((102 : Int32) = 102) = True by decide, if_true, if_false, bs_c hb, ob]
theorem c_isDone_99 (hs : OKs g) (h : RB s 2 g) (hk : k < 12) (e : w 0 = 99) (hv : ∀ i, i < slw w → s.1 79 (7 * k + i) = iN (w i)) : CO s (fX3_isDone 78 2 (iN (7 * k))) (opCl g w) := by
  have hb : Bs 2 := Or.inl rfl
  have es := slw_of e
  have en : nsl (FM (fmI 99)) = 1 := by decide
  have e0 : s.1 79 (7 * k) = (99 : Int32) := by
    have := hv 0 (by omega)
    rw [Nat.add_zero, e] at this
    exact this
  have e1 := hv 1 (by omega)
  have eo : opCl g w = yesO (opPut g 0 (iN (w 1))) := by
    unfold opCl
    rw [if_neg (show ¬ w 0 = 100 by omega), if_neg (show ¬ w 0 = 113 by omega), if_neg (show ¬ w 0 = 112 by omega), if_neg (show ¬ w 0 = 101 by omega), if_neg (show ¬ w 0 = 102 by omega)]
  rw [eo]
  refine CO_eq ?_ (CO_yes (co_put hs.1 h 0 (iN (w 1))))
  unfold fX3_isDone
  simp only [rr_78_0, ob, iN_addL, ai_79 (show 7 * k < 84 by omega), ai_79 (show 7 * k + 1 < 84 by omega), ai_79 (show 7 * k + 2 < 84 by omega), ai_79 (show 7 * k + 3 < 84 by omega), ai_79 (show 7 * k + 4 < 84 by omega), ai_79 (show 7 * k + 5 < 84 by omega), ai_79 (show 7 * k + 6 < 84 by omega), e0, e1]
  simp only [show ((99 : Int32) = 100) = False by decide, show ((99 : Int32) = 101) = False by decide, show ((99 : Int32) = 102) = False by decide, show ((99 : Int32) = 103) = False by decide, show ((99 : Int32) = 104) = False by decide, show ((99 : Int32) = 105) = False by decide, show ((99 : Int32) = 106) = False by decide, show ((99 : Int32) = 107) = False by decide, show ((99 : Int32) = 108) = False by decide, show ((99 : Int32) = 109) = False by decide, show ((99 : Int32) = 110) = False by decide, show ((99 : Int32) = 111) = False by decide, show ((99 : Int32) = 112) = False by decide, show ((99 : Int32) = 113) = False by decide, if_false, bs_c hb, ob]
theorem c_isDone (hs : OKs g) (h : RB s 2 g) (hk : k < 12) (hw : goodW w) (hv : ∀ i, i < slw w → s.1 79 (7 * k + i) = iN (w i)) : CO s (fX3_isDone 78 2 (iN (7 * k))) (opCl g w) := by
  rcases good_c hw with e | e | e | e | e | e
  · exact c_isDone_100 hs h hk e hv
  · exact c_isDone_113 hs h hk e hv
  · exact c_isDone_112 hs h hk hw e hv
  · exact c_isDone_101 hs h hk e hv
  · exact c_isDone_102 hs h hk e hv
  · exact c_isDone_99 hs h hk e hv
/-- the first n clauses done: how many were, what the numbers are -/
def foldS (g : Nat → Nat) (W : Nat → Nat → Nat) : Nat → Nat × (Nat → Nat)
  | 0 => (0, g)
  | n + 1 => ((if (opCl (foldS g W n).2 (W n)).1 = 0 then (foldS g W n).1 else (foldS g W n).1 + 1), (opCl (foldS g W n).2 (W n)).2)
theorem ok_fold {W : Nat → Nat → Nat} (hg : OKs g) : ∀ n, (∀ k, k < n → goodW (W k)) → OKs (foldS g W n).2 ∧ ∀ j, 110 ≤ j → (foldS g W n).2 j = g j
  | 0, _ => ⟨hg, fun _ _ => rfl⟩
  | n + 1, h => by
    have i := ok_fold hg n (fun k hk => h k (by omega))
    have o := ok_cl i.1 (h n (by omega))
    exact ⟨o.1, fun j hj => (o.2 j hj).trans (i.2 j hj)⟩
theorem c_doL {W : Nat → Nat → Nat} {n : Nat} (hg : OKs g) (hn : n ≤ 12) (hw : ∀ k, k < n → goodW (W k)) : ∀ (m k : Nat) (s : Sto), n - k < m → k ≤ n → RB s 2 (foldS g W k).2 → s.1 78 1 = iN n → Wv s 79 n W → ∃ t, X3_doAll_L4 (fun v2_33 μ_33 => some (v2_33, μ_33)) 78 2 m (iN (foldS g W k).1) (iN k) (lay s) = some (iN (foldS g W n).1, lay t) ∧ RB t 2 (foldS g W n).2 ∧ Kcl s t := by
  intro m
  induction m with
  | zero => intro k s h; omega
  | succ m ih =>
    intro k s h1 h2 hB h78 hW
    rw [X3_doAll_L4]
    simp only [gi_78_1, ob, h78]
    simp (disch := first | assumption | omega) only [iN_le]
    by_cases c : n ≤ k
    · rw [if_pos c]
      have : k = n := by omega
      subst this
      exact ⟨s, rfl, hB, Kcl.rf⟩
    · rw [if_neg c]
      obtain ⟨t, t1, t2, t3⟩ := c_isDone (ok_fold hg k (fun j hj => hw j (by omega))).1 hB (show k < 12 by omega) (hw k (by omega)) (fun i hi => hW k i (by omega) hi)
      simp only [oc_78, ob, iN_mulL, iN_addL]
      rw [show k * 7 = 7 * k by omega, t1]
      simp only [bd_s]
      have nx := fun hB' => ih (k + 1) t (by omega) (by omega) hB' (by rw [t3.1 78 (by omega)]; exact h78) (fun a i ha hi => by rw [t3.1 79 (by omega)]; exact hW a i ha hi)
      have e2 : (foldS g W (k + 1)).2 = (opCl (foldS g W k).2 (W k)).2 := rfl
      have e1 : (foldS g W (k + 1)).1 = if (opCl (foldS g W k).2 (W k)).1 = 0 then (foldS g W k).1 else (foldS g W k).1 + 1 := rfl
      obtain ⟨u, u1, u2, u3⟩ := nx (by rw [e2]; exact t2)
      refine ⟨u, ?_, u2, t3.tr u3⟩
      by_cases d : (opCl (foldS g W k).2 (W k)).1 = 0
      · rw [if_pos d] at e1
        rw [if_pos d, ← e1]
        exact u1
      · rw [if_neg d] at e1
        rw [if_neg d, ← e1]
        exact u1
end DONEB
