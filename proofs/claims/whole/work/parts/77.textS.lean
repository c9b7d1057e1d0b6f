/-! ===== the reference reads a clause, all clauses ===== -/
section TEXTS
variable {s t u : Sto} {tn n p : Nat} {tv : Nat → Nat}
theorem St_cl {c : Nat} (hT : HT s tn tv) (ht : tn ≤ 100) (hn : n < 12) (hp : p < tn) (h : Rq s (p, true)) : St (uI (uI s 114 (7 * n) (iN c)) 101 30 (iN (p + 1))) tn tv n 1 (p + 1, true) (fun _ => c) ∧ Kz (7 * n) s (uI (uI s 114 (7 * n) (iN c)) 101 30 (iN (p + 1))) := by
  have k : Kz (7 * n) s (uI (uI s 114 (7 * n) (iN c)) 101 30 (iN (p + 1))) := (Kz_v (Nat.le_refl _)).tr (Kz_1 (by omega))
  refine ⟨⟨k.T hT, show p + 1 ≤ tn by omega, ⟨by rw [rI_same, upd_same], ?_⟩, fun i hi => ?_⟩, k⟩
  · rw [rI_same, upd_ne (by omega), rI_ne (by omega)]
    exact h.2
  · have : i = 0 := by omega
    subst this
    rw [rI_ne (by omega), rI_same, Nat.add_zero, upd_same]
theorem r_letter (hT : HT s tn tv) (ht : tn ≤ 100) (hp : p ≤ tn) (h : Rq s (p, true)) {K : Int32 → Mem → Option (Unit × Mem)} : (gI (lay s) 101 11 30).bind (fun x1 => (gI (lay s) 101 11 29).bind fun x5 => jn K (fun j24 => if x5 ≤ x1 then (j24 ((-1 : Int32)) (lay s)) else ((gR (lay s) 101 11 28).bind fun x12 => (gI (lay s) 101 11 30).bind fun x16 => (aI (lay s) 3 x12 x16).bind fun x19 => j24 x19 (lay s)))) = K (sgS tn tv p) (lay s) := by
  have h30 : s.1 101 30 = iN p := h.1
  simp only [gi_101_30, gi_101_29, ob, h30, hT.1, jn_s]
  unfold sgS
  by_cases c : p < tn
  · rw [if_neg (by rw [iN_le (by omega) (by omega)]; omega), if_pos c]
    simp only [rr_101_28, ob, ai_113 (show p < 100 by omega), hT.2 p c]
  · rw [if_pos (by rw [iN_le (by omega) (by omega)]; omega), if_neg c]
/-- what a clause read leaves -/
def Cl (s t : Sto) (tn : Nat) (tv : Nat → Nat) (n p : Nat) : Prop := Kz (7 * n) s t ∧ Rq t (clS tn tv p).1 ∧ ((clS tn tv p).1.2 = true → ∀ i, i < slw (clS tn tv p).2 → t.1 114 (7 * n + i) = iN ((clS tn tv p).2 i))
theorem Cl_of {f : List Nat} {j : Nat} (hp : p < tn) (hf : FM (fmI (tv p)) = f) (h5 : fmI (tv p) < 5) (hj : 1 + nsl f ≤ j) (hk : Kz (7 * n) s t) (h : St t tn tv n j (runS tn tv f 1 (p + 1, true) (fun _ => tv p)).1 (runS tn tv f 1 (p + 1, true) (fun _ => tv p)).2) : Cl s t tn tv n p := by
  have ec : clS tn tv p = runS tn tv f 1 (p + 1, true) (fun _ => tv p) := by
    unfold clS
    rw [if_pos ⟨hp, h5⟩, hf]
  have e0 : (clS tn tv p).2 0 = tv p := by rw [ec]; exact run_0 _ 0 _ _
  have es : slw (clS tn tv p).2 = 1 + nsl f := by unfold slw; rw [e0, hf]
  refine ⟨hk, by rw [ec]; exact h.2.2.1, fun _ i hi => ?_⟩
  rw [es] at hi
  rw [ec]
  exact h.2.2.2 i (by omega)
theorem r_badClause (hT : HT s tn tv) (ht : tn ≤ 100) (hn : n < 12) (hp : p ≤ tn) (h : Rq s (p, true)) (v : Int32) : ∃ t, ((gI (lay (uI (uI s 114 (7 * n) v) 101 30 (iN (p + 1)))) 101 11 30).bind fun x256 => (pV (lay (uI (uI s 114 (7 * n) v) 101 30 (iN (p + 1)))) 101 11 30 (.int ((x256 - (1 : Int32))))).bind fun μ261 => (isC μ261 101 11).bind fun _ => bd (fX11_wrong 101 μ261) fun _ μ265 => some ((), μ265)) = some ((), lay t) ∧ Kz (7 * n) s t ∧ Rq t (p, false) := by
  have g1 : (uI (uI s 114 (7 * n) v) 101 30 (iN (p + 1))).1 101 30 = iN (p + 1) := by rw [rI_same, upd_same]
  have k : Kz (7 * n) s (uI (uI (uI s 114 (7 * n) v) 101 30 (iN (p + 1))) 101 30 (iN p)) := ((Kz_v (Nat.le_refl _)).tr (Kz_1 (by omega))).tr (Kz_1 (by omega))
  have r : Rq (uI (uI (uI s 114 (7 * n) v) 101 30 (iN (p + 1))) 101 30 (iN p)) (p, true) := by
    refine ⟨by rw [rI_same, upd_same], ?_⟩
    rw [rI_same, upd_ne (by omega), rI_same, upd_ne (by omega), rI_ne (by omega)]
    exact h.2
  obtain ⟨t, t1, t2, t3⟩ := r_wrong (show p ≤ 100 by omega) r
  refine ⟨t, ?_, k.tr (t2 _), t3⟩
  have e : iN (p + 1) - (1 : Int32) = iN p := by rw [iN_subL (by omega), Nat.add_sub_cancel]
  simp only [gi_101_30, ob, g1, e, pi_101_30, oc_101, t1, bd_s]
theorem r_readClause (hT : HT s tn tv) (ht : tn ≤ 100) (hv : ∀ i, i < tn → tv i ≤ 127) (hn : n < 12) (hp : p ≤ tn) (h : Rq s (p, true)) : ∃ t, fX11_readClause 101 (iN (7 * n)) (lay s) = some ((), lay t) ∧ Cl s t tn tv n p := by
  have h30 : s.1 101 30 = iN p := h.1
  have g30 : ∀ v, (uI s 114 (7 * n) v).1 101 30 = iN p := fun v => by rw [rI_ne (by omega)]; exact h30
  have n84 : 7 * n < 84 := by omega
  unfold fX11_readClause
  rw [r_letter hT ht hp h]
  simp only [rr_101_32, ob, si_114 n84, gi_101_30, g30, iN_addL, pi_101_30]
  by_cases cl : p < tn ∧ fmI (tv p) < 5
  · obtain ⟨c0, c1⟩ := cl
    have cp : sgS tn tv p = iN (tv p) := if_pos c0
    rw [cp]
    obtain ⟨st, kz⟩ := St_cl (c := tv p) hT ht hn c0 h
    generalize hz : uI (uI s 114 (7 * n) (iN (tv p))) 101 30 (iN (p + 1)) = z at *
    clear hz
    have hc : tv p = 100 ∨ tv p = 113 ∨ tv p = 112 ∨ tv p = 101 ∨ tv p = 102 ∨ tv p = 99 := by
      unfold fmI at c1
      by_cases h1 : tv p = 100
      · exact Or.inl h1
      · by_cases h2 : tv p = 113
        · exact Or.inr (Or.inl h2)
        · by_cases h3 : tv p = 112
          · exact Or.inr (Or.inr (Or.inl h3))
          · by_cases h4 : tv p = 101
            · exact Or.inr (Or.inr (Or.inr (Or.inl h4)))
            · by_cases h5 : tv p = 102
              · exact Or.inr (Or.inr (Or.inr (Or.inr (Or.inl h5))))
              · by_cases h6 : tv p = 99
                · exact Or.inr (Or.inr (Or.inr (Or.inr (Or.inr h6))))
                · rw [if_neg h1, if_neg h2, if_neg h3, if_neg h4, if_neg h5, if_neg h6] at c1
                  omega
    rcases hc with e | e | e | e | e | e
    · have hf : FM (fmI (tv p)) = [1, 1, 1, 2, 0, 2, 0, 2] := by rw [e]; rfl
      rw [show iN (tv p) = (100 : Int32) by rw [e]; rfl]
      rw [if_neg (by decide), if_pos rfl]
      obtain ⟨a, a1, a2, a3⟩ := St_digs ht hv hn (N := 3) (w := 3) rfl (by omega) st
      simp only [oc_101, ob, a1, bd_s]
      obtain ⟨b, b1, b2, b3⟩ := St_two ht hv a2
      simp only [rr_101_32, oc_101, ob, b1, bd_s, si_114 (show 7 * n + 4 < 84 by omega)]
      obtain ⟨c, c1, c2, c3⟩ := St_dot ht hv b2
      simp only [oc_101, ob, c1, bd_s]
      obtain ⟨d, d1, d2, d3⟩ := St_two ht hv c2
      simp only [rr_101_32, oc_101, ob, d1, bd_s, si_114 (show 7 * n + 5 < 84 by omega)]
      obtain ⟨e', e1, e2, e3⟩ := St_dot ht hv d2
      simp only [oc_101, ob, e1, bd_s]
      obtain ⟨f, f1, f2, f3⟩ := St_two ht hv e2
      simp only [rr_101_32, oc_101, ob, f1, bd_s, si_114 (show 7 * n + 6 < 84 by omega)]
      refine ⟨_, rfl, Cl_of c0 hf (by rw [e]; decide) (j := 7) (by decide) ?_ f2⟩
      exact (((((kz.tr (a3.lo (by omega))).tr (b3.lo (by omega))).tr (c3.lo (by omega))).tr (d3.lo (by omega))).tr (e3.lo (by omega))).tr (f3.lo (by omega))
    · have hf : FM (fmI (tv p)) = [2, 0, 1, 1, 1] := by rw [e]; rfl
      rw [show iN (tv p) = (113 : Int32) by rw [e]; rfl]
      rw [if_neg (by decide), if_neg (by decide), if_neg (by decide), if_neg (by decide), if_neg (by decide), if_neg (by decide), if_neg (by decide), if_neg (by decide), if_neg (by decide), if_neg (by decide), if_neg (by decide), if_neg (by decide), if_neg (by decide), if_neg (by decide), if_pos rfl]
      obtain ⟨b, b1, b2, b3⟩ := St_two ht hv st
      simp only [rr_101_32, oc_101, ob, b1, bd_s, si_114 (show 7 * n + 1 < 84 by omega)]
      obtain ⟨c, c1, c2, c3⟩ := St_dot ht hv b2
      simp only [oc_101, ob, c1, bd_s]
      obtain ⟨a, a1, a2, a3⟩ := St_digs ht hv hn (N := 3) (w := 3) rfl (by omega) c2
      simp only [oc_101, ob, a1, bd_s]
      refine ⟨_, rfl, Cl_of c0 hf (by rw [e]; decide) (j := 5) (by decide) ?_ a2⟩
      exact ((kz.tr (b3.lo (by omega))).tr (c3.lo (by omega))).tr (a3.lo (by omega))
    · have hf : FM (fmI (tv p)) = [1, 1, 1, 1] := by rw [e]; rfl
      rw [show iN (tv p) = (112 : Int32) by rw [e]; rfl]
      rw [if_neg (by decide), if_neg (by decide), if_neg (by decide), if_neg (by decide), if_neg (by decide), if_neg (by decide), if_neg (by decide), if_neg (by decide), if_neg (by decide), if_neg (by decide), if_neg (by decide), if_neg (by decide), if_neg (by decide), if_pos rfl]
      obtain ⟨a, a1, a2, a3⟩ := St_digs ht hv hn (N := 4) (w := 4) rfl (by omega) st
      simp only [oc_101, ob, a1, bd_s]
      refine ⟨_, rfl, Cl_of c0 hf (by rw [e]; decide) (j := 5) (by decide) ?_ a2⟩
      exact kz.tr (a3.lo (by omega))
    · have hf : FM (fmI (tv p)) = [2, 0, 1] := by rw [e]; rfl
      rw [show iN (tv p) = (101 : Int32) by rw [e]; rfl]
      rw [if_neg (by decide), if_neg (by decide), if_pos rfl]
      obtain ⟨b, b1, b2, b3⟩ := St_two ht hv st
      simp only [rr_101_32, oc_101, ob, b1, bd_s, si_114 (show 7 * n + 1 < 84 by omega)]
      obtain ⟨c, c1, c2, c3⟩ := St_dot ht hv b2
      simp only [oc_101, ob, c1, bd_s]
      obtain ⟨a, a1, a2, a3⟩ := St_dig ht hv c2
      simp only [rr_101_32, oc_101, ob, a1, bd_s, si_114 (show 7 * n + 2 < 84 by omega)]
      refine ⟨_, rfl, Cl_of c0 hf (by rw [e]; decide) (j := 3) (by decide) ?_ a2⟩
      exact ((kz.tr (b3.lo (by omega))).tr (c3.lo (by omega))).tr (a3.lo (by omega))
    · have hf : FM (fmI (tv p)) = [2, 0, 1] := by rw [e]; rfl
      rw [show iN (tv p) = (102 : Int32) by rw [e]; rfl]
      rw [if_neg (by decide), if_neg (by decide), if_neg (by decide), if_pos rfl]
      obtain ⟨b, b1, b2, b3⟩ := St_two ht hv st
      simp only [rr_101_32, oc_101, ob, b1, bd_s, si_114 (show 7 * n + 1 < 84 by omega)]
      obtain ⟨c, c1, c2, c3⟩ := St_dot ht hv b2
      simp only [oc_101, ob, c1, bd_s]
      obtain ⟨a, a1, a2, a3⟩ := St_dig ht hv c2
      simp only [rr_101_32, oc_101, ob, a1, bd_s, si_114 (show 7 * n + 2 < 84 by omega)]
      refine ⟨_, rfl, Cl_of c0 hf (by rw [e]; decide) (j := 3) (by decide) ?_ a2⟩
      exact ((kz.tr (b3.lo (by omega))).tr (c3.lo (by omega))).tr (a3.lo (by omega))
    · have hf : FM (fmI (tv p)) = [2] := by rw [e]; rfl
      rw [show iN (tv p) = (99 : Int32) by rw [e]; rfl]
      rw [if_pos rfl]
      obtain ⟨b, b1, b2, b3⟩ := St_two ht hv st
      simp only [rr_101_32, oc_101, ob, b1, bd_s, si_114 (show 7 * n + 1 < 84 by omega)]
      refine ⟨_, rfl, Cl_of c0 hf (by rw [e]; decide) (j := 2) (by decide) ?_ b2⟩
      exact kz.tr (b3.lo (by omega))
  · have ec : clS tn tv p = ((p, false), fun _ => 0) := if_neg cl
    have ne : ∀ c, c ≤ 127 → fmI c < 5 → ¬ sgS tn tv p = iN c := fun c hc h5 e => by
      have := (ch_iff hv hc).mp e
      exact cl ⟨this.1, by rw [this.2]; exact h5⟩
    have n99 : ¬ sgS tn tv p = (99 : Int32) := ne 99 (by omega) (by decide)
    have n100 : ¬ sgS tn tv p = (100 : Int32) := ne 100 (by omega) (by decide)
    have n101 : ¬ sgS tn tv p = (101 : Int32) := ne 101 (by omega) (by decide)
    have n102 : ¬ sgS tn tv p = (102 : Int32) := ne 102 (by omega) (by decide)
    have n112 : ¬ sgS tn tv p = (112 : Int32) := ne 112 (by omega) (by decide)
    have n113 : ¬ sgS tn tv p = (113 : Int32) := ne 113 (by omega) (by decide)
    obtain ⟨t, t1, t2, t3⟩ := r_badClause hT ht hn hp h (sgS tn tv p)
    refine ⟨t, ?_, t2, by rw [ec]; exact t3, fun h => by rw [ec] at h; cases h⟩
    rw [if_neg n99, if_neg n100, if_neg n101, if_neg n102]
    simp only [if_neg n112, if_neg n113, ite_self]
    exact t1
/-- what reading all leaves: taken, or where the fault is -/
def Pa (t : Sto) (tn : Nat) (r : Bool × Nat × (Nat → Nat → Nat)) (c : Nat) : Prop := (r.1 = true ∧ c = r.2.1 ∧ (∃ q, tn ≤ q ∧ q ≤ tn ∧ Rq t (q, true)) ∧ Wv t 114 c r.2.2) ∨ (r.1 = false ∧ r.2.1 ≤ tn ∧ (Rq t (r.2.1, false) ∨ Rq t (r.2.1, true) ∧ r.2.1 < tn))
theorem r_parseL (ht : tn ≤ 100) (hv : ∀ i, i < tn → tv i ≤ 127) {G : Int32 → Mem → Option (Int32 × Mem)} : ∀ (m n p : Nat) (W : Nat → Nat → Nat) (F : Nat) (s : Sto), n + m = 12 → 0 < m → m ≤ F → p ≤ tn → HT s tn tv → Rq s (p, true) → Wv s 114 n W → ∃ t c, bd (fX11_readClause 101 (iN (7 * n)) (lay s)) (fun _ μ => X11_read_L17 G 101 F (iN (n + 1)) μ) = G (iN c) (lay t) ∧ Kz 0 s t ∧ Pa t tn (prS tn tv m n p W) c := by
  intro m
  induction m with
  | zero => intro n p W F s h1 h2; omega
  | succ m ih =>
    intro n p W F s hnm h0 hF hp hT hR hW
    obtain ⟨F, rfl⟩ : ∃ F', F = F' + 1 := ⟨F - 1, by omega⟩
    obtain ⟨t, t1, t2, t3, t4⟩ := r_readClause hT ht hv (show n < 12 by omega) hp hR
    have le := cl_le (tv := tv) hp
    have hT2 := t2.T hT
    have tk : fX11_takes 101 59 (lay t) = _ := r_takes hT2 ht hv le t3 (c := 59) (by omega)
    rw [t1]
    simp only [bd_s]
    rw [X11_read_L17, prS]
    have out : ∀ (P : Prop), (¬ ((clS tn tv p).1.2 = true ∧ (clS tn tv p).1.1 < tn ∧ tv (clS tn tv p).1.1 = 59) ∨ m = 0) → (if (12 : Int32) ≤ iN (n + 1) then (G (iN (n + 1)) (lay t)) else ((isC (lay t) 101 11).bind fun _ => bd (fX11_takes 101 ((59 : Int32)) (lay t)) fun x26 μ26 => if x26 = 0 then (G (iN (n + 1)) μ26) else ((isC μ26 101 11).bind fun _ => bd (fX11_readClause 101 (((7 : Int32) * iN (n + 1))) μ26) fun _ μ37 => X11_read_L17 G 101 F ((iN (n + 1) + 1)) μ37))) = G (iN (n + 1)) (lay t) := by
      intro _ hh
      by_cases d : m = 0
      · rw [if_pos (by rw [iN_Lle (by omega) (by omega)]; omega)]
      · rw [if_neg (by rw [iN_Lle (by omega) (by omega)]; omega)]
        simp only [oc_101, ob, tk]
        rw [if_neg (hh.resolve_right d)]
        simp only [bd_s, i00, if_true]
    by_cases c1 : (clS tn tv p).1.2 = true
    · have hW2 : Wv t 114 (n + 1) (wS W n (clS tn tv p).2) := Wv_new hW (fun i hi => t2.2.2.2 i hi) (t4 c1)
      have ex : (clS tn tv p).1 = ((clS tn tv p).1.1, true) := Prod.ext rfl c1
      have t3' : Rq t ((clS tn tv p).1.1, true) := by rw [← ex]; exact t3
      rw [if_pos c1]
      by_cases c2 : tn ≤ (clS tn tv p).1.1
      · rw [if_pos c2]
        refine ⟨t, n + 1, out True (Or.inl (fun h => by omega)), t2.lo (Nat.zero_le _), Or.inl ⟨rfl, rfl, ⟨_, c2, le, t3'⟩, hW2⟩⟩
      · rw [if_neg c2]
        by_cases c3 : tv (clS tn tv p).1.1 = 59 ∧ 0 < m
        · rw [if_pos c3, if_neg (by rw [iN_Lle (by omega) (by omega)]; omega)]
          simp only [oc_101, ob, tk]
          rw [if_pos ⟨c1, by omega, c3.1⟩]
          simp only [bd_s, i10, if_false, oc_101, ob, iN_Lmul, iN_addL]
          have k1 : Kz 0 s (uI t 101 30 (iN ((clS tn tv p).1.1 + 1))) := (t2.lo (Nat.zero_le _)).tr (Kz_1 (by omega))
          obtain ⟨u, c, u1, u2, u3⟩ := ih (n + 1) ((clS tn tv p).1.1 + 1) (wS W n (clS tn tv p).2) F (uI t 101 30 (iN ((clS tn tv p).1.1 + 1))) (by omega) c3.2 (by omega) (by omega) (k1.T hT) ⟨by rw [rI_same, upd_same], by rw [rI_same, upd_ne (by omega)]; exact t3'.2⟩ (fun k i hk hi => by rw [rI_ne (by omega)]; exact hW2 k i hk hi)
          exact ⟨u, c, u1, k1.tr u2, u3⟩
        · rw [if_neg c3]
          refine ⟨t, n + 1, out True ?_, t2.lo (Nat.zero_le _), Or.inr ⟨rfl, le, Or.inr ⟨t3', show (clS tn tv p).1.1 < tn by omega⟩⟩⟩
          by_cases d : m = 0
          · exact Or.inr d
          · exact Or.inl (fun h => c3 ⟨h.2.2, by omega⟩)
    · have ex : (clS tn tv p).1 = ((clS tn tv p).1.1, false) := Prod.ext rfl (by cases hb : (clS tn tv p).1.2 with | true => exact absurd hb c1 | false => rfl)
      rw [if_neg c1]
      refine ⟨t, n + 1, out True (Or.inl (fun h => c1 h.1)), t2.lo (Nat.zero_le _), Or.inr ⟨rfl, le, Or.inl ?_⟩⟩
      show Rq t ((clS tn tv p).1.1, false)
      rw [← ex]
      exact t3
/-- all but the reference's own clauses, place, fault is as it was; the text is empty -/
def Ke (s t : Sto) : Prop := (∀ q, q ≠ 101 → q ≠ 114 → t.1 q = s.1 q) ∧ t.2 = s.2 ∧ (∀ k, k ≠ 29 → k ≠ 30 → k ≠ 31 → t.1 101 k = s.1 101 k) ∧ t.1 101 29 = 0
theorem Ke_of (h : Kz 0 s t) : Ke s (uI t 101 29 0) := ⟨fun q a b => by rw [rI_ne a]; exact h.1 q a b, by rw [rI_2]; exact h.2.1, fun k a b c => by rw [rI_same, upd_ne a]; exact h.2.2.1 k b c, by rw [rI_same, upd_same]⟩
theorem r_readP (hT : HT s tn tv) (ht : tn ≤ 100) (hv : ∀ i, i < tn → tv i ≤ 127) : ∃ t, Ke s t ∧ (((prS tn tv 12 0 0 (fun _ _ => 0)).1 = true ∧ fX11_read 101 (lay s) = X11_read_L85 (fun v2_115 μ_115 => some (v2_115, μ_115)) 101 (iN (prS tn tv 12 0 0 (fun _ _ => 0)).2.1) FU ((0 : Int32)) ((0 : Int32)) (lay t) ∧ Wv t 114 (prS tn tv 12 0 0 (fun _ _ => 0)).2.1 (prS tn tv 12 0 0 (fun _ _ => 0)).2.2) ∨ ((prS tn tv 12 0 0 (fun _ _ => 0)).1 = false ∧ (prS tn tv 12 0 0 (fun _ _ => 0)).2.1 ≤ 100 ∧ fX11_read 101 (lay s) = some ((-10 : Int32) - iN (prS tn tv 12 0 0 (fun _ _ => 0)).2.1, lay t))) := by
  have k0 : Kz 0 s (uI (uI s 101 30 0) 101 31 (-1)) := (Kz_1 (by omega)).tr (Kz_1 (by omega))
  unfold fX11_read
  simp only [pi_101_30, pi_101_31, oc_101, ob]
  obtain ⟨t, c, t1, t2, t3⟩ := r_parseL ht hv (G := fun v1_46 μ_46 => (gI μ_46 101 11 30).bind fun x47 => (gI μ_46 101 11 29).bind fun x51 => jn (fun (μ_61 : Mem) => (pV μ_61 101 11 29 (.int ((0 : Int32)))).bind fun μ63 => (gI μ63 101 11 31).bind fun x67 => if x67 < 0 then (X11_read_L85 (fun v2_115 μ_115 => some (v2_115, μ_115)) 101 v1_46 FU ((0 : Int32)) ((0 : Int32)) μ63) else ((gI μ63 101 11 31).bind fun x76 => some (((-10 : Int32) - x76), μ63))) (fun j61 => if x51 ≤ x47 then (j61 μ_46) else ((isC μ_46 101 11).bind fun _ => bd (fX11_wrong 101 μ_46) fun _ μ58 => j61 μ58))) 12 0 0 (fun _ _ => 0) FU (uI (uI s 101 30 0) 101 31 (-1)) (by omega) (by omega) (by unfold FU; omega) (Nat.zero_le _) (k0.T hT) ⟨by rw [rI_same, upd_ne (by omega), rI_same, upd_same]; rfl, by rw [rI_same, upd_same]; rfl⟩ (fun k i hk hi => by omega)
  rw [show iN (7 * 0) = (0 : Int32) from rfl, show iN (0 + 1) = (1 : Int32) from rfl] at t1
  have k1 : Kz 0 s t := k0.tr t2
  have t29 : t.1 101 29 = iN tn := (k1.T hT).1
  rw [t1]
  generalize prS tn tv 12 0 0 (fun _ _ => 0) = r at *
  obtain ⟨ok, q, W⟩ := r
  rcases t3 with ⟨a1, a2, ⟨q', a3, a4, a5⟩, a6⟩ | ⟨a1, a2, a3⟩
  · have a1 : ok = true := a1
    subst a1
    have a2 : c = q := a2
    subst a2
    have e30 : t.1 101 30 = iN q' := a5.1
    have e31 : t.1 101 31 = -1 := a5.2
    have f31 : (uI t 101 29 0).1 101 31 = -1 := by rw [rI_same, upd_ne (by omega)]; exact e31
    refine ⟨uI t 101 29 0, Ke_of k1, Or.inl ⟨rfl, ?_, fun k i hk hi => by rw [rI_ne (by omega)]; exact a6 k i hk hi⟩⟩
    simp only [gi_101_30, gi_101_29, ob, e30, t29, jn_s]
    rw [if_pos (by rw [iN_le (by omega) (by omega)]; exact a3)]
    simp only [pi_101_29, gi_101_31, ob, f31, if_pos m1_neg]
  · have a1 : ok = false := a1
    subst a1
    have a2 : q ≤ tn := a2
    have fin : ∀ z : Sto, Rq z (q, false) → ((pV (lay z) 101 11 29 (.int ((0 : Int32)))).bind fun μ63 => (gI μ63 101 11 31).bind fun x67 => if x67 < 0 then (X11_read_L85 (fun v2_115 μ_115 => some (v2_115, μ_115)) 101 (iN c) FU ((0 : Int32)) ((0 : Int32)) μ63) else ((gI μ63 101 11 31).bind fun x76 => some (((-10 : Int32) - x76), μ63))) = some ((-10 : Int32) - iN q, lay (uI z 101 29 0)) := fun z hz => by
      have e31 : z.1 101 31 = iN q := hz.2
      have f31 : (uI z 101 29 0).1 101 31 = iN q := by rw [rI_same, upd_ne (by omega)]; exact e31
      simp only [pi_101_29, gi_101_31, ob, f31, if_neg (iN_nn (show q < 2147483648 by omega))]
    have e30 : t.1 101 30 = iN q := by
      rcases a3 with a | a
      · exact a.1
      · exact a.1.1
    obtain ⟨w, w1, w2, w3⟩ : ∃ w, fX11_wrong 101 (lay t) = some ((), lay w) ∧ (∀ b, Kz b t w) ∧ Rq w (q, false) := by
      rcases a3 with a | a
      · exact r_wrong (x := (q, false)) (show q ≤ 100 by omega) a
      · exact r_wrong (x := (q, true)) (show q ≤ 100 by omega) a.1
    by_cases d : tn ≤ q
    · have a4 : Rq t (q, false) := by
        rcases a3 with a | a
        · exact a
        · have : q < tn := a.2
          omega
      refine ⟨uI t 101 29 0, Ke_of k1, Or.inr ⟨rfl, show q ≤ 100 by omega, ?_⟩⟩
      simp only [gi_101_30, gi_101_29, ob, e30, t29, jn_s]
      rw [if_pos (by rw [iN_le (by omega) (by omega)]; exact d)]
      exact fin t a4
    · refine ⟨uI w 101 29 0, Ke_of (k1.tr (w2 0)), Or.inr ⟨rfl, show q ≤ 100 by omega, ?_⟩⟩
      simp only [gi_101_30, gi_101_29, ob, e30, t29, jn_s]
      rw [if_neg (by rw [iN_le (by omega) (by omega)]; omega)]
      simp only [oc_101, ob, w1, bd_s]
      exact fin w w3
end TEXTS
