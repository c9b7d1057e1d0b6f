/-! ===== read ===== -/
section READ
variable {s y : Sto} {g g' kp : Nat → Nat} {kf : Bool} {rn : Nat → Nat} {rv : Nat → Nat → Nat} {tn : Nat} {tv : Nat → Nat}
/-- all but the reservoir now, the text, clauses is as it was -/
def Kd (s y : Sto) : Prop := (∀ q, q ≠ 0 → (q < 2 ∨ 14 < q) → q ≠ 76 → q ≠ 78 → q ≠ 79 → q ≠ 101 → q ≠ 102 → q ≠ 114 → y.1 q = s.1 q) ∧ y.2 = s.2 ∧ y.1 0 2 = s.1 0 2 ∧ y.1 101 2 = s.1 101 2 ∧ y.1 101 3 = s.1 101 3
theorem Inv_read (hB : IB s g kp kf rn rv tn tv) (hk : Kd s y) (hb : RB y 2 g') (hr : Rg y 102 g') (ho : OKs g' ∧ ∀ j, 110 ≤ j → g' j = g j) (y6 : y.1 0 6 = 0) (y7 : y.1 0 7 = 0) (y76 : y.1 76 3 = 0) (y29 : y.1 101 29 = 0) : Inv y := by
  obtain ⟨⟨a1, a2, a3, a4⟩, b, c, d, e, f⟩ := hB
  obtain ⟨k1, k2, k3, k4, k5⟩ := hk
  have k : ∀ q, 15 ≤ q → q ≠ 76 → q ≠ 78 → q ≠ 79 → q ≠ 101 → q ≠ 102 → q ≠ 114 → y.1 q = s.1 q := fun q h1 h2 h3 h4 h5 h6 h7 => k1 q (by omega) (by omega) h2 h3 h4 h5 h6 h7
  refine ⟨g', kp, kf, rn, rv, 0, tv, ⟨⟨ho.1, RS_low a2 hb (fun q h1 h2 => k q (by omega) (by omega) (by omega) (by omega) (by omega) (by omega) (by omega)) ho.2, hr, k5.trans a4⟩, ?_, fun r hr => ?_, ⟨by omega, y76, y29, fun i hi => by omega⟩, fun i hi => ?_, by unfold Tw at *; rw [k2]; exact f⟩, Ic_none y6 y7⟩
  · rcases b with ⟨b1, b2, b3⟩ | ⟨b1, b2, b3, b4, b5, b6⟩
    · exact Or.inl ⟨b1, k3.trans b2, k4.trans b3⟩
    · exact Or.inr ⟨b1, k3.trans b2, k4.trans b3, b4, RS_congr b5 b4.m (fun q h1 h2 => k q (by omega) (by omega) (by omega) (by omega) (by omega) (by omega) (by omega)), Rg_congr b6 (k 103 (by omega) (by omega) (by omega) (by omega) (by omega) (by omega) (by omega))⟩
  · obtain ⟨c1, c2, c3, c4⟩ := c r hr
    rw [k (81 + 2 * r) (by omega) (by omega) (by omega) (by omega) (by omega) (by omega) (by omega), k 104 (by omega) (by omega) (by omega) (by omega) (by omega) (by omega) (by omega), k (82 + 2 * r) (by omega) (by omega) (by omega) (by omega) (by omega) (by omega) (by omega), k 105 (by omega) (by omega) (by omega) (by omega) (by omega) (by omega) (by omega)]
    exact ⟨c1, c2, c3, c4⟩
  · have := e i hi
    rw [k (89 + 2 * i) (by omega) (by omega) (by omega) (by omega) (by omega) (by omega) (by omega), k 115 (by omega) (by omega) (by omega) (by omega) (by omega) (by omega) (by omega), k 116 (by omega) (by omega) (by omega) (by omega) (by omega) (by omega) (by omega), k2]
    exact this
theorem k_read (H : Inv s) : Alike s (fX10_read 0) (fX11_read 101) := by
  have H0 := H
  obtain ⟨g, kp, kf, rn, rv, tn, tv, hB, hC⟩ := H0
  have hI := hB.1
  have hg := hI.1.1
  have b1 := hg.1
  have hR := RR_of hI
  have hc := hI.2.1.1
  have hb : Bs 2 := Or.inl rfl
  obtain ⟨h1, h2, h3, h4⟩ := hB.2.2.2.1
  have hv : ∀ i, i < tn → tv i ≤ 127 := fun i hi => (h4 i hi).1
  have hT0 : LI (uI (uI s 0 6 0) 0 7 0) 76 1 tn tv := ⟨by rw [rI_ne (by omega), rI_ne (by omega)]; exact h2, fun i hi => by rw [rI_ne (by omega), rI_ne (by omega)]; exact (h4 i (by omega)).2.1⟩
  obtain ⟨t, t1, t2, t3⟩ := c_takeAll hT0 h1 hv
  have f0 := forget_0 (s := s)
  have pk := pr_ok (tn := tn) (tv := tv) 12 0 0 (fun _ _ => 0) (fun k hk => by omega)
  have tq : ∀ q, q ≠ 0 → q ≠ 76 → q ≠ 78 → q ≠ 79 → (uI t 76 3 0).1 q = s.1 q := fun q a1 a2 a3 a4 => by rw [rI_ne a2, t2.1 q a3 a4, rI_ne a1, rI_ne a1]
  have t0 : (uI t 76 3 0).1 0 = (uI (uI s 0 6 0) 0 7 0).1 0 := by rw [rI_ne (by omega), t2.1 0 (by omega) (by omega)]
  have tz : (uI t 76 3 0).2 = s.2 := by rw [rI_2, t2.2, rI_2, rI_2]
  have t76 : (uI t 76 3 0).1 76 3 = 0 := by rw [rI_same, upd_same]
  have t02 : (uI t 76 3 0).1 0 2 = s.1 0 2 := by rw [t0, rI_same, upd_ne (by omega), rI_same, upd_ne (by omega)]
  have tHT : HT (uI t 76 3 0) tn tv := ⟨by rw [tq 101 (by omega) (by omega) (by omega) (by omega)]; exact h3, fun i hi => by rw [tq 113 (by omega) (by omega) (by omega) (by omega)]; exact (h4 i hi).2.2⟩
  have tB : RB (uI t 76 3 0) 2 g := RB_congr hc (by omega) (fun q a1 a2 => tq q (by omega) (by omega) (by omega) (by omega))
  have tG : Rg (uI t 76 3 0) 102 g := Rg_congr hI.2.2.1 (tq 102 (by omega) (by omega) (by omega) (by omega))
  have t78 : (uI t 76 3 0).1 78 = t.1 78 := rI_ne (by omega)
  have t79 : (uI t 76 3 0).1 79 = t.1 79 := rI_ne (by omega)
  have run : fX10_read 0 (lay s) = if (if (prS tn tv 12 0 0 (fun _ _ => 0)).1 = true then (-5 : Int32) else iN (prS tn tv 12 0 0 (fun _ _ => 0)).2.1) = (-5 : Int32) then bd (fX3_doAll 78 2 (lay (uI t 76 3 0))) (fun x41 μ41 => some (x41, μ41)) else some ((-10 : Int32) - (if (prS tn tv 12 0 0 (fun _ _ => 0)).1 = true then (-5 : Int32) else iN (prS tn tv 12 0 0 (fun _ _ => 0)).2.1), lay (uI t 76 3 0)) := by
    unfold fX10_read
    simp only [oc_0, ob, c_forget, bd_s, rr_0_15, rr_0_14, oc_78, t1, ln_c l76, c_clear l76, rr_0_0, rr_1_0]
  generalize hz : uI t 76 3 0 = z at *
  clear hz
  by_cases c : (prS tn tv 12 0 0 (fun _ _ => 0)).1 = true
  · obtain ⟨p1, p2⟩ := pk c
    obtain ⟨q1, q2⟩ := t3 c
    rw [if_pos c, if_pos rfl] at run
    have gw := p2
    generalize hW : (prS tn tv 12 0 0 (fun _ _ => 0)).2.2 = W at *
    generalize hn : (prS tn tv 12 0 0 (fun _ _ => 0)).2.1 = n at *
    have n12 : n ≤ 12 := by omega
    obtain ⟨u, u1, u2, u3⟩ := c_doL hI.1 n12 gw FU 0 z (by unfold FU; omega) (Nat.zero_le _) tB (by rw [t78]; exact q1) (fun k i hk hi => by rw [t79]; exact q2 k i hk hi)
    have uHT : HT u tn tv := ⟨by rw [u3.1 101 (by omega)]; exact tHT.1, fun i hi => by rw [u3.1 113 (by omega)]; exact tHT.2 i hi⟩
    obtain ⟨w, w1, w2⟩ := r_readP uHT h1 hv
    rw [hW, hn] at w2
    rcases w2 with ⟨_, w3, w4⟩ | ⟨w3, _⟩
    · have wG : Rg w 102 g := Rg_congr tG (by rw [w1.1 102 (by omega) (by omega), u3.1 102 (by omega)])
      have w3' : w.1 101 3 = 0 := by rw [w1.2.2.1 3 (by omega) (by omega) (by omega), u3.1 101 (by omega), tq 101 (by omega) (by omega) (by omega) (by omega)]; exact hI.2.2.2
      obtain ⟨v, v1, v2, v3⟩ := r_doL hI.1 n12 gw FU 0 w (by unfold FU; omega) (Nat.zero_le _) wG w3' w4
      have ez : (foldS g W 0).1 = 0 := rfl
      rw [ez, show iN 0 = (0 : Int32) from rfl] at u1 v1
      have vq : ∀ q, q ≠ 101 → q ≠ 114 → q ≠ 102 → v.1 q = u.1 q := fun q a1 a2 a3 => by rw [v3.1 q a3, w1.1 q a1 a2]
      refine ⟨iN (foldS g W n).1, u, v, ?_, ?_, ?_⟩
      · rw [run]
        unfold fX3_doAll
        rw [u1]
        rfl
      · rw [w3]
        exact v1
      · refine Inv_read (s := s) hB ⟨fun q a0 a1 a2 a3 a4 a5 a6 a7 => ?_, ?_, ?_, ?_, ?_⟩ (RB_congr u2 (ok_fold hI.1 n gw).1.m (fun q a1 a2 => vq q (by omega) (by omega) (by omega))) v2 (ok_fold hI.1 n gw) ?_ ?_ ?_ ?_
        · rw [vq q a5 a7 a6, u3.1 q a1, tq q a0 a2 a3 a4]
        · rw [v3.2, w1.2.1, u3.2, tz]
        · rw [vq 0 (by omega) (by omega) (by omega), u3.1 0 (by omega), t02]
        · rw [v3.1 101 (by omega), w1.2.2.1 2 (by omega) (by omega) (by omega), u3.1 101 (by omega), tq 101 (by omega) (by omega) (by omega) (by omega)]
        · rw [v3.1 101 (by omega), w1.2.2.1 3 (by omega) (by omega) (by omega), u3.1 101 (by omega), tq 101 (by omega) (by omega) (by omega) (by omega)]
        · rw [vq 0 (by omega) (by omega) (by omega), u3.1 0 (by omega), t0]; exact f0.1
        · rw [vq 0 (by omega) (by omega) (by omega), u3.1 0 (by omega), t0]; exact f0.2
        · rw [vq 76 (by omega) (by omega) (by omega), u3.1 76 (by omega)]; exact t76
        · rw [v3.1 101 (by omega)]; exact w1.2.2.2
    · rw [c] at w3
      cases w3
  · rw [if_neg c] at run
    obtain ⟨w, w1, w2⟩ := r_readP tHT h1 hv
    rcases w2 with ⟨w3, _⟩ | ⟨_, w3, w4⟩
    · exact absurd w3 c
    · generalize hn : (prS tn tv 12 0 0 (fun _ _ => 0)).2.1 = n at *
      rw [if_neg (by
        have e0 : (-5 : Int32).toInt = -5 := by decide
        intro h
        have := congrArg Int32.toInt h
        rw [iN_toInt (by omega)] at this
        omega)] at run
      refine ⟨_, z, w, run, w4, ?_⟩
      have wG : Rg w 102 g := Rg_congr tG (w1.1 102 (by omega) (by omega))
      refine Inv_read (s := s) hB ⟨fun q a0 a1 a2 a3 a4 a5 a6 a7 => ?_, ?_, ?_, ?_, ?_⟩ (RB_congr tB (by omega) (fun q a1 a2 => w1.1 q (by omega) (by omega))) wG ⟨hI.1, fun _ _ => rfl⟩ ?_ ?_ ?_ w1.2.2.2
      · rw [w1.1 q a5 a7, tq q a0 a2 a3 a4]
      · rw [w1.2.1, tz]
      · rw [w1.1 0 (by omega) (by omega), t02]
      · rw [w1.2.2.1 2 (by omega) (by omega) (by omega), tq 101 (by omega) (by omega) (by omega) (by omega)]
      · rw [w1.2.2.1 3 (by omega) (by omega) (by omega), tq 101 (by omega) (by omega) (by omega) (by omega)]
      · rw [w1.1 0 (by omega) (by omega), t0]; exact f0.1
      · rw [w1.1 0 (by omega) (by omega), t0]; exact f0.2
      · rw [w1.1 76 (by omega) (by omega)]; exact t76
end READ
