section FITSB
variable {s : Sto} {g : Nat → Nat}
/-- only the reservoir in thought, its rows, and what is found of fits have changed -/
def Kf (s t : Sto) : Prop := (∀ q, q ≠ 0 → q < 41 ∨ (53 < q ∧ q ≠ 62 ∧ q ≠ 63) → t.1 q = s.1 q) ∧ (∀ k, k < 7 → t.1 0 k = s.1 0 k) ∧ (∀ q, q ≠ 60 → q ≠ 61 → t.2.1 q = s.2.1 q) ∧ t.2.2 = s.2.2
theorem Kf.rf : Kf s s := ⟨fun _ _ _ => rfl, fun _ _ => rfl, fun _ _ _ => rfl, rfl⟩
theorem Kf.tr {t u : Sto} (h1 : Kf s t) (h2 : Kf t u) : Kf s u := ⟨fun q a b => (h2.1 q a b).trans (h1.1 q a b), fun k a => (h2.2.1 k a).trans (h1.2.1 k a), fun q a b => (h2.2.2.1 q a b).trans (h1.2.2.1 q a b), h2.2.2.2.trans h1.2.2.2⟩
theorem Kf_rI {q : Nat} {f : Nat → Int32} (h : (41 ≤ q ∧ q ≤ 53) ∨ q = 62 ∨ q = 63) : Kf s (rI s q f) := ⟨fun x a b => rI_ne (by omega), fun k a => by rw [rI_ne (by omega)], fun x a b => rfl, rfl⟩
theorem Kf_0 {k : Nat} {x : Int32} (h : 7 ≤ k) : Kf s (uI s 0 k x) := ⟨fun q a b => rI_ne a, fun j a => by rw [rI_same, upd_ne (by omega)], fun x a b => rfl, rfl⟩
theorem Kf_Of {t : Sto} (h : Of 41 s t) : Kf s t := ⟨fun q a b => h.1 q (by omega), fun k a => by rw [h.1 0 (by omega)], fun q a b => by rw [h.2], by rw [h.2]⟩
theorem Kf_st3 {fb fm : Nat → UInt32} {fr : Nat → Int32} : Kf s (st3 s 59 fb fm fr) := ⟨fun q a b => st3_1 (by omega), fun k a => by rw [st3_1 (by omega)], fun q a b => st3_2 a b, st3_22⟩
theorem Kf.b {t : Sto} (h : Kf s t) : Kb s t := ⟨fun q hq => h.1 q (by unfold SP at hq; omega) (by unfold SP at hq; omega), h.2.1 2 (by omega), fun k hk => by rw [h.1 101 (by omega) (by omega)], by rw [h.2.2.2], fun x => by unfold Tw at *; rw [h.2.2.2]; exact x⟩
theorem c_seenL {v e : Nat} (hg : OKs g) (hv : v ≤ 20) (l1 : LI s 15 4 (g 110) (fun i => g (111 + i))) (hA : ∀ r, r < g 110 → g (111 + 4 * r) < g 1 ∧ g (112 + 4 * r) ≤ g 0 ∧ e ≤ g (111 + 4 * r)) (ht : TBs (gs g 3 v) e (s.2.1 60) (s.2.1 61) (s.1 62)) : ∀ n k, g 110 - k < n → k ≤ g 110 → seenB g v k = true → X10_goesAsSeen_L10 (fun μ_57 => (zz ((1 : Int32))).bind fun z => some (z, μ_57)) 59 15 n (iN k) (lay s) = some (tI (seenB g v (g 110) = true), lay s) := by
  have hw : Rw 59 := Or.inr rfl
  have o := OKg_left hg hv
  have b5 := hg.2.2.2.1
  have b := hg.1.1
  intro n
  induction n with
  | zero => intro k h1; omega
  | succ n ih =>
    intro k h1 h2 hs
    rw [X10_goesAsSeen_L10]
    simp only [ln_g3 l15, l1.1, ob]
    simp (disch := first | assumption | omega) only [iN_le]
    by_cases c : g 110 ≤ k
    · rw [if_pos c]
      have : k = g 110 := by omega
      subst this
      rw [tI_pos hs]
      rfl
    · rw [if_neg c]
      have hk : k < g 110 := by omega
      have hr := hg.2.2.2.2.2.2.1 k hk
      have hk2 := hA k hk
      have at4 : ∀ j, j < 4 → fX6_at 15 (iN k) (iN j) (lay s) = some (iN (g (111 + j + 4 * k)), lay s) := fun j hj => by
        have := c_at l15 l1 (by omega) hk (j := j) hj
        simp only [show 111 + (k * 4 + j) = 111 + j + 4 * k by omega] at this
        exact this
      have a0 : fX6_at 15 (iN k) 0 (lay s) = some (iN (g (111 + 4 * k)), lay s) := at4 0 (by omega)
      have a1 : fX6_at 15 (iN k) 1 (lay s) = some (iN (g (112 + 4 * k)), lay s) := at4 1 (by omega)
      have a2 : fX6_at 15 (iN k) 2 (lay s) = some (iN (g (113 + 4 * k)), lay s) := at4 2 (by omega)
      have a3 : fX6_at 15 (iN k) 3 (lay s) = some (iN (g (114 + 4 * k)), lay s) := at4 3 (by omega)
      have g0 : gs g 3 v 0 = g 0 := gs3 (by omega)
      have g1 : gs g 3 v 1 = g 1 := gs3 (by omega)
      have rel := c_releaseAt (s := s) (r := 59) (m := g (111 + 4 * k)) (x := g (112 + 4 * k)) (i := g (113 + 4 * k)) hw hk2.2.2 (by rw [g1]; exact hk2.1) (by rw [g0]; exact hk2.2.1) (by omega) o ht
      rw [g1] at rel
      have r20 := rls_20 (g := gs g 3 v) (k := g 1 - g (111 + 4 * k)) (x := g (112 + 4 * k)) (i := g (113 + 4 * k))
      simp only [ln_c l15, ob, a0, a1, a2, a3, bd_s, rw_c hw, rel]
      simp (disch := first | assumption | omega) only [iN_eq, iN_addL]
      by_cases d : lfB g k v = true
      · have d2 := d
        rw [lfB_iff] at d2
        rw [if_pos d2.2.2]
        exact ih (k + 1) (by omega) (by omega) (seen_step hs d)
      · have d2 := d
        rw [lfB_iff] at d2
        rw [if_neg (fun h => d2 ⟨hk2.1, hk2.2.1, h⟩), tI_neg (fun hh => d (seen_all _ hh k hk))]
        rfl
theorem c_seen {v e : Nat} (hg : OKs g) (hv : v ≤ 20) (l1 : LI s 15 4 (g 110) (fun i => g (111 + i))) (hA : ∀ r, r < g 110 → g (111 + 4 * r) < g 1 ∧ g (112 + 4 * r) ≤ g 0 ∧ e ≤ g (111 + 4 * r)) (ht : TBs (gs g 3 v) e (s.2.1 60) (s.2.1 61) (s.1 62)) : fX10_goesAsSeen 0 59 (lay s) = some (tI (seenB g v (g 110) = true), lay s) := by
  have b5 := hg.2.2.2.1
  unfold fX10_goesAsSeen
  simp only [rr_0_0, rr_1_1, ob]
  exact c_seenL hg hv l1 hA ht FU 0 (by unfold FU; omega) (by omega) rfl
theorem Dm_left {v w : Nat} (h : g 73 ≤ 6) : Dm (gs g 3 v) (gs g 3 w) := ⟨by rw [gs3 (by omega), gs3 (by omega)], by rw [gs3 (by omega)]; exact h, fun d f hd hf => by unfold dF; rw [gs3 (by omega), gs3 (by omega)]⟩
theorem GNs_left {v w e : Nat} {fg : Nat → Int32} (h : g 73 ≤ 6) (H : GNs (gs g 3 w) e fg) : GNs (gs g 3 v) e fg := fun m y h1 h2 h3 => by
  rw [dm_gains (Dm_left (v := v) (w := w) h)]
  exact H m y h1 (by rw [gs3 (by omega)] at h2 ⊢; exact h2) h3
theorem gs_gs {k a b : Nat} : gs (gs g k a) k b = gs g k b := funext fun j => by
  by_cases c : j = k
  · rw [c, gs_same, gs_same]
  · rw [gs_ne c, gs_ne c, gs_ne c]
theorem c_fitsL {e : Nat} (hg : OKs g) (he : e ≤ g 1) (hA : ∀ r, r < g 110 → g (111 + 4 * r) < g 1 ∧ g (112 + 4 * r) ≤ g 0 ∧ e ≤ g (111 + 4 * r)) : ∀ m n (w : Nat) (t : Sto), 21 - n < m → n ≤ 21 → RB t 41 (gs g 3 w) → GNs (gs g 3 w) e (t.1 63) → LI t 15 4 (g 110) (fun i => g (111 + i)) → t.1 0 7 = 1 → t.1 0 8 = iN (fitS g n).1 → t.1 0 9 = iZ (fitS g n).2 → ∃ u, X10_findFits_L141 (fun μ_197 => some ((), μ_197)) 0 (iN e) m (iZ ((20 : Int) - (n : Int))) (lay t) = some ((), lay u) ∧ Kf t u ∧ u.1 0 7 = 1 ∧ u.1 0 8 = iN (fitS g 21).1 ∧ u.1 0 9 = iZ (fitS g 21).2 := by
  have hb : Bs 41 := Or.inr (Or.inr rfl)
  have hw : Rw 59 := Or.inr rfl
  have b := hg.1.1
  intro m
  induction m with
  | zero => intro n w t h1; omega
  | succ m ih =>
    intro n w t h1 h2 hB hG hL h7 h8 h9
    rw [X10_findFits_L141]
    by_cases c : n = 21
    · subst c
      rw [if_pos (by decide)]
      exact ⟨t, rfl, Kf.rf, h7, h8, h9⟩
    · have hn : n ≤ 20 := by omega
      have e20 := iZ20 hn
      have ne : ¬ (iZ ((20 : Int) - (n : Int)) < 0) := by rw [e20]; exact iN_nn (by omega)
      rw [if_neg ne]
      have nx : iZ ((20 : Int) - (n : Int)) + -1 = iZ ((20 : Int) - ((n + 1 : Nat) : Int)) := by
        rw [show (-1 : Int32) = iZ (-1) from rfl, iZ_add]
        congr 1
        omega
      have hB2 : RB (uI t 41 3 (iN (20 - n))) 41 (gs g 3 (20 - n)) := by
        have := RB_set (v := 20 - n) (q := 41) (j := 3) (k := 3) (by rw [gs3 (by omega)]; omega) hB (Or.inl ⟨rfl, rfl, by omega⟩) (by omega)
        rw [gs_gs] at this
        exact this
      have o := OKg_left hg (v := 20 - n) (by omega)
      have hG2 : GNs (gs g 3 (20 - n)) e ((uI t 41 3 (iN (20 - n))).1 (59 + 4)) := by
        rw [rI_ne (by omega)]
        exact GNs_left (by omega) hG
      obtain ⟨fb, fm, fr, w1, w2⟩ := c_sweep hb hw o hB2 (f := e) (by rw [gs3 (by omega)]; exact he) hG2
      have k1 : Kf t (st3 (uI t 41 3 (iN (20 - n))) 59 fb fm fr) := (Kf_rI (by omega)).tr Kf_st3
      have hBz : RB (st3 (uI t 41 3 (iN (20 - n))) 59 fb fm fr) 41 (gs g 3 (20 - n)) := st3_RB hb hw o hB2
      have hLz : LI (st3 (uI t 41 3 (iN (20 - n))) 59 fb fm fr) 15 4 (g 110) (fun i => g (111 + i)) := LI_congr hL (k1.1 _ (by omega) (by omega)) (k1.1 _ (by omega) (by omega))
      have e1 := st3_b (s := uI t 41 3 (iN (20 - n))) (r := 59) (fb := fb) (fm := fm) (fr := fr)
      have e2 := st3_m (s := uI t 41 3 (iN (20 - n))) (r := 59) (fb := fb) (fm := fm) (fr := fr)
      have e3 := st3_r (s := uI t 41 3 (iN (20 - n))) (r := 59) (fb := fb) (fm := fm) (fr := fr)
      have hT : TBs (gs g 3 (20 - n)) e ((st3 (uI t 41 3 (iN (20 - n))) 59 fb fm fr).2.1 60) ((st3 (uI t 41 3 (iN (20 - n))) 59 fb fm fr).2.1 61) ((st3 (uI t 41 3 (iN (20 - n))) 59 fb fm fr).1 62) := by
        rw [e1, e2, e3]
        exact w2
      have hGz : GNs (gs g 3 (20 - n)) e ((st3 (uI t 41 3 (iN (20 - n))) 59 fb fm fr).1 63) := by
        rw [st3_1 (by omega)]
        exact hG2
      have z0 : (st3 (uI t 41 3 (iN (20 - n))) 59 fb fm fr).1 0 = t.1 0 := by rw [st3_1 (by omega), rI_ne (by omega)]
      generalize hz : st3 (uI t 41 3 (iN (20 - n))) 59 fb fm fr = z at *
      have p3 : pV (lay t) 41 0 3 (.int (iZ ((20 : Int) - (n : Int)))) = some (lay (uI t 41 3 (iN (20 - n)))) := by
        rw [e20]
        exact bs_p3 hb
      simp only [rr_0_3, rr_0_5, ob, p3, rw_c hw]
      rw [w1]
      simp only [bd_s, rr_0_5, ob, oc_0, c_seen hg (by omega) hLz hA hT, nx]
      have hf := fit_le (g := g) n (by omega)
      have st : fitS g (n + 1) = if seenB g (20 - n) (g 110) = true then ((fitS g n).1 + 1, ((20 - n : Nat) : Int)) else fitS g n := rfl
      by_cases d : seenB g (20 - n) (g 110) = true
      · rw [if_pos d] at st
        simp only [tI_pos d, i10, if_false, gi_0_8, ob, z0, h8, iN_addL, pi_0_8, pi_0_9]
        have kk : Kf z (uI (uI z 0 8 (iN ((fitS g n).1 + 1))) 0 9 (iZ ((20 : Int) - (n : Int)))) := (Kf_0 (by omega)).tr (Kf_0 (by omega))
        obtain ⟨u, u1, u2, u3⟩ := ih (n + 1) (20 - n) (uI (uI z 0 8 (iN ((fitS g n).1 + 1))) 0 9 (iZ ((20 : Int) - (n : Int)))) (by omega) (by omega) (RB_rI (RB_rI hBz (by rw [gs3 (by omega)]; omega) (by omega)) (by rw [gs3 (by omega)]; omega) (by omega)) (by rw [rI_ne (by omega), rI_ne (by omega)]; exact hGz) (LI_congr hLz (kk.1 _ (by omega) (by omega)) (kk.1 _ (by omega) (by omega))) (by rw [rI_same, upd_ne (by omega), rI_same, upd_ne (by omega), z0]; exact h7) (by rw [rI_same, upd_ne (by omega), rI_same, upd_same, st]) (by rw [rI_same, upd_same, st, e20, iN_iZ (20 - n)])
        exact ⟨u, u1, (k1.tr kk).tr u2, u3⟩
      · rw [if_neg d] at st
        simp only [tI_neg d, i00, if_true]
        obtain ⟨u, u1, u2, u3⟩ := ih (n + 1) (20 - n) z (by omega) (by omega) hBz hGz hLz (by rw [z0]; exact h7) (by rw [z0, st]; exact h8) (by rw [z0, st]; exact h9)
        exact ⟨u, u1, k1.tr u2, u3⟩
end FITSB
