/-! ===== the class reads clauses ===== -/
def clS (tn : Nat) (tv : Nat → Nat) (p : Nat) : (Nat × Bool) × (Nat → Nat) := if p < tn ∧ fmI (tv p) < 5 then runS tn tv (FM (fmI (tv p))) 1 (p + 1, true) (fun _ => tv p) else ((p, false), fun _ => 0)
/-- how many numbers a clause has, its letter counted -/
def slw (w : Nat → Nat) : Nat := 1 + nsl (FM (fmI (w 0)))
def wS (W : Nat → Nat → Nat) (n : Nat) (w : Nat → Nat) : Nat → Nat → Nat := fun k => if k = n then w else W k
/-- all clauses, from the n-th on: taken, or the fault's place; how many; what they hold -/
def prS (tn : Nat) (tv : Nat → Nat) : Nat → Nat → Nat → (Nat → Nat → Nat) → Bool × Nat × (Nat → Nat → Nat)
  | 0, _, p, W => (false, p, W)
  | m + 1, n, p, W => if (clS tn tv p).1.2 = true then (if tn ≤ (clS tn tv p).1.1 then (true, n + 1, wS W n (clS tn tv p).2) else if tv (clS tn tv p).1.1 = 59 ∧ 0 < m then prS tn tv m (n + 1) ((clS tn tv p).1.1 + 1) (wS W n (clS tn tv p).2) else (false, (clS tn tv p).1.1, wS W n (clS tn tv p).2)) else (false, (clS tn tv p).1.1, W)
/-- a clause that is whole -/
def goodW (w : Nat → Nat) : Prop := fmI (w 0) < 5 ∧ (w 0 = 112 → w 1 ≤ 9 ∧ w 2 ≤ 9 ∧ w 3 ≤ 9 ∧ w 4 ≤ 9)
def Wv (s : Sto) (q n : Nat) (W : Nat → Nat → Nat) : Prop := ∀ k i, k < n → i < slw (W k) → s.1 q (7 * k + i) = iN (W k i)
theorem fm_nsl {q : Nat} (hq : q < 6) : nsl (FM q) ≤ 6 := by
  have : ∀ q < 6, nsl (FM q) ≤ 6 := by decide
  exact this q hq
theorem fmI_lt {c : Nat} : fmI c < 6 := by
  unfold fmI
  repeat' split
  all_goals omega
theorem slw_le {w : Nat → Nat} : slw w ≤ 7 := by
  have := fm_nsl (q := fmI (w 0)) fmI_lt
  unfold slw
  omega
section TEXTD
variable {s : Sto} {tn : Nat} {tv : Nat → Nat}
theorem cl_0 {p : Nat} (h : (clS tn tv p).1.2 = true) : p < tn ∧ fmI (tv p) < 5 ∧ (clS tn tv p).2 0 = tv p := by
  unfold clS at h ⊢
  by_cases c : p < tn ∧ fmI (tv p) < 5
  · rw [if_pos c]
    exact ⟨c.1, c.2, run_0 _ 0 _ _⟩
  · rw [if_neg c] at h
    cases h
theorem cl_le {p : Nat} (hp : p ≤ tn) : (clS tn tv p).1.1 ≤ tn := by
  unfold clS
  by_cases c : p < tn ∧ fmI (tv p) < 5
  · rw [if_pos c]
    exact run_le _ _ _ _ (show p + 1 ≤ tn by omega)
  · rw [if_neg c]
    exact hp
theorem cl_good {p : Nat} (h : (clS tn tv p).1.2 = true) : goodW (clS tn tv p).2 := by
  obtain ⟨h1, h2, h3⟩ := cl_0 h
  refine ⟨by rw [h3]; exact h2, fun e => ?_⟩
  rw [h3] at e
  have c : clS tn tv p = runS tn tv [1, 1, 1, 1] 1 (p + 1, true) (fun _ => tv p) := by
    unfold clS
    rw [if_pos ⟨h1, h2⟩, e]
    rfl
  rw [c]
  have g : ∀ (x : Nat × Bool), (dxS tn tv x).1 ≤ 9 := fun x => by
    unfold dxS
    split
    · rename_i q; have := q.2; show tv x.1 - 48 ≤ 9; omega
    · exact Nat.zero_le _
  simp only [runS]
  refine ⟨?_, ?_, ?_, ?_⟩
  · rw [gs_ne (by omega), gs_ne (by omega), gs_ne (by omega), gs_same]; exact g _
  · rw [gs_ne (by omega), gs_ne (by omega), gs_same]; exact g _
  · rw [gs_ne (by omega), gs_same]; exact g _
  · rw [gs_same]; exact g _
theorem pr_ok : ∀ (m n p : Nat) (W : Nat → Nat → Nat), (∀ k, k < n → goodW (W k)) → (prS tn tv m n p W).1 = true → (prS tn tv m n p W).2.1 ≤ n + m ∧ ∀ k, k < (prS tn tv m n p W).2.1 → goodW ((prS tn tv m n p W).2.2 k)
  | 0, n, p, W, h, e => by cases e
  | m + 1, n, p, W, h, e => by
    have hg : ∀ (c : (clS tn tv p).1.2 = true) k, k < n + 1 → goodW (wS W n (clS tn tv p).2 k) := fun c k hk => by
      unfold wS
      by_cases d : k = n
      · rw [if_pos d]; exact cl_good c
      · rw [if_neg d]; exact h k (by omega)
    rw [prS] at e ⊢
    by_cases c1 : (clS tn tv p).1.2 = true
    · rw [if_pos c1] at e ⊢
      by_cases c2 : tn ≤ (clS tn tv p).1.1
      · rw [if_pos c2]
        exact ⟨by show n + 1 ≤ n + (m + 1); omega, hg c1⟩
      · rw [if_neg c2] at e ⊢
        by_cases c3 : tv (clS tn tv p).1.1 = 59 ∧ 0 < m
        · rw [if_pos c3] at e ⊢
          have := pr_ok m (n + 1) _ _ (hg c1) e
          exact ⟨by omega, this.2⟩
        · rw [if_neg c3] at e
          cases e
    · rw [if_neg c1] at e
      cases e
theorem nm_f {x : Nat × Bool} : nmS tn tv false x = dxS tn tv x := if_neg (fun h => by cases h)
theorem nm_t {x : Nat × Bool} : nmS tn tv true x = twS tn tv x := if_pos rfl
theorem c_formL {n q : Nat} (hq : q < 6) (ht : tn ≤ 100) (hv : ∀ i, i < tn → tv i ≤ 127) (hn : n < 12) : ∀ (f : List Nat) (m j k p : Nat) (W : Nat → Nat) (s : Sto), (FM q).drop k = f → k ≤ (FM q).length → f.length < m → j + nsl f ≤ 7 → p ≤ tn → LI s 76 1 tn tv → s.1 78 1 = iN n → s.1 78 2 = iN p → (∀ i, i < j → s.1 79 (7 * n + i) = iN (W i)) → ∃ t, X3_takeClause_L53 (fun μ_139 => (zz ((1 : Int32))).bind fun z => some (z, μ_139)) 78 76 (1011 + q) m (iN j) (iN k) (lay s) = some (tI ((runS tn tv f j (p, true) W).1.2 = true), lay t) ∧ Ktc (7 * n + j) s t ∧ t.1 78 2 = iN (runS tn tv f j (p, true) W).1.1 ∧ ((runS tn tv f j (p, true) W).1.2 = true → ∀ i, i < j + nsl f → t.1 79 (7 * n + i) = iN ((runS tn tv f j (p, true) W).2 i)) := by
  intro f
  have hl := fm_len hq
  induction f with
  | nil =>
    intro m j k p W s hf hkl hm hj hp hT h1 h2 hW
    obtain ⟨m, rfl⟩ : ∃ m', m = m' + 1 := ⟨m - 1, by have : ([] : List Nat).length < m := hm; omega⟩
    have hk : (FM q).length ≤ k := List.drop_eq_nil_iff.mp hf
    refine ⟨s, ?_, Ktc.rf, h2, fun _ i hi => hW i (by have : nsl [] = 0 := rfl; omega)⟩
    rw [X3_takeClause_L53]
    simp only [tx_in hq, ob, tx_len hq, bd_s]
    rw [if_pos (by rw [iN_le (by omega) (by omega)]; exact hk)]
    rfl
  | cons c f ih =>
    intro m j k p W s hf hkl hm hj hp hT h1 h2 hW
    have hk : k < (FM q).length := by
      by_cases h : k < (FM q).length
      · exact h
      · rw [List.drop_eq_nil_of_le (by omega)] at hf
        cases hf
    rw [List.drop_eq_getElem_cons hk] at hf
    obtain ⟨e1, e2⟩ := List.cons.inj hf
    have e3 : (FM q).getD k 0 = c := by
      unfold List.getD
      rw [List.getElem?_eq_getElem hk]
      exact e1
    have cle := fm_le hq hk
    rw [e3] at cle
    have hm2 : f.length + 1 < m := hm
    obtain ⟨m, rfl⟩ : ∃ m', m = m' + 1 := ⟨m - 1, by omega⟩
    rw [X3_takeClause_L53]
    simp only [tx_in hq, ob, tx_len hq, bd_s]
    rw [if_neg (by rw [iN_le (by omega) (by omega)]; omega)]
    simp only [tx_at hq hk, e3, bd_s]
    have key : ∀ (b : Bool) (v : Int32), v = (if b = true then 1 else 0) → runS tn tv (c :: f) j (p, true) W = runS tn tv f (j + 1) (nmS tn tv b (p, true)).2 (gs W j (nmS tn tv b (p, true)).1) → nsl (c :: f) = nsl f + 1 → ∃ t, bd (fX3_takeNumber 78 76 v (iN j) (lay s)) (fun x122 μ122 => if x122 = 0 then ((zz ((0 : Int32))).bind fun z => some (z, μ122)) else (X3_takeClause_L53 (fun μ_139 => (zz ((1 : Int32))).bind fun z => some (z, μ_139)) 78 76 (1011 + q) m (iN j + 1) (iN k + 1) μ122)) = some (tI ((runS tn tv (c :: f) j (p, true) W).1.2 = true), lay t) ∧ Ktc (7 * n + j) s t ∧ t.1 78 2 = iN (runS tn tv (c :: f) j (p, true) W).1.1 ∧ ((runS tn tv (c :: f) j (p, true) W).1.2 = true → ∀ i, i < j + nsl (c :: f) → t.1 79 (7 * n + i) = iN ((runS tn tv (c :: f) j (p, true) W).2 i)) := by
      intro b v ev er es
      rw [es] at hj
      obtain ⟨t, t1, t2, t3, t4⟩ := c_takeNumber b hT ht hv hn (show j < 7 by omega) h1 h2 hp
      have le : (nmS tn tv b (p, true)).2.1 ≤ tn := by
        cases b
        · rw [nm_f]; exact (dg_le hp).1
        · rw [nm_t]; exact (tw_le hp).1
      rw [ev, t1, er, es]
      simp only [bd_s]
      generalize nmS tn tv b (p, true) = X at *
      obtain ⟨v, p', ok⟩ := X
      cases ok with
      | true =>
        simp only [tI_pos (show True from trivial), i10, if_false, iN_addL]
        have kk : ∀ i, i < j + 1 → t.1 79 (7 * n + i) = iN (gs W j v i) := fun i hi => by
          by_cases ci : i = j
          · rw [ci, gs_same]; exact t4 rfl
          · rw [gs_ne ci, t2.2.2.2 _ (by omega)]
            exact hW i (by omega)
        obtain ⟨u, u1, u2, u3, u4⟩ := ih m (j + 1) (k + 1) p' (gs W j v) t e2 (by omega) (by omega) (by omega) le (t2.T hT) (t2.2.2.1.trans h1) t3 kk
        refine ⟨u, ?_, t2.tr (u2.lo (by omega)), u3, fun h i hi => u4 h i (by omega)⟩
        exact u1
      | false =>
        refine ⟨t, ?_, t2, by rw [run_bad]; exact t3, fun h => by rw [run_bad] at h; cases h⟩
        rw [tI_neg (show ¬ ((false : Bool) = true) by decide), run_bad]
        rfl
    rcases (show c = 0 ∨ c = 1 ∨ c = 2 by omega) with rfl | rfl | rfl
    · have ns : nsl (0 :: f) = nsl f := rfl
      rw [ns] at hj ⊢
      rw [if_pos (show chC 0 = (46 : Int32) from rfl)]
      simp only [gi_78_2, ob, ln_c l76, h2, c_sign hT ht (show p ≤ 100 by omega), bd_s]
      by_cases d : p < tn ∧ tv p = 46
      · have dt : dtS tn tv (p, true) = (p + 1, true) := if_pos ⟨rfl, d⟩
        have er : runS tn tv (0 :: f) j (p, true) W = runS tn tv f j (p + 1, true) W := by rw [runS, dt]
        rw [er, if_pos (show sgS tn tv p = (46 : Int32) from (ch_iff (c := 46) hv (by omega)).mpr d)]
        simp only [gi_78_2, ob, h2, pi_78_2, iN_addL]
        obtain ⟨u, u1, u2, u3, u4⟩ := ih m j (k + 1) (p + 1) W (uI s 78 2 (iN (p + 1))) e2 (by omega) (by omega) hj (by omega) ((Ktc_2 (b := 0)).T hT) (by rw [rI_same, upd_ne (by omega)]; exact h1) (by rw [rI_same, upd_same]) (fun i hi => by rw [rI_ne (by omega)]; exact hW i hi)
        exact ⟨u, u1, Ktc_2.tr u2, u3, u4⟩
      · have dt : dtS tn tv (p, true) = (p, false) := if_neg (fun h => d h.2)
        have er : (runS tn tv (0 :: f) j (p, true) W).1 = (p, false) := by rw [runS, dt, run_bad]
        rw [er, if_neg (fun h : sgS tn tv p = (46 : Int32) => d ((ch_iff (c := 46) hv (by omega)).mp h))]
        refine ⟨s, ?_, Ktc.rf, h2, fun h => by cases h⟩
        rw [tI_neg (show ¬ ((false : Bool) = true) by decide)]
        rfl
    · rw [if_neg (show ¬ chC 1 = (46 : Int32) by decide)]
      simp only [jn_s, oc_78, ob]
      rw [if_neg (show ¬ chC 1 = (50 : Int32) by decide)]
      exact key false 0 rfl (by rw [runS, nm_f]) rfl
    · rw [if_neg (show ¬ chC 2 = (46 : Int32) by decide)]
      simp only [jn_s, oc_78, ob]
      rw [if_pos (show chC 2 = (50 : Int32) from rfl)]
      exact key true 1 rfl (by rw [runS, nm_t]) rfl
theorem c_takeClause {n p : Nat} (hT : LI s 76 1 tn tv) (ht : tn ≤ 100) (hv : ∀ i, i < tn → tv i ≤ 127) (hn : n < 12) (h1 : s.1 78 1 = iN n) (h2 : s.1 78 2 = iN p) (hp : p ≤ tn) : ∃ t, fX3_takeClause 78 76 (lay s) = some (tI ((clS tn tv p).1.2 = true), lay t) ∧ Ktc (7 * n) s t ∧ t.1 78 2 = iN (clS tn tv p).1.1 ∧ ((clS tn tv p).1.2 = true → ∀ i, i < slw (clS tn tv p).2 → t.1 79 (7 * n + i) = iN ((clS tn tv p).2 i)) := by
  have bad : ∀ q, q = 5 → fX3_formOf (sgS tn tv p) (lay s) = some (1011 + q, lay s) → ¬ (p < tn ∧ fmI (tv p) < 5) → ∃ t, fX3_takeClause 78 76 (lay s) = some (tI ((clS tn tv p).1.2 = true), lay t) ∧ Ktc (7 * n) s t ∧ t.1 78 2 = iN (clS tn tv p).1.1 ∧ ((clS tn tv p).1.2 = true → ∀ i, i < slw (clS tn tv p).2 → t.1 79 (7 * n + i) = iN ((clS tn tv p).2 i)) := by
    intro q hq ef hc
    have ec : clS tn tv p = ((p, false), fun _ => 0) := if_neg hc
    rw [ec]
    refine ⟨s, ?_, Ktc.rf, h2, fun h => by cases h⟩
    unfold fX3_takeClause
    simp only [gi_78_2, ob, ln_c l76, h2, c_sign hT ht (show p ≤ 100 by omega), bd_s, ef, tx_in (show q < 6 by omega), tx_empty (show q < 6 by omega), tI_pos hq, i10, if_false, zz0]
    rfl
  by_cases c0 : p < tn
  · have hvp := hv p c0
    have cp : sgS tn tv p = iN (tv p) := if_pos c0
    have lt6 : fmI (tv p) < 6 := fmI_lt
    by_cases c1 : fmI (tv p) < 5
    · have ec : clS tn tv p = runS tn tv (FM (fmI (tv p))) 1 (p + 1, true) (fun _ => tv p) := if_pos ⟨c0, c1⟩
      have eq0 : (clS tn tv p).2 0 = tv p := by rw [ec]; exact run_0 _ 0 _ _
      have es : slw (clS tn tv p).2 = 1 + nsl (FM (fmI (tv p))) := by unfold slw; rw [eq0]
      rw [es, ec]
      have hns := fm_nsl lt6
      have hfl := fm_len lt6
      obtain ⟨t, t1, t2, t3, t4⟩ := c_formL (n := n) lt6 ht hv hn (FM (fmI (tv p))) FU 1 0 (p + 1) (fun _ => tv p) (uI (uI s 79 (n * 7) (iN (tv p))) 78 2 (iN (p + 1))) rfl (Nat.zero_le _) (by unfold FU; omega) (by omega) (by omega) (LI_congr hT (by rw [rI_ne (by omega), rI_ne (by omega)]) (by rw [rI_ne (by omega), rI_ne (by omega)])) (by rw [rI_same, upd_ne (by omega), rI_ne (by omega)]; exact h1) (by rw [rI_same, upd_same]) (fun i hi => by
        have : i = 0 := by omega
        subst this
        rw [rI_ne (by omega), rI_same, show 7 * n + 0 = n * 7 by omega, upd_same])
      rw [show iN 1 = (1 : Int32) from rfl, show iN 0 = (0 : Int32) from rfl] at t1
      refine ⟨t, ?_, ((Ktc_v (by omega)).tr Ktc_2).tr (t2.lo (by omega)), t3, t4⟩
      unfold fX3_takeClause
      simp only [gi_78_2, ob, ln_c l76, h2, c_sign hT ht (show p ≤ 100 by omega), bd_s, cp, c_form (show tv p < 2147483648 by omega), tx_in lt6, tx_empty lt6, tI_neg (show ¬ fmI (tv p) = 5 by omega), i00, if_true, rr_78_0, gi_78_1, h1, iN_mulL, si_79 (show n * 7 < 84 by omega)]
      have g2 : (uI s 79 (n * 7) (iN (tv p))).1 78 2 = iN p := by rw [rI_ne (by omega)]; exact h2
      simp only [gi_78_2, ob, g2, pi_78_2, iN_addL]
      exact t1
    · exact bad (fmI (tv p)) (by omega) (by rw [cp]; exact c_form (by omega)) (fun h => c1 h.2)
  · exact bad 5 rfl (by unfold sgS; rw [if_neg c0]; exact c_formN) (fun h => c0 h.1)
theorem Wv_new {t : Sto} {q n : Nat} {W : Nat → Nat → Nat} {w : Nat → Nat} (h : Wv s q n W) (e : ∀ i, i < 7 * n → t.1 q i = s.1 q i) (hw : ∀ i, i < slw w → t.1 q (7 * n + i) = iN (w i)) : Wv t q (n + 1) (wS W n w) := fun k i hk hi => by
  unfold wS at hi ⊢
  by_cases c : k = n
  · rw [if_pos c] at hi ⊢
    rw [c]
    exact hw i hi
  · rw [if_neg c] at hi ⊢
    have := slw_le (w := W k)
    rw [e _ (by omega)]
    exact h k i (by omega) hi
theorem c_takeAllL (ht : tn ≤ 100) (hv : ∀ i, i < tn → tv i ≤ 127) : ∀ (m n p : Nat) (W : Nat → Nat → Nat) (F : Nat) (s : Sto), n + m = 12 → 0 < m → m ≤ F → p ≤ tn → LI s 76 1 tn tv → s.1 78 1 = iN n → s.1 78 2 = iN p → Wv s 79 n W → ∃ t, X3_takeAll_L10 (fun μ_97 => (gI μ_97 78 3 2).bind fun x98 => some (x98, μ_97)) 78 76 F (lay s) = some ((if (prS tn tv m n p W).1 = true then -5 else iN (prS tn tv m n p W).2.1), lay t) ∧ ((∀ q, q ≠ 78 → q ≠ 79 → t.1 q = s.1 q) ∧ t.2 = s.2) ∧ ((prS tn tv m n p W).1 = true → t.1 78 1 = iN (prS tn tv m n p W).2.1 ∧ Wv t 79 (prS tn tv m n p W).2.1 (prS tn tv m n p W).2.2) := by
  intro m
  induction m with
  | zero => intro n p W F s h1 h2; omega
  | succ m ih =>
    intro n p W F s hnm h0 hF hp hT h1 h2 hW
    obtain ⟨F, rfl⟩ : ∃ F', F = F' + 1 := ⟨F - 1, by omega⟩
    rw [X3_takeAll_L10]
    simp only [gi_78_1, ob, h1]
    rw [if_neg (by rw [iN_Lle (by omega) (by omega)]; omega)]
    simp only [oc_78, ob]
    obtain ⟨t, t1, t2, t3, t4⟩ := c_takeClause hT ht hv (show n < 12 by omega) h1 h2 hp
    have le := cl_le (tv := tv) hp
    rw [t1, prS]
    simp only [bd_s]
    by_cases c1 : (clS tn tv p).1.2 = true
    · have t5 := t4 c1
      simp only [if_pos c1, tI_pos c1, i10, if_false]
      have t78 : t.1 78 1 = iN n := t2.2.2.1.trans h1
      have hT2 : LI (uI t 78 1 (iN (n + 1))) 76 1 tn tv := LI_congr (t2.T hT) (rI_ne (by omega)) (rI_ne (by omega))
      have g2 : (uI t 78 1 (iN (n + 1))).1 78 2 = iN (clS tn tv p).1.1 := by rw [rI_same, upd_ne (by omega)]; exact t3
      have g1 : (uI t 78 1 (iN (n + 1))).1 78 1 = iN (n + 1) := by rw [rI_same, upd_same]
      have hW2 : Wv (uI t 78 1 (iN (n + 1))) 79 (n + 1) (wS W n (clS tn tv p).2) := Wv_new hW (fun i hi => by rw [rI_ne (by omega)]; exact t2.2.2.2 i hi) (fun i hi => by rw [rI_ne (by omega)]; exact t5 i hi)
      have k2 : (∀ q, q ≠ 78 → q ≠ 79 → (uI t 78 1 (iN (n + 1))).1 q = s.1 q) ∧ (uI t 78 1 (iN (n + 1))).2 = s.2 := ⟨fun q a b => by rw [rI_ne a]; exact t2.1 q a b, by rw [rI_2]; exact t2.2.1⟩
      simp only [gi_78_1, ob, t78, iN_addL, pi_78_1, gi_78_2, g2, ln_g3 l76, hT2.1]
      generalize hu : uI t 78 1 (iN (n + 1)) = u at *
      clear hu
      by_cases c2 : tn ≤ (clS tn tv p).1.1
      · rw [if_pos c2, if_neg (by rw [iN_lt (by omega) (by omega)]; omega)]
        exact ⟨u, rfl, k2, fun _ => ⟨g1, hW2⟩⟩
      · rw [if_neg c2, if_pos (by rw [iN_lt (by omega) (by omega)]; omega)]
        simp only [gi_78_2, ob, g2, ln_c l76, c_sign hT2 ht (show (clS tn tv p).1.1 ≤ 100 by omega), bd_s]
        by_cases c3 : tv (clS tn tv p).1.1 = 59
        · rw [if_pos (show sgS tn tv (clS tn tv p).1.1 = (59 : Int32) from (ch_iff (c := 59) hv (by omega)).mpr ⟨by omega, c3⟩)]
          simp only [gi_78_1, ob, g1]
          by_cases c4 : 0 < m
          · rw [if_pos (show tv (clS tn tv p).1.1 = 59 ∧ 0 < m from ⟨c3, c4⟩), if_neg (show ¬ iN (n + 1) = (12 : Int32) by rw [iN_eqL (by omega) (by omega)]; omega)]
            simp only [gi_78_2, ob, g2, iN_addL, pi_78_2]
            obtain ⟨w, w1, w2, w3⟩ := ih (n + 1) ((clS tn tv p).1.1 + 1) (wS W n (clS tn tv p).2) F (uI u 78 2 (iN ((clS tn tv p).1.1 + 1))) (by omega) c4 (by omega) (by omega) (LI_congr hT2 (rI_ne (by omega)) (rI_ne (by omega))) (by rw [rI_same, upd_ne (by omega)]; exact g1) (by rw [rI_same, upd_same]) (fun k i hk hi => by rw [rI_ne (by omega)]; exact hW2 k i hk hi)
            exact ⟨w, w1, ⟨fun q a b => by rw [w2.1 q a b, rI_ne a]; exact k2.1 q a b, by rw [w2.2, rI_2]; exact k2.2⟩, w3⟩
          · rw [if_neg (show ¬ (tv (clS tn tv p).1.1 = 59 ∧ 0 < m) from fun h => c4 h.2), if_pos (show iN (n + 1) = (12 : Int32) by rw [iN_eqL (by omega) (by omega)]; omega)]
            simp only [gi_78_2, ob, g2]
            exact ⟨u, rfl, k2, fun h => by cases h⟩
        · rw [if_neg (show ¬ (tv (clS tn tv p).1.1 = 59 ∧ 0 < m) from fun h => c3 h.1), if_neg (fun h : sgS tn tv (clS tn tv p).1.1 = (59 : Int32) => c3 ((ch_iff (c := 59) hv (by omega)).mp h).2)]
          simp only [gi_78_2, ob, g2]
          exact ⟨u, rfl, k2, fun h => by cases h⟩
    · simp only [if_neg c1, tI_neg c1, i00, if_true, gi_78_2, ob, t3]
      exact ⟨t, rfl, ⟨t2.1, t2.2.1⟩, fun h => by cases h⟩
theorem c_takeAll (hT : LI s 76 1 tn tv) (ht : tn ≤ 100) (hv : ∀ i, i < tn → tv i ≤ 127) : ∃ t, fX3_takeAll 78 76 (lay s) = some ((if (prS tn tv 12 0 0 (fun _ _ => 0)).1 = true then -5 else iN (prS tn tv 12 0 0 (fun _ _ => 0)).2.1), lay t) ∧ ((∀ q, q ≠ 78 → q ≠ 79 → t.1 q = s.1 q) ∧ t.2 = s.2) ∧ ((prS tn tv 12 0 0 (fun _ _ => 0)).1 = true → t.1 78 1 = iN (prS tn tv 12 0 0 (fun _ _ => 0)).2.1 ∧ Wv t 79 (prS tn tv 12 0 0 (fun _ _ => 0)).2.1 (prS tn tv 12 0 0 (fun _ _ => 0)).2.2) := by
  obtain ⟨t, t1, t2, t3⟩ := c_takeAllL ht hv 12 0 0 (fun _ _ => 0) FU (uI (uI s 78 1 0) 78 2 0) (by omega) (by omega) (by unfold FU; omega) (Nat.zero_le _) (LI_congr hT (by rw [rI_ne (by omega), rI_ne (by omega)]) (by rw [rI_ne (by omega), rI_ne (by omega)])) (by rw [rI_same, upd_ne (by omega), rI_same, upd_same]; rfl) (by rw [rI_same, upd_same]; rfl) (fun k i hk => by omega)
  refine ⟨t, ?_, ⟨fun q a b => by rw [t2.1 q a b, rI_ne a, rI_ne a], by rw [t2.2, rI_2, rI_2]⟩, t3⟩
  unfold fX3_takeAll
  simp only [pi_78_1, pi_78_2, ob]
  exact t1
end TEXTD
