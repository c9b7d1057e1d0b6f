/-! ===== the text: what stands behind a letter, a sign, a number ===== -/
/-- the forms: 1 a digit, 2 one or two, 0 a point -/
def FM (q : Nat) : List Nat := [[1, 1, 1, 2, 0, 2, 0, 2], [2, 0, 1, 1, 1], [1, 1, 1, 1], [2, 0, 1], [2], []].getD q []
def fmI (c : Nat) : Nat := if c = 100 then 0 else if c = 113 then 1 else if c = 112 then 2 else if c = 101 then 3 else if c = 102 then 3 else if c = 99 then 4 else 5
def chC (c : Nat) : Int32 := if c = 0 then 46 else if c = 1 then 49 else 50
abbrev isD (tn : Nat) (tv : Nat → Nat) (p : Nat) : Prop := p < tn ∧ 48 ≤ tv p ∧ tv p ≤ 57
def sgS (tn : Nat) (tv : Nat → Nat) (p : Nat) : Int32 := if p < tn then iN (tv p) else -1
def dxS (tn : Nat) (tv : Nat → Nat) (x : Nat × Bool) : Nat × (Nat × Bool) := if x.2 = true ∧ isD tn tv x.1 then (tv x.1 - 48, (x.1 + 1, true)) else (0, (x.1, false))
def twS (tn : Nat) (tv : Nat → Nat) (x : Nat × Bool) : Nat × (Nat × Bool) := if (dxS tn tv x).2.2 = true ∧ isD tn tv (dxS tn tv x).2.1 then (10 * (dxS tn tv x).1 + (tv (dxS tn tv x).2.1 - 48), ((dxS tn tv x).2.1 + 1, true)) else dxS tn tv x
def dtS (tn : Nat) (tv : Nat → Nat) (x : Nat × Bool) : Nat × Bool := if x.2 = true ∧ x.1 < tn ∧ tv x.1 = 46 then (x.1 + 1, true) else (x.1, false)
def runS (tn : Nat) (tv : Nat → Nat) : List Nat → Nat → Nat × Bool → (Nat → Nat) → (Nat × Bool) × (Nat → Nat)
  | [], _, x, W => (x, W)
  | 0 :: f, j, x, W => runS tn tv f j (dtS tn tv x) W
  | 1 :: f, j, x, W => runS tn tv f (j + 1) (dxS tn tv x).2 (gs W j (dxS tn tv x).1)
  | (_ + 2) :: f, j, x, W => runS tn tv f (j + 1) (twS tn tv x).2 (gs W j (twS tn tv x).1)
/-- how many numbers a form has -/
def nsl : List Nat → Nat
  | [] => 0
  | 0 :: f => nsl f
  | (_ + 1) :: f => nsl f + 1
section TEXT
variable {tn : Nat} {tv : Nat → Nat}
theorem dt_bad {p : Nat} : dtS tn tv (p, false) = (p, false) := if_neg (fun h => by cases h.1)
theorem dg_bad {p : Nat} : dxS tn tv (p, false) = (0, (p, false)) := if_neg (fun h => by cases h.1)
theorem tw_bad {p : Nat} : twS tn tv (p, false) = (0, (p, false)) := by
  unfold twS
  rw [dg_bad]
  exact if_neg (fun h => by cases h.1)
theorem run_bad {p : Nat} : ∀ (f : List Nat) (j : Nat) (W : Nat → Nat), (runS tn tv f j (p, false) W).1 = (p, false)
  | [], j, W => rfl
  | 0 :: f, j, W => by rw [runS, dt_bad]; exact run_bad f j W
  | 1 :: f, j, W => by rw [runS, dg_bad]; exact run_bad f _ _
  | (n + 2) :: f, j, W => by rw [runS, tw_bad]; exact run_bad f _ _
theorem dt_le {x : Nat × Bool} (h : x.1 ≤ tn) : (dtS tn tv x).1 ≤ tn := by
  unfold dtS
  split
  · rename_i c; have := c.2.1; show x.1 + 1 ≤ tn; omega
  · exact h
theorem dg_le {x : Nat × Bool} (h : x.1 ≤ tn) : (dxS tn tv x).2.1 ≤ tn ∧ (dxS tn tv x).1 ≤ 9 := by
  unfold dxS
  split
  · rename_i c; have := c.2; show x.1 + 1 ≤ tn ∧ tv x.1 - 48 ≤ 9; omega
  · exact ⟨h, Nat.zero_le _⟩
theorem tw_le {x : Nat × Bool} (h : x.1 ≤ tn) : (twS tn tv x).2.1 ≤ tn ∧ (twS tn tv x).1 ≤ 99 := by
  have hd := dg_le (tv := tv) h
  unfold twS
  split
  · rename_i c; have := c.2; show (dxS tn tv x).2.1 + 1 ≤ tn ∧ 10 * (dxS tn tv x).1 + (tv (dxS tn tv x).2.1 - 48) ≤ 99; omega
  · omega
theorem run_le : ∀ (f : List Nat) (j : Nat) (x : Nat × Bool) (W : Nat → Nat), x.1 ≤ tn → (runS tn tv f j x W).1.1 ≤ tn
  | [], j, x, W, h => h
  | 0 :: f, j, x, W, h => by rw [runS]; exact run_le f _ _ _ (dt_le h)
  | 1 :: f, j, x, W, h => by rw [runS]; exact run_le f _ _ _ (dg_le h).1
  | (n + 2) :: f, j, x, W, h => by rw [runS]; exact run_le f _ _ _ (tw_le h).1
theorem run_0 : ∀ (f : List Nat) (j : Nat) (x : Nat × Bool) (W : Nat → Nat), (runS tn tv f (j + 1) x W).2 0 = W 0
  | [], j, x, W => rfl
  | 0 :: f, j, x, W => by rw [runS]; exact run_0 f _ _ _
  | 1 :: f, j, x, W => by rw [runS, run_0 f]; exact gs_ne (by omega)
  | (n + 2) :: f, j, x, W => by rw [runS, run_0 f]; exact gs_ne (by omega)
theorem tI_iff {p q : Prop} [Decidable p] [Decidable q] (h : p ↔ q) : tI p = tI q := by
  by_cases c : q
  · rw [tI_pos c, tI_pos (h.mpr c)]
  · rw [tI_neg c, tI_neg (fun x => c (h.mp x))]
/-! the class's texts -/
theorem tx_in {q : Nat} (hq : q < 6) : isT (1011 + q) = some () := by
  unfold isT
  rw [if_pos (by omega)]
theorem tx_v {q : Nat} (hq : q < 6) : txV (1011 + q) = some (1021 + q) := by
  unfold txV
  rw [if_pos (by omega), Nat.add_sub_cancel_left]
theorem tx_k {q : Nat} (hq : q < 6) : txK (1011 + q) = some 0 := by
  unfold txK
  rw [if_pos (by omega)]
theorem tx_n {q : Nat} (hq : q < 6) : txN q = (FM q).length := by
  have : ∀ q < 6, txN q = (FM q).length := by decide
  exact this q hq
theorem fm_len {q : Nat} (hq : q < 6) : (FM q).length ≤ 8 := by
  have : ∀ q < 6, (FM q).length ≤ 8 := by decide
  exact this q hq
theorem bt_l {q : Nat} (hq : q < 6) : btL (1021 + q) = some (iN (FM q).length) := by
  unfold btL
  rw [if_pos (by omega), Nat.add_sub_cancel_left, tx_n hq]
  rfl
theorem tx_len {q : Nat} {μ : Mem} (hq : q < 6) : fJ0_length_8abf5 (1011 + q) μ = some (iN (FM q).length, μ) := by
  have k : ∀ n < 9, iN n >>> ((0 : Int32) &&& 31) = iN n := by decide
  have hl := fm_len hq
  unfold fJ0_length_8abf5 fJ0_coder_7d493
  simp only [tx_v hq, bt_l hq, tx_in hq, tx_k hq, ob, i10, if_false, zz0, bd_s]
  rw [k _ (by omega)]
theorem tx_empty {q : Nat} {μ : Mem} (hq : q < 6) : fJ0_isEmpty_aae02 (1011 + q) μ = some (tI (q = 5), μ) := by
  have k : ∀ q < 6, (iN (FM q).length = 0 ↔ q = 5) := by decide
  unfold fJ0_isEmpty_aae02
  simp only [tx_v hq, bt_l hq, ob, zz0, zz1]
  by_cases c : q = 5
  · rw [if_pos ((k q hq).mpr c), tI_pos c]
  · rw [if_neg (fun h => c ((k q hq).mp h)), tI_neg c]
theorem tx_at {q k : Nat} {μ : Mem} (hq : q < 6) (hk : k < (FM q).length) : fJ0_charAt_5068e (1011 + q) (iN k) μ = some (chC ((FM q).getD k 0), μ) := by
  have hl := fm_len hq
  have kk : ∀ q < 6, ∀ k < 8, k < (FM q).length → cz ((((txB q).getD k 0 &&& (255 : Int32)).toUInt32 % 65536).toInt32) = some (chC ((FM q).getD k 0)) := by decide
  have k2 : ∀ q < 6, ∀ k < 8, cz (chC ((FM q).getD k 0)) = some (chC ((FM q).getD k 0)) := by decide
  have e1 : btA (1021 + q) (iN k) = some ((txB q).getD k 0) := by
    unfold btA
    rw [Nat.add_sub_cancel_left, iN_nat (by omega), tx_n hq, if_pos ⟨by omega, fun h => h.elim (iN_nn (by omega)) (by omega)⟩]
  have e2 : iN k < iN (FM q).length := by rw [iN_lt (by omega) (by omega)]; exact hk
  unfold fJ0_charAt_5068e fJ0_isLatin1_aae02 fJ1_charAt_3b067 fJ0_checkIndex_df160 fJ3_checkIndex_8e157
  simp only [tx_in hq, tx_k hq, tx_v hq, bt_l hq, ob, i10, if_false, zz1, bd_s, if_neg (iN_nn (show k < 2147483648 by omega)), if_pos e2, e1, if_true]
  rw [kk q hq k (by omega) hk]
  simp only [ob, bd_s]
  rw [k2 q hq k (by omega)]
  rfl
theorem fm_le {q k : Nat} (hq : q < 6) (hk : k < (FM q).length) : (FM q).getD k 0 ≤ 2 := by
  have : ∀ q < 6, ∀ k < 8, (FM q).getD k 0 ≤ 2 := by decide
  exact this q hq k (by have := fm_len hq; omega)
theorem c_form {c : Nat} {μ : Mem} (hc : c < 2147483648) : fX3_formOf (iN c) μ = some (1011 + fmI c, μ) := by
  by_cases h99 : c = 99
  · subst h99
    rfl
  by_cases h100 : c = 100
  · subst h100
    rfl
  by_cases h101 : c = 101
  · subst h101
    rfl
  by_cases h102 : c = 102
  · subst h102
    rfl
  by_cases h103 : c = 103
  · subst h103
    rfl
  by_cases h104 : c = 104
  · subst h104
    rfl
  by_cases h105 : c = 105
  · subst h105
    rfl
  by_cases h106 : c = 106
  · subst h106
    rfl
  by_cases h107 : c = 107
  · subst h107
    rfl
  by_cases h108 : c = 108
  · subst h108
    rfl
  by_cases h109 : c = 109
  · subst h109
    rfl
  by_cases h110 : c = 110
  · subst h110
    rfl
  by_cases h111 : c = 111
  · subst h111
    rfl
  by_cases h112 : c = 112
  · subst h112
    rfl
  by_cases h113 : c = 113
  · subst h113
    rfl
  have n99 : ¬ (iN c = 99) := by rw [iN_eqL (by omega) (by omega)]; exact h99
  have n100 : ¬ (iN c = 100) := by rw [iN_eqL (by omega) (by omega)]; exact h100
  have n101 : ¬ (iN c = 101) := by rw [iN_eqL (by omega) (by omega)]; exact h101
  have n102 : ¬ (iN c = 102) := by rw [iN_eqL (by omega) (by omega)]; exact h102
  have n103 : ¬ (iN c = 103) := by rw [iN_eqL (by omega) (by omega)]; exact h103
  have n104 : ¬ (iN c = 104) := by rw [iN_eqL (by omega) (by omega)]; exact h104
  have n105 : ¬ (iN c = 105) := by rw [iN_eqL (by omega) (by omega)]; exact h105
  have n106 : ¬ (iN c = 106) := by rw [iN_eqL (by omega) (by omega)]; exact h106
  have n107 : ¬ (iN c = 107) := by rw [iN_eqL (by omega) (by omega)]; exact h107
  have n108 : ¬ (iN c = 108) := by rw [iN_eqL (by omega) (by omega)]; exact h108
  have n109 : ¬ (iN c = 109) := by rw [iN_eqL (by omega) (by omega)]; exact h109
  have n110 : ¬ (iN c = 110) := by rw [iN_eqL (by omega) (by omega)]; exact h110
  have n111 : ¬ (iN c = 111) := by rw [iN_eqL (by omega) (by omega)]; exact h111
  have n112 : ¬ (iN c = 112) := by rw [iN_eqL (by omega) (by omega)]; exact h112
  have n113 : ¬ (iN c = 113) := by rw [iN_eqL (by omega) (by omega)]; exact h113
  unfold fX3_formOf fmI
  simp only [if_neg n99, if_neg n100, if_neg n101, if_neg n102, if_neg n103, if_neg n104, if_neg n105, if_neg n106, if_neg n107, if_neg n108, if_neg n109, if_neg n110, if_neg n111, if_neg n112, if_neg n113, if_neg h99, if_neg h100, if_neg h101, if_neg h102, if_neg h112, if_neg h113]
theorem c_formN {μ : Mem} : fX3_formOf (-1) μ = some (1011 + 5, μ) := by rfl
end TEXT
section TEXTC
variable {s : Sto} {tn : Nat} {tv : Nat → Nat}
theorem c_sign {p : Nat} (hT : LI s 76 1 tn tv) (ht : tn ≤ 100) (hp : p ≤ 100) : fX6_at 76 (iN p) 0 (lay s) = some (sgS tn tv p, lay s) := by
  unfold sgS
  by_cases c : p < tn
  · have := c_at l76 hT ht c (j := 0) (by omega)
    rw [Nat.mul_one, Nat.add_zero] at this
    rw [if_pos c]
    exact this
  · rw [if_neg c]
    have n1 : ¬ ((0 : Int32) ≤ iN p ∧ iN p ≤ iN tn - 1) := by
      rintro ⟨_, h⟩
      rw [show (1 : Int32) = iN 1 from rfl, iN_iZ tn, iN_iZ 1, iZ_sub, Int32.le_iff_toInt_le, iN_toInt (by omega), iZ_toInt (by omega) (by omega)] at h
      omega
    unfold fX6_at
    simp only [ln_g3 l76, hT.1, ob, c_within, tI_neg n1, bd_s, i00, if_true]
theorem ch_iff {p c : Nat} (hv : ∀ i, i < tn → tv i ≤ 127) (hc : c ≤ 127) : sgS tn tv p = iN c ↔ p < tn ∧ tv p = c := by
  unfold sgS
  by_cases h : p < tn
  · have := hv p h
    rw [if_pos h, iN_eq (by omega) (by omega)]
    exact ⟨fun e => ⟨h, e⟩, fun e => e.2⟩
  · rw [if_neg h]
    refine ⟨fun e => ?_, fun e => absurd e.1 h⟩
    have e1 := congrArg Int32.toInt e
    rw [iN_toInt (by omega)] at e1
    have e0 : (-1 : Int32).toInt = -1 := by decide
    omega
theorem c_isDigit {p : Nat} {μ : Mem} (hv : ∀ i, i < tn → tv i ≤ 127) : fX3_isDigit (sgS tn tv p) μ = some (tI (isD tn tv p), μ) := by
  unfold fX3_isDigit
  simp only [c_within, bd_s, zz_tI, ob]
  rw [tI_iff (q := isD tn tv p)]
  unfold sgS
  by_cases h : p < tn
  · have := hv p h
    rw [if_pos h, iN_Lle (by omega) (by omega), iN_leL (by omega) (by omega)]
    exact ⟨fun e => ⟨h, e⟩, fun e => e.2⟩
  · rw [if_neg h]
    exact ⟨fun e => absurd e.1 (by decide), fun e => absurd e.1 h⟩
/-- only the clauses' values from b on and their place have changed -/
def Ktc (b : Nat) (s t : Sto) : Prop := (∀ q, q ≠ 78 → q ≠ 79 → t.1 q = s.1 q) ∧ t.2 = s.2 ∧ t.1 78 1 = s.1 78 1 ∧ (∀ i, i < b → t.1 79 i = s.1 79 i)
theorem Ktc.rf {b : Nat} : Ktc b s s := ⟨fun _ _ _ => rfl, rfl, rfl, fun _ _ => rfl⟩
theorem Ktc.tr {t u : Sto} {b : Nat} (h1 : Ktc b s t) (h2 : Ktc b t u) : Ktc b s u := ⟨fun q a c => (h2.1 q a c).trans (h1.1 q a c), h2.2.1.trans h1.2.1, h2.2.2.1.trans h1.2.2.1, fun i hi => (h2.2.2.2 i hi).trans (h1.2.2.2 i hi)⟩
theorem Ktc.lo {t : Sto} {b b' : Nat} (h : Ktc b s t) (hb : b' ≤ b) : Ktc b' s t := ⟨h.1, h.2.1, h.2.2.1, fun i hi => h.2.2.2 i (by omega)⟩
theorem Ktc_2 {b : Nat} {x : Int32} : Ktc b s (uI s 78 2 x) := ⟨fun q a c => rI_ne a, rI_2, by rw [rI_same, upd_ne (by omega)], fun i hi => by rw [rI_ne (by omega)]⟩
theorem Ktc_v {b k : Nat} {x : Int32} (h : b ≤ k) : Ktc b s (uI s 79 k x) := ⟨fun q a c => rI_ne c, rI_2, by rw [rI_ne (by omega)], fun i hi => by rw [rI_same, upd_ne (by omega)]⟩
theorem Ktc.T {t : Sto} {b : Nat} (h : Ktc b s t) (hT : LI s 76 1 tn tv) : LI t 76 1 tn tv := LI_congr hT (h.1 76 (by omega) (by omega)) (h.1 77 (by omega) (by omega))
/-- one number of the form: two digits if b -/
def nmS (tn : Nat) (tv : Nat → Nat) (b : Bool) (x : Nat × Bool) : Nat × (Nat × Bool) := if b = true then twS tn tv x else dxS tn tv x
theorem c_takeNumber {n j p : Nat} (b : Bool) (hT : LI s 76 1 tn tv) (ht : tn ≤ 100) (hv : ∀ i, i < tn → tv i ≤ 127) (hn : n < 12) (hj : j < 7) (h1 : s.1 78 1 = iN n) (h2 : s.1 78 2 = iN p) (hp : p ≤ tn) : ∃ t, fX3_takeNumber 78 76 (if b = true then 1 else 0) (iN j) (lay s) = some (tI ((nmS tn tv b (p, true)).2.2 = true), lay t) ∧ Ktc (7 * n + j) s t ∧ t.1 78 2 = iN (nmS tn tv b (p, true)).2.1 ∧ ((nmS tn tv b (p, true)).2.2 = true → t.1 79 (7 * n + j) = iN (nmS tn tv b (p, true)).1) := by
  have ps : p ≤ 100 := by omega
  have lj : iN j < (7 : Int32) := by rw [iN_ltL (by omega) (by omega)]; exact hj
  by_cases c1 : isD tn tv p
  · have d1 : dxS tn tv (p, true) = (tv p - 48, (p + 1, true)) := if_pos ⟨rfl, c1⟩
    have cp : sgS tn tv p = iN (tv p) := if_pos c1.1
    have v0 : iN (tv p) - (48 : Int32) = iN (tv p - 48) := iN_sub (b := 48) c1.2.1
    have dg : ∀ μ, fX3_isDigit (iN (tv p)) μ = some (1, μ) := fun μ => by rw [← cp, c_isDigit hv, tI_pos c1]
    have hT1 := (Ktc_2 (s := s) (b := 0) (x := iN (p + 1))).T hT
    have g2 : (uI s 78 2 (iN (p + 1))).1 78 2 = iN (p + 1) := by rw [rI_same, upd_same]
    have g1 : (uI s 78 2 (iN (p + 1))).1 78 1 = iN n := by rw [rI_same, upd_ne (by omega)]; exact h1
    have fin : ∀ (z : Sto) (v : Nat), z.1 78 1 = iN n → ((gR (lay z) 78 3 0).bind fun x97 => (gI (lay z) 78 3 1).bind fun x101 => (sI (lay z) x97 ((x101 * (7 : Int32)) + iN j) (iN v)).bind fun μ111 => (zz ((1 : Int32))).bind fun z => some (z, μ111)) = some (1, lay (uI z 79 (7 * n + j) (iN v))) := fun z v hz => by
      simp only [rr_78_0, gi_78_1, ob, hz, iN_add, iN_addL, iN_Ladd, iN_mul, iN_mulL, iN_Lmul]
      rw [show n * 7 + j = 7 * n + j by omega, si_79 (by omega)]
      rfl
    have run : fX3_takeNumber 78 76 (if b = true then 1 else 0) (iN j) (lay s) = if b = true ∧ isD tn tv (p + 1) then some (1, lay (uI (uI (uI s 78 2 (iN (p + 1))) 78 2 (iN (p + 1 + 1))) 79 (7 * n + j) (iN (10 * (tv p - 48) + (tv (p + 1) - 48))))) else some (1, lay (uI (uI s 78 2 (iN (p + 1))) 79 (7 * n + j) (iN (tv p - 48)))) := by
      unfold fX3_takeNumber
      simp only [gi_78_2, ob, ln_c l76, h2, c_sign hT ht ps, cp, dg, bd_s, i10, if_false, if_pos lj, pi_78_2, jn_s, iN_addL, v0]
      by_cases cb : b = true
      · simp only [if_pos cb, i10, if_false, gi_78_2, ob, g2, ln_c l76, c_sign hT1 ht (show p + 1 ≤ 100 by have := c1.1; omega), c_isDigit hv, bd_s, true_and]
        by_cases c2 : isD tn tv (p + 1)
        · have cp2 : sgS tn tv (p + 1) = iN (tv (p + 1)) := if_pos c2.1
          have v1 : iN (tv p - 48) * (10 : Int32) + iN (tv (p + 1)) - (48 : Int32) = iN (10 * (tv p - 48) + (tv (p + 1) - 48)) := by
            have := c2.2.1
            simp only [iN_add, iN_addL, iN_Ladd, iN_mul, iN_mulL, iN_Lmul]
            rw [iN_subL (by omega)]
            congr 1
            omega
          simp only [tI_pos c2, i10, if_false, if_pos c2, cp2, v1, pi_78_2, iN_addL, ob]
          rw [if_pos ⟨cb, c2⟩]
          exact fin _ _ (by rw [rI_same, upd_ne (by omega)]; exact g1)
        · simp only [tI_neg c2, i00, if_true]
          rw [if_neg (fun h => c2 h.2)]
          exact fin _ _ g1
      · simp only [if_neg cb, i00, if_true]
        rw [if_neg (fun h => cb h.1)]
        exact fin _ _ g1
    by_cases c3 : b = true ∧ isD tn tv (p + 1)
    · have e : nmS tn tv b (p, true) = (10 * (tv p - 48) + (tv (p + 1) - 48), (p + 1 + 1, true)) := by
        unfold nmS twS
        rw [if_pos c3.1, d1]
        exact if_pos ⟨rfl, c3.2⟩
      rw [if_pos c3] at run
      rw [e]
      exact ⟨_, run, (Ktc_2.tr Ktc_2).tr (Ktc_v (Nat.le_refl _)), by rw [rI_ne (by omega), rI_same, upd_same], fun _ => by rw [rI_same, upd_same]⟩
    · have e : nmS tn tv b (p, true) = (tv p - 48, (p + 1, true)) := by
        unfold nmS twS
        rw [d1]
        by_cases cb : b = true
        · rw [if_pos cb]
          exact if_neg (fun h => c3 ⟨cb, h.2⟩)
        · rw [if_neg cb]
      rw [if_neg c3] at run
      rw [e]
      exact ⟨_, run, Ktc_2.tr (Ktc_v (Nat.le_refl _)), by rw [rI_ne (by omega), rI_same, upd_same], fun _ => by rw [rI_same, upd_same]⟩
  · have d1 : dxS tn tv (p, true) = (0, (p, false)) := if_neg (fun h => c1 h.2)
    have e : nmS tn tv b (p, true) = (0, (p, false)) := by
      unfold nmS twS
      rw [d1]
      by_cases cb : b = true
      · rw [if_pos cb]
        exact if_neg (fun h => by cases h.1)
      · rw [if_neg cb]
    rw [e]
    refine ⟨s, ?_, Ktc.rf, h2, fun h => by cases h⟩
    unfold fX3_takeNumber
    simp only [gi_78_2, ob, ln_c l76, h2, c_sign hT ht ps, c_isDigit hv, bd_s, tI_neg c1, i00, if_true, zz0]
    rfl
end TEXTC
