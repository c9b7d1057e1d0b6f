section SURE
variable {s : Sto} {g R : Nat → Nat} {rl x0 : Nat}
theorem rmI_N {a b : Nat} (ha : a < 2147483648) (hb : b < 2147483648) (h0 : 0 < b) : rmI (iN a) (iN b) = some (iN (a % b)) := by
  unfold rmI
  rw [if_neg (by rw [iN_eqL (by omega) (by omega)]; omega), iN_div ha hb, iN_mul]
  have h1 := Nat.div_add_mod a b
  rw [Nat.mul_comm] at h1
  rw [iN_sub (by omega)]
  congr 2
  omega
theorem r_gcd {G : Int32 → Mem → Option (Int64 × Mem)} {v5 : Int32} {μ : Mem} : ∀ n a b, b < n → a < 2147483648 → b < 2147483648 → X11_sure_L72 G 101 v5 n (iN a) (iN b) μ = G (iN (Nat.gcd a b)) μ := by
  intro n
  induction n with
  | zero => intro a b h; omega
  | succ n ih =>
    intro a b h1 h2 h3
    rw [X11_sure_L72]
    simp (disch := first | assumption | omega) only [iN_eqL]
    by_cases c : b = 0
    · rw [if_pos c, c, Nat.gcd_zero_right]
    · rw [if_neg c, rmI_N h2 h3 (by omega)]
      simp only [ob]
      have hm := Nat.mod_lt a (show 0 < b by omega)
      rw [ih b (a % b) (by omega) h3 (by omega)]
      rw [Nat.gcd_comm a b, Nat.gcd_rec b a, Nat.gcd_comm]
theorem c_gcdL {G : Int32 → Mem → Option (Int32 × Mem)} {μ : Mem} {w m : Nat} (hw : 0 < w) (hw2 : w < 100) (hm : m < 100) : ∀ n k D, w + 1 - k < n → 2 ≤ k → k ≤ w + 1 → D ≤ w → D ∣ w → D ∣ m → (∀ e, e < k → e ∣ w → e ∣ m → e ≤ D) → X10_commonDivisor_L4 G (iN w) (iN m) n (iN D) (iN k) μ = G (iN (Nat.gcd w m)) μ := by
  intro n
  induction n with
  | zero => intro k D h; omega
  | succ n ih =>
    intro k D h1 h2 h3 h4 h5 h6 h7
    rw [X10_commonDivisor_L4]
    simp (disch := first | assumption | omega) only [iN_lt]
    by_cases c : w < k
    · rw [if_pos c]
      have a1 : Nat.gcd w m ∣ w := Nat.gcd_dvd_left _ _
      have a2 : Nat.gcd w m ∣ m := Nat.gcd_dvd_right _ _
      have a3 := Nat.le_of_dvd hw a1
      have a4 := h7 _ (by omega) a1 a2
      have a5 := Nat.le_of_dvd (Nat.gcd_pos_of_pos_left m hw) (Nat.dvd_gcd h5 h6)
      rw [show D = Nat.gcd w m by omega]
    · rw [if_neg c, rmI_N (by omega) (by omega) (by omega)]
      have hk1 := Nat.mod_lt w (show 0 < k by omega)
      have hk2 := Nat.mod_lt m (show 0 < k by omega)
      simp only [ob, iN_addL]
      simp (disch := first | assumption | omega) only [iN_eqL]
      by_cases d1 : w % k = 0
      · rw [if_pos d1, rmI_N (by omega) (by omega) (by omega)]
        simp only [ob]
        simp (disch := first | assumption | omega) only [iN_eqL]
        by_cases d2 : m % k = 0
        · rw [if_pos d2]
          exact ih (k + 1) k (by omega) (by omega) (by omega) (by omega) (Nat.dvd_of_mod_eq_zero d1) (Nat.dvd_of_mod_eq_zero d2) (fun e he _ _ => by omega)
        · rw [if_neg d2]
          exact ih (k + 1) D (by omega) (by omega) (by omega) h4 h5 h6 (fun e he e1 e2 => by
            by_cases ce : e = k
            · subst ce
              exact absurd (Nat.mod_eq_zero_of_dvd e2) d2
            · exact h7 e (by omega) e1 e2)
      · rw [if_neg d1]
        exact ih (k + 1) D (by omega) (by omega) (by omega) h4 h5 h6 (fun e he e1 e2 => by
          by_cases ce : e = k
          · subst ce
            exact absurd (Nat.mod_eq_zero_of_dvd e1) d1
          · exact h7 e (by omega) e1 e2)
theorem c_gcd {μ : Mem} {w m : Nat} (hw : 0 < w) (hw2 : w < 100) (hm : m < 100) : fX10_commonDivisor (iN w) (iN m) μ = some (iN (Nat.gcd w m), μ) := by
  unfold fX10_commonDivisor
  rw [show (1 : Int32) = iN 1 from rfl, show (2 : Int32) = iN 2 from rfl]
  exact c_gcdL (G := fun v2_29 μ_29 => some (v2_29, μ_29)) hw hw2 hm FU 2 1 (by unfold FU; omega) (by omega) (by omega) (by omega) (Nat.one_dvd _) (Nat.one_dvd _) (fun e he _ _ => by omega)
theorem wn_le {d : Nat} : ∀ k, wnC g d k ≤ k
  | 0 => Nat.le_refl _
  | k + 1 => by
    have := wn_le (d := d) k
    unfold wnC
    split <;> omega
theorem mt_le {d : Nat} : ∀ k, mtC g R rl x0 d k ≤ k
  | 0 => Nat.le_refl _
  | k + 1 => by
    have := mt_le (d := d) k
    unfold mtC
    split <;> omega
theorem c_wantL {d n : Nat} (hg : OKg g) (hB : RB s 2 g) (hd : d < g 73) (hn : n ≤ 24) (h : s.1 71 3 = iN n) : ∀ m k, n - k < m → k ≤ n → X4_monthsWanting_L5 (fun v3_40 μ_40 => some (v3_40, μ_40)) 71 2 (iN d) m (iN (wnC g d k)) (iN k) (lay s) = some (iN (wnC g d n), lay s) := by
  have hb : Bs 2 := Or.inl rfl
  have b := hg.1
  have d6 : d < 6 := by omega
  intro m
  induction m with
  | zero => intro k h1; omega
  | succ m ih =>
    intro k h1 h2
    rw [X4_monthsWanting_L5]
    simp only [gi_71_3, h, ob]
    simp (disch := first | assumption | omega) only [iN_le]
    by_cases c : n ≤ k
    · rw [if_pos c, show k = n by omega]
    · rw [if_neg c]
      have hm : k % 12 < 12 := Nat.mod_lt _ (by omega)
      have hw := wantS_le (m := k % 12) hg hd
      simp only [bs_r8 hb, ob, bs_d hb d6]
      simp (disch := first | assumption | omega) only [rmI_L, ob]
      simp only [bs_cd hb d6, ob, c_wantedIn hb hg hB.1 hd hm, bd_s, iN_addL]
      have e : wnC g d (k + 1) = wnC g d k + if 0 < wantS g d (k % 12) then 1 else 0 := rfl
      by_cases c0 : wantS g d (k % 12) = 0
      · rw [if_pos (by rw [c0]; decide)]
        rw [if_neg (by omega)] at e
        have := ih (k + 1) (by omega) (by omega)
        rw [e] at this
        exact this
      · rw [if_neg (by rw [iN_leL (by omega) (by omega)]; omega)]
        rw [if_pos (by omega)] at e
        have := ih (k + 1) (by omega) (by omega)
        rw [e] at this
        exact this
theorem c_metL {d n : Nat} (hg : OKg g) (hB : RB s 2 g) (hd : d < g 73) (hn : n ≤ 24) (hrl : rl ≤ 20) (h : Cs s g R rl x0 n n) : ∀ m k, n - k < m → k ≤ n → X4_monthsMet_L5 (fun v3_66 μ_66 => some (v3_66, μ_66)) 71 2 (iN d) m (iN (mtC g R rl x0 d k)) (iN k) (lay s) = some (iN (mtC g R rl x0 d n), lay s) := by
  have hb : Bs 2 := Or.inl rfl
  have b := hg.1
  have d6 : d < 6 := by omega
  obtain ⟨c3, c4, c5, c6, c7, c8, c9⟩ := h
  intro m
  induction m with
  | zero => intro k h1; omega
  | succ m ih =>
    intro k h1 h2
    rw [X4_monthsMet_L5]
    simp only [gi_71_3, c3, ob]
    simp (disch := first | assumption | omega) only [iN_le]
    by_cases c : n ≤ k
    · rw [if_pos c, show k = n by omega]
    · rw [if_neg c]
      have hm : k % 12 < 12 := Nat.mod_lt _ (by omega)
      have hw := wantS_le (m := k % 12) hg hd
      simp only [bs_r8 hb, ob, bs_d hb d6]
      simp (disch := first | assumption | omega) only [rmI_L, ob]
      simp only [bs_cd hb d6, ob, c_wantedIn hb hg hB.1 hd hm, bd_s, iN_addL]
      have e : mtC g R rl x0 d (k + 1) = mtC g R rl x0 d k + if 0 < wantS g d (k % 12) ∧ gotS g (k % 12) (rwC g R rl x0 k) (rkS g d) = wantS g d (k % 12) then 1 else 0 := rfl
      have nx := ih (k + 1) (by omega) (by omega)
      by_cases c0 : wantS g d (k % 12) = 0
      · rw [if_pos (by rw [c0]; decide)]
        rw [if_neg (by omega)] at e
        rw [e] at nx
        exact nx
      · rw [if_neg (by rw [iN_leL (by omega) (by omega)]; omega)]
        have hrc := rlC_le (g := g) (R := R) (rl := rl) (t := k) (x := crS g R rl x0 k) hrl
        have hrw : rwC g R rl x0 k ≤ 20 := by unfold rwC; omega
        have hgt : gotS g (k % 12) (rwC g R rl x0 k) (rkS g d) ≤ wantS g (lnS g (rkS g d)) (k % 12) := Nat.min_le_left _ _
        have hgl := wantS_le (m := k % 12) hg (lnS_spec (rkS_lt hd)).1
        simp only [rr_71_2, ob, ai_74 (show k < 24 by omega), c9 k (by omega), bs_c hb, c_gotBy hb hg hB hd hm (show rwC g R rl x0 k < 2147483648 by omega), bd_s]
        simp (disch := first | assumption | omega) only [iN_eq]
        by_cases c1 : gotS g (k % 12) (rwC g R rl x0 k) (rkS g d) = wantS g d (k % 12)
        · rw [if_pos ⟨by omega, c1⟩] at e
          rw [if_pos c1]
          rw [e] at nx
          exact nx
        · rw [if_neg (fun h => c1 h.2)] at e
          rw [if_neg c1]
          rw [e] at nx
          exact nx
end SURE
