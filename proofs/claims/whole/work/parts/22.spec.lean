/-! ===== what the document says, over the numbers of a reservoir: g as the reference lays them ===== -/
def dF (g : Nat → Nat) (d f : Nat) : Nat := g (74 + 6 * d + f)
def inB (g : Nat → Nat) (d m : Nat) : Bool := if dF g d 4 ≤ dF g d 5 then decide (dF g d 4 ≤ m ∧ m ≤ dF g d 5) else decide (dF g d 4 ≤ m ∨ m ≤ dF g d 5)
def wantS (g : Nat → Nat) (d m : Nat) : Nat := if inB g d m = true then (if dF g d 0 = 2 ∧ 5 ≤ m ∧ m ≤ 8 then 2 * dF g d 2 else dF g d 2) else 0
def trkS : Nat → Nat → Nat
  | 0, _ => 0
  | n + 1, u => u + trkS n (u / 2)
def gainS (g : Nat → Nat) (d got wanted : Nat) : Int :=
  if dF g d 0 = 4 then (trkS got (dF g d 3) : Int)
  else if dF g d 0 = 1 then (got : Int) * (dF g d 3 : Int) - ((wanted : Int) - (got : Int)) * (dF g d 3 : Int)
  else if dF g d 0 = 3 then (got : Int) * (dF g d 3 : Int) - ((wanted : Int) - (got : Int)) * (dF g d 3 : Int) + (if 0 < wanted ∧ got = wanted then ((dF g d 3 / 2 : Nat) : Int) else 0)
  else (got : Int) * (dF g d 3 : Int)
abbrev ahS (g : Nat → Nat) (o d : Nat) : Prop := dF g o 1 < dF g d 1 ∨ (dF g o 1 = dF g d 1 ∧ o < d)
def rkTo (g : Nat → Nat) (d : Nat) : Nat → Nat
  | 0 => 0
  | n + 1 => rkTo g d n + if ahS g n d then 1 else 0
def rkS (g : Nat → Nat) (d : Nat) : Nat := rkTo g d (g 73)
/-- the first d up to n that is the k-th by rank (n, if there is none) -/
def lnTo (g : Nat → Nat) (k : Nat) : Nat → Nat
  | 0 => 0
  | n + 1 => if rkS g (lnTo g k n) = k then lnTo g k n else n + 1
def lnS (g : Nat → Nat) (k : Nat) : Nat := lnTo g k (g 73 - 1)
theorem rkTo_le (g : Nat → Nat) (d : Nat) : ∀ n, rkTo g d n ≤ n
  | 0 => Nat.le_refl _
  | n + 1 => by
    have := rkTo_le g d n
    unfold rkTo
    split <;> omega
theorem rkTo_lt (g : Nat → Nat) (d : Nat) : ∀ n, d < n → rkTo g d n < n
  | 0, h => by omega
  | n + 1, h => by
    have h1 := rkTo_le g d n
    unfold rkTo
    by_cases hd : d = n
    · subst hd
      rw [if_neg (by unfold ahS; omega)]
      omega
    · have := rkTo_lt g d n (by omega)
      split <;> omega
theorem ah_tot {g : Nat → Nat} {a b : Nat} (h : a ≠ b) : ahS g a b ∨ ahS g b a := by unfold ahS; omega
theorem rkTo_mono {g : Nat → Nat} {a b : Nat} (h : ahS g a b) : ∀ n, rkTo g a n ≤ rkTo g b n ∧ (a < n → rkTo g a n < rkTo g b n)
  | 0 => ⟨Nat.le_refl _, fun h => by omega⟩
  | n + 1 => by
    obtain ⟨h1, h2⟩ := rkTo_mono h n
    unfold rkTo
    refine ⟨?_, fun hn => ?_⟩
    · by_cases h3 : ahS g n a
      · have h4 : ahS g n b := by unfold ahS at h h3 ⊢; omega
        rw [if_pos h3, if_pos h4]
        omega
      · rw [if_neg h3]
        split <;> omega
    · by_cases ha : a = n
      · subst ha
        rw [if_neg (by unfold ahS; omega), if_pos h]
        omega
      · have h5 := h2 (by omega)
        by_cases h3 : ahS g n a
        · have h4 : ahS g n b := by unfold ahS at h h3 ⊢; omega
          rw [if_pos h3, if_pos h4]
          omega
        · rw [if_neg h3]
          split <;> omega
theorem rkS_lt {g : Nat → Nat} {d : Nat} (h : d < g 73) : rkS g d < g 73 := rkTo_lt g d _ h
theorem rkS_inj {g : Nat → Nat} {a b : Nat} (ha : a < g 73) (hb : b < g 73) (h : rkS g a = rkS g b) : a = b := by
  refine Decidable.byContradiction fun hn => ?_
  unfold rkS at h
  rcases ah_tot (g := g) hn with h1 | h1
  · have := (rkTo_mono h1 (g 73)).2 ha
    omega
  · have := (rkTo_mono h1 (g 73)).2 hb
    omega
/-- what is one to one on the numbers below n, and stays below n, reaches each of them -/
theorem pigeon : ∀ (n : Nat) (f : Nat → Nat), (∀ a, a < n → f a < n) → (∀ a b, a < n → b < n → f a = f b → a = b) → ∀ k, k < n → ∃ a, a < n ∧ f a = k
  | 0, _, _, _, k, hk => by omega
  | n + 1, f, h1, h2, k, hk => by
    refine Decidable.byContradiction fun hno => ?_
    have hne : ∀ a, a < n + 1 → f a ≠ k := fun a ha e => hno ⟨a, ha, e⟩
    have key := pigeon n (fun a => if k < f a then f a - 1 else f a) (fun a ha => by
      have q1 := h1 a (by omega)
      have q2 := hne a (by omega)
      show (if k < f a then f a - 1 else f a) < n
      split <;> omega) (fun a b ha hb e => by
      have q1 := hne a (by omega)
      have q2 := hne b (by omega)
      have e' : (if k < f a then f a - 1 else f a) = (if k < f b then f b - 1 else f b) := e
      refine h2 a b (by omega) (by omega) ?_
      by_cases c1 : k < f a <;> by_cases c2 : k < f b <;> simp only [c1, c2, if_true, if_false] at e' <;> omega)
    have q1 := h1 n (by omega)
    have q2 := hne n (by omega)
    obtain ⟨a, ha, e⟩ := key (if k < f n then f n - 1 else f n) (by split <;> omega)
    have e' : (if k < f a then f a - 1 else f a) = (if k < f n then f n - 1 else f n) := e
    have q3 := hne a (by omega)
    have : a = n := by
      refine h2 a n (by omega) (by omega) ?_
      by_cases c1 : k < f a <;> by_cases c2 : k < f n <;> simp only [c1, c2, if_true, if_false] at e' <;> omega
    omega
theorem lnTo_le {g : Nat → Nat} {k : Nat} : ∀ n, lnTo g k n ≤ n
  | 0 => Nat.le_refl _
  | n + 1 => by
    have := lnTo_le (g := g) (k := k) n
    unfold lnTo
    split <;> omega
theorem lnTo_spec {g : Nat → Nat} {k : Nat} : ∀ n, (∃ d, d ≤ n ∧ rkS g d = k) → lnTo g k n ≤ n ∧ rkS g (lnTo g k n) = k ∧ ∀ d, d < lnTo g k n → rkS g d ≠ k
  | 0, ⟨d, hd, h⟩ => by
    have : d = 0 := by omega
    subst this
    exact ⟨Nat.le_refl _, h, fun d hd => absurd hd (Nat.not_lt_zero d)⟩
  | n + 1, ⟨d, hd, h⟩ => by
    by_cases hc : ∃ d, d ≤ n ∧ rkS g d = k
    · obtain ⟨h1, h2, h3⟩ := lnTo_spec n hc
      unfold lnTo
      rw [if_pos h2]
      exact ⟨by omega, h2, h3⟩
    · have hd' : d = n + 1 := by
        refine Decidable.byContradiction fun hn => hc ⟨d, by omega, h⟩
      subst hd'
      unfold lnTo
      rw [if_neg (fun q => hc ⟨_, lnTo_le n, q⟩)]
      exact ⟨Nat.le_refl _, h, fun d hd he => hc ⟨d, by omega, he⟩⟩
theorem lnS_spec {g : Nat → Nat} {k : Nat} (hk : k < g 73) : lnS g k < g 73 ∧ rkS g (lnS g k) = k ∧ ∀ d, d < lnS g k → rkS g d ≠ k := by
  obtain ⟨d, hd, h⟩ := pigeon (g 73) (rkS g) (fun a ha => rkS_lt ha) (fun a b ha hb e => rkS_inj ha hb e) k hk
  obtain ⟨h1, h2, h3⟩ := lnTo_spec (g := g) (k := k) (g 73 - 1) ⟨d, by omega, h⟩
  refine ⟨?_, h2, h3⟩
  unfold lnS
  omega
theorem lnS_rk {g : Nat → Nat} {d : Nat} (hd : d < g 73) : lnS g (rkS g d) = d := by
  have h := lnS_spec (g := g) (k := rkS g d) (rkS_lt hd)
  exact rkS_inj h.1 hd h.2.1
def restS (g : Nat → Nat) (m x : Nat) : Nat → Nat
  | 0 => x
  | k + 1 => restS g m x k - min (wantS g (lnS g k) m) (restS g m x k)
def gotS (g : Nat → Nat) (m x k : Nat) : Nat := min (wantS g (lnS g k) m) (restS g m x k)
def sumS (g : Nat → Nat) (m x : Nat) : Nat → Int
  | 0 => 0
  | k + 1 => sumS g m x k + gainS g (lnS g k) (gotS g m x k) (wantS g (lnS g k) m)
def gainsS (g : Nat → Nat) (m x : Nat) : Int := sumS g m x (g 73)
def driedS (g : Nat → Nat) (m s : Nat) : Nat := s * g (49 + m) / 10
def topS (g : Nat → Nat) (m : Nat) : Nat := g 0 - g (61 + m)
def thereS (g : Nat → Nat) (m s q : Nat) : Nat := s - driedS g m s + q
def restoS (g : Nat → Nat) (m s q r : Nat) : Nat := thereS g m s q - min r (thereS g m s q)
def nextS (g : Nat → Nat) (m s q r : Nat) : Nat := min (restoS g m s q r) (topS g m)
def spillS (g : Nat → Nat) (m s q r : Nat) : Nat := restoS g m s q r - nextS g m s q r
def yieldS (g : Nat → Nat) (m s q r : Nat) : Int := gainsS g m (min r (thereS g m s q)) - (g 2 : Int) * (spillS g m s q r : Int)
def partS (g : Nat → Nat) (i j : Nat) : Nat := g (40 + 3 * i + j)
def partsS (g : Nat → Nat) (i : Nat) : Nat := partS g i 0 + partS g i 1 + partS g i 2
/-- the numbers are as the document lets them be, in thought too -/
def OKg (g : Nat → Nat) : Prop := (1 ≤ g 0 ∧ g 0 ≤ 13 ∧ 1 ≤ g 1 ∧ g 1 ≤ 12 ∧ g 2 ≤ 9 ∧ g 3 ≤ 99 ∧ g 73 ≤ 6) ∧
  (∀ k, k < 36 → g (4 + k) ≤ 9) ∧ (∀ k, k < 9 → g (40 + k) ≤ 9) ∧ (∀ i, i < 3 → 1 ≤ partsS g i) ∧ (∀ k, k < 12 → g (49 + k) ≤ 9) ∧ (∀ k, k < 12 → g (61 + k) ≤ 10) ∧
  (∀ d, d < g 73 → dF g d 0 ≤ 4 ∧ dF g d 1 ≤ 9 ∧ dF g d 2 ≤ 9 ∧ dF g d 3 ≤ 99 ∧ dF g d 4 ≤ 11 ∧ dF g d 5 ≤ 11)
/-- a reservoir of the class, at place p, holds the numbers g; and its line by rank -/
def RC (s : Sto) (p : Nat) (g : Nat → Nat) : Prop :=
  (s.1 p 0 = iN (g 0) ∧ s.1 p 1 = iN (g 1) ∧ s.1 p 2 = iN (g 2) ∧ s.1 p 3 = iN (g 3) ∧ s.1 p 10 = iN (g 73)) ∧
  (∀ k, k < 36 → s.1 (p + 1) k = iN (g (4 + k))) ∧ (∀ k, k < 9 → s.1 (p + 2) k = iN (g (40 + k))) ∧ (∀ k, k < 12 → s.1 (p + 3) k = iN (g (49 + k))) ∧ (∀ k, k < 12 → s.1 (p + 4) k = iN (g (61 + k))) ∧
  (∀ d f, d < g 73 → f < 6 → s.1 (p + 7 + d) f = iN (dF g d f))
def RK (s : Sto) (p : Nat) (g : Nat → Nat) : Prop := ∀ k, k < g 73 → s.1 (p + 6) k = iN (lnS g k)
def RB (s : Sto) (p : Nat) (g : Nat → Nat) : Prop := RC s p g ∧ RK s p g
theorem RC_congr {s t : Sto} {p : Nat} {g : Nat → Nat} (h : RC s p g) (hg : g 73 ≤ 6) (e : ∀ q, p ≤ q → q < p + 13 → q ≠ p + 5 → q ≠ p + 6 → t.1 q = s.1 q) : RC t p g := by
  obtain ⟨h1, h2, h3, h4, h5, h6⟩ := h
  refine ⟨?_, fun k hk => ?_, fun k hk => ?_, fun k hk => ?_, fun k hk => ?_, fun d f hd hf => ?_⟩
  · rw [e p (by omega) (by omega) (by omega) (by omega)]
    exact h1
  · rw [e (p + 1) (by omega) (by omega) (by omega) (by omega)]
    exact h2 k hk
  · rw [e (p + 2) (by omega) (by omega) (by omega) (by omega)]
    exact h3 k hk
  · rw [e (p + 3) (by omega) (by omega) (by omega) (by omega)]
    exact h4 k hk
  · rw [e (p + 4) (by omega) (by omega) (by omega) (by omega)]
    exact h5 k hk
  · rw [e (p + 7 + d) (by omega) (by omega) (by omega) (by omega)]
    exact h6 d f hd hf
theorem RB_congr {s t : Sto} {p : Nat} {g : Nat → Nat} (h : RB s p g) (hg : g 73 ≤ 6) (e : ∀ q, p ≤ q → q < p + 13 → t.1 q = s.1 q) : RB t p g :=
  ⟨RC_congr h.1 hg (fun q h1 h2 _ _ => e q h1 h2), fun k hk => by rw [e (p + 6) (by omega) (by omega)]; exact h.2 k hk⟩
theorem rI_same {s : Sto} {p : Nat} {f : Nat → Int32} : (rI s p f).1 p = f := if_pos rfl
theorem rI_ne {s : Sto} {p q : Nat} {f : Nat → Int32} (h : q ≠ p) : (rI s p f).1 q = s.1 q := if_neg h
theorem rF_same {s : Sto} {p : Nat} {f : Nat → UInt32} : (rF s p f).2.1 p = f := if_pos rfl
theorem rF_ne {s : Sto} {p q : Nat} {f : Nat → UInt32} (h : q ≠ p) : (rF s p f).2.1 q = s.2.1 q := if_neg h
theorem rJ_same {s : Sto} {p : Nat} {f : Nat → Int64} : (rJ s p f).2.2.1 p = f := if_pos rfl
theorem rJ_ne {s : Sto} {p q : Nat} {f : Nat → Int64} (h : q ≠ p) : (rJ s p f).2.2.1 q = s.2.2.1 q := if_neg h
theorem rI_2 {s : Sto} {p : Nat} {f : Nat → Int32} : (rI s p f).2 = s.2 := Eq.trans rfl rfl
theorem rF_1 {s : Sto} {p : Nat} {f : Nat → UInt32} : (rF s p f).1 = s.1 := Eq.trans rfl rfl
theorem rF_22 {s : Sto} {p : Nat} {f : Nat → UInt32} : (rF s p f).2.2 = s.2.2 := Eq.trans rfl rfl
theorem rJ_1 {s : Sto} {p : Nat} {f : Nat → Int64} : (rJ s p f).1 = s.1 := Eq.trans rfl rfl
theorem rJ_21 {s : Sto} {p : Nat} {f : Nat → Int64} : (rJ s p f).2.1 = s.2.1 := Eq.trans rfl rfl
theorem rJ_222 {s : Sto} {p : Nat} {f : Nat → Int64} : (rJ s p f).2.2.2 = s.2.2.2 := Eq.trans rfl rfl
theorem rI_rI {s : Sto} {p : Nat} {f f' : Nat → Int32} : rI (rI s p f) p f' = rI s p f' := by
  unfold rI
  congr 1
  funext q
  by_cases h : q = p <;> simp [h]
theorem rF_rF {s : Sto} {p : Nat} {f f' : Nat → UInt32} : rF (rF s p f) p f' = rF s p f' := by
  unfold rF
  congr 2
  funext q
  by_cases h : q = p <;> simp [h]
theorem rJ_rJ {s : Sto} {p : Nat} {f f' : Nat → Int64} : rJ (rJ s p f) p f' = rJ s p f' := by
  unfold rJ
  congr 3
  funext q
  by_cases h : q = p <;> simp [h]
theorem rI_self (s : Sto) (p : Nat) : rI s p (s.1 p) = s := by
  unfold rI
  have : (fun q => if q = p then s.1 p else s.1 q) = s.1 := by
    funext q
    by_cases h : q = p <;> simp [h]
  rw [this]
theorem rF_self (s : Sto) (p : Nat) : rF s p (s.2.1 p) = s := by
  unfold rF
  have : (fun q => if q = p then s.2.1 p else s.2.1 q) = s.2.1 := by
    funext q
    by_cases h : q = p <;> simp [h]
  rw [this]
theorem upd_same {f : Nat → Int32} {k : Nat} {x : Int32} : upd f k x k = x := if_pos rfl
theorem upd_ne {f : Nat → Int32} {j k : Nat} {x : Int32} (h : j ≠ k) : upd f k x j = f j := if_neg h
theorem vfu_same {f : Nat → UInt32} {k : Nat} {x : UInt32} : vf_upd f k x k = x := if_pos rfl
theorem vfu_ne {f : Nat → UInt32} {j k : Nat} {x : UInt32} (h : j ≠ k) : vf_upd f k x j = f j := if_neg h
theorem vpu_same {f : Nat → Int64} {k : Nat} {x : Int64} : vp_updL f k x k = x := if_pos rfl
theorem vpu_ne {f : Nat → Int64} {j k : Nat} {x : Int64} (h : j ≠ k) : vp_updL f k x j = f j := if_neg h
theorem Bs_le {p : Nat} (hb : Bs p) : 2 ≤ p ∧ p ≤ 41 := by unfold Bs at hb; omega
theorem RC_rI {s : Sto} {p q : Nat} {g : Nat → Nat} {f : Nat → Int32} (h : RC s p g) (hg : g 73 ≤ 6) (hq : q < p ∨ p + 13 ≤ q ∨ q = p + 5 ∨ q = p + 6) : RC (rI s q f) p g :=
  RC_congr h hg (fun k h1 h2 h3 h4 => rI_ne (by omega))
theorem RB_rI {s : Sto} {p q : Nat} {g : Nat → Nat} {f : Nat → Int32} (h : RB s p g) (hg : g 73 ≤ 6) (hq : q < p ∨ p + 13 ≤ q) : RB (rI s q f) p g :=
  RB_congr h hg (fun k h1 h2 => rI_ne (by omega))
theorem wantS_le {g : Nat → Nat} {d m : Nat} (hg : OKg g) (hd : d < g 73) : wantS g d m ≤ 18 := by
  have := hg.2.2.2.2.2.2 d hd
  unfold wantS
  split
  · split <;> omega
  · omega
theorem trkS_le : ∀ (n u : Nat), trkS n u ≤ 2 * u
  | 0, u => by simp [trkS]
  | n + 1, u => by
    have := trkS_le n (u / 2)
    unfold trkS
    omega
