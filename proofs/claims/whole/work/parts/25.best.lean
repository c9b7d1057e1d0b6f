/-! ===== the best, in floats: what it is, and how large ===== -/
theorem cv_le0 (o : Option Ordering) : (Op.cmpValue o .l ≤ 0) = ¬ (o = some .gt) := by
  rcases o with _ | o
  · exact propext ⟨fun _ => by simp, fun _ => by decide⟩
  · cases o with
    | lt => exact propext ⟨fun _ h => (by cases h), fun _ => (by decide)⟩
    | eq => exact propext ⟨fun _ h => (by cases h), fun _ => (by decide)⟩
    | gt => exact propext ⟨fun h => absurd h (by decide), fun h => absurd rfl h⟩
def smS (g : Nat → Nat) (T : Nat → Nat → UInt32) (x i : Nat) : Nat → UInt32
  | 0 => FP.fconst0
  | j + 1 => FP.fadd (smS g T x i j) (FP.fmul (FP.i2f (iN (partS g i j))) (T x j))
def meanS (g : Nat → Nat) (T : Nat → Nat → UInt32) (x i : Nat) : UInt32 := FP.fdiv (smS g T x i 3) (FP.i2f (iN (partsS g i)))
def valS (g : Nat → Nat) (T : Nat → Nat → UInt32) (m x i r : Nat) : UInt32 := FP.fadd (FP.i2f (iZ (yieldS g m x (g (4 + 3 * m + i)) r))) (meanS g T (nextS g m x (g (4 + 3 * m + i)) r) i)
def pickS (v : Nat → UInt32) : Nat → UInt32 × Nat
  | 0 => (v 0, 0)
  | n + 1 => if FP.fcmp (v (n + 1)) (pickS v n).1 = some .gt then (v (n + 1), n + 1) else pickS v n
def bstS (g : Nat → Nat) : Nat → Nat → Nat → UInt32
  | 0, x, _ => FP.i2f (iN (g 3 * x))
  | k + 1, x, i => (pickS (valS g (bstS g k) (g 1 - (k + 1)) x i) 20).1
def rlsS (g : Nat → Nat) : Nat → Nat → Nat → Nat
  | 0, _, _ => 0
  | k + 1, x, i => (pickS (valS g (bstS g k) (g 1 - (k + 1)) x i) 20).2
theorem cmp_irr (x : UInt32) : ¬ (FP.fcmp x x = some .gt) := by
  intro h
  have h1 := FP.Core.fcmp_swap x x
  rw [show FP.Core.fcmp x x = some .gt from h] at h1
  cases h1
theorem pick_top (v : Nat → UInt32) : ∀ n, ¬ (FP.fcmp (v n) (pickS v n).1 = some .gt)
  | 0 => cmp_irr _
  | n + 1 => by
    unfold pickS
    by_cases h : FP.fcmp (v (n + 1)) (pickS v n).1 = some .gt
    · rw [if_pos h]
      exact cmp_irr _
    · rw [if_neg h]
      exact h
theorem pick_const {v : Nat → UInt32} {t : Nat} (h : ∀ r, t ≤ r → v r = v t) : ∀ n, pickS v (t + n) = pickS v t
  | 0 => rfl
  | n + 1 => by
    have ih := pick_const h n
    have : pickS v (t + (n + 1)) = if FP.fcmp (v (t + n + 1)) (pickS v (t + n)).1 = some .gt then (v (t + n + 1), t + n + 1) else pickS v (t + n) := rfl
    rw [this, ih, h (t + n + 1) (by omega), if_neg (pick_top v t)]
theorem pick_le {v : Nat → UInt32} : ∀ n, (pickS v n).2 ≤ n ∧ (pickS v n).1 = v (pickS v n).2
  | 0 => ⟨Nat.le_refl _, rfl⟩
  | n + 1 => by
    have ih := pick_le (v := v) n
    unfold pickS
    split
    · exact ⟨Nat.le_refl _, rfl⟩
    · exact ⟨by omega, ih.2⟩
theorem pick_congr {v v' : Nat → UInt32} : ∀ n, (∀ r, r ≤ n → v r = v' r) → pickS v n = pickS v' n
  | 0, h => by unfold pickS; rw [h 0 (Nat.le_refl _)]
  | n + 1, h => by
    have ih := pick_congr n (fun r hr => h r (by omega))
    unfold pickS
    rw [ih, h (n + 1) (Nat.le_refl _)]
/-! ===== how large ===== -/
theorem abs_le_of {z : Int} {n : Nat} (h1 : -(n : Int) ≤ z) (h2 : z ≤ (n : Int)) : z.natAbs ≤ n := by omega
theorem gainS_le {g : Nat → Nat} {d x y : Nat} (hg : OKg g) (hd : d < g 73) (hx : x ≤ y) (hy : y ≤ 18) : (gainS g d x y).natAbs ≤ 1831 := by
  have b2 := hg.2.2.2.2.2.2 d hd
  have t := trkS_le x (dF g d 3)
  have e1 : x * dF g d 3 ≤ 18 * 99 := Nat.mul_le_mul (by omega) (by omega)
  have e2 : (y - x) * dF g d 3 ≤ 18 * 99 := Nat.mul_le_mul (by omega) (by omega)
  have e3 : ((y : Int) - (x : Int)) * (dF g d 3 : Int) = (((y - x) * dF g d 3 : Nat) : Int) := by
    rw [Int.natCast_mul, Int.ofNat_sub hx]
  have e4 : (x : Int) * (dF g d 3 : Int) = ((x * dF g d 3 : Nat) : Int) := (Int.natCast_mul _ _).symm
  unfold gainS
  rw [e3, e4]
  generalize (y - x) * dF g d 3 = A at *
  generalize x * dF g d 3 = B at *
  repeat' split
  all_goals omega
theorem sumS_le {g : Nat → Nat} {m x : Nat} (hg : OKg g) : ∀ k, k ≤ g 73 → (sumS g m x k).natAbs ≤ 1831 * k
  | 0, _ => Nat.zero_le _
  | k + 1, hk => by
    have ih := sumS_le (m := m) (x := x) hg k (by omega)
    have hl := lnS_spec (g := g) (k := k) (by omega)
    have := gainS_le (x := gotS g m x k) (y := wantS g (lnS g k) m) hg hl.1 (Nat.min_le_left _ _) (wantS_le hg hl.1)
    unfold sumS
    omega
theorem yieldS_le {g : Nat → Nat} {m x q r : Nat} (hg : OKg g) (hm : m < 12) (hx : x ≤ 13) (hq : q ≤ 99) : (yieldS g m x q r).natAbs ≤ 12000 := by
  have b1 := hg.1
  have h1 : (gainsS g m (min r (thereS g m x q))).natAbs ≤ 1831 * g 73 := sumS_le hg (g 73) (Nat.le_refl _)
  have h2 : 1831 * g 73 ≤ 1831 * 6 := Nat.mul_le_mul_left _ (by omega)
  have h3 : spillS g m x q r ≤ 112 := by unfold spillS restoS thereS; omega
  have h4 : g 2 * spillS g m x q r ≤ 9 * 112 := Nat.mul_le_mul (by omega) h3
  unfold yieldS
  rw [← Int.natCast_mul]
  omega
def bdS (k : Nat) : Nat := 1400 + 12000 * k
theorem part_le {g : Nat → Nat} {i j : Nat} (hg : OKg g) (hi : i < 3) (hj : j < 3) : partS g i j ≤ 9 := by
  have := hg.2.2.1 (3 * i + j) (by omega)
  unfold partS
  rw [show 40 + 3 * i + j = 40 + (3 * i + j) by omega]
  exact this
theorem iN_abs {n N : Nat} (h : n ≤ N) (h2 : n < 2147483648) : (iN n).toInt.natAbs ≤ N := by rw [iN_toInt h2]; omega
theorem mul_mono_bd {a c B : Nat} (ha : a ≤ c) : a * B ≤ c * B := Nat.mul_le_mul_right _ ha
theorem prod_aL {g : Nat → Nat} {T : Nat → Nat → UInt32} {x i j B : Nat} (hg : OKg g) (hi : i < 3) (hj : j < 3) (hB : B ≤ 200000) (hT : aL B (T x j)) : aL (partS g i j * B) (FP.fmul (FP.i2f (iN (partS g i j))) (T x j)) := by
  have h1 := part_le hg hi hj
  have h2 := mul_mono_bd (B := B) h1
  exact aL_mul (aL_int (iN_abs (Nat.le_refl _) (by omega)) (by omega)) hT (by omega)
/-- parts ahead of j, together -/
def psS (g : Nat → Nat) (i : Nat) : Nat → Nat
  | 0 => 0
  | j + 1 => psS g i j + partS g i j
theorem smS_aL {g : Nat → Nat} {T : Nat → Nat → UInt32} {x i B : Nat} (hg : OKg g) (hi : i < 3) (hB : B ≤ 200000) (hT : ∀ j, j < 3 → aL B (T x j)) : ∀ j, j ≤ 3 → psS g i j ≤ 9 * j ∧ aL (psS g i j * B) (smS g T x i j)
  | 0, _ => ⟨Nat.le_refl _, by rw [show psS g i 0 * B = 0 from Nat.zero_mul _]; exact aL_zero⟩
  | j + 1, hj => by
    obtain ⟨h1, h2⟩ := smS_aL hg hi hB hT j (by omega)
    have h3 := part_le (j := j) hg hi (by omega)
    have h4 : psS g i (j + 1) = psS g i j + partS g i j := rfl
    have h5 := mul_mono_bd (B := B) (show psS g i j + partS g i j ≤ 27 by omega)
    refine ⟨by omega, ?_⟩
    rw [h4, Nat.add_mul]
    rw [Nat.add_mul] at h5
    exact aL_add h2 (prod_aL hg hi (by omega) hB (hT j (by omega))) (by omega)
theorem psS_3 (g : Nat → Nat) (i : Nat) : psS g i 3 = partsS g i := by
  show 0 + partS g i 0 + partS g i 1 + partS g i 2 = _
  unfold partsS
  omega
theorem parts_le {g : Nat → Nat} {i : Nat} (hg : OKg g) (hi : i < 3) : 1 ≤ partsS g i ∧ partsS g i ≤ 27 := by
  have h0 := part_le (j := 0) hg hi (by omega)
  have h1 := part_le (j := 1) hg hi (by omega)
  have h2 := part_le (j := 2) hg hi (by omega)
  have h3 := hg.2.2.2.1 i hi
  unfold partsS at *
  omega
theorem meanS_aL {g : Nat → Nat} {T : Nat → Nat → UInt32} {x i B : Nat} (hg : OKg g) (hi : i < 3) (hB : B ≤ 200000) (hT : ∀ j, j < 3 → aL B (T x j)) : aL B (meanS g T x i) := by
  have h1 := (smS_aL hg hi hB hT 3 (Nat.le_refl _)).2
  rw [psS_3] at h1
  have h2 := parts_le hg hi
  have h3 := fl_whole (partsS g i) (by omega)
  exact aL_div h1 h3.2 h3.1 (by omega) (by omega)
theorem next_le {g : Nat → Nat} {m x q r : Nat} : nextS g m x q r ≤ g 0 := by unfold nextS topS; omega
theorem inflow_le {g : Nat → Nat} {m i : Nat} (hg : OKg g) (hm : m < 12) (hi : i < 3) : g (4 + 3 * m + i) ≤ 9 := by
  have := hg.2.1 (3 * m + i) (by omega)
  rw [show 4 + 3 * m + i = 4 + (3 * m + i) by omega]
  exact this
theorem yield_fl {g : Nat → Nat} {m x q r : Nat} (hg : OKg g) (hm : m < 12) (hx : x ≤ 13) (hq : q ≤ 99) : aL 12000 (FP.i2f (iZ (yieldS g m x q r))) := by
  have h := yieldS_le (r := r) hg hm hx hq
  exact aL_int (by rw [iZ_toInt (by omega) (by omega)]; exact h) (by omega)
theorem valS_aL {g : Nat → Nat} {T : Nat → Nat → UInt32} {m x i r B : Nat} (hg : OKg g) (hm : m < 12) (hx : x ≤ 13) (hi : i < 3) (hB : B ≤ 200000) (hT : ∀ x' j, x' ≤ g 0 → j < 3 → aL B (T x' j)) : aL (12000 + B) (valS g T m x i r) ∧ nzr (valS g T m x i r) := by
  have h1 := yield_fl (r := r) hg hm hx (show g (4 + 3 * m + i) ≤ 99 by have := inflow_le hg hm hi; omega)
  have h2 := meanS_aL (x := nextS g m x (g (4 + 3 * m + i)) r) hg hi hB (fun j hj => hT _ j next_le hj)
  exact ⟨aL_add h1 h2 (by omega), nzr_add h1.1 h2.1 (nzr_i2f _)⟩
theorem bstS_aL {g : Nat → Nat} (hg : OKg g) : ∀ (k x i : Nat), k ≤ g 1 → x ≤ g 0 → i < 3 → aL (bdS k) (bstS g k x i) ∧ nzr (bstS g k x i)
  | 0, x, i, _, hx, _ => by
    have b1 := hg.1
    have h2 : g 3 * x ≤ 99 * 13 := Nat.mul_le_mul (by omega) (by omega)
    exact ⟨aL_int (iN_abs (show g 3 * x ≤ 1400 by omega) (by omega)) (by decide), nzr_i2f _⟩
  | k + 1, x, i, hk, hx, hi => by
    have b1 := hg.1
    have ih := bstS_aL hg k
    have hB : bdS k ≤ 200000 := by unfold bdS; omega
    have h1 := valS_aL (m := g 1 - (k + 1)) (x := x) (i := i) (r := (pickS (valS g (bstS g k) (g 1 - (k + 1)) x i) 20).2) hg (by omega) (by omega) hi hB (fun x' j hx' hj => (ih x' j (by omega) hx' hj).1)
    have h2 := (pick_le (v := valS g (bstS g k) (g 1 - (k + 1)) x i) 20).2
    have h3 : bstS g (k + 1) x i = valS g (bstS g k) (g 1 - (k + 1)) x i (pickS (valS g (bstS g k) (g 1 - (k + 1)) x i) 20).2 := h2
    rw [h3]
    exact ⟨h1.1.mono (by unfold bdS; omega), h1.2⟩
theorem rls_le {g : Nat → Nat} {k x i : Nat} : rlsS g k x i ≤ 20 := by
  cases k with
  | zero => exact Nat.zero_le _
  | succ k => exact (pick_le 20).1
/-- beyond what is there, a release is one of all that is there -/
theorem val_const {g : Nat → Nat} {T : Nat → Nat → UInt32} {m x i r : Nat} (h : thereS g m x (g (4 + 3 * m + i)) ≤ r) : valS g T m x i r = valS g T m x i (thereS g m x (g (4 + 3 * m + i))) := by
  unfold valS yieldS spillS nextS restoS
  rw [Nat.min_eq_right h, Nat.min_self]
theorem pick_there {g : Nat → Nat} {T : Nat → Nat → UInt32} {m x i : Nat} : pickS (valS g T m x i) 20 = pickS (valS g T m x i) (min 20 (thereS g m x (g (4 + 3 * m + i)))) := by
  by_cases h : 20 ≤ thereS g m x (g (4 + 3 * m + i))
  · rw [Nat.min_eq_left h]
  · rw [Nat.min_eq_right (by omega)]
    have := pick_const (v := valS g T m x i) (t := thereS g m x (g (4 + 3 * m + i))) (fun r hr => val_const hr) (20 - thereS g m x (g (4 + 3 * m + i)))
    rw [← this]
    congr 1
    omega
