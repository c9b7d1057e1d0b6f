/-! ===== numbers: whole numbers as ints ===== -/
def iN (n : Nat) : Int32 := Int32.ofNat n
def iZ (z : Int) : Int32 := Int32.ofInt z
theorem iN_iZ (n : Nat) : iN n = iZ (n : Int) := Int32.ofInt_eq_ofNat.symm
theorem iN_toInt {n : Nat} (h : n < 2147483648) : (iN n).toInt = (n : Int) := Int32.toInt_ofNat_of_lt h
theorem iZ_toInt {z : Int} (h1 : -2147483648 ≤ z) (h2 : z < 2147483648) : (iZ z).toInt = z := Int32.toInt_ofInt_of_le h1 h2
theorem lit_toInt {k : Nat} (h : k < 2147483648) : (no_index (@OfNat.ofNat Int32 k Int32.instOfNat)).toInt = (k : Int) := Int32.toInt_ofNat_of_lt h
theorem lit_iN (k : Nat) : (@OfNat.ofNat Int32 k Int32.instOfNat) = iN (@OfNat.ofNat Nat k (instOfNatNat k)) := rfl
theorem iN_add (a b : Nat) : iN a + iN b = iN (a + b) := (Int32.ofNat_add a b).symm
theorem iN_mul (a b : Nat) : iN a * iN b = iN (a * b) := (Int32.ofNat_mul a b).symm
theorem iN_sub {a b : Nat} (h : b ≤ a) : iN a - iN b = iN (a - b) := (Int32.ofNat_sub a b h).symm
theorem iN_addL (a k : Nat) : iN a + (no_index (@OfNat.ofNat Int32 k Int32.instOfNat)) = iN (a + @OfNat.ofNat Nat k (instOfNatNat k)) := iN_add a k
theorem iN_Ladd (a k : Nat) : (no_index (@OfNat.ofNat Int32 k Int32.instOfNat)) + iN a = iN (@OfNat.ofNat Nat k (instOfNatNat k) + a) := iN_add k a
theorem iN_mulL (a k : Nat) : iN a * (no_index (@OfNat.ofNat Int32 k Int32.instOfNat)) = iN (a * @OfNat.ofNat Nat k (instOfNatNat k)) := iN_mul a k
theorem iN_Lmul (a k : Nat) : (no_index (@OfNat.ofNat Int32 k Int32.instOfNat)) * iN a = iN (@OfNat.ofNat Nat k (instOfNatNat k) * a) := iN_mul k a
theorem iN_subL {a k : Nat} (h : @OfNat.ofNat Nat k (instOfNatNat k) ≤ a) : iN a - (no_index (@OfNat.ofNat Int32 k Int32.instOfNat)) = iN (a - @OfNat.ofNat Nat k (instOfNatNat k)) := iN_sub h
theorem iN_Lsub {a k : Nat} (h : a ≤ @OfNat.ofNat Nat k (instOfNatNat k)) : (no_index (@OfNat.ofNat Int32 k Int32.instOfNat)) - iN a = iN (@OfNat.ofNat Nat k (instOfNatNat k) - a) := iN_sub h
theorem iN_le {a b : Nat} (ha : a < 2147483648) (hb : b < 2147483648) : (iN a ≤ iN b) = (a ≤ b) := by
  rw [Int32.le_iff_toInt_le, iN_toInt ha, iN_toInt hb]; exact propext (by omega)
theorem iN_lt {a b : Nat} (ha : a < 2147483648) (hb : b < 2147483648) : (iN a < iN b) = (a < b) := by
  rw [Int32.lt_iff_toInt_lt, iN_toInt ha, iN_toInt hb]; exact propext (by omega)
theorem iN_eq {a b : Nat} (ha : a < 2147483648) (hb : b < 2147483648) : (iN a = iN b) = (a = b) := by
  refine propext ⟨fun h => ?_, fun h => by rw [h]⟩
  have := congrArg Int32.toInt h
  rw [iN_toInt ha, iN_toInt hb] at this
  omega
theorem iN_leL {a k : Nat} (ha : a < 2147483648) (hk : @OfNat.ofNat Nat k (instOfNatNat k) < 2147483648) : (iN a ≤ (no_index (@OfNat.ofNat Int32 k Int32.instOfNat))) = (a ≤ @OfNat.ofNat Nat k (instOfNatNat k)) := iN_le ha hk
theorem iN_Lle {a k : Nat} (ha : a < 2147483648) (hk : @OfNat.ofNat Nat k (instOfNatNat k) < 2147483648) : ((no_index (@OfNat.ofNat Int32 k Int32.instOfNat)) ≤ iN a) = (@OfNat.ofNat Nat k (instOfNatNat k) ≤ a) := iN_le hk ha
theorem iN_ltL {a k : Nat} (ha : a < 2147483648) (hk : @OfNat.ofNat Nat k (instOfNatNat k) < 2147483648) : (iN a < (no_index (@OfNat.ofNat Int32 k Int32.instOfNat))) = (a < @OfNat.ofNat Nat k (instOfNatNat k)) := iN_lt ha hk
theorem iN_Llt {a k : Nat} (ha : a < 2147483648) (hk : @OfNat.ofNat Nat k (instOfNatNat k) < 2147483648) : ((no_index (@OfNat.ofNat Int32 k Int32.instOfNat)) < iN a) = (@OfNat.ofNat Nat k (instOfNatNat k) < a) := iN_lt hk ha
theorem iN_eqL {a k : Nat} (ha : a < 2147483648) (hk : @OfNat.ofNat Nat k (instOfNatNat k) < 2147483648) : (iN a = (no_index (@OfNat.ofNat Int32 k Int32.instOfNat))) = (a = @OfNat.ofNat Nat k (instOfNatNat k)) := iN_eq ha hk
theorem iN_Leq {a k : Nat} (ha : a < 2147483648) (hk : @OfNat.ofNat Nat k (instOfNatNat k) < 2147483648) : ((no_index (@OfNat.ofNat Int32 k Int32.instOfNat)) = iN a) = (@OfNat.ofNat Nat k (instOfNatNat k) = a) := iN_eq hk ha
theorem iN_nat {a : Nat} (ha : a < 2147483648) : (iN a).toNatClampNeg = a := Int32.toNatClampNeg_ofNat_of_lt ha
theorem iN_neg {a : Nat} (ha : a < 2147483648) : (iN a < (0 : Int32)) = False := by
  rw [Int32.lt_iff_toInt_lt, iN_toInt ha]
  exact propext ⟨fun h => absurd h (by show ¬ ((a : Int) < 0); omega), False.elim⟩
theorem iN_nn {a : Nat} (ha : a < 2147483648) : ¬ (iN a < (0 : Int32)) := by rw [iN_neg ha]; exact id
theorem iN_ne_neg {a k : Nat} (ha : a < 2147483648) (hk0 : 0 < @OfNat.ofNat Nat k (instOfNatNat k)) (hk : @OfNat.ofNat Nat k (instOfNatNat k) < 2147483648) : (iN a = -(no_index (@OfNat.ofNat Int32 k Int32.instOfNat))) = False := by
  have hk0 : 0 < k := hk0
  have hk : k < 2147483648 := hk
  refine propext ⟨fun h => ?_, False.elim⟩
  have h2 : -(@OfNat.ofNat Int32 k Int32.instOfNat) = iZ (-(k : Int)) := by
    rw [lit_iN, iN_iZ]
    exact (Int32.ofInt_neg _).symm
  rw [h2] at h
  have h1 := congrArg Int32.toInt h
  rw [iN_toInt ha, iZ_toInt (by omega) (by omega)] at h1
  omega
/-- an int that isn't below 0 is a whole number -/
theorem iN_of {v : Int32} (h : 0 ≤ v) : ∃ n : Nat, v = iN n ∧ n < 2147483648 := by
  refine ⟨v.toInt.toNat, ?_, ?_⟩
  · have h1 : 0 ≤ v.toInt := by rw [Int32.le_iff_toInt_le] at h; exact h
    apply Int32.toInt.inj
    have h2 := v.toInt_lt
    rw [iN_toInt (by omega)]
    omega
  · have h2 := v.toInt_lt
    omega
theorem le_lit {v : Int32} {k : Nat} (hk : @OfNat.ofNat Nat k (instOfNatNat k) < 2147483648) : (v ≤ (no_index (@OfNat.ofNat Int32 k Int32.instOfNat))) = (v.toInt ≤ (k : Int)) := by
  rw [Int32.le_iff_toInt_le, lit_toInt (k := k) hk]
theorem lit_le {v : Int32} {k : Nat} (hk : @OfNat.ofNat Nat k (instOfNatNat k) < 2147483648) : ((no_index (@OfNat.ofNat Int32 k Int32.instOfNat)) ≤ v) = ((k : Int) ≤ v.toInt) := by
  rw [Int32.le_iff_toInt_le, lit_toInt (k := k) hk]
/-- in a range of whole numbers -/
theorem iN_in {v : Int32} {k : Nat} (h0 : 0 ≤ v) (h : v ≤ iN k) (hk : k < 2147483648) : ∃ n : Nat, v = iN n ∧ n ≤ k := by
  obtain ⟨n, rfl, hn⟩ := iN_of h0
  rw [iN_le hn hk] at h
  exact ⟨n, rfl, h⟩
theorem iN_div {a b : Nat} (ha : a < 2147483648) (hb : b < 2147483648) : iN a / iN b = iN (a / b) := by
  apply Int32.toInt.inj
  have h1 : a / b ≤ a := Nat.div_le_self a b
  rw [Int32.toInt_div_of_ne_left, iN_toInt ha, iN_toInt hb, iN_toInt (by omega)]
  · rw [Int.tdiv_eq_ediv_of_nonneg (by omega)]
    exact (Int.natCast_ediv a b).symm
  · intro h2
    have := congrArg Int32.toInt h2
    rw [iN_toInt ha] at this
    have h3 : Int32.minValue.toInt = -2147483648 := rfl
    omega
theorem iN_divL {a k : Nat} (ha : a < 2147483648) (hk : @OfNat.ofNat Nat k (instOfNatNat k) < 2147483648) : iN a / (no_index (@OfNat.ofNat Int32 k Int32.instOfNat)) = iN (a / @OfNat.ofNat Nat k (instOfNatNat k)) := iN_div ha hk
theorem dvI_iN {a k : Nat} (ha : a < 2147483648) (hk0 : 0 < k) (hk : k < 2147483648) : dvI (iN a) (iN k) = some (iN (a / k)) := by
  unfold dvI
  rw [if_neg, iN_div ha hk]
  intro h
  have : iN k = iN 0 := h
  rw [iN_eq hk (by omega)] at this
  omega
theorem dvI_L {a k : Nat} (ha : a < 2147483648) (hk0 : 0 < @OfNat.ofNat Nat k (instOfNatNat k)) (hk : @OfNat.ofNat Nat k (instOfNatNat k) < 2147483648) : dvI (iN a) (no_index (@OfNat.ofNat Int32 k Int32.instOfNat)) = some (iN (a / @OfNat.ofNat Nat k (instOfNatNat k))) := dvI_iN ha hk0 hk
theorem rmI_iN {a k : Nat} (ha : a < 2147483648) (hk0 : 0 < k) (hk : k < 2147483648) : rmI (iN a) (iN k) = some (iN (a % k)) := by
  unfold rmI
  have h1 : a / k * k ≤ a := Nat.div_mul_le_self a k
  rw [if_neg, iN_div ha hk, iN_mul, iN_sub h1]
  · have := Nat.mod_add_div a k
    rw [Nat.mul_comm] at this
    congr 2
    omega
  · intro h
    have : iN k = iN 0 := h
    rw [iN_eq hk (by omega)] at this
    omega
theorem rmI_L {a k : Nat} (ha : a < 2147483648) (hk0 : 0 < @OfNat.ofNat Nat k (instOfNatNat k)) (hk : @OfNat.ofNat Nat k (instOfNatNat k) < 2147483648) : rmI (iN a) (no_index (@OfNat.ofNat Int32 k Int32.instOfNat)) = some (iN (a % @OfNat.ofNat Nat k (instOfNatNat k))) := rmI_iN ha hk0 hk
theorem mnI_iN {a b : Nat} (ha : a < 2147483648) (hb : b < 2147483648) : mnI (iN a) (iN b) = iN (min a b) := by
  unfold mnI
  simp only [iN_lt hb ha]
  by_cases h : b < a
  · rw [if_pos h, Nat.min_eq_right (by omega)]
  · rw [if_neg h, Nat.min_eq_left (by omega)]
theorem mnI_L {a k : Nat} (ha : a < 2147483648) (hk : @OfNat.ofNat Nat k (instOfNatNat k) < 2147483648) : mnI (iN a) (no_index (@OfNat.ofNat Int32 k Int32.instOfNat)) = iN (min a (@OfNat.ofNat Nat k (instOfNatNat k))) := mnI_iN ha hk
theorem Lmn_I {a k : Nat} (ha : a < 2147483648) (hk : @OfNat.ofNat Nat k (instOfNatNat k) < 2147483648) : mnI (no_index (@OfNat.ofNat Int32 k Int32.instOfNat)) (iN a) = iN (min (@OfNat.ofNat Nat k (instOfNatNat k)) a) := mnI_iN hk ha
theorem mxI_iN {a b : Nat} (ha : a < 2147483648) (hb : b < 2147483648) : mxI (iN a) (iN b) = iN (max a b) := by
  unfold mxI
  simp only [iN_lt ha hb]
  by_cases h : a < b
  · rw [if_pos h, Nat.max_eq_right (by omega)]
  · rw [if_neg h, Nat.max_eq_left (by omega)]
theorem iZ_add (a b : Int) : iZ a + iZ b = iZ (a + b) := (Int32.ofInt_add a b).symm
theorem iZ_sub (a b : Int) : iZ a - iZ b = iZ (a - b) := (Int32.ofInt_sub a b).symm
theorem iZ_mul (a b : Int) : iZ a * iZ b = iZ (a * b) := (Int32.ofInt_mul a b).symm
theorem iZ_neg (a : Int) : -iZ a = iZ (-a) := (Int32.ofInt_neg a).symm
theorem iZ_of (v : Int32) : v = iZ v.toInt := (Int32.ofInt_toInt v).symm
theorem iN_long {a : Nat} (ha : a < 2147483648) : (iN a).toInt64.toInt = (a : Int) := by rw [Int32.toInt_toInt64, iN_toInt ha]
theorem zz0 : zz (0 : Int32) = some 0 := Eq.trans rfl rfl
theorem zz1 : zz (1 : Int32) = some 1 := Eq.trans rfl rfl
theorem ob {α β : Type} (a : α) (f : α → Option β) : (some a).bind f = f a := Eq.trans rfl rfl
theorem bd_s {σ β : Type} (a : σ) (μ : Mem) (F : σ → Mem → Option β) : bd (some (a, μ)) F = F a μ := Eq.trans rfl rfl
theorem jn_s {φ β : Type} (J : φ) (B : φ → β) : jn J B = B J := Eq.trans rfl rfl
/-- a truth as an int -/
def tI (p : Prop) [Decidable p] : Int32 := if p then 1 else 0
theorem zz_tI (p : Prop) [Decidable p] : zz (tI p) = some (tI p) := by unfold tI; split <;> rfl
theorem tI_eq0 (p : Prop) [Decidable p] : (tI p = 0) = ¬ p := by unfold tI; split <;> rename_i h <;> simp [h]
theorem tI_eq1 (p : Prop) [Decidable p] : (tI p = 1) = p := by unfold tI; split <;> rename_i h <;> simp [h]
theorem tI_pos {p : Prop} [Decidable p] (h : p) : tI p = 1 := if_pos h
theorem tI_neg {p : Prop} [Decidable p] (h : ¬ p) : tI p = 0 := if_neg h
theorem i10 : ((1 : Int32) = 0) = False := by decide
theorem i00 : ((0 : Int32) = 0) = True := by decide
