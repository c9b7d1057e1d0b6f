/-! ===== the chain: ways ===== -/
def nOne : UInt32 := 3212836864
/-- the chance along the last n figures (of three) of w, from a state on -/
def chS (g : Nat → Nat) : Nat → UInt32 → Nat → Nat → UInt32
  | _, c, 0, _ => c
  | st, c, n + 1, w => chS g (w / 3 ^ n % 3) (FP.fmul c (odS g st (w / 3 ^ n % 3))) n w
def stW (v : UInt32) (k : Nat) (a : UInt32 × Nat) : UInt32 × Nat := if FP.fcmp v a.1 = some .gt then (v, k) else a
def pkW (v : Nat → UInt32) (b : Nat) : Nat → UInt32 × Nat → UInt32 × Nat
  | 0, a => a
  | m + 1, a => stW (v m) (b + m) (pkW v b m a)
def flW (g : Nat → Nat) : Nat → Nat → UInt32 → UInt32 × Nat → Nat → UInt32 × Nat
  | 0, _, c, a, b => stW c b a
  | r + 1, st, c, a, b => flW g r 2 (FP.fmul c (odS g st 2)) (flW g r 1 (FP.fmul c (odS g st 1)) (flW g r 0 (FP.fmul c (odS g st 0)) a (b * 3)) (b * 3 + 1)) (b * 3 + 2)
theorem pkW_congr {v v' : Nat → UInt32} {b : Nat} {a : UInt32 × Nat} : ∀ m, (∀ i, i < m → v i = v' i) → pkW v b m a = pkW v' b m a
  | 0, _ => rfl
  | m + 1, h => by
    unfold pkW
    rw [pkW_congr m (fun i hi => h i (by omega)), h m (by omega)]
theorem pkW_add {v : Nat → UInt32} {b : Nat} {a : UInt32 × Nat} (m1 : Nat) : ∀ m2, pkW v b (m1 + m2) a = pkW (fun i => v (m1 + i)) (b + m1) m2 (pkW v b m1 a)
  | 0 => rfl
  | m2 + 1 => by
    show stW (v (m1 + m2)) (b + (m1 + m2)) (pkW v b (m1 + m2) a) = stW (v (m1 + m2)) (b + m1 + m2) _
    rw [pkW_add m1 m2, Nat.add_assoc]
theorem dig_mod {d w r k : Nat} (hk : k < r) : (d * 3 ^ r + w) / 3 ^ k % 3 = w / 3 ^ k % 3 := by
  obtain ⟨e, rfl⟩ : ∃ e, r = k + 1 + e := ⟨r - (k + 1), by omega⟩
  have h1 : d * 3 ^ (k + 1 + e) = 3 ^ k * (3 * (d * 3 ^ e)) := by
    rw [Nat.pow_add, Nat.pow_succ]
    ac_rfl
  rw [h1, Nat.add_comm, Nat.add_mul_div_left _ _ (Nat.pow_pos (by decide)), Nat.add_mul_mod_self_left]
theorem chS_mod {g : Nat → Nat} {d w r : Nat} : ∀ (n st : Nat) (c : UInt32), n ≤ r → chS g st c n (d * 3 ^ r + w) = chS g st c n w
  | 0, _, _, _ => rfl
  | n + 1, st, c, h => by
    unfold chS
    rw [dig_mod (by omega), chS_mod n _ _ (by omega)]
theorem flW_eq {g : Nat → Nat} : ∀ (r st : Nat) (c : UInt32) (a : UInt32 × Nat) (b : Nat), flW g r st c a b = pkW (chS g st c r) (b * 3 ^ r) (3 ^ r) a
  | 0, st, c, a, b => by
    show stW c b a = stW c (b * 1 + 0) a
    rw [Nat.mul_one]
    rfl
  | r + 1, st, c, a, b => by
    have key : ∀ d, d < 3 → ∀ i, i < 3 ^ r → chS g st c (r + 1) (d * 3 ^ r + i) = chS g d (FP.fmul c (odS g st d)) r i := fun d hd i hi => by
      have h1 : (d * 3 ^ r + i) / 3 ^ r % 3 = d := by
        rw [Nat.add_comm, Nat.add_mul_div_right _ _ (Nat.pow_pos (by decide)), Nat.div_eq_of_lt hi, Nat.zero_add, Nat.mod_eq_of_lt hd]
      show chS g ((d * 3 ^ r + i) / 3 ^ r % 3) (FP.fmul c (odS g st ((d * 3 ^ r + i) / 3 ^ r % 3))) r (d * 3 ^ r + i) = _
      rw [h1, chS_mod r _ _ (Nat.le_refl _)]
    have e3 : 3 ^ (r + 1) = 3 ^ r + (3 ^ r + 3 ^ r) := by rw [Nat.pow_succ]; omega
    unfold flW
    rw [flW_eq r, flW_eq r, flW_eq r, e3, pkW_add, pkW_add]
    rw [pkW_congr (v := chS g st c (r + 1)) (v' := chS g 0 (FP.fmul c (odS g st 0)) r) (3 ^ r) (fun i hi => by have := key 0 (by omega) i hi; rw [Nat.zero_mul, Nat.zero_add] at this; exact this)]
    rw [pkW_congr (v := fun i => chS g st c (r + 1) (3 ^ r + i)) (v' := chS g 1 (FP.fmul c (odS g st 1)) r) (3 ^ r) (fun i hi => by have := key 1 (by omega) i hi; rw [Nat.one_mul] at this; exact this)]
    rw [pkW_congr (v := fun i => chS g st c (r + 1) (3 ^ r + (3 ^ r + i))) (v' := chS g 2 (FP.fmul c (odS g st 2)) r) (3 ^ r) (fun i hi => by
      have := key 2 (by omega) i hi
      rw [show 2 * 3 ^ r + i = 3 ^ r + (3 ^ r + i) by omega] at this
      exact this)]
    have d0 : b * (3 ^ r + (3 ^ r + 3 ^ r)) = b * 3 * 3 ^ r := by rw [Nat.mul_assoc, show 3 ^ r + (3 ^ r + 3 ^ r) = 3 * 3 ^ r by omega]
    have d1 : (b * 3 + 1) * 3 ^ r = b * 3 * 3 ^ r + 3 ^ r := by rw [Nat.add_mul, Nat.one_mul]
    have d2 : (b * 3 + 2) * 3 ^ r = b * 3 * 3 ^ r + 3 ^ r + 3 ^ r := by rw [Nat.add_mul]; omega
    rw [d0, d1, d2]
/-! ===== a chance grows no greater ===== -/
/-- a chance: no sign, at most 1 -/
def chO (c : UInt32) : Prop := pos0 c ∧ mg c ≤ FP.Core.one32
theorem chO.aL {c : UInt32} (h : chO c) : aL 1 c := ⟨h.1.1, by rw [Nat.one_mul]; exact h.2⟩
theorem od_ch {g : Nat → Nat} {i j : Nat} (hg : OKg g) (hi : i < 3) (hj : j < 3) : chO (odS g i j) := by
  have := od_ok hg hi hj
  exact ⟨this.2, by have h := this.1.2; rw [Nat.one_mul] at h; exact h⟩
theorem ch_mul {c o : UInt32} (hc : chO c) (ho : chO o) : chO (FP.fmul c o) ∧ mg (FP.fmul c o) ≤ mg c := by
  have h1 := aL_mul hc.aL ho.aL (by decide)
  have h2 := pos0_mul hc.1 ho.1 h1
  refine ⟨⟨h2, by have h := h1.2; rw [Nat.one_mul] at h; exact h⟩, ?_⟩
  obtain ⟨s, c1, q, e1⟩ := hc.1.1
  obtain ⟨t, d, r, e2⟩ := ho.1.1
  have f1 := FP.Core.val32_fits c
  have f2 := FP.Core.val32_fits o
  have m2 := ho.2
  unfold mg at m2
  rw [e1] at f1
  rw [e2] at f2 m2
  obtain ⟨p1, p2, p3⟩ := FP.Core.product_units f1 f2
  have hv : FP.Core.val32 (FP.fmul c o) = FP.Core.roundRatio FP.Core.b32 (s != t) (c1 * d) 1 (q + r) := by
    rw [FP.Core.val32_fmul, e1, e2, p1]
    rfl
  show FP.Core.zmag FP.Core.b32 (FP.Core.val32 (FP.fmul c o)) ≤ FP.Core.zmag FP.Core.b32 (FP.Core.val32 c)
  rw [hv]
  refine FP.Core.zmag_roundRatio_le FP.Core.good_b32 (e0 := 2 * FP.Core.b32.qmin) (by decide) (FP.Core.val32_fits c) (by rw [e1]; exact FP.Core.Datum.noConfusion) (by rw [fl_qmin]; decide) p2 ?_
  rw [p3, Nat.mul_one, e1]
  have h4 : 2 ^ (FP.Core.b32.qmin - 2 * FP.Core.b32.qmin).toNat = FP.Core.one32 := by
    rw [← FP.Core.pow_qmin32]
    rfl
  rw [h4]
  exact Nat.mul_le_mul_left _ m2
/-- what has been found: nothing yet, or a chance -/
def acO (x : UInt32) : Prop := x = nOne ∨ chO x
theorem zv_ch {c : UInt32} (h : chO c) : FP.Core.zval FP.Core.b32 (FP.Core.val32 c) = (mg c : Int) := ps_zval (z := mg c) ⟨h.1, rfl⟩
theorem ac_nan {x : UInt32} (h : acO x) : FP.Core.val32 x ≠ .nan := by
  rcases h with rfl | h
  · decide +kernel
  · exact h.1.1.ne_nan
theorem gt_iff {c x : UInt32} (hc : chO c) (hx : acO x) : (FP.fcmp c x = some .gt) ↔ FP.Core.zval FP.Core.b32 (FP.Core.val32 x) < (mg c : Int) := by
  have e : FP.fcmp c x = some (compare (FP.Core.zval FP.Core.b32 (FP.Core.val32 c)) (FP.Core.zval FP.Core.b32 (FP.Core.val32 x))) := FP.Core.fcmp_zval hc.1.1.ne_nan (ac_nan hx)
  rw [e, zv_ch hc, ← FP.Core.compare_gt_iff]
  constructor
  · intro h; injection h
  · intro h; rw [h]
theorem gt_nOne {c : UInt32} (hc : chO c) : FP.fcmp c nOne = some .gt := by
  rw [gt_iff hc (Or.inl rfl)]
  have : FP.Core.zval FP.Core.b32 (FP.Core.val32 nOne) < 0 := by decide +kernel
  omega
theorem st_ac {c : UInt32} {k : Nat} {a : UInt32 × Nat} (hc : chO c) (ha : acO a.1) : acO (stW c k a).1 := by
  unfold stW
  split
  · exact Or.inr hc
  · exact ha
theorem fl_prune {g : Nat → Nat} (hg : OKg g) : ∀ (r st : Nat) (c : UInt32) (a : UInt32 × Nat) (b : Nat), st < 3 → chO c → acO a.1 → ¬ (FP.fcmp c a.1 = some .gt) → flW g r st c a b = a
  | 0, st, c, a, b, _, _, _, h => if_neg h
  | r + 1, st, c, a, b, hs, hc, ha, h => by
    have step : ∀ j b, j < 3 → flW g r j (FP.fmul c (odS g st j)) a b = a := fun j b hj => by
      have hm := ch_mul hc (od_ch hg hs hj)
      refine fl_prune hg r j _ a b hj hm.1 ha (fun h2 => h ?_)
      rw [gt_iff hm.1 ha] at h2
      rw [gt_iff hc ha]
      omega
    unfold flW
    rw [step 0 _ (by omega), step 1 _ (by omega), step 2 _ (by omega)]
theorem fl_ac {g : Nat → Nat} (hg : OKg g) : ∀ (r st : Nat) (c : UInt32) (a : UInt32 × Nat) (b : Nat), st < 3 → chO c → acO a.1 → acO (flW g r st c a b).1
  | 0, st, c, a, b, _, hc, ha => st_ac hc ha
  | r + 1, st, c, a, b, hs, hc, ha => by
    unfold flW
    have hm := fun j (hj : j < 3) => (ch_mul hc (od_ch hg hs hj)).1
    exact fl_ac hg r 2 _ _ _ (by omega) (hm 2 (by omega)) (fl_ac hg r 1 _ _ _ (by omega) (hm 1 (by omega)) (fl_ac hg r 0 _ _ _ (by omega) (hm 0 (by omega)) ha))
/-- the number that is kept is one of those looked at, or was there -/
theorem fl_num {g : Nat → Nat} : ∀ (r st : Nat) (c : UInt32) (a : UInt32 × Nat) (b : Nat), flW g r st c a b = a ∨ (b * 3 ^ r ≤ (flW g r st c a b).2 ∧ (flW g r st c a b).2 < (b + 1) * 3 ^ r)
  | 0, st, c, a, b => by
    unfold flW stW
    split
    · refine Or.inr ⟨?_, ?_⟩
      · show b * 1 ≤ b; omega
      · show b < (b + 1) * 1; omega
    · exact Or.inl rfl
  | r + 1, st, c, a, b => by
    unfold flW
    have e1 : b * 3 ^ (r + 1) = b * 3 * 3 ^ r := by rw [Nat.pow_succ, Nat.mul_comm (3 ^ r) 3, Nat.mul_assoc]
    have e2 : (b + 1) * 3 ^ (r + 1) = b * 3 * 3 ^ r + 3 * 3 ^ r := by rw [Nat.add_mul, e1, Nat.one_mul, Nat.pow_succ, Nat.mul_comm (3 ^ r) 3]
    have e3 : (b * 3 + 1) * 3 ^ r = b * 3 * 3 ^ r + 3 ^ r := by rw [Nat.add_mul, Nat.one_mul]
    have e4 : (b * 3 + 1 + 1) * 3 ^ r = b * 3 * 3 ^ r + 2 * 3 ^ r := by rw [show b * 3 + 1 + 1 = b * 3 + 2 by omega, Nat.add_mul]
    have e5 : (b * 3 + 2) * 3 ^ r = b * 3 * 3 ^ r + 2 * 3 ^ r := by rw [Nat.add_mul]
    have e6 : (b * 3 + 2 + 1) * 3 ^ r = b * 3 * 3 ^ r + 3 * 3 ^ r := by rw [show b * 3 + 2 + 1 = b * 3 + 3 by omega, Nat.add_mul]
    rcases fl_num r 2 (FP.fmul c (odS g st 2)) (flW g r 1 (FP.fmul c (odS g st 1)) (flW g r 0 (FP.fmul c (odS g st 0)) a (b * 3)) (b * 3 + 1)) (b * 3 + 2) with h2 | h2
    · rw [h2]
      rcases fl_num r 1 (FP.fmul c (odS g st 1)) (flW g r 0 (FP.fmul c (odS g st 0)) a (b * 3)) (b * 3 + 1) with h1 | h1
      · rw [h1]
        rcases fl_num r 0 (FP.fmul c (odS g st 0)) a (b * 3) with h0 | h0
        · exact Or.inl h0
        · exact Or.inr ⟨by omega, by omega⟩
      · exact Or.inr ⟨by omega, by omega⟩
    · exact Or.inr ⟨by omega, by omega⟩
