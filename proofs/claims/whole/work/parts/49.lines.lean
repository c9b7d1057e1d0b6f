/-! ===== rows that the class adds to ===== -/
section LINES
variable {s t u : Sto} {l wd lm n : Nat} {f : Nat → Nat}
/-- only the rows at l have changed -/
def Ol (l : Nat) (s t : Sto) : Prop := (∀ x, x ≠ l → x ≠ l + 1 → t.1 x = s.1 x) ∧ t.2 = s.2
theorem Ol.rf : Ol l s s := ⟨fun _ _ _ => rfl, rfl⟩
theorem Ol.tr (h1 : Ol l s t) (h2 : Ol l t u) : Ol l s u := ⟨fun x a b => (h2.1 x a b).trans (h1.1 x a b), h2.2.trans h1.2⟩
theorem Ol_0 {g : Nat → Int32} : Ol l s (rI s l g) := ⟨fun x a _ => rI_ne a, rfl⟩
theorem Ol_1 {g : Nat → Int32} : Ol l s (rI s (l + 1) g) := ⟨fun x _ b => rI_ne b, rfl⟩
theorem ln_w (hl : Ln l wd lm) : (wd = 1 ∨ wd = 2 ∨ wd = 3 ∨ wd = 4) ∧ lm ≤ 100 := by
  have key : ∀ x ∈ [(15, 4, 5), (17, 2, 8), (19, 3, 8), (35, 4, 5), (37, 2, 8), (39, 3, 8), (76, 1, 100), (81, 1, 24), (83, 1, 24), (85, 1, 24), (87, 1, 24)], (x.2.1 = 1 ∨ x.2.1 = 2 ∨ x.2.1 = 3 ∨ x.2.1 = 4) ∧ x.2.2 ≤ 100 := by decide
  exact key (l, wd, lm) hl
/-- the last row's number j becomes x, if rows are that long -/
def sl (l wd n j : Nat) (x : Int32) (z : Sto) : Sto := if wd ≤ j then z else uI z (l + 1) (n * wd + j) x
theorem c_clear (hl : Ln l wd lm) : fX6_clear l (lay s) = some (0, lay (uI s l 3 0)) := by
  unfold fX6_clear
  simp only [ln_p3 hl, ln_g3 hl, ob]
  rw [rI_same, upd_same]
theorem c_setl (hl : Ln l wd lm) {j : Nat} {x : Int32} (h3 : s.1 l 3 = iN (n + 1)) (hn : n < lm) (hj : j < 4) : fX6_setInLast l (iN j) x (lay s) = some ((), lay (sl l wd n j x s)) := by
  have hw := ln_w hl
  unfold fX6_setInLast sl
  simp only [ln_g0 hl, ob]
  simp (disch := first | assumption | omega) only [iN_le]
  by_cases c : wd ≤ j
  · rw [if_pos c, if_pos c]
  · rw [if_neg c, if_neg c]
    simp only [ln_r2 hl, ln_g3 hl, h3, ob]
    simp (disch := first | assumption | omega) only [iN_subL, iN_add, iN_addL, iN_Ladd, iN_mul, iN_mulL, iN_Lmul]
    rw [Nat.add_sub_cancel, ln_s hl (by
      have : (n + 1) * wd ≤ lm * wd := Nat.mul_le_mul_right _ hn
      rw [Nat.add_mul] at this
      rw [Nat.mul_comm wd lm]
      omega)]
    rfl
def nt4 (a b c d k : Nat) : Nat := if k = 0 then a else if k = 1 then b else if k = 2 then c else d
theorem c_add (hl : Ln l wd lm) (h : LI s l wd n f) (hn : n < lm) (a b c d : Nat) : ∃ t, fX6_add___ l (iN a) (iN b) (iN c) (iN d) (lay s) = some (iN (n + 1), lay t) ∧ Ol l s t ∧ LI t l wd (n + 1) (fun i => if i < n * wd then f i else nt4 a b c d (i - n * wd)) := by
  have hw := ln_w hl
  have k3 : ∀ (z : Sto) (j : Nat) (x : Int32), z.1 l 3 = iN (n + 1) → (sl l wd n j x z).1 l 3 = iN (n + 1) := fun z j x hz => by
    unfold sl
    split
    · exact hz
    · rw [rI_ne (by omega)]; exact hz
  have kO : ∀ (z : Sto) (j : Nat) (x : Int32), Ol l z (sl l wd n j x z) := fun z j x => by
    unfold sl
    split
    · exact Ol.rf
    · exact Ol_1
  have h0 : (uI s l 3 (iN (n + 1))).1 l 3 = iN (n + 1) := by rw [rI_same, upd_same]
  have l0 : (0 : Int32) = iN 0 := rfl
  have l1 : (1 : Int32) = iN 1 := rfl
  have l2 : (2 : Int32) = iN 2 := rfl
  have l3 : (3 : Int32) = iN 3 := rfl
  have s0 : ∀ (z : Sto) (x : Int32), z.1 l 3 = iN (n + 1) → fX6_setInLast l 0 x (lay z) = _ := fun z x hz => c_setl (j := 0) hl hz hn (by omega)
  have s1 : ∀ (z : Sto) (x : Int32), z.1 l 3 = iN (n + 1) → fX6_setInLast l 1 x (lay z) = _ := fun z x hz => c_setl (j := 1) hl hz hn (by omega)
  have s2 : ∀ (z : Sto) (x : Int32), z.1 l 3 = iN (n + 1) → fX6_setInLast l 2 x (lay z) = _ := fun z x hz => c_setl (j := 2) hl hz hn (by omega)
  have s3 : ∀ (z : Sto) (x : Int32), z.1 l 3 = iN (n + 1) → fX6_setInLast l 3 x (lay z) = _ := fun z x hz => c_setl (j := 3) hl hz hn (by omega)
  have c1 : iN n < iN lm := by rw [iN_lt (by omega) (by omega)]; exact hn
  have c3 := k3 _ 0 (iN a) h0
  have c4 := k3 _ 1 (iN b) c3
  have c5 := k3 _ 2 (iN c) c4
  refine ⟨sl l wd n 3 (iN d) (sl l wd n 2 (iN c) (sl l wd n 1 (iN b) (sl l wd n 0 (iN a) (uI s l 3 (iN (n + 1)))))), ?_, ?_, ?_⟩
  rotate_left
  · exact (((Ol_0.tr (kO (uI s l 3 (iN (n + 1))) 0 (iN a))).tr (kO _ 1 (iN b))).tr (kO _ 2 (iN c))).tr (kO _ 3 (iN d))
  · refine ⟨k3 _ 3 (iN d) c5, fun i hi => ?_⟩
    have e0 : ∀ j, (uI s l 3 (iN (n + 1))).1 (l + 1) j = s.1 (l + 1) j := fun j => by rw [rI_ne (by omega)]
    have ho := h.2
    by_cases ci : i < n * wd
    · simp only [if_pos ci]
      rw [← ho i ci]
      have k : ∀ (z : Sto) (j : Nat) (x : Int32), (sl l wd n j x z).1 (l + 1) i = z.1 (l + 1) i := fun z j x => by
        unfold sl
        split
        · rfl
        · rw [upv, if_neg (by omega)]
      rw [k, k, k, k, e0]
    · simp only [if_neg ci]
      rw [Nat.add_mul] at hi
      obtain ⟨j, rfl⟩ : ∃ j, i = n * wd + j := ⟨i - n * wd, by omega⟩
      rw [Nat.add_sub_cancel_left]
      have k : ∀ (z : Sto) (k : Nat) (x : Int32), k ≠ j → (sl l wd n k x z).1 (l + 1) (n * wd + j) = z.1 (l + 1) (n * wd + j) := fun z k x hk => by
        unfold sl
        split
        · rfl
        · rw [upv, if_neg (by omega)]
      have kk : ∀ (z : Sto) (x : Int32), (sl l wd n j x z).1 (l + 1) (n * wd + j) = x := fun z x => by
        unfold sl
        rw [if_neg (by omega), upv, if_pos ⟨rfl, rfl⟩]
      rcases (show j = 0 ∨ j = 1 ∨ j = 2 ∨ j = 3 by omega) with rfl | rfl | rfl | rfl
      · rw [k _ _ _ (by omega), k _ _ _ (by omega), k _ _ _ (by omega), kk]; rfl
      · rw [k _ _ _ (by omega), k _ _ _ (by omega), kk]; rfl
      · rw [k _ _ _ (by omega), kk]; rfl
      · rw [kk]; rfl
  · unfold fX6_add___
    simp only [ln_g3 hl, ln_g1 hl, ob, h.1, if_pos c1, ln_c hl, ln_p3 hl, iN_addL]
    rw [s0 _ _ h0]
    simp only [bd_s, ln_c hl, ob]
    rw [s1 _ _ c3]
    simp only [bd_s, ln_c hl, ob]
    rw [s2 _ _ c4]
    simp only [bd_s, ln_c hl, ob]
    rw [s3 _ _ c5]
    simp only [bd_s, ln_g3 hl, ob]
    rw [k3 _ 3 (iN d) c5]
theorem c_full (hl : Ln l wd lm) (h : LI s l wd lm f) (a b c d : Int32) : fX6_add___ l a b c d (lay s) = some (-4, lay s) := by
  have hw := ln_w hl
  have c1 : ¬ (iN lm < iN lm) := by rw [iN_lt (by omega) (by omega)]; omega
  unfold fX6_add___
  simp only [ln_g3 hl, ln_g1 hl, ob, h.1, if_neg c1]
theorem c_at (hl : Ln l wd lm) (h : LI s l wd n f) (hn : n ≤ lm) {r j : Nat} (hr : r < n) (hj : j < wd) : fX6_at l (iN r) (iN j) (lay s) = some (iN (f (r * wd + j)), lay s) := by
  have hw := ln_w hl
  have q : (r + 1) * wd ≤ n * wd := Nat.mul_le_mul_right _ hr
  have q2 : n * wd ≤ lm * wd := Nat.mul_le_mul_right _ hn
  rw [Nat.add_mul] at q
  have c1 : (0 : Int32) ≤ iN r ∧ iN r ≤ iN (n - 1) := by rw [iN_Lle (by omega) (by omega), iN_le (by omega) (by omega)]; omega
  have c2 : (0 : Int32) ≤ iN j ∧ iN j ≤ iN (wd - 1) := by rw [iN_Lle (by omega) (by omega), iN_le (by omega) (by omega)]; omega
  unfold fX6_at
  have e1 : iN n - (1 : Int32) = iN (n - 1) := iN_sub (b := 1) (by omega)
  have e2 : iN wd - (1 : Int32) = iN (wd - 1) := iN_sub (b := 1) (by omega)
  simp only [ln_g3 hl, ln_g0 hl, ln_r2 hl, ob, h.1, e1, e2, c_within, tI_pos c1, tI_pos c2, bd_s, i10, if_false, iN_add, iN_addL, iN_Ladd, iN_mul, iN_mulL, iN_Lmul]
  rw [ln_a hl (by rw [Nat.mul_comm wd lm]; omega), h.2 _ (by omega)]
  rfl
theorem LI_f {f' : Nat → Nat} (h : LI s l wd n f) (e : ∀ i, i < n * wd → f' i = f i) : LI s l wd n f' := ⟨h.1, fun i hi => by rw [e i hi]; exact h.2 i hi⟩
end LINES
