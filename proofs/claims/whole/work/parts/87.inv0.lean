/-! ===== what holds at the beginning ===== -/
section INVZ
theorem gN_low : gN 0 = 8 ∧ gN 1 = 6 ∧ gN 2 = 2 ∧ gN 3 = 3 ∧ gN 73 = 0 ∧ gN 110 = 0 ∧ gN 131 = 0 ∧ gN 148 = 0 := by decide
theorem ok_gN : OKs gN := by
  obtain ⟨e0, e1, e2, e3, e73, e110, e131, e148⟩ := gN_low
  have a1 : ∀ k, k < 36 → gN (4 + k) ≤ 9 := by decide
  have a2 : ∀ k, k < 9 → gN (40 + k) ≤ 9 := by decide
  have a3 : ∀ i, i < 3 → 1 ≤ partsS gN i := by decide
  have a4 : ∀ k, k < 12 → gN (49 + k) ≤ 9 := by decide
  have a5 : ∀ k, k < 12 → gN (61 + k) ≤ 9 := by decide
  refine ⟨⟨by omega, a1, a2, a3, a4, fun k hk => by have := a5 k hk; omega, fun d hd => by omega⟩, by omega, a5, by omega, by omega, by omega, fun r hr => by omega, fun r hr => by omega, fun r hr => by omega⟩
theorem z0_102 : ∀ k, k < 173 → z0.1 102 k = iN (gN k) := by decide +kernel
theorem rb_z0 : RB z0 2 gN := by
  have a1 : ∀ k, k < 36 → z0.1 (2 + 1) k = iN (gN (4 + k)) := by decide +kernel
  have a2 : ∀ k, k < 9 → z0.1 (2 + 2) k = iN (gN (40 + k)) := by decide +kernel
  have a3 : ∀ k, k < 12 → z0.1 (2 + 3) k = iN (gN (49 + k)) := by decide +kernel
  have a4 : ∀ k, k < 12 → z0.1 (2 + 4) k = iN (gN (61 + k)) := by decide +kernel
  have e73 : gN 73 = 0 := gN_low.2.2.2.2.1
  exact ⟨⟨⟨by decide, by decide, by decide, by decide, by decide⟩, a1, a2, a3, a4, fun d f hd => by omega⟩, fun k hk => by omega⟩
theorem inv_z0 : Inv z0 := by
  obtain ⟨e0, e1, e2, e3, e73, e110, e131, e148⟩ := gN_low
  have r0 : ∀ r, r < 4 → z0.1 (81 + 2 * r) 3 = iN 0 ∧ z0.1 104 r = iN 0 := by decide
  have t0 : ∀ t, t < 6 → z0.1 (89 + 2 * t) 0 = -1 ∧ z0.1 115 t = -1 ∧ z0.1 (89 + 2 * t) 1 = iN 0 ∧ z0.1 116 t = iN 0 := by decide
  refine ⟨gN, gN, false, fun _ => 0, fun _ _ => 0, 0, fun _ => 0, ⟨⟨ok_gN, ⟨rb_z0, ?_, ?_, ?_⟩, z0_102, rfl⟩, Or.inl ⟨rfl, rfl, rfl⟩, fun r hr => ⟨Nat.zero_le 24, (r0 r hr).1, (r0 r hr).2, fun t ht => absurd ht (Nat.not_lt_zero _)⟩, ⟨by omega, rfl, rfl, fun t ht => absurd ht (Nat.not_lt_zero _)⟩, fun t ht => ?_, Or.inl rfl⟩, Or.inl rfl, Or.inl rfl⟩
  · exact ⟨by rw [e110]; rfl, fun i hi => by rw [e110] at hi; omega⟩
  · exact ⟨by rw [e131]; rfl, fun i hi => by rw [e131] at hi; omega⟩
  · exact ⟨by rw [e148]; rfl, fun i hi => by rw [e148] at hi; omega⟩
  · obtain ⟨a, b, c, d⟩ := t0 t ht
    exact ⟨a.trans b.symm, Or.inl b, ⟨0, by omega, c, d, fun _ => rfl⟩, fun i hi => rfl⟩
theorem born10 : fX10_init 0 ([] ++ [.inr (10, dfl10)]) = some ((), [] ++ minB 0) := n_fX10_init []
theorem min_len : (minB 0).length = 102 := by rfl
theorem born11 : fX11_init 102 (minB 0 ++ [.inr (11, dfl11)]) = some ((), mZ) := by
  have e := n_fX11_init (minB 0)
  rw [min_len] at e
  exact e
theorem law_pure {L : Nat} {xs : Nat → Int32} (hL : L ≤ 3584) : ∃ t, L_law_L18 L xs 0 101 4000 0 (lay z0) = some (1, lay t) := by
  have := law_loop (xs := xs) hL 4000 0 z0 (by omega) (Nat.zero_le _) inv_z0
  rw [show iN 0 = (0 : Int32) from rfl] at this
  exact this
end INVZ
