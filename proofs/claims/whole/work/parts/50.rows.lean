/-! ===== what is seen, planned, booked; records ===== -/
section ROWS
variable {s t u : Sto} {g g' kp : Nat → Nat} {kf : Bool} {rn : Nat → Nat} {rv : Nat → Nat → Nat} {tn : Nat} {tv : Nat → Nat}
theorem Ko_Ol {l : Nat} (hl : l = 15 ∨ l = 17 ∨ l = 19) (h : Ol l s t) : Ko s t := ⟨fun q hq => h.1 q (by omega) (by omega), by rw [h.1 0 (by omega) (by omega)], fun k _ => by rw [h.1 101 (by omega) (by omega)], by rw [h.2], fun x => by unfold Tw at *; rw [h.2]; exact x⟩
theorem Ko_Krf (h : Krf s t) : Ko s t := ⟨fun q hq => h.1 q (by omega), by rw [h.1 0 (by omega)], fun k _ => by rw [h.1 101 (by omega)], by rw [h.2], fun x => by unfold Tw at *; rw [h.2]; exact x⟩
theorem Inv_row {l : Nat} (hB : IB s g kp kf rn rv tn tv) (hl : l = 15 ∨ l = 17 ∨ l = 19) (h : Ol l s t) (hr : Krf t u) (ho : OKs g') (L : Lo g' g) (h1 : LI t 15 4 (g' 110) (fun i => g' (111 + i))) (h2 : LI t 17 2 (g' 131) (fun i => g' (132 + i))) (h3 : LI t 19 3 (g' 148) (fun i => g' (149 + i))) (h4 : Rg u 102 g') (hC : Ic u g') : Inv u := by
  have hI := hB.1
  refine ⟨g', kp, kf, rn, rv, tn, tv, IB_new ((Ko_Ol hl h).tr (Ko_Krf hr)) hB ⟨ho, ⟨?_, ?_, ?_, ?_⟩, h4, ?_⟩, hC⟩
  · exact RB_lo L hI.1.m (RB_congr hI.2.1.1 hI.1.m (fun q a b => by rw [hr.1 q (by omega), h.1 q (by omega) (by omega)]))
  · exact LI_congr h1 (hr.1 _ (by omega)) (hr.1 _ (by omega))
  · exact LI_congr h2 (hr.1 _ (by omega)) (hr.1 _ (by omega))
  · exact LI_congr h3 (hr.1 _ (by omega)) (hr.1 _ (by omega))
  · rw [hr.1 101 (by omega), h.1 101 (by omega) (by omega)]
    exact hI.2.2.2
theorem Kc_row {l : Nat} (hl : l = 15 ∨ l = 17 ∨ l = 19) (h : Ol l s t) (hr : Krf t u) : Kc s u := ⟨fun k _ => by rw [hr.1 0 (by omega), h.1 0 (by omega) (by omega)], by rw [hr.1 57 (by omega), h.1 57 (by omega) (by omega)], by rw [hr.1 58 (by omega), h.1 58 (by omega) (by omega)], by rw [hr.2, h.2], by rw [hr.2, h.2]⟩
theorem l15 : Ln 15 4 5 := by unfold Ln; decide
theorem l17 : Ln 17 2 8 := by unfold Ln; decide
theorem l19 : Ln 19 3 8 := by unfold Ln; decide
/-- a row of four, of two, of three is added -/
def gSee (g : Nat → Nat) (a b c d : Nat) : Nat → Nat := gs (gs (gs (gs (gs g (111 + 4 * g 110) a) (111 + 4 * g 110 + 1) b) (111 + 4 * g 110 + 2) c) (111 + 4 * g 110 + 3) d) 110 (g 110 + 1)
def gPlan (g : Nat → Nat) (a b : Nat) : Nat → Nat := gs (gs (gs g (132 + 2 * g 131) a) (132 + 2 * g 131 + 1) b) 131 (g 131 + 1)
def gBook (g : Nat → Nat) (a b c : Nat) : Nat → Nat := gs (gs (gs (gs g (149 + 3 * g 148) a) (149 + 3 * g 148 + 1) b) (149 + 3 * g 148 + 2) c) 148 (g 148 + 1)
theorem see_out {a b c d j : Nat} (h5 : g 110 < 5) (h : j < 110 ∨ 131 ≤ j) : gSee g a b c d j = g j := by
  unfold gSee
  rw [gs_ne (by omega), gs_ne (by omega), gs_ne (by omega), gs_ne (by omega), gs_ne (by omega)]
theorem plan_out {a b j : Nat} (h5 : g 131 < 8) (h : j < 131 ∨ 148 ≤ j) : gPlan g a b j = g j := by
  unfold gPlan
  rw [gs_ne (by omega), gs_ne (by omega), gs_ne (by omega)]
theorem book_out {a b c j : Nat} (h : j < 148) : gBook g a b c j = g j := by
  unfold gBook
  rw [gs_ne (by omega), gs_ne (by omega), gs_ne (by omega), gs_ne (by omega)]
theorem see_in {a b c d i : Nat} (hi : i < (g 110 + 1) * 4) : gSee g a b c d (111 + i) = if i < g 110 * 4 then g (111 + i) else nt4 a b c d (i - g 110 * 4) := by
  unfold gSee gs nt4
  rw [if_neg (by omega)]
  repeat' split
  all_goals first | rfl | (exfalso; omega)
theorem plan_in {a b i : Nat} (hi : i < (g 131 + 1) * 2) : gPlan g a b (132 + i) = if i < g 131 * 2 then g (132 + i) else nt4 a b 0 0 (i - g 131 * 2) := by
  unfold gPlan gs nt4
  rw [if_neg (by omega)]
  repeat' split
  all_goals first | rfl | (exfalso; omega)
theorem book_in {a b c i : Nat} (hi : i < (g 148 + 1) * 3) : gBook g a b c (149 + i) = if i < g 148 * 3 then g (149 + i) else nt4 a b c 0 (i - g 148 * 3) := by
  unfold gBook gs nt4
  rw [if_neg (by omega)]
  repeat' split
  all_goals first | rfl | (exfalso; omega)
theorem see_n {a b c d : Nat} : gSee g a b c d 110 = g 110 + 1 := gs_same
theorem plan_n {a b : Nat} : gPlan g a b 131 = g 131 + 1 := gs_same
theorem book_n {a b c : Nat} : gBook g a b c 148 = g 148 + 1 := gs_same
theorem OKs_rows (h : OKs g) (L : Lo g' g) (h1 : g' 110 ≤ 5) (h2 : g' 131 ≤ 8) (h3 : g' 148 ≤ 8)
    (a1 : ∀ r, r < g' 110 → g' (111 + 4 * r) ≤ 11 ∧ g' (112 + 4 * r) ≤ 12 ∧ g' (113 + 4 * r) ≤ 2 ∧ g' (114 + 4 * r) ≤ 20)
    (a2 : ∀ r, r < g' 131 → g' (132 + 2 * r) ≤ 3 ∧ (g' (132 + 2 * r) = 0 → 1 ≤ g' (133 + 2 * r) ∧ g' (133 + 2 * r) ≤ 12) ∧ (g' (132 + 2 * r) = 1 → g' (133 + 2 * r) ≤ 9) ∧ (g' (132 + 2 * r) = 2 → g' (133 + 2 * r) ≤ 9) ∧ (g' (132 + 2 * r) = 3 → g' (133 + 2 * r) ≤ 5))
    (a3 : ∀ r, r < g' 148 → g' (149 + 3 * r) ≤ 11 ∧ g' (150 + 3 * r) ≤ 12 ∧ g' (151 + 3 * r) ≤ 20) : OKs g' :=
  ⟨OKg_lo L h.1, by rw [L 0 (by omega)]; exact h.2.1, fun k hk => by rw [L _ (by omega)]; exact h.2.2.1 k hk, h1, h2, h3, a1, a2, a3⟩
end ROWS
