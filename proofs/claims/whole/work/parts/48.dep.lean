/-! ===== what the best depends on ===== -/
section DEP
variable {g g' : Nat → Nat}
/-- the same demands -/
def Dm (g' g : Nat → Nat) : Prop := g' 73 = g 73 ∧ g 73 ≤ 6 ∧ ∀ d f, d < 6 → f < 6 → dF g' d f = dF g d f
theorem dm_want (D : Dm g' g) {d m : Nat} (hd : d < 6) : wantS g' d m = wantS g d m := by
  unfold wantS inB
  rw [D.2.2 d 0 hd (by omega), D.2.2 d 2 hd (by omega), D.2.2 d 4 hd (by omega), D.2.2 d 5 hd (by omega)]
theorem dm_gain (D : Dm g' g) {d x y : Nat} (hd : d < 6) : gainS g' d x y = gainS g d x y := by
  unfold gainS
  rw [D.2.2 d 0 hd (by omega), D.2.2 d 3 hd (by omega)]
theorem dm_rkTo (D : Dm g' g) {d : Nat} (hd : d < 6) : ∀ n, n ≤ 6 → rkTo g' d n = rkTo g d n
  | 0, _ => rfl
  | n + 1, h => by
    unfold rkTo
    rw [dm_rkTo D hd n (by omega)]
    unfold ahS
    rw [D.2.2 n 1 (by omega) (by omega), D.2.2 d 1 hd (by omega)]
theorem dm_rk (D : Dm g' g) {d : Nat} (hd : d < 6) : rkS g' d = rkS g d := by
  unfold rkS
  rw [D.1, dm_rkTo D hd _ D.2.1]
theorem lnTo_le6 (g : Nat → Nat) (k : Nat) : ∀ n, lnTo g k n ≤ n
  | 0 => Nat.le_refl _
  | n + 1 => by
    have := lnTo_le6 g k n
    unfold lnTo
    split <;> omega
theorem dm_lnTo (D : Dm g' g) (k : Nat) : ∀ n, n ≤ 6 → lnTo g' k n = lnTo g k n
  | 0, _ => rfl
  | n + 1, h => by
    have := lnTo_le6 g k n
    unfold lnTo
    rw [dm_lnTo D k n (by omega), dm_rk D (by omega)]
theorem dm_ln (D : Dm g' g) (k : Nat) : lnS g' k = lnS g k ∧ lnS g k < 6 := by
  have h1 := D.2.1
  have h2 := lnTo_le6 g k (g 73 - 1)
  unfold lnS
  rw [D.1]
  exact ⟨dm_lnTo D k _ (by omega), by omega⟩
theorem dm_rest (D : Dm g' g) (m x : Nat) : ∀ k, restS g' m x k = restS g m x k
  | 0 => rfl
  | k + 1 => by
    unfold restS
    rw [dm_rest D m x k, (dm_ln D k).1, dm_want D (dm_ln D k).2]
theorem dm_sum (D : Dm g' g) (m x : Nat) : ∀ k, sumS g' m x k = sumS g m x k
  | 0 => rfl
  | k + 1 => by
    unfold sumS gotS
    rw [dm_sum D m x k, dm_rest D, (dm_ln D k).1, dm_want D (dm_ln D k).2, dm_gain D (dm_ln D k).2]
theorem dm_gains (D : Dm g' g) (m x : Nat) : gainsS g' m x = gainsS g m x := by
  unfold gainsS
  rw [D.1, dm_sum D]
/-- the same reservoir -/
def Lo (g' g : Nat → Nat) : Prop := ∀ k, k < 110 → g' k = g k
theorem Lo.dm (L : Lo g' g) (h : g 73 ≤ 6) : Dm g' g := ⟨L _ (by omega), h, fun d f hd hf => by unfold dF; exact L _ (by omega)⟩
theorem lo_next (L : Lo g' g) {m x q r : Nat} (hm : m < 12) : nextS g' m x q r = nextS g m x q r := by
  unfold nextS restoS thereS driedS topS
  rw [L 0 (by omega), L (49 + m) (by omega), L (61 + m) (by omega)]
theorem lo_yield (L : Lo g' g) (h : g 73 ≤ 6) {m x q r : Nat} (hm : m < 12) : yieldS g' m x q r = yieldS g m x q r := by
  unfold yieldS spillS
  rw [lo_next L hm, dm_gains (L.dm h)]
  unfold restoS thereS driedS
  rw [L 2 (by omega), L (49 + m) (by omega)]
theorem lo_part (L : Lo g' g) {i j : Nat} (hi : i < 3) (hj : j < 3) : partS g' i j = partS g i j := L _ (by omega)
theorem lo_parts (L : Lo g' g) {i : Nat} (hi : i < 3) : partsS g' i = partsS g i := by
  unfold partsS
  rw [lo_part L hi (by omega), lo_part L hi (by omega), lo_part L hi (by omega)]
theorem lo_mean (L : Lo g' g) {T T' : Nat → Nat → UInt32} (hT : ∀ x j, j < 3 → T' x j = T x j) {x i : Nat} (hi : i < 3) : meanS g' T' x i = meanS g T x i := by
  unfold meanS smS smS smS smS
  rw [lo_parts L hi, lo_part L hi (by omega), lo_part L hi (by omega), lo_part L hi (by omega), hT _ _ (by omega), hT _ _ (by omega), hT _ _ (by omega)]
theorem lo_val (L : Lo g' g) (h : g 73 ≤ 6) {T T' : Nat → Nat → UInt32} (hT : ∀ x j, j < 3 → T' x j = T x j) {m x i r : Nat} (hm : m < 12) (hi : i < 3) : valS g' T' m x i r = valS g T m x i r := by
  unfold valS
  rw [L (4 + 3 * m + i) (by omega), lo_yield L h hm, lo_next L hm, lo_mean L hT hi]
theorem lo_bst (L : Lo g' g) (h : g 73 ≤ 6) (h1 : g 1 ≤ 12) : ∀ k x i, i < 3 → 1 ≤ g 1 → bstS g' k x i = bstS g k x i
  | 0, x, i, _, _ => by
    unfold bstS
    rw [L 3 (by omega)]
  | k + 1, x, i, hi, h2 => by
    unfold bstS
    rw [L 1 (by omega), pick_congr 20 (fun r _ => lo_val L h (fun x j hj => lo_bst L h h1 k x j hj h2) (by omega) hi)]
theorem lo_rls (L : Lo g' g) (h : g 73 ≤ 6) (h1 : g 1 ≤ 12) {k x i : Nat} (hi : i < 3) (h2 : 1 ≤ g 1) : rlsS g' k x i = rlsS g k x i := by
  cases k with
  | zero => rfl
  | succ k =>
    show (pickS (valS g' (bstS g' k) (g' 1 - (k + 1)) x i) 20).2 = (pickS (valS g (bstS g k) (g 1 - (k + 1)) x i) 20).2
    rw [L 1 (by omega), pick_congr 20 (fun r _ => lo_val L h (fun x j hj => lo_bst L h h1 k x j hj h2) (by omega) hi)]
theorem lo_GNs (L : Lo g' g) (h : g 73 ≤ 6) {f : Nat} {fg : Nat → Int32} (H : GNs g f fg) : GNs g' f fg := fun m y h1 h2 h3 => by
  rw [L 1 (by omega)] at h2
  rw [dm_gains (L.dm h)]
  exact H m y h1 h2 h3
theorem lo_TBs (L : Lo g' g) (hg : OKg g) {f : Nat} {fb fm : Nat → UInt32} {fr : Nat → Int32} (H : TBs g f fb fm fr) : TBs g' f fb fm fr := by
  have b := hg.1
  obtain ⟨h1, h2, h3⟩ := H
  have h73 : g 73 ≤ 6 := by omega
  have e1 := L 1 (by omega)
  refine ⟨fun m x i a1 a2 a3 a4 => ?_, fun m x i a1 a2 a3 a4 => ?_, fun m x i a1 a2 a3 a4 => ?_⟩
  · rw [e1] at a2; rw [L 0 (by omega)] at a3
    rw [e1, lo_bst L h73 (by omega) _ _ _ a4 (by omega)]
    exact h1 m x i a1 a2 a3 a4
  · rw [e1] at a2; rw [L 0 (by omega)] at a3
    rw [e1, lo_rls L h73 (by omega) a4 (by omega)]
    exact h2 m x i a1 a2 a3 a4
  · rw [e1] at a2; rw [L 0 (by omega)] at a3
    rw [e1, lo_mean L (fun x j hj => lo_bst L h73 (by omega) _ x j hj (by omega)) a4]
    exact h3 m x i a1 a2 a3 a4
theorem OKg_lo (L : Lo g' g) (h : OKg g) : OKg g' := by
  obtain ⟨h1, h2, h3, h4, h5, h6, h7⟩ := h
  refine ⟨?_, fun a ha => ?_, fun a ha => ?_, fun i hi => ?_, fun a ha => ?_, fun a ha => ?_, fun d hd => ?_⟩
  · rw [L 0 (by omega), L 1 (by omega), L 2 (by omega), L 3 (by omega), L 73 (by omega)]; exact h1
  · rw [L _ (by omega)]; exact h2 a ha
  · rw [L _ (by omega)]; exact h3 a ha
  · rw [lo_parts L hi]; exact h4 i hi
  · rw [L _ (by omega)]; exact h5 a ha
  · rw [L _ (by omega)]; exact h6 a ha
  · rw [L 73 (by omega)] at hd
    have := h7 d hd
    have D := (L.dm h1.2.2.2.2.2.2).2.2 d
    rw [D 0 (by omega) (by omega), D 1 (by omega) (by omega), D 2 (by omega) (by omega), D 3 (by omega) (by omega), D 4 (by omega) (by omega), D 5 (by omega) (by omega)]
    exact this
theorem RB_lo {s : Sto} {p : Nat} (L : Lo g' g) (hg : g 73 ≤ 6) (h : RB s p g) : RB s p g' := by
  have D := L.dm hg
  refine ⟨RC_gcongr h.1 (fun k hk => L k (by omega)) (fun d f hd hf => D.2.2 d f (by omega) hf), fun k hk => ?_⟩
  rw [D.1] at hk
  rw [(dm_ln D k).1]
  exact h.2 k hk
/-- the same reservoir, and the same that is seen: the same fits -/
theorem lo_fit (L : ∀ k, k < 131 → g' k = g k) (hg : OKs g) : ∀ n, fitS g' n = fitS g n := by
  have b := hg.1.1
  have key : ∀ v n, n ≤ 5 → n ≤ g 110 → seenB g' v n = seenB g v n := by
    intro v n
    induction n with
    | zero => intro _ _; rfl
    | succ n ih =>
      intro h1 h2
      have hb := hg.2.2.2.2.2.2.1 n (by omega)
      unfold seenB
      rw [ih (by omega) (by omega)]
      unfold lfB
      rw [L 0 (by omega), L 1 (by omega), L (111 + 4 * n) (by omega), L (112 + 4 * n) (by omega), L (113 + 4 * n) (by omega), L (114 + 4 * n) (by omega)]
      have L3 : Lo (fun k => if k = 3 then v else g' k) (fun k => if k = 3 then v else g k) := fun k hk => by
        show (if k = 3 then v else g' k) = if k = 3 then v else g k
        rw [L k (by omega)]
      rw [lo_rls L3 (by show (if 73 = 3 then v else g 73) ≤ 6; rw [if_neg (by omega)]; omega) (by show (if 1 = 3 then v else g 1) ≤ 12; rw [if_neg (by omega)]; omega) (by omega) (by show 1 ≤ (if 1 = 3 then v else g 1); rw [if_neg (by omega)]; omega)]
  intro n
  induction n with
  | zero => rfl
  | succ n ih =>
    unfold fitS
    rw [ih, L 110 (by omega), key _ _ hg.2.2.2.1 (Nat.le_refl _)]
theorem Ic_lo {s : Sto} (L : ∀ k, k < 131 → g' k = g k) (hg : OKs g) (h : Ic s g) : Ic s g' := by
  have L2 : Lo g' g := fun k hk => L k (by omega)
  have b := hg.1.1
  unfold Ic
  rw [lo_fit L hg]
  refine ⟨?_, h.2⟩
  rcases h.1 with h | ⟨h1, h2, h3⟩
  · exact Or.inl h
  · exact Or.inr ⟨h1, lo_GNs L2 (by omega) h2, lo_TBs L2 hg.1 h3⟩
theorem Ic_see {s : Sto} (L : Lo g' g) (hg : OKs g) (h : Ic s g) (h7 : s.1 0 7 = 0) : Ic s g' := by
  have b := hg.1.1
  refine ⟨?_, Or.inl h7⟩
  rcases h.1 with h | ⟨h1, h2, h3⟩
  · exact Or.inl h
  · exact Or.inr ⟨h1, lo_GNs L (by omega) h2, lo_TBs L hg.1 h3⟩
end DEP
