/-! ===== the law's loop ===== -/
section LOOP
variable {L : Nat} {xs : Nat → Int32}
abbrev Yes (o : Option (Int32 × Mem)) : Prop := ∃ t, o = some (1, lay t)
theorem Yes_ite {c : Prop} [Decidable c] {a b : Option (Int32 × Mem)} (ha : Yes a) (hb : Yes b) : Yes (if c then a else b) := by
  split
  · exact ha
  · exact hb
theorem Yes_bind {α : Type} {o : Option α} {a : α} {F : α → Option (Int32 × Mem)} (e : o = some a) (h : Yes (F a)) : Yes (o.bind F) := by
  rw [e]
  exact h
theorem Yes_bd {σ : Type} {f : Option (σ × Mem)} {a : σ} {μ : Mem} {F : σ → Mem → Option (Int32 × Mem)} (e : f = some (a, μ)) (h : Yes (F a μ)) : Yes (bd f F) := by
  rw [e]
  exact h
theorem Yes_call {σ : Type} {s : Sto} {f r : Mem → Option (σ × Mem)} {F : σ → Mem → Option (Int32 × Mem)} (h : Alike s f r) (k : ∀ a z y, r (lay z) = some (a, lay y) → Inv y → Yes (F a (lay z))) : Yes (bd (f (lay s)) F) := by
  obtain ⟨a, z, y, e1, e2, hy⟩ := h
  rw [e1]
  exact k a z y e2 hy
theorem Yes_pos {c : Prop} [Decidable c] {a b : Option (Int32 × Mem)} (hc : c) (ha : Yes a) : Yes (if c then a else b) := by
  rw [if_pos hc]
  exact ha
theorem sc_at {i : Nat} (hi : i < L) (hL : L ≤ 3584) : scA L xs (iN i) = some (xs i) := by
  unfold scA
  rw [iN_nat (by omega), if_pos (fun h => h.elim (iN_nn (by omega)) (by omega))]
set_option maxHeartbeats 4000000 in
set_option maxRecDepth 100000 in
theorem law_loop (hL : L ≤ 3584) : ∀ (n i : Nat) (s : Sto), L + 8 < n + i → i ≤ L → Inv s → Yes (L_law_L18 L xs 0 101 n (iN i) (lay s)) := by
  intro n
  induction n with
  | zero => intro i s h1 h2; omega
  | succ n ih =>
    intro i s hn hi H
    rw [L_law_L18]
    have hc : (Int32.ofNat L - (7 : Int32) < iN i) = (L < i + 7) := by
      show (iN L - iN 7 < iN i) = _
      rw [iN_iZ L, iN_iZ 7, iZ_sub, Int32.lt_iff_toInt_lt, iZ_toInt (by omega) (by omega), iN_toInt (by omega)]
      exact propext (by omega)
    by_cases c : L < i + 7
    · rw [if_pos (by rw [hc]; exact c)]
      exact ⟨s, rfl⟩
    · rw [if_neg (by rw [hc]; exact c)]
      have s0 : scA L xs (iN i) = some (xs i) := sc_at (by omega) hL
      have s1 : scA L xs (iN i + (1 : Int32)) = some (xs (i + 1)) := by rw [iN_addL]; exact sc_at (by omega) hL
      have s2 : scA L xs (iN i + (2 : Int32)) = some (xs (i + 2)) := by rw [iN_addL]; exact sc_at (by omega) hL
      have s3 : scA L xs (iN i + (3 : Int32)) = some (xs (i + 3)) := by rw [iN_addL]; exact sc_at (by omega) hL
      have s4 : scA L xs (iN i + (4 : Int32)) = some (xs (i + 4)) := by rw [iN_addL]; exact sc_at (by omega) hL
      have s5 : scA L xs (iN i + (5 : Int32)) = some (xs (i + 5)) := by rw [iN_addL]; exact sc_at (by omega) hL
      have s6 : scA L xs (iN i + (6 : Int32)) = some (xs (i + 6)) := by rw [iN_addL]; exact sc_at (by omega) hL
      have nx : ∀ z : Sto, Inv z → Yes (L_law_L18 L xs 0 101 n (iN i + 7) (lay z)) := fun z hz => by
        rw [iN_addL]
        exact ih (i + 7) z (by omega) (by omega) hz
      clear ih hc
      refine Yes_bind s0 ?_
      refine Yes_ite ?_ ?_
      · refine Yes_bind s1 ?_
        refine Yes_bind s2 ?_
        refine Yes_bind oc_0 ?_
        refine Yes_call (k_put H _ _) (fun a z y e2 hy => ?_)
        refine Yes_bind s1 ?_
        refine Yes_bind s2 ?_
        refine Yes_bind oc_101 ?_
        refine Yes_bd e2 ?_
        exact Yes_pos rfl (nx y hy)
      refine Yes_ite ?_ ?_
      · refine Yes_bind s1 ?_
        refine Yes_bind s2 ?_
        refine Yes_bind s3 ?_
        refine Yes_bind oc_0 ?_
        refine Yes_call (k_inflow H _ _ _) (fun a z y e2 hy => ?_)
        refine Yes_bind s1 ?_
        refine Yes_bind s2 ?_
        refine Yes_bind s3 ?_
        refine Yes_bind oc_101 ?_
        refine Yes_bd e2 ?_
        exact Yes_pos rfl (nx y hy)
      refine Yes_ite ?_ ?_
      · refine Yes_bind s1 ?_
        refine Yes_bind s2 ?_
        refine Yes_bind s3 ?_
        refine Yes_bind oc_0 ?_
        refine Yes_call (k_part H _ _ _) (fun a z y e2 hy => ?_)
        refine Yes_bind s1 ?_
        refine Yes_bind s2 ?_
        refine Yes_bind s3 ?_
        refine Yes_bind oc_101 ?_
        refine Yes_bd e2 ?_
        exact Yes_pos rfl (nx y hy)
      refine Yes_ite ?_ ?_
      · refine Yes_bind s1 ?_
        refine Yes_bind s2 ?_
        refine Yes_bind s3 ?_
        refine Yes_bind oc_0 ?_
        refine Yes_call (k_month H _ _ _) (fun a z y e2 hy => ?_)
        refine Yes_bind s1 ?_
        refine Yes_bind s2 ?_
        refine Yes_bind s3 ?_
        refine Yes_bind oc_101 ?_
        refine Yes_bd e2 ?_
        exact Yes_pos rfl (nx y hy)
      refine Yes_ite ?_ ?_
      · refine Yes_bind s1 ?_
        refine Yes_bind s2 ?_
        refine Yes_bind s3 ?_
        refine Yes_bind s4 ?_
        refine Yes_bind s5 ?_
        refine Yes_bind s6 ?_
        refine Yes_bind oc_0 ?_
        refine Yes_call (k_demand H _ _ _ _ _ _) (fun a z y e2 hy => ?_)
        refine Yes_bind s1 ?_
        refine Yes_bind s2 ?_
        refine Yes_bind s3 ?_
        refine Yes_bind s4 ?_
        refine Yes_bind s5 ?_
        refine Yes_bind s6 ?_
        refine Yes_bind oc_101 ?_
        refine Yes_bd e2 ?_
        exact Yes_pos rfl (nx y hy)
      refine Yes_ite ?_ ?_
      · refine Yes_bind s1 ?_
        refine Yes_bind s2 ?_
        refine Yes_bind s3 ?_
        refine Yes_bind oc_0 ?_
        refine Yes_call (k_renew H _ _ _) (fun a z y e2 hy => ?_)
        refine Yes_bind s1 ?_
        refine Yes_bind s2 ?_
        refine Yes_bind s3 ?_
        refine Yes_bind oc_101 ?_
        refine Yes_bd e2 ?_
        exact Yes_pos rfl (nx y hy)
      refine Yes_ite ?_ ?_
      · refine Yes_bind s1 ?_
        refine Yes_bind oc_0 ?_
        refine Yes_call (k_drop H _) (fun a z y e2 hy => ?_)
        refine Yes_bind s1 ?_
        refine Yes_bind oc_101 ?_
        refine Yes_bd e2 ?_
        exact Yes_pos rfl (nx y hy)
      refine Yes_ite ?_ ?_
      · refine Yes_bind s1 ?_
        refine Yes_bind oc_0 ?_
        refine Yes_call (k_feed H _) (fun a z y e2 hy => ?_)
        refine Yes_bind s1 ?_
        refine Yes_bind oc_101 ?_
        refine Yes_bd e2 ?_
        exact Yes_pos rfl (nx y hy)
      refine Yes_ite ?_ ?_
      · refine Yes_bind oc_0 ?_
        refine Yes_call (k_read H) (fun a z y e2 hy => ?_)
        refine Yes_bind oc_101 ?_
        refine Yes_bd e2 ?_
        exact Yes_pos rfl (nx y hy)
      refine Yes_ite ?_ ?_
      · refine Yes_bind s1 ?_
        refine Yes_bind oc_0 ?_
        refine Yes_call (k_told H _) (fun a z y e2 hy => ?_)
        refine Yes_bind s1 ?_
        refine Yes_bind oc_101 ?_
        refine Yes_bd e2 ?_
        exact Yes_pos rfl (nx y hy)
      refine Yes_ite ?_ ?_
      · refine Yes_bind s1 ?_
        refine Yes_bind s2 ?_
        refine Yes_bind oc_0 ?_
        refine Yes_call (k_monthOf H _ _) (fun a z y e2 hy => ?_)
        refine Yes_bind s1 ?_
        refine Yes_bind s2 ?_
        refine Yes_bind oc_101 ?_
        refine Yes_bd e2 ?_
        exact Yes_pos rfl (nx y hy)
      refine Yes_ite ?_ ?_
      · refine Yes_bind s1 ?_
        refine Yes_bind s2 ?_
        refine Yes_bind oc_0 ?_
        refine Yes_call (k_partOf H _ _) (fun a z y e2 hy => ?_)
        refine Yes_bind s1 ?_
        refine Yes_bind s2 ?_
        refine Yes_bind oc_101 ?_
        refine Yes_bd e2 ?_
        exact Yes_pos rfl (nx y hy)
      refine Yes_ite ?_ ?_
      · refine Yes_bind s1 ?_
        refine Yes_bind s2 ?_
        refine Yes_bind oc_0 ?_
        refine Yes_call (k_demandOf H _ _) (fun a z y e2 hy => ?_)
        refine Yes_bind s1 ?_
        refine Yes_bind s2 ?_
        refine Yes_bind oc_101 ?_
        refine Yes_bd e2 ?_
        exact Yes_pos rfl (nx y hy)
      refine Yes_ite ?_ ?_
      · refine Yes_bind s1 ?_
        refine Yes_bind s2 ?_
        refine Yes_bind oc_0 ?_
        refine Yes_call (k_taken H _ _) (fun a z y e2 hy => ?_)
        refine Yes_bind s1 ?_
        refine Yes_bind s2 ?_
        refine Yes_bind oc_101 ?_
        refine Yes_bd e2 ?_
        exact Yes_pos rfl (nx y hy)
      refine Yes_ite ?_ ?_
      · refine Yes_bind s1 ?_
        refine Yes_bind s2 ?_
        refine Yes_bind oc_0 ?_
        refine Yes_call (k_wanted H _ _) (fun a z y e2 hy => ?_)
        refine Yes_bind s1 ?_
        refine Yes_bind s2 ?_
        refine Yes_bind oc_101 ?_
        refine Yes_bd e2 ?_
        exact Yes_pos rfl (nx y hy)
      refine Yes_ite ?_ ?_
      · refine Yes_bind s1 ?_
        refine Yes_bind s2 ?_
        refine Yes_bind s3 ?_
        refine Yes_bind s4 ?_
        refine Yes_bind oc_0 ?_
        refine Yes_call (k_served H _ _ _ _) (fun a z y e2 hy => ?_)
        refine Yes_bind s1 ?_
        refine Yes_bind s2 ?_
        refine Yes_bind s3 ?_
        refine Yes_bind s4 ?_
        refine Yes_bind oc_101 ?_
        refine Yes_bd e2 ?_
        exact Yes_pos ((lg_cmp_eq a a).mpr rfl) (nx y hy)
      refine Yes_ite ?_ ?_
      · refine Yes_bind s1 ?_
        refine Yes_bind s2 ?_
        refine Yes_bind s3 ?_
        refine Yes_bind s4 ?_
        refine Yes_bind s5 ?_
        refine Yes_bind oc_0 ?_
        refine Yes_call (k_step H _ _ _ _ _) (fun a z y e2 hy => ?_)
        refine Yes_bind s1 ?_
        refine Yes_bind s2 ?_
        refine Yes_bind s3 ?_
        refine Yes_bind s4 ?_
        refine Yes_bind s5 ?_
        refine Yes_bind oc_101 ?_
        refine Yes_bd e2 ?_
        exact Yes_pos ((lg_cmp_eq a a).mpr rfl) (nx y hy)
      refine Yes_ite ?_ ?_
      · refine Yes_bind s1 ?_
        refine Yes_bind s2 ?_
        refine Yes_bind s3 ?_
        refine Yes_bind oc_0 ?_
        refine Yes_call (k_best H _ _ _) (fun a z y e2 hy => ?_)
        refine Yes_bind s1 ?_
        refine Yes_bind s2 ?_
        refine Yes_bind s3 ?_
        refine Yes_bind oc_101 ?_
        refine Yes_bd e2 ?_
        exact Yes_pos ((lg_cmp_eq a a).mpr rfl) (nx y hy)
      refine Yes_ite ?_ ?_
      · refine Yes_bind s1 ?_
        refine Yes_bind s2 ?_
        refine Yes_bind s3 ?_
        refine Yes_bind oc_0 ?_
        refine Yes_call (k_release H _ _ _) (fun a z y e2 hy => ?_)
        refine Yes_bind s1 ?_
        refine Yes_bind s2 ?_
        refine Yes_bind s3 ?_
        refine Yes_bind oc_101 ?_
        refine Yes_bd e2 ?_
        exact Yes_pos rfl (nx y hy)
      refine Yes_ite ?_ ?_
      · refine Yes_bind s1 ?_
        refine Yes_bind s2 ?_
        refine Yes_bind s3 ?_
        refine Yes_bind s4 ?_
        refine Yes_bind oc_0 ?_
        refine Yes_call (k_would H _ _ _ _) (fun a z y e2 hy => ?_)
        refine Yes_bind s1 ?_
        refine Yes_bind s2 ?_
        refine Yes_bind s3 ?_
        refine Yes_bind s4 ?_
        refine Yes_bind oc_101 ?_
        refine Yes_bd e2 ?_
        exact Yes_pos ((lg_cmp_eq a a).mpr rfl) (nx y hy)
      refine Yes_ite ?_ ?_
      · refine Yes_bind s1 ?_
        refine Yes_bind s2 ?_
        refine Yes_bind s3 ?_
        refine Yes_bind oc_0 ?_
        refine Yes_call (k_after H _ _ _) (fun a z y e2 hy => ?_)
        refine Yes_bind s1 ?_
        refine Yes_bind s2 ?_
        refine Yes_bind s3 ?_
        refine Yes_bind oc_101 ?_
        refine Yes_bd e2 ?_
        exact Yes_pos ((lg_cmp_eq a a).mpr rfl) (nx y hy)
      refine Yes_ite ?_ ?_
      · refine Yes_bind s1 ?_
        refine Yes_bind s2 ?_
        refine Yes_bind s3 ?_
        refine Yes_bind oc_0 ?_
        refine Yes_call (k_way H _ _ _) (fun a z y e2 hy => ?_)
        refine Yes_bind s1 ?_
        refine Yes_bind s2 ?_
        refine Yes_bind s3 ?_
        refine Yes_bind oc_101 ?_
        refine Yes_bd e2 ?_
        exact Yes_pos rfl (nx y hy)
      refine Yes_ite ?_ ?_
      · refine Yes_bind s1 ?_
        refine Yes_bind s2 ?_
        refine Yes_bind oc_0 ?_
        refine Yes_call (k_chance H _ _) (fun a z y e2 hy => ?_)
        refine Yes_bind s1 ?_
        refine Yes_bind s2 ?_
        refine Yes_bind oc_101 ?_
        refine Yes_bd e2 ?_
        exact Yes_pos ((lg_cmp_eq a a).mpr rfl) (nx y hy)
      refine Yes_ite ?_ ?_
      · refine Yes_bind s1 ?_
        refine Yes_bind s2 ?_
        refine Yes_bind s3 ?_
        refine Yes_bind s4 ?_
        refine Yes_bind oc_0 ?_
        refine Yes_call (k_worth H _ _ _ _) (fun a z y e2 hy => ?_)
        refine Yes_bind s1 ?_
        refine Yes_bind s2 ?_
        refine Yes_bind s3 ?_
        refine Yes_bind s4 ?_
        refine Yes_bind oc_101 ?_
        refine Yes_bd e2 ?_
        exact Yes_pos ((lg_cmp_eq a a).mpr rfl) (nx y hy)
      refine Yes_ite ?_ ?_
      · refine Yes_bind s1 ?_
        refine Yes_bind s2 ?_
        refine Yes_bind oc_0 ?_
        refine Yes_call (k_record H _ _) (fun a z y e2 hy => ?_)
        refine Yes_bind s1 ?_
        refine Yes_bind s2 ?_
        refine Yes_bind oc_101 ?_
        refine Yes_bd e2 ?_
        exact Yes_pos rfl (nx y hy)
      refine Yes_ite ?_ ?_
      · refine Yes_bind s1 ?_
        refine Yes_bind s2 ?_
        refine Yes_bind s3 ?_
        refine Yes_bind s4 ?_
        refine Yes_bind s5 ?_
        refine Yes_bind oc_0 ?_
        refine Yes_call (k_replay H _ _ _ _ _) (fun a z y e2 hy => ?_)
        refine Yes_bind s1 ?_
        refine Yes_bind s2 ?_
        refine Yes_bind s3 ?_
        refine Yes_bind s4 ?_
        refine Yes_bind s5 ?_
        refine Yes_bind oc_101 ?_
        refine Yes_bd e2 ?_
        exact Yes_pos ((lg_cmp_eq a a).mpr rfl) (nx y hy)
      refine Yes_ite ?_ ?_
      · refine Yes_bind s1 ?_
        refine Yes_bind s2 ?_
        refine Yes_bind s3 ?_
        refine Yes_bind s4 ?_
        refine Yes_bind s5 ?_
        refine Yes_bind oc_0 ?_
        refine Yes_call (k_sure H _ _ _ _ _) (fun a z y e2 hy => ?_)
        refine Yes_bind s1 ?_
        refine Yes_bind s2 ?_
        refine Yes_bind s3 ?_
        refine Yes_bind s4 ?_
        refine Yes_bind s5 ?_
        refine Yes_bind oc_101 ?_
        refine Yes_bd e2 ?_
        exact Yes_pos ((lg_cmp_eq a a).mpr rfl) (nx y hy)
      refine Yes_ite ?_ ?_
      · refine Yes_bind s1 ?_
        refine Yes_bind oc_0 ?_
        refine Yes_call (k_learn H _) (fun a z y e2 hy => ?_)
        refine Yes_bind s1 ?_
        refine Yes_bind oc_101 ?_
        refine Yes_bd e2 ?_
        exact Yes_pos rfl (nx y hy)
      refine Yes_ite ?_ ?_
      · refine Yes_bind s1 ?_
        refine Yes_bind s2 ?_
        refine Yes_bind s3 ?_
        refine Yes_bind s4 ?_
        refine Yes_bind oc_0 ?_
        refine Yes_call (k_see H _ _ _ _) (fun a z y e2 hy => ?_)
        refine Yes_bind s1 ?_
        refine Yes_bind s2 ?_
        refine Yes_bind s3 ?_
        refine Yes_bind s4 ?_
        refine Yes_bind oc_101 ?_
        refine Yes_bd e2 ?_
        exact Yes_pos rfl (nx y hy)
      refine Yes_ite ?_ ?_
      · refine Yes_bind s1 ?_
        refine Yes_bind oc_0 ?_
        refine Yes_call (k_fits H _) (fun a z y e2 hy => ?_)
        refine Yes_bind s1 ?_
        refine Yes_bind oc_101 ?_
        refine Yes_bd e2 ?_
        exact Yes_pos rfl (nx y hy)
      refine Yes_ite ?_ ?_
      · refine Yes_bind s1 ?_
        refine Yes_bind s2 ?_
        refine Yes_bind oc_0 ?_
        refine Yes_call (k_plan H _ _) (fun a z y e2 hy => ?_)
        refine Yes_bind s1 ?_
        refine Yes_bind s2 ?_
        refine Yes_bind oc_101 ?_
        refine Yes_bd e2 ?_
        exact Yes_pos rfl (nx y hy)
      refine Yes_ite ?_ ?_
      · refine Yes_bind s1 ?_
        refine Yes_bind s2 ?_
        refine Yes_bind oc_0 ?_
        refine Yes_call (k_ends H _ _) (fun a z y e2 hy => ?_)
        refine Yes_bind s1 ?_
        refine Yes_bind s2 ?_
        refine Yes_bind oc_101 ?_
        refine Yes_bd e2 ?_
        exact Yes_pos ((lg_cmp_eq a a).mpr rfl) (nx y hy)
      refine Yes_ite ?_ ?_
      · refine Yes_bind s1 ?_
        refine Yes_bind s2 ?_
        refine Yes_bind s3 ?_
        refine Yes_bind oc_0 ?_
        refine Yes_call (k_book H _ _ _) (fun a z y e2 hy => ?_)
        refine Yes_bind s1 ?_
        refine Yes_bind s2 ?_
        refine Yes_bind s3 ?_
        refine Yes_bind oc_101 ?_
        refine Yes_bd e2 ?_
        exact Yes_pos rfl (nx y hy)
      refine Yes_ite ?_ ?_
      · refine Yes_bind oc_0 ?_
        refine Yes_call (k_looked H) (fun a z y e2 hy => ?_)
        refine Yes_bind oc_101 ?_
        refine Yes_bd e2 ?_
        exact Yes_pos rfl (nx y hy)
      refine Yes_ite ?_ ?_
      · refine Yes_bind s1 ?_
        refine Yes_bind s2 ?_
        refine Yes_bind s3 ?_
        refine Yes_bind s4 ?_
        refine Yes_bind s5 ?_
        refine Yes_bind oc_0 ?_
        refine Yes_call (k_judge H _ _ _ _ _) (fun a z y e2 hy => ?_)
        refine Yes_bind s1 ?_
        refine Yes_bind s2 ?_
        refine Yes_bind s3 ?_
        refine Yes_bind s4 ?_
        refine Yes_bind s5 ?_
        refine Yes_bind oc_101 ?_
        refine Yes_bd e2 ?_
        exact Yes_pos rfl (nx y hy)
      refine Yes_ite ?_ ?_
      · refine Yes_bind oc_0 ?_
        refine Yes_call (k_image H) (fun a z y e2 hy => ?_)
        refine Yes_bind oc_101 ?_
        refine Yes_bd e2 ?_
        exact Yes_pos rfl (nx y hy)
      refine Yes_ite ?_ ?_
      · refine Yes_bind oc_0 ?_
        refine Yes_call (k_undo H) (fun a z y e2 hy => ?_)
        refine Yes_bind oc_101 ?_
        refine Yes_bd e2 ?_
        exact Yes_pos rfl (nx y hy)
      refine Yes_ite ?_ ?_
      · refine Yes_bind s1 ?_
        refine Yes_bind oc_0 ?_
        refine Yes_call (k_count H _) (fun a z y e2 hy => ?_)
        refine Yes_bind s1 ?_
        refine Yes_bind oc_101 ?_
        refine Yes_bd e2 ?_
        exact Yes_pos rfl (nx y hy)
      refine Yes_ite ?_ ?_
      · refine Yes_bind s1 ?_
        refine Yes_bind s2 ?_
        refine Yes_bind s3 ?_
        refine Yes_bind oc_0 ?_
        refine Yes_call (k_tape H _ _ _) (fun a z y e2 hy => ?_)
        refine Yes_bind s1 ?_
        refine Yes_bind s2 ?_
        refine Yes_bind s3 ?_
        refine Yes_bind oc_101 ?_
        refine Yes_bd e2 ?_
        exact Yes_pos rfl (nx y hy)
      refine Yes_ite ?_ ?_
      · refine Yes_bind s1 ?_
        refine Yes_bind s2 ?_
        refine Yes_bind s3 ?_
        refine Yes_bind s4 ?_
        refine Yes_bind oc_0 ?_
        refine Yes_call (k_item H _ _ _) (fun a z y e2 hy => ?_)
        refine Yes_bind s1 ?_
        refine Yes_bind s2 ?_
        refine Yes_bind s3 ?_
        refine Yes_bind s4 ?_
        refine Yes_bind oc_101 ?_
        refine Yes_bd e2 ?_
        exact Yes_pos rfl (nx y hy)
      refine Yes_ite ?_ ?_
      · refine Yes_bind s1 ?_
        refine Yes_bind s2 ?_
        refine Yes_bind oc_0 ?_
        refine Yes_call (k_peek H _ _) (fun a z y e2 hy => ?_)
        refine Yes_bind s1 ?_
        refine Yes_bind s2 ?_
        refine Yes_bind oc_101 ?_
        refine Yes_bd e2 ?_
        exact Yes_pos ((lg_cmp_eq a a).mpr rfl) (nx y hy)
      refine Yes_ite ?_ ?_
      · refine Yes_bind s1 ?_
        refine Yes_bind s2 ?_
        refine Yes_bind s3 ?_
        refine Yes_bind s4 ?_
        refine Yes_bind s5 ?_
        refine Yes_bind oc_0 ?_
        refine Yes_call (k_shift H _ _ _ _ _) (fun a z y e2 hy => ?_)
        refine Yes_bind s1 ?_
        refine Yes_bind s2 ?_
        refine Yes_bind s3 ?_
        refine Yes_bind s4 ?_
        refine Yes_bind s5 ?_
        refine Yes_bind oc_101 ?_
        refine Yes_bd e2 ?_
        exact Yes_pos rfl (nx y hy)
      exact nx s H
end LOOP
