abbrev lawA (s : State) : Nat → Prop := fun q => s.heap.size ≤ q
abbrev lawG : Cond := Jvm.Cond.and given_1 narrow_1
def gvL : List Cond := flatC lawG
theorem gv_at {args : Array Value} {s : State} (h : lawG.before args s = true) (i : Nat) {w : Cond} (hi : gvL[i]? = some w) : w.before args s = true := flat_of_before _ h w (List.mem_of_getElem? hi)
theorem tb_at {args : Array Value} {s : State} (h : ∀ w ∈ lw_tbl, w.before args s = true) (i : Nat) {w : Cond} (hi : lw_tbl[i]? = some w) : w.before args s = true := h w (List.mem_of_getElem? hi)
theorem st_KIND_ABOVE {args : Array Value} {s : State} (ht : ∀ w ∈ lw_tbl, w.before args s = true) (hg : lawG.before args s = true) : ∃ t : Nat, va_Z "ReservoirMind" "KIND_ABOVE" "[I" (.ref t) (lawA s) s s.heap ∧ va_T .int t 5 (fun i => .int (([-1, 0, 0, 1, 0] : List Int32).getD i 0)) (lawA s) s s.heap := by
  obtain ⟨t, h1, h2⟩ := va_Tof (tm := .static "ReservoirMind" "KIND_ABOVE" "[I") (ty := .int) (N := 5) (f := fun i => .int (([-1, 0, 0, 1, 0] : List Int32).getD i 0)) (A := lawA s) (by decide) (gv_at hg 36 (by decide +kernel)) (va_eqt (t := .length (.static "ReservoirMind" "KIND_ABOVE" "[I")) (gv_at hg 37 (by decide +kernel))) (fun j hj => match j, hj with
    | 0, _ => va_eqt (t := .elem (.static "ReservoirMind" "KIND_ABOVE" "[I") (.int 0)) (gv_at hg 38 (by decide +kernel))
    | 1, _ => va_eqt (t := .elem (.static "ReservoirMind" "KIND_ABOVE" "[I") (.int 1)) (gv_at hg 39 (by decide +kernel))
    | 2, _ => va_eqt (t := .elem (.static "ReservoirMind" "KIND_ABOVE" "[I") (.int 2)) (gv_at hg 40 (by decide +kernel))
    | 3, _ => va_eqt (t := .elem (.static "ReservoirMind" "KIND_ABOVE" "[I") (.int 3)) (gv_at hg 41 (by decide +kernel))
    | 4, _ => va_eqt (t := .elem (.static "ReservoirMind" "KIND_ABOVE" "[I") (.int 4)) (gv_at hg 42 (by decide +kernel))
    | n + 5, h => absurd h (by omega)) (fun a h => Nat.not_le.mpr h)
  exact ⟨t, va_Zref (tb_at ht 697 (by decide +kernel)) (tb_at ht 58 (by decide +kernel)) h1 (fun a h => Nat.not_le.mpr h), h2⟩
theorem st_SETTING_LEAST {args : Array Value} {s : State} (ht : ∀ w ∈ lw_tbl, w.before args s = true) (hg : lawG.before args s = true) : ∃ t : Nat, va_Z "ReservoirMind" "SETTING_LEAST" "[I" (.ref t) (lawA s) s s.heap ∧ va_T .int t 4 (fun i => .int (([1, 1, 0, 0] : List Int32).getD i 0)) (lawA s) s s.heap := by
  obtain ⟨t, h1, h2⟩ := va_Tof (tm := .static "ReservoirMind" "SETTING_LEAST" "[I") (ty := .int) (N := 4) (f := fun i => .int (([1, 1, 0, 0] : List Int32).getD i 0)) (A := lawA s) (by decide) (gv_at hg 5 (by decide +kernel)) (va_eqt (t := .length (.static "ReservoirMind" "SETTING_LEAST" "[I")) (gv_at hg 6 (by decide +kernel))) (fun j hj => match j, hj with
    | 0, _ => va_eqt (t := .elem (.static "ReservoirMind" "SETTING_LEAST" "[I") (.int 0)) (gv_at hg 7 (by decide +kernel))
    | 1, _ => va_eqt (t := .elem (.static "ReservoirMind" "SETTING_LEAST" "[I") (.int 1)) (gv_at hg 8 (by decide +kernel))
    | 2, _ => va_eqt (t := .elem (.static "ReservoirMind" "SETTING_LEAST" "[I") (.int 2)) (gv_at hg 9 (by decide +kernel))
    | 3, _ => va_eqt (t := .elem (.static "ReservoirMind" "SETTING_LEAST" "[I") (.int 3)) (gv_at hg 10 (by decide +kernel))
    | n + 4, h => absurd h (by omega)) (fun a h => Nat.not_le.mpr h)
  exact ⟨t, va_Zref (tb_at ht 446 (by decide +kernel)) (tb_at ht 58 (by decide +kernel)) h1 (fun a h => Nat.not_le.mpr h), h2⟩
theorem st_SETTING_MOST {args : Array Value} {s : State} (ht : ∀ w ∈ lw_tbl, w.before args s = true) (hg : lawG.before args s = true) : ∃ t : Nat, va_Z "ReservoirMind" "SETTING_MOST" "[I" (.ref t) (lawA s) s s.heap ∧ va_T .int t 4 (fun i => .int (([12, 12, 9, 99] : List Int32).getD i 0)) (lawA s) s s.heap := by
  obtain ⟨t, h1, h2⟩ := va_Tof (tm := .static "ReservoirMind" "SETTING_MOST" "[I") (ty := .int) (N := 4) (f := fun i => .int (([12, 12, 9, 99] : List Int32).getD i 0)) (A := lawA s) (by decide) (gv_at hg 12 (by decide +kernel)) (va_eqt (t := .length (.static "ReservoirMind" "SETTING_MOST" "[I")) (gv_at hg 13 (by decide +kernel))) (fun j hj => match j, hj with
    | 0, _ => va_eqt (t := .elem (.static "ReservoirMind" "SETTING_MOST" "[I") (.int 0)) (gv_at hg 14 (by decide +kernel))
    | 1, _ => va_eqt (t := .elem (.static "ReservoirMind" "SETTING_MOST" "[I") (.int 1)) (gv_at hg 15 (by decide +kernel))
    | 2, _ => va_eqt (t := .elem (.static "ReservoirMind" "SETTING_MOST" "[I") (.int 2)) (gv_at hg 16 (by decide +kernel))
    | 3, _ => va_eqt (t := .elem (.static "ReservoirMind" "SETTING_MOST" "[I") (.int 3)) (gv_at hg 17 (by decide +kernel))
    | n + 4, h => absurd h (by omega)) (fun a h => Nat.not_le.mpr h)
  exact ⟨t, va_Zref (tb_at ht 448 (by decide +kernel)) (tb_at ht 58 (by decide +kernel)) h1 (fun a h => Nat.not_le.mpr h), h2⟩
theorem st_RENEW_LEAST {args : Array Value} {s : State} (ht : ∀ w ∈ lw_tbl, w.before args s = true) (hg : lawG.before args s = true) : ∃ t : Nat, va_Z "ReservoirMind" "RENEW_LEAST" "[I" (.ref t) (lawA s) s s.heap ∧ va_T .int t 3 (fun i => .int (([0, 1, 0] : List Int32).getD i 0)) (lawA s) s s.heap := by
  obtain ⟨t, h1, h2⟩ := va_Tof (tm := .static "ReservoirMind" "RENEW_LEAST" "[I") (ty := .int) (N := 3) (f := fun i => .int (([0, 1, 0] : List Int32).getD i 0)) (A := lawA s) (by decide) (gv_at hg 19 (by decide +kernel)) (va_eqt (t := .length (.static "ReservoirMind" "RENEW_LEAST" "[I")) (gv_at hg 20 (by decide +kernel))) (fun j hj => match j, hj with
    | 0, _ => va_eqt (t := .elem (.static "ReservoirMind" "RENEW_LEAST" "[I") (.int 0)) (gv_at hg 21 (by decide +kernel))
    | 1, _ => va_eqt (t := .elem (.static "ReservoirMind" "RENEW_LEAST" "[I") (.int 1)) (gv_at hg 22 (by decide +kernel))
    | 2, _ => va_eqt (t := .elem (.static "ReservoirMind" "RENEW_LEAST" "[I") (.int 2)) (gv_at hg 23 (by decide +kernel))
    | n + 3, h => absurd h (by omega)) (fun a h => Nat.not_le.mpr h)
  exact ⟨t, va_Zref (tb_at ht 497 (by decide +kernel)) (tb_at ht 58 (by decide +kernel)) h1 (fun a h => Nat.not_le.mpr h), h2⟩
theorem st_RENEW_MOST {args : Array Value} {s : State} (ht : ∀ w ∈ lw_tbl, w.before args s = true) (hg : lawG.before args s = true) : ∃ t : Nat, va_Z "ReservoirMind" "RENEW_MOST" "[I" (.ref t) (lawA s) s s.heap ∧ va_T .int t 3 (fun i => .int (([9, 9, 99] : List Int32).getD i 0)) (lawA s) s s.heap := by
  obtain ⟨t, h1, h2⟩ := va_Tof (tm := .static "ReservoirMind" "RENEW_MOST" "[I") (ty := .int) (N := 3) (f := fun i => .int (([9, 9, 99] : List Int32).getD i 0)) (A := lawA s) (by decide) (gv_at hg 25 (by decide +kernel)) (va_eqt (t := .length (.static "ReservoirMind" "RENEW_MOST" "[I")) (gv_at hg 26 (by decide +kernel))) (fun j hj => match j, hj with
    | 0, _ => va_eqt (t := .elem (.static "ReservoirMind" "RENEW_MOST" "[I") (.int 0)) (gv_at hg 27 (by decide +kernel))
    | 1, _ => va_eqt (t := .elem (.static "ReservoirMind" "RENEW_MOST" "[I") (.int 1)) (gv_at hg 28 (by decide +kernel))
    | 2, _ => va_eqt (t := .elem (.static "ReservoirMind" "RENEW_MOST" "[I") (.int 2)) (gv_at hg 29 (by decide +kernel))
    | n + 3, h => absurd h (by omega)) (fun a h => Nat.not_le.mpr h)
  exact ⟨t, va_Zref (tb_at ht 499 (by decide +kernel)) (tb_at ht 58 (by decide +kernel)) h1 (fun a h => Nat.not_le.mpr h), h2⟩
theorem st_compact {args : Array Value} {s : State} (ht : ∀ w ∈ lw_tbl, w.before args s = true) (hg : lawG.before args s = true) : va_Z "java/lang/String" "COMPACT_STRINGS" "Z" (.int 1) (lawA s) s s.heap :=
  va_Zof (tb_at ht 591 (by decide +kernel)) (tb_at ht 70 (by decide +kernel)) (va_eqt (gv_at hg 30 (by decide +kernel))) (fun a h => Nat.not_le.mpr h)
theorem st_format {args : Array Value} {s : State} (ht : ∀ w ∈ lw_tbl, w.before args s = true) (hg : lawG.before args s = true) : va_Zq "jdk/internal/util/Preconditions" "SIOOBE_FORMATTER" "Ljava/util/function/BiFunction;" (lawA s) s s.heap :=
  va_Zqof (tb_at ht 607 (by decide +kernel)) (tb_at ht 72 (by decide +kernel)) (gv_at hg 31 (by decide +kernel)) (fun a h => Nat.not_le.mpr h)
def txTm : Nat → Term := fun i => .string "ReservoirMind$Clauses" ((textA.map (fun q => q.1)).getD i 0)
theorem st_texts {args : Array Value} {s : State} (hg : lawG.before args s = true) : ∃ adK adV : Nat → Nat, vk_S 6 (textA.map (fun q => q.2.2.length)) (textA.map (fun q => q.2.2)) adK adV (lawA s) s s.heap ∧ ∀ i : Nat, i < 6 → (txTm i).eval args s none [] s = some (.ref (adK i)) :=
  vk_Sof (tm := txTm) (A := lawA s) (by decide) (fun i hi => match i, hi with
    | 0, _ => gv_at hg 79 (by decide +kernel)
    | 1, _ => gv_at hg 91 (by decide +kernel)
    | 2, _ => gv_at hg 101 (by decide +kernel)
    | 3, _ => gv_at hg 111 (by decide +kernel)
    | 4, _ => gv_at hg 121 (by decide +kernel)
    | 5, _ => gv_at hg 130 (by decide +kernel)
    | n + 6, h => absurd h (by omega)) (fun i hi => match i, hi with
    | 0, _ => gv_at hg 80 (by decide +kernel)
    | 1, _ => gv_at hg 92 (by decide +kernel)
    | 2, _ => gv_at hg 102 (by decide +kernel)
    | 3, _ => gv_at hg 112 (by decide +kernel)
    | 4, _ => gv_at hg 122 (by decide +kernel)
    | 5, _ => gv_at hg 131 (by decide +kernel)
    | n + 6, h => absurd h (by omega)) (fun i hi => match i, hi with
    | 0, _ => gv_at hg 81 (by decide +kernel)
    | 1, _ => gv_at hg 93 (by decide +kernel)
    | 2, _ => gv_at hg 103 (by decide +kernel)
    | 3, _ => gv_at hg 113 (by decide +kernel)
    | 4, _ => gv_at hg 123 (by decide +kernel)
    | 5, _ => gv_at hg 132 (by decide +kernel)
    | n + 6, h => absurd h (by omega)) (fun i hi => match i, hi with
    | 0, _ => gv_at hg 82 (by decide +kernel)
    | 1, _ => gv_at hg 94 (by decide +kernel)
    | 2, _ => gv_at hg 104 (by decide +kernel)
    | 3, _ => gv_at hg 114 (by decide +kernel)
    | 4, _ => gv_at hg 124 (by decide +kernel)
    | 5, _ => gv_at hg 133 (by decide +kernel)
    | n + 6, h => absurd h (by omega)) (fun i hi => match i, hi with
    | 0, _ => fun j hj => match j, hj with | 0, _ => gv_at hg 83 (by decide +kernel) | 1, _ => gv_at hg 84 (by decide +kernel) | 2, _ => gv_at hg 85 (by decide +kernel) | 3, _ => gv_at hg 86 (by decide +kernel) | 4, _ => gv_at hg 87 (by decide +kernel) | 5, _ => gv_at hg 88 (by decide +kernel) | 6, _ => gv_at hg 89 (by decide +kernel) | 7, _ => gv_at hg 90 (by decide +kernel) | n + 8, h => absurd h (by show ¬ n + 8 < 8; omega)
    | 1, _ => fun j hj => match j, hj with | 0, _ => gv_at hg 95 (by decide +kernel) | 1, _ => gv_at hg 96 (by decide +kernel) | 2, _ => gv_at hg 97 (by decide +kernel) | 3, _ => gv_at hg 98 (by decide +kernel) | 4, _ => gv_at hg 99 (by decide +kernel) | n + 5, h => absurd h (by show ¬ n + 5 < 5; omega)
    | 2, _ => fun j hj => match j, hj with | 0, _ => gv_at hg 105 (by decide +kernel) | 1, _ => gv_at hg 106 (by decide +kernel) | 2, _ => gv_at hg 107 (by decide +kernel) | 3, _ => gv_at hg 108 (by decide +kernel) | n + 4, h => absurd h (by show ¬ n + 4 < 4; omega)
    | 3, _ => fun j hj => match j, hj with | 0, _ => gv_at hg 115 (by decide +kernel) | 1, _ => gv_at hg 116 (by decide +kernel) | 2, _ => gv_at hg 117 (by decide +kernel) | n + 3, h => absurd h (by show ¬ n + 3 < 3; omega)
    | 4, _ => fun j hj => match j, hj with | 0, _ => gv_at hg 125 (by decide +kernel) | n + 1, h => absurd h (by show ¬ n + 1 < 1; omega)
    | 5, _ => fun j hj => match j, hj with | n + 0, h => absurd h (by show ¬ n + 0 < 0; omega)
    | n + 6, h => absurd h (by omega)) (fun i j hi hj hij => match i, j, hi, hj, hij with
    | 0, 0, _, _, h => absurd rfl h
    | 0, 1, _, _, h => Or.inl (gv_at hg 100 (by decide +kernel))
    | 0, 2, _, _, h => Or.inl (gv_at hg 109 (by decide +kernel))
    | 0, 3, _, _, h => Or.inl (gv_at hg 118 (by decide +kernel))
    | 0, 4, _, _, h => Or.inl (gv_at hg 126 (by decide +kernel))
    | 0, 5, _, _, h => Or.inl (gv_at hg 134 (by decide +kernel))
    | 1, 0, _, _, h => Or.inr (gv_at hg 100 (by decide +kernel))
    | 1, 1, _, _, h => absurd rfl h
    | 1, 2, _, _, h => Or.inl (gv_at hg 110 (by decide +kernel))
    | 1, 3, _, _, h => Or.inl (gv_at hg 119 (by decide +kernel))
    | 1, 4, _, _, h => Or.inl (gv_at hg 127 (by decide +kernel))
    | 1, 5, _, _, h => Or.inl (gv_at hg 135 (by decide +kernel))
    | 2, 0, _, _, h => Or.inr (gv_at hg 109 (by decide +kernel))
    | 2, 1, _, _, h => Or.inr (gv_at hg 110 (by decide +kernel))
    | 2, 2, _, _, h => absurd rfl h
    | 2, 3, _, _, h => Or.inl (gv_at hg 120 (by decide +kernel))
    | 2, 4, _, _, h => Or.inl (gv_at hg 128 (by decide +kernel))
    | 2, 5, _, _, h => Or.inl (gv_at hg 136 (by decide +kernel))
    | 3, 0, _, _, h => Or.inr (gv_at hg 118 (by decide +kernel))
    | 3, 1, _, _, h => Or.inr (gv_at hg 119 (by decide +kernel))
    | 3, 2, _, _, h => Or.inr (gv_at hg 120 (by decide +kernel))
    | 3, 3, _, _, h => absurd rfl h
    | 3, 4, _, _, h => Or.inl (gv_at hg 129 (by decide +kernel))
    | 3, 5, _, _, h => Or.inl (gv_at hg 137 (by decide +kernel))
    | 4, 0, _, _, h => Or.inr (gv_at hg 126 (by decide +kernel))
    | 4, 1, _, _, h => Or.inr (gv_at hg 127 (by decide +kernel))
    | 4, 2, _, _, h => Or.inr (gv_at hg 128 (by decide +kernel))
    | 4, 3, _, _, h => Or.inr (gv_at hg 129 (by decide +kernel))
    | 4, 4, _, _, h => absurd rfl h
    | 4, 5, _, _, h => Or.inl (gv_at hg 138 (by decide +kernel))
    | 5, 0, _, _, h => Or.inr (gv_at hg 134 (by decide +kernel))
    | 5, 1, _, _, h => Or.inr (gv_at hg 135 (by decide +kernel))
    | 5, 2, _, _, h => Or.inr (gv_at hg 136 (by decide +kernel))
    | 5, 3, _, _, h => Or.inr (gv_at hg 137 (by decide +kernel))
    | 5, 4, _, _, h => Or.inr (gv_at hg 138 (by decide +kernel))
    | 5, 5, _, _, h => absurd rfl h
    | n + 6, _, h, _, _ => absurd h (by omega)
    | 0, n + 6, _, h, _ => absurd h (by omega)
    | 1, n + 6, _, h, _ => absurd h (by omega)
    | 2, n + 6, _, h, _ => absurd h (by omega)
    | 3, n + 6, _, h, _ => absurd h (by omega)
    | 4, n + 6, _, h, _ => absurd h (by omega)
    | 5, n + 6, _, h, _ => absurd h (by omega)) (fun a h => Nat.not_le.mpr h)
