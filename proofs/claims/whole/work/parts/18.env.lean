theorem lw_gin {args : Array Value} {s : State} (ht : ∀ w ∈ lw_tbl, w.before args s = true) : ∀ w ∈ lw_g, w.before args s = true := fun w h => ht w (List.mem_filter.mp h).1
set_option maxRecDepth 20000 in
theorem env_classes {args : Array Value} {s : State} (ht : ∀ w ∈ lw_tbl, w.before args s = true) : ∃ (dC : Nat → ClassId) (dI : Nat → Nat → Nat), ∀ (k : Nat) (q : vw_C), vwCl[k]? = some q → u_Kn s q.1 q.2.1 q.2.2 (dC k) (dI k) := by
  obtain ⟨c0, i0, h0⟩ := u_known (C := RX0) (T := TX0) (N := 11) (n := 11) (lw_gin ht) iw0 (tb_at ht 92 (by decide +kernel))
  obtain ⟨c1, i1, h1⟩ := u_known (C := RX1) (T := TX1) (N := 4) (n := 4) (lw_gin ht) iw1 (tb_at ht 224 (by decide +kernel))
  obtain ⟨c2, i2, h2⟩ := u_known (C := RX2) (T := TX2) (N := 7) (n := 7) (lw_gin ht) iw2 (tb_at ht 244 (by decide +kernel))
  obtain ⟨c3, i3, h3⟩ := u_known (C := RX3) (T := TX3) (N := 3) (n := 3) (lw_gin ht) iw3 (tb_at ht 342 (by decide +kernel))
  obtain ⟨c4, i4, h4⟩ := u_known (C := RX4) (T := TX4) (N := 8) (n := 8) (lw_gin ht) iw4 (tb_at ht 304 (by decide +kernel))
  obtain ⟨c5, i5, h5⟩ := u_known (C := RX5) (T := TX5) (N := 6) (n := 6) (lw_gin ht) iw5 (tb_at ht 99 (by decide +kernel))
  obtain ⟨c6, i6, h6⟩ := u_known (C := RX6) (T := TX6) (N := 4) (n := 4) (lw_gin ht) iw6 (tb_at ht 182 (by decide +kernel))
  obtain ⟨c7, i7, h7⟩ := u_known (C := RX7) (T := TX7) (N := 6) (n := 6) (lw_gin ht) iw7 (tb_at ht 274 (by decide +kernel))
  obtain ⟨c8, i8, h8⟩ := u_known (C := RX8) (T := TX8) (N := 4) (n := 4) (lw_gin ht) iw8 (tb_at ht 86 (by decide +kernel))
  obtain ⟨c9, i9, h9⟩ := u_known (C := RX9) (T := TX9) (N := 3) (n := 3) (lw_gin ht) iw9 (tb_at ht 359 (by decide +kernel))
  obtain ⟨c10, i10, h10⟩ := u_known (C := RX10) (T := TX10) (N := 17) (n := 17) (lw_gin ht) iw10 (tb_at ht 78 (by decide +kernel))
  obtain ⟨c11, i11, h11⟩ := u_known (C := RX11) (T := TX11) (N := 36) (n := 36) (lw_gin ht) iw11 (tb_at ht 1067 (by decide +kernel))
  refine ⟨fun k => match k with | 0 => c0 | 1 => c1 | 2 => c2 | 3 => c3 | 4 => c4 | 5 => c5 | 6 => c6 | 7 => c7 | 8 => c8 | 9 => c9 | 10 => c10 | _ => c11, fun k => match k with | 0 => i0 | 1 => i1 | 2 => i2 | 3 => i3 | 4 => i4 | 5 => i5 | 6 => i6 | 7 => i7 | 8 => i8 | 9 => i9 | 10 => i10 | _ => i11, ?_⟩
  intro k q hq
  match k, hq with
  | 0, hq => cases hq; exact h0
  | 1, hq => cases hq; exact h1
  | 2, hq => cases hq; exact h2
  | 3, hq => cases hq; exact h3
  | 4, hq => cases hq; exact h4
  | 5, hq => cases hq; exact h5
  | 6, hq => cases hq; exact h6
  | 7, hq => cases hq; exact h7
  | 8, hq => cases hq; exact h8
  | 9, hq => cases hq; exact h9
  | 10, hq => cases hq; exact h10
  | 11, hq => cases hq; exact h11
  | n + 12, hq => simp [vwCl] at hq
set_option maxRecDepth 20000 in
theorem env_arrays {args : Array Value} {s : State} (ht : ∀ w ∈ lw_tbl, w.before args s = true) : ∃ ca : Nat → ClassId, ∀ (k : Nat) (q : ClassId × FieldType), (tysC ca)[k]? = some q → ArrOfT s q.1 q.2 ∧ va_RA s q.1 q.2 := by
  obtain ⟨c0, k0, p0, a0, b0, d0⟩ := Cond.arrayClass_spec (tb_at ht 130 (by decide +kernel) : (Cond.arrayClass .int).before args s = true)
  obtain ⟨c1, k1, p1, a1, b1, d1⟩ := Cond.arrayClass_spec (tb_at ht 377 (by decide +kernel) : (Cond.arrayClass .long).before args s = true)
  obtain ⟨c2, k2, p2, a2, b2, d2⟩ := Cond.arrayClass_spec (tb_at ht 242 (by decide +kernel) : (Cond.arrayClass .float).before args s = true)
  obtain ⟨c3, k3, p3, a3, b3, d3⟩ := Cond.arrayClass_spec (tb_at ht 658 (by decide +kernel) : (Cond.arrayClass .byte).before args s = true)
  obtain ⟨p4, c4, k4, e4, -, b4, d4, a4⟩ := Cond.arrayOver_spec (tb_at ht 98 (by decide +kernel) : (Cond.arrayOver (.object "ReservoirMind$Demand")).before args s = true)
  obtain ⟨p5, c5, k5, e5, -, b5, d5, a5⟩ := Cond.arrayOver_spec (tb_at ht 339 (by decide +kernel) : (Cond.arrayOver (.object "ReservoirMind$Lines")).before args s = true)
  obtain ⟨p6, c6, k6, e6, -, b6, d6, a6⟩ := Cond.arrayOver_spec (tb_at ht 358 (by decide +kernel) : (Cond.arrayOver (.object "ReservoirMind$Tape")).before args s = true)
  refine ⟨fun k => match k with | 0 => c0 | 1 => c1 | 2 => c2 | 3 => c3 | 4 => c4 | 5 => c5 | _ => c6, ?_⟩
  intro k q hq
  match k, hq with
  | 0, hq => cases hq; exact ⟨fun N z => ⟨(fun k h => by cases h), k0, b0, p0, d0⟩, a0⟩
  | 1, hq => cases hq; exact ⟨fun N z => ⟨(fun k h => by cases h), k1, b1, p1, d1⟩, a1⟩
  | 2, hq => cases hq; exact ⟨fun N z => ⟨(fun k h => by cases h), k2, b2, p2, d2⟩, a2⟩
  | 3, hq => cases hq; exact ⟨fun N z => ⟨(fun k h => by cases h), k3, b3, p3, d3⟩, a3⟩
  | 4, hq => cases hq; exact ⟨fun N z => ⟨(fun k h => by cases h), k4, b4, p4, d4⟩, k4, p4, b4, d4, e4, a4⟩
  | 5, hq => cases hq; exact ⟨fun N z => ⟨(fun k h => by cases h), k5, b5, p5, d5⟩, k5, p5, b5, d5, e5, a5⟩
  | 6, hq => cases hq; exact ⟨fun N z => ⟨(fun k h => by cases h), k6, b6, p6, d6⟩, k6, p6, b6, d6, e6, a6⟩
  | n + 7, hq => simp [tysC, tagT] at hq
theorem va_ZT_at {s : State} {nm : String} {vals : List Int32} {t : Nat} (h : va_Z "ReservoirMind" nm "[I" (.ref t) (lawA s) s s.heap ∧ va_T .int t vals.length (fun i => .int (vals.getD i 0)) (lawA s) s s.heap) {ad : Nat → Nat} {k : Nat} (hk : ad k = t) : va_Z "ReservoirMind" nm "[I" (.ref (ad k)) (lawA s) s s.heap ∧ va_T .int (ad k) vals.length (fun i => .int (vals.getD i 0)) (lawA s) s s.heap := by
  rw [hk]
  exact h
def lawAd (z b : Nat) (st : Nat → Nat) (kK kV : Nat → Nat) (tf : Nat) : Nat → Nat := fun k =>
  if k < 900 then z + k else if k = 1000 then b else if k < 1011 then st (k - 1001) else if k < 1021 then kK (k - 1011) else if k < 1031 then kV (k - 1021) else tf
theorem env_start {args : Array Value} {s : State} (ht : ∀ w ∈ lw_tbl, w.before args s = true) (hg : lawG.before args s = true) {b L : Nat} {xs : Nat → Int32} (hX : va_X b L xs s s.heap) (hbl : b < s.heap.size) : ∃ (D : va_G) (ca : Nat → ClassId) (ad : Nat → Nat), (∀ k, k < 900 → ad k = s.heap.size + k) ∧ ad 1000 = b ∧ EnvOK D ca ad (lawA s) (ScrOK ad (lawA s) L xs) s := by
  obtain ⟨dC, dI, hKc⟩ := env_classes ht
  obtain ⟨ca, hKa⟩ := env_arrays ht
  obtain ⟨t0, h0⟩ := st_KIND_ABOVE ht hg
  obtain ⟨t1, h1⟩ := st_SETTING_LEAST ht hg
  obtain ⟨t2, h2⟩ := st_SETTING_MOST ht hg
  obtain ⟨t3, h3⟩ := st_RENEW_LEAST ht hg
  obtain ⟨t4, h4⟩ := st_RENEW_MOST ht hg
  obtain ⟨kK, kV, hT, hTe⟩ := st_texts hg
  obtain ⟨tf, w, hw, hf⟩ : ∃ (tf : Nat) (w : Value), (w = .null ∨ w = .ref 1031) ∧ va_Z "jdk/internal/util/Preconditions" "SIOOBE_FORMATTER" "Ljava/util/function/BiFunction;" (match w with | .ref _ => .ref tf | v => v) (lawA s) s s.heap := by
    rcases st_format ht hg with h | ⟨t, h⟩
    · exact ⟨0, .null, Or.inl rfl, h⟩
    · exact ⟨t, .ref 1031, Or.inr rfl, h⟩
  let st : Nat → Nat := fun k => match k with | 0 => t0 | 1 => t1 | 2 => t2 | 3 => t3 | _ => t4
  have aK : ∀ i, i < 6 → lawAd s.heap.size b st kK kV tf (1011 + i) = kK i := fun i hi => by
    unfold lawAd
    rw [if_neg (by omega), if_neg (by omega), if_neg (by omega), if_pos (by omega)]
    exact congrArg kK (by omega)
  have aV : ∀ i, i < 6 → lawAd s.heap.size b st kK kV tf (1021 + i) = kV i := fun i hi => by
    unfold lawAd
    rw [if_neg (by omega), if_neg (by omega), if_neg (by omega), if_neg (by omega), if_pos (by omega)]
    exact congrArg kV (by omega)
  refine ⟨(dC, dI), ca, lawAd s.heap.size b st kK kV tf, fun k hk => by unfold lawAd; rw [if_pos hk], by unfold lawAd; rw [if_neg (by omega), if_pos rfl], ⟨hKc, hKa⟩, ?_, fun q h => h, ?_, ⟨?_, ?_, st_compact ht hg, w, hw, ?_⟩, ?_⟩
  · intro j q hq
    match j, hq with
    | 0, hq => cases hq; exact va_ZT_at (vals := [-1, 0, 0, 1, 0]) h0 rfl
    | 1, hq => cases hq; exact va_ZT_at (vals := [1, 1, 0, 0]) h1 rfl
    | 2, hq => cases hq; exact va_ZT_at (vals := [12, 12, 9, 99]) h2 rfl
    | 3, hq => cases hq; exact va_ZT_at (vals := [0, 1, 0]) h3 rfl
    | 4, hq => cases hq; exact va_ZT_at (vals := [9, 9, 99]) h4 rfl
    | n + 5, hq => simp [statA] at hq
  · intro w hw hn
    have h1 := ht w hw
    cases w <;> first | exact va_Nw.of rfl h1 | (simp [isNest] at hn; done) | exact h1
  · intro j q hq
    have hj : j < 6 := (List.getElem?_eq_some_iff.mp hq).1
    rw [aK j hj]
    have he := hTe j hj
    have hm : (textA.map (fun q => q.1)).getD j 0 = q.1 := by simp [hq]
    unfold txTm at he
    rw [hm] at he
    refine vk_R.of (A := args) ?_ he
    match j, hq with
    | 0, hq => cases hq; exact tb_at ht 572 (by decide +kernel)
    | 1, hq => cases hq; exact tb_at ht 573 (by decide +kernel)
    | 2, hq => cases hq; exact tb_at ht 574 (by decide +kernel)
    | 3, hq => cases hq; exact tb_at ht 575 (by decide +kernel)
    | 4, hq => cases hq; exact tb_at ht 576 (by decide +kernel)
    | 5, hq => cases hq; exact tb_at ht 577 (by decide +kernel)
    | n + 6, hq => simp [textA] at hq
  · refine ⟨fun i hi => ?_, fun i j hi hj h => ?_⟩
    · have h := hT.1 i hi
      rw [← aK i hi, ← aV i hi] at h
      exact h
    · exact hT.2 i j hi hj (by rw [← aK i hi, ← aK j hj]; exact h)
  · rcases hw with rfl | rfl
    · exact hf
    · exact hf
  · have ab : lawAd s.heap.size b st kK kV tf 1000 = b := by unfold lawAd; rw [if_neg (by omega), if_pos rfl]
    exact ⟨by rw [ab]; exact hX, by rw [ab]; exact hbl, by rw [ab]; exact Nat.not_le.mpr hbl⟩
