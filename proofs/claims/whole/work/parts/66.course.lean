/-! ===== a course through a record ===== -/
def rlC (g R : Nat → Nat) (rl t x : Nat) : Nat := if rl = 0 then (if t % 12 < g 1 then rlsS g (g 1 - t % 12) x (nrS g (t % 12) (iN (R t))) else 0) else rl
def crS (g R : Nat → Nat) (rl x0 : Nat) : Nat → Nat
  | 0 => x0
  | t + 1 => nextS g (t % 12) (crS g R rl x0 t) (R t) (rlC g R rl t (crS g R rl x0 t))
/-- what is let out in month t -/
def rwC (g R : Nat → Nat) (rl x0 t : Nat) : Nat := min (rlC g R rl t (crS g R rl x0 t)) (thereS g (t % 12) (crS g R rl x0 t) (R t))
def smY (g R : Nat → Nat) (rl x0 : Nat) : Nat → Int
  | 0 => 0
  | t + 1 => smY g R rl x0 t + yieldS g (t % 12) (crS g R rl x0 t) (R t) (rlC g R rl t (crS g R rl x0 t))
def smP (g R : Nat → Nat) (rl x0 : Nat) : Nat → Nat
  | 0 => 0
  | t + 1 => smP g R rl x0 t + spillS g (t % 12) (crS g R rl x0 t) (R t) (rlC g R rl t (crS g R rl x0 t))
def smD (g R : Nat → Nat) (rl x0 : Nat) : Nat → Nat
  | 0 => 0
  | t + 1 => smD g R rl x0 t + driedS g (t % 12) (crS g R rl x0 t)
def smO (g R : Nat → Nat) (rl x0 : Nat) : Nat → Nat
  | 0 => 0
  | t + 1 => smO g R rl x0 t + rwC g R rl x0 t
def lsC (g R : Nat → Nat) (rl x0 : Nat) : Nat → Nat
  | 0 => x0
  | t + 1 => min (lsC g R rl x0 t) (crS g R rl x0 (t + 1))
section COURSE
variable {s : Sto} {g R : Nat → Nat} {rl x0 : Nat}
theorem cr_le (hx : x0 ≤ g 0) : ∀ t, crS g R rl x0 t ≤ g 0
  | 0 => hx
  | t + 1 => by
    show nextS g (t % 12) _ _ _ ≤ g 0
    unfold nextS topS
    omega
theorem ls_le (hx : x0 ≤ g 0) : ∀ t, lsC g R rl x0 t ≤ g 0
  | 0 => hx
  | t + 1 => by
    have := ls_le hx t
    unfold lsC
    omega
theorem rlC_le (hr : rl ≤ 20) {t x : Nat} : rlC g R rl t x ≤ 20 := by
  unfold rlC
  split
  · split
    · exact rls_20
    · omega
  · exact hr
/-- what the class's course holds behind k months -/
def Cs (s : Sto) (g R : Nat → Nat) (rl x0 n k : Nat) : Prop := s.1 71 3 = iN n ∧ s.1 71 4 = iZ (smY g R rl x0 k) ∧ s.1 71 5 = iN (smP g R rl x0 k) ∧ s.1 71 6 = iN (smD g R rl x0 k) ∧ s.1 71 7 = iN (smO g R rl x0 k) ∧ (∀ j, j ≤ k → s.1 73 j = iN (crS g R rl x0 j)) ∧ (∀ j, j < k → s.1 74 j = iN (rwC g R rl x0 j))
/-- only the course has changed -/
def Kg (s t : Sto) : Prop := (∀ q, q < 71 ∨ 74 < q → t.1 q = s.1 q) ∧ t.2 = s.2
theorem Kg.rf : Kg s s := ⟨fun _ _ => rfl, rfl⟩
theorem Kg.tr {t u : Sto} (h1 : Kg s t) (h2 : Kg t u) : Kg s u := ⟨fun q a => (h2.1 q a).trans (h1.1 q a), h2.2.trans h1.2⟩
theorem Kg_rI {q : Nat} {f : Nat → Int32} (h : 71 ≤ q ∧ q ≤ 74) : Kg s (rI s q f) := ⟨fun x a => rI_ne (by omega), rfl⟩
theorem Kg.b {t : Sto} (h : Kg s t) : Kb s t := ⟨fun q hq => h.1 q (by unfold SP at hq; omega), by rw [h.1 0 (by omega)], fun k _ => by rw [h.1 101 (by omega)], by rw [h.2], fun ht => by unfold Tw at *; rw [h.2]; exact ht⟩
theorem Kg.c {t : Sto} (h : Kg s t) : Kc s t := ⟨fun k _ => by rw [h.1 0 (by omega)], h.1 57 (by omega), h.1 58 (by omega), by rw [h.2], by rw [h.2]⟩
theorem c_bestRel (hg : OKg g) (hc : RB s 2 g) (ht : TBs g 0 (s.2.1 55) (s.2.1 56) (s.1 57)) {m x : Nat} {v : Int32} (hm : m < 12) (hx : x ≤ g 0) : fX4_bestRelease 2 54 (iN m) (iN x) v (lay s) = some (iN (if m < g 1 then rlsS g (g 1 - m) x (nrS g m v) else 0), lay s) := by
  have hb : Bs 2 := Or.inl rfl
  have b := hg.1
  unfold fX4_bestRelease
  simp only [bs_c hb, ob, c_isAhead hb hg hc.1, bd_s]
  have e1 : ((0 ≤ iN m ∧ iN m < iN (g 1)) ∧ 0 ≤ iN x ∧ iN x ≤ iN (g 0)) = (m < g 1) := by
    rw [iN_Lle (by omega) (by omega), iN_lt (by omega) (by omega), iN_Lle (by omega) (by omega), iN_le (by omega) (by omega)]
    exact propext ⟨fun h => h.1.2, fun h => ⟨⟨Nat.zero_le _, h⟩, Nat.zero_le _, hx⟩⟩
  simp only [e1]
  by_cases c : m < g 1
  · simp only [tI_pos c, i10, if_false, bs_c hb, ob, c_near hb hc.1 hm, bd_s, rw_c (r := 54) (Or.inl rfl), if_pos c]
    rw [c_releaseAt (r := 54) (Or.inl rfl) (Nat.zero_le _) c hx nrS_lt hg ht]
    rfl
  · simp only [tI_neg c, i00, if_true, if_neg c]
    rfl
end COURSE
