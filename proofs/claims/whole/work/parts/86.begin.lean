/-! ===== behind both constructors ===== -/
def z0I (p : Nat) : Nat → Int32 := if p = 0 then (fun k => if k = 9 then -5 else 0) else if p = 2 ∨ p = 22 ∨ p = 41 then (fun k => if k = 0 then 8 else if k = 1 then 6 else if k = 2 then 2 else if k = 3 then 3 else 0) else if p = 3 ∨ p = 23 ∨ p = 42 then infF 12 else if p = 4 ∨ p = 24 ∨ p = 43 then parF 9 else if (9 ≤ p ∧ p ≤ 14) ∨ (29 ≤ p ∧ p ≤ 34) ∨ (48 ≤ p ∧ p ≤ 53) then (fun k => if k = 2 then 1 else 0) else if 89 ≤ p ∧ p ≤ 100 then (fun k => if k = 0 then -1 else 0) else if p = 102 then hFm 9 else if p = 115 then soF else fun _ => 0
def z0F (p : Nat) : Nat → UInt32 := if p = 64 then (fun _ => FP.fconst0) else fun _ => 0
def z0 : Sto := (z0I, z0F, fun _ _ => 0, 66, 67)
def gN (k : Nat) : Nat := if k = 0 then 8 else if k = 1 then 6 else if k = 2 then 2 else if k = 3 then 3 else if 4 ≤ k ∧ k < 40 then (if (k - 4) % 3 = 0 then 1 else if (k - 4) % 3 = 1 then 2 else 4) else if 40 ≤ k ∧ k < 49 then 1 else 0
theorem up_out {f : Nat → Option Nat} {k j : Nat} {v : Option Nat} (h : j ≠ k) : va_up f k v j = f j := if_neg h
theorem up_in {f : Nat → Option Nat} {k : Nat} {v : Option Nat} : va_up f k v k = v := if_pos rfl
/-! ===== the memory as the constructors lay it, and the layout: the chain's chances are made behind the trail (place 69), the layout has them at 118 ===== -/
def piN (k : Nat) : Nat := if k = 118 then 69 else if 69 ≤ k ∧ k < 118 then k + 1 else k
theorem piN_hi {k : Nat} (h : 119 ≤ k) : piN k = k := by
  unfold piN
  rw [if_neg (by omega), if_neg (by omega)]
theorem piN_lo {k : Nat} (h : k < 69) : piN k = k := by
  unfold piN
  rw [if_neg (by omega), if_neg (by omega)]
theorem piN_mid {k : Nat} (h : 69 ≤ k) (h2 : k < 118) : piN k = k + 1 := by
  unfold piN
  rw [if_neg (by omega), if_pos ⟨h, h2⟩]
theorem piN_inj {i j : Nat} (h : piN i = piN j) : i = j := by
  unfold piN at h
  by_cases c1 : i = 118
  · by_cases c2 : j = 118
    · omega
    · rw [if_pos c1, if_neg c2] at h
      split at h <;> omega
  · by_cases c2 : j = 118
    · rw [if_neg c1, if_pos c2] at h
      split at h <;> omega
    · rw [if_neg c1, if_neg c2] at h
      split at h <;> split at h <;> omega
/-- a cell whose references are renamed -/
def reC (π : Nat → Nat) : AC → AC
  | .inl (t, a) => .inl (t, cA π a)
  | .inr (ci, fs) => .inr (ci, fs.map (cV π))
theorem cV_re {ad π : Nat → Nat} {v : Value} : cV ad (cV π v) = cV (fun k => ad (π k)) v := by cases v <;> rfl
theorem cA_re {ad π : Nat → Nat} {a : vp_A} : cA ad (cA π a) = cA (fun k => ad (π k)) a := by
  obtain ⟨n, x⟩ := a
  rcases x with f | f | f | f | f
  · rfl
  · rfl
  · rfl
  · rfl
  · show (n, _) = (n, _)
    congr 1
    refine congrArg _ (congrArg _ (congrArg _ (congrArg _ (funext fun j => ?_))))
    show ((f j).map π).map ad = (f j).map fun k => ad (π k)
    rw [Option.map_map]
    rfl
theorem cE_re {ad π : Nat → Nat} {ca : Nat → ClassId} {c : AC} : cE ad ca (reC π c) = cE (fun k => ad (π k)) ca c := by
  rcases c with ⟨t, a⟩ | ⟨ci, fs⟩
  · show Sum.inl (ca t, cA ad (cA π a)) = Sum.inl (ca t, cA (fun k => ad (π k)) a)
    rw [cA_re]
  · show Sum.inr (ci, (fs.map (cV π)).map (cV ad)) = Sum.inr (ci, fs.map (cV fun k => ad (π k)))
    rw [List.map_map]
    have : cV ad ∘ cV π = cV (fun k => ad (π k)) := funext fun v => cV_re
    rw [this]
/-- the order of making -/
def reo (l : Mem) : Mem := l.take 69 ++ (l.drop 118 ++ (l.drop 69).take 49)
theorem reo_at {l : Mem} (hl : l.length = 119) {k : Nat} (hk : k < 119) : (reo l)[piN k]? = l[k]? := by
  unfold reo
  have e1 : (l.take 69).length = 69 := by rw [List.length_take]; omega
  have e2 : (l.drop 118).length = 1 := by rw [List.length_drop]; omega
  by_cases c1 : k < 69
  · rw [piN_lo c1, List.getElem?_append_left (by omega), List.getElem?_take, if_pos c1]
  · by_cases c2 : k < 118
    · rw [piN_mid (by omega) c2, List.getElem?_append_right (by omega), e1, List.getElem?_append_right (by omega), e2, List.getElem?_take, if_pos (by omega), List.getElem?_drop]
      congr 1
      omega
    · have : k = 118 := by omega
      subst this
      show (l.take 69 ++ (l.drop 118 ++ (l.drop 69).take 49))[69]? = _
      rw [List.getElem?_append_right (by omega), e1, List.getElem?_append_left (by omega), List.getElem?_drop]
theorem demR_eq {b : Nat} (hb : b + 13 ≤ 69) : demR b = fun j => Option.map piN (if j < 6 then some (b + 7 + 1 * j) else none) := funext fun j => by
  unfold demR
  by_cases c : j < 6
  · rw [if_pos c, Option.map_some, piN_lo (by omega)]
    rcases (show j = 0 ∨ j = 1 ∨ j = 2 ∨ j = 3 ∨ j = 4 ∨ j = 5 by omega) with rfl | rfl | rfl | rfl | rfl | rfl <;> rfl
  · rw [if_neg c, up_out (by omega), up_out (by omega), up_out (by omega), up_out (by omega), up_out (by omega), up_out (by omega)]
    rfl
theorem recR_eq : recR 0 = fun j => Option.map piN (if j < 4 then some (81 + 2 * j) else none) := funext fun j => by
  unfold recR
  by_cases c : j < 4
  · rw [if_pos c]
    rcases (show j = 0 ∨ j = 1 ∨ j = 2 ∨ j = 3 by omega) with rfl | rfl | rfl | rfl <;> rfl
  · rw [if_neg c, up_out (by omega), up_out (by omega), up_out (by omega), up_out (by omega)]
    rfl
theorem tapR_eq : tapR 0 = fun j => Option.map piN (if j < 6 then some (89 + 2 * j) else none) := funext fun j => by
  unfold tapR
  by_cases c : j < 6
  · rw [if_pos c]
    rcases (show j = 0 ∨ j = 1 ∨ j = 2 ∨ j = 3 ∨ j = 4 ∨ j = 5 by omega) with rfl | rfl | rfl | rfl | rfl | rfl <;> rfl
  · rw [if_neg c, up_out (by omega), up_out (by omega), up_out (by omega), up_out (by omega), up_out (by omega), up_out (by omega)]
    rfl
/-- the memory behind both constructors, in the order of making -/
def mZ : Mem := minB 0 ++ refB 102
set_option maxRecDepth 100000 in
theorem mZ_eq : mZ = reo ((lay z0).map (reC piN)) := by
  unfold mZ minB preB midB taiB setB basB
  simp (disch := omega) only [demR_eq, recR_eq, tapR_eq]
  rfl
theorem mZ_at {k : Nat} {c : AC} (h : (lay z0)[k]? = some c) : mZ[piN k]? = some (reC piN c) := by
  have hk : k < 119 := by
    have := (List.getElem?_eq_some_iff.mp h).1
    rw [lay_len] at this
    exact this
  rw [mZ_eq, reo_at (by rw [List.length_map, lay_len]) hk, List.getElem?_map, h]
  rfl
