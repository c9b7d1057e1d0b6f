/-! ===== behind both constructors ===== -/
def z0I (p : Nat) : Nat → Int32 := if p = 0 then (fun k => if k = 9 then -5 else 0) else if p = 2 ∨ p = 22 ∨ p = 41 then (fun k => if k = 0 then 8 else if k = 1 then 6 else if k = 2 then 2 else if k = 3 then 3 else 0) else if p = 3 ∨ p = 23 ∨ p = 42 then infF 12 else if p = 4 ∨ p = 24 ∨ p = 43 then parF 9 else if (9 ≤ p ∧ p ≤ 14) ∨ (29 ≤ p ∧ p ≤ 34) ∨ (48 ≤ p ∧ p ≤ 53) then (fun k => if k = 2 then 1 else 0) else if 89 ≤ p ∧ p ≤ 100 then (fun k => if k = 0 then -1 else 0) else if p = 102 then hFm 9 else if p = 115 then soF else fun _ => 0
def z0F (p : Nat) : Nat → UInt32 := if p = 64 then (fun _ => FP.fconst0) else fun _ => 0
def z0 : Sto := (z0I, z0F, fun _ _ => 0, 66, 67)
def gN (k : Nat) : Nat := if k = 0 then 8 else if k = 1 then 6 else if k = 2 then 2 else if k = 3 then 3 else if 4 ≤ k ∧ k < 40 then (if (k - 4) % 3 = 0 then 1 else if (k - 4) % 3 = 1 then 2 else 4) else if 40 ≤ k ∧ k < 49 then 1 else 0
theorem up_out {f : Nat → Option Nat} {k j : Nat} {v : Option Nat} (h : j ≠ k) : va_up f k v j = f j := if_neg h
theorem up_in {f : Nat → Option Nat} {k : Nat} {v : Option Nat} : va_up f k v k = v := if_pos rfl
theorem demR_eq (b : Nat) : demR b = fun j => if j < 6 then some (b + 7 + 1 * j) else none := funext fun j => by
  unfold demR
  by_cases c : j < 6
  · rw [if_pos c]
    rcases (show j = 0 ∨ j = 1 ∨ j = 2 ∨ j = 3 ∨ j = 4 ∨ j = 5 by omega) with rfl | rfl | rfl | rfl | rfl | rfl <;> rfl
  · rw [if_neg c, up_out (by omega), up_out (by omega), up_out (by omega), up_out (by omega), up_out (by omega), up_out (by omega)]
theorem recR_eq (b : Nat) : recR b = fun j => if j < 4 then some (b + 81 + 2 * j) else none := funext fun j => by
  unfold recR
  by_cases c : j < 4
  · rw [if_pos c]
    rcases (show j = 0 ∨ j = 1 ∨ j = 2 ∨ j = 3 by omega) with rfl | rfl | rfl | rfl <;> rfl
  · rw [if_neg c, up_out (by omega), up_out (by omega), up_out (by omega), up_out (by omega)]
theorem tapR_eq (b : Nat) : tapR b = fun j => if j < 6 then some (b + 89 + 2 * j) else none := funext fun j => by
  unfold tapR
  by_cases c : j < 6
  · rw [if_pos c]
    rcases (show j = 0 ∨ j = 1 ∨ j = 2 ∨ j = 3 ∨ j = 4 ∨ j = 5 by omega) with rfl | rfl | rfl | rfl | rfl | rfl <;> rfl
  · rw [if_neg c, up_out (by omega), up_out (by omega), up_out (by omega), up_out (by omega), up_out (by omega), up_out (by omega)]
set_option maxRecDepth 100000 in
theorem lay_z0 : minB 0 ++ refB 101 = lay z0 := by
  unfold minB preB midB taiB setB basB
  simp only [demR_eq, recR_eq, tapR_eq]
  rfl
