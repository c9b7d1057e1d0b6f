/-! ===== the reference's object ===== -/
section BORNR
variable {μ R : Mem} {c0 c : AC} {fs : List Value}
def rF0 : Nat → Int32 := upd (upd (upd (upd (fun _ => 0) 0 8) 1 6) 2 2) 3 3
def rFm (m : Nat) : Nat → Int32 := fun i => if 4 ≤ i ∧ i < 4 + 3 * m then (if (i - 4) % 3 = 0 then 1 else if (i - 4) % 3 = 1 then 2 else 4) else rF0 i
def hFm (m : Nat) : Nat → Int32 := fun i => if 40 ≤ i ∧ i < 40 + m then 1 else rFm 12 i
def soF : Nat → Int32 := upd (upd (upd (upd (upd (upd (fun _ => 0) 0 (-1)) 1 (-1)) 2 (-1)) 3 (-1)) 4 (-1)) 5 (-1)
def dfl11 : List Value := [.null, .null, .int 0, .int 0, .null, .null, .null, .null, .null, .null, .int 0, .int 0, .int 0, .int 0, .int 0, .int 0, .null, .float 0, .int 0, .int 0, .int 0, .int 0, .int 0, .int 0, .null, .int 0, .int 0, .null, .null, .int 0, .int 0, .int 0, .null, .null, .null, .null]
def refB (b : Nat) : Mem := [.inr (11, [.ref (b + 1), .ref (b + 2), .int 0, .int 0, .ref (b + 3), .ref (b + 4), .ref (b + 5), .ref (b + 6), .ref (b + 7), .ref (b + 8), .int 0, .int 0, .int 0, .int 0, .int 0, .int 0, .ref (b + 9), .float 0, .int 0, .int 0, .int 0, .int 0, .int 0, .int 0, .ref (b + 10), .int 0, .int 0, .ref (b + 11), .ref (b + 12), .int 0, .int 0, .int 0, .ref (b + 13), .ref (b + 14), .ref (b + 15), .ref (b + 16)]), .inl (0, 173, .inl (hFm 9)), .inl (0, 173, .inl (fun _ => 0)), .inl (0, 4, .inl (fun _ => 0)), .inl (0, 96, .inl (fun _ => 0)), .inl (2, 546, .inr (.inr (.inl (fun _ => 0)))), .inl (0, 504, .inl (fun _ => 0)), .inl (0, 6, .inl (fun _ => 0)), .inl (0, 6, .inl (fun _ => 0)), .inl (2, 6, .inr (.inr (.inl (fun _ => 0)))), .inl (0, 25, .inl (fun _ => 0)), .inl (0, 173, .inl (fun _ => 0)), .inl (3, 100, .inl (fun _ => 0)), .inl (0, 84, .inl (fun _ => 0)), .inl (0, 6, .inl soF), .inl (0, 6, .inl (fun _ => 0)), .inl (1, 360, .inr (.inl (fun _ => 0)))]
theorem rFm_0 : rFm 0 = rF0 := funext fun i => if_neg (by omega)
theorem rFm_s {m : Nat} : upd (upd (upd (rFm m) (4 + 3 * m + 0) 1) (4 + 3 * m + 1) 2) (4 + 3 * m + 2) 4 = rFm (m + 1) := funext fun i => by
  unfold upd rFm
  by_cases c : 4 ≤ i ∧ i < 4 + 3 * m
  · rw [if_neg (show ¬ i = 4 + 3 * m + 2 by omega), if_neg (show ¬ i = 4 + 3 * m + 1 by omega), if_neg (show ¬ i = 4 + 3 * m + 0 by omega), if_pos c, if_pos (show 4 ≤ i ∧ i < 4 + 3 * (m + 1) by omega)]
  · by_cases c0 : i = 4 + 3 * m + 0
    · rw [if_neg (show ¬ i = 4 + 3 * m + 2 by omega), if_neg (show ¬ i = 4 + 3 * m + 1 by omega), if_pos c0, if_pos (show 4 ≤ i ∧ i < 4 + 3 * (m + 1) by omega), if_pos (show (i - 4) % 3 = 0 by omega)]
    · by_cases c1 : i = 4 + 3 * m + 1
      · rw [if_neg (show ¬ i = 4 + 3 * m + 2 by omega), if_pos c1, if_pos (show 4 ≤ i ∧ i < 4 + 3 * (m + 1) by omega), if_neg (show ¬ (i - 4) % 3 = 0 by omega), if_pos (show (i - 4) % 3 = 1 by omega)]
      · by_cases c2 : i = 4 + 3 * m + 2
        · rw [if_pos c2, if_pos (show 4 ≤ i ∧ i < 4 + 3 * (m + 1) by omega), if_neg (show ¬ (i - 4) % 3 = 0 by omega), if_neg (show ¬ (i - 4) % 3 = 1 by omega)]
        · rw [if_neg c2, if_neg c1, if_neg c0, if_neg c, if_neg (show ¬ (4 ≤ i ∧ i < 4 + 3 * (m + 1)) by omega)]
theorem hFm_0 : hFm 0 = rFm 12 := funext fun i => if_neg (by omega)
theorem hFm_s {m : Nat} : upd (hFm m) (40 + m) 1 = hFm (m + 1) := funext fun i => by
  unfold upd hFm
  by_cases c : 40 ≤ i ∧ i < 40 + m
  · rw [if_neg (show ¬ i = 40 + m by omega), if_pos c, if_pos (show 40 ≤ i ∧ i < 40 + (m + 1) by omega)]
  · by_cases c0 : i = 40 + m
    · rw [if_pos c0, if_pos (show 40 ≤ i ∧ i < 40 + (m + 1) by omega)]
    · rw [if_neg c0, if_neg c, if_neg (show ¬ (40 ≤ i ∧ i < 40 + (m + 1)) by omega)]
theorem n_g1 {G : Mem → Option (Unit × Mem)} {m j n : Nat} {f : Nat → Int32} (h : fs[0]? = some (.ref (μ.length + 1))) (hm : m < 12) (hj : j < 3) : X11_init_L201 G μ.length (iN m) (n + 1) (iN j) (μ ++ .inr (11, fs) :: .inl (0, 173, .inl f) :: R) = X11_init_L201 G μ.length (iN m) n (iN (j + 1)) (μ ++ .inr (11, fs) :: .inl (0, 173, .inl (upd f (4 + 3 * m + j) ((1 : Int32) <<< (iN j &&& 31)))) :: R) := by
  rw [X11_init_L201, if_neg (by rw [iN_Lle (by omega) (by omega)]; omega), iN_Lmul, iN_Ladd, iN_add, iN_addL]
  refine (stG _ h).trans ?_
  exact stI (a := 1) rfl rfl (by omega) (by omega)
theorem n_g3 {G : Mem → Option (Unit × Mem)} {m n : Nat} {f : Nat → Int32} (h : fs[0]? = some (.ref (μ.length + 1))) (hm : m < 12) : X11_init_L201 G μ.length (iN m) (n + 4) (iN 0) (μ ++ .inr (11, fs) :: .inl (0, 173, .inl f) :: R) = G (μ ++ .inr (11, fs) :: .inl (0, 173, .inl (upd (upd (upd f (4 + 3 * m + 0) 1) (4 + 3 * m + 1) 2) (4 + 3 * m + 2) 4)) :: R) := by
  rw [n_g1 h hm (by omega), n_g1 h hm (by omega), n_g1 h hm (by omega), X11_init_L201, if_pos (by decide)]
  rw [show (1 : Int32) <<< (iN 0 &&& 31) = 1 by decide, show (1 : Int32) <<< (iN (0 + 1) &&& 31) = 2 by decide, show (1 : Int32) <<< (iN (0 + 1 + 1) &&& 31) = 4 by decide]
theorem n_g {G : Mem → Option (Unit × Mem)} (h : fs[0]? = some (.ref (μ.length + 1))) : ∀ (n m : Nat), 12 - m < n → m ≤ 12 → X11_init_L193 G μ.length n (iN m) (μ ++ .inr (11, fs) :: .inl (0, 173, .inl (rFm m)) :: R) = G (μ ++ .inr (11, fs) :: .inl (0, 173, .inl (rFm 12)) :: R) := by
  intro n
  induction n with
  | zero => intro m h1; omega
  | succ n ih =>
    intro m h1 h2
    rw [X11_init_L193]
    by_cases c : 12 ≤ m
    · have : m = 12 := by omega
      subst this
      rw [if_pos (by decide)]
    · rw [if_neg (by rw [iN_Lle (by omega) (by omega)]; exact c), iN_addL]
      have e := n_g3 (G := fun μ_227 => X11_init_L193 G μ.length n (iN (m + 1)) μ_227) (R := R) (f := rFm m) (n := 9996) h (show m < 12 by omega)
      rw [show iN 0 = (0 : Int32) from rfl, rFm_s] at e
      rw [show FU = 9996 + 4 from rfl, e]
      exact ih (m + 1) (by omega) (by omega)
theorem n_h {G : Mem → Option (Unit × Mem)} (h : fs[0]? = some (.ref (μ.length + 1))) : ∀ (n m : Nat), 9 - m < n → m ≤ 9 → X11_init_L235 G μ.length n (iN m) (μ ++ .inr (11, fs) :: .inl (0, 173, .inl (hFm m)) :: R) = G (μ ++ .inr (11, fs) :: .inl (0, 173, .inl (hFm 9)) :: R) := by
  intro n
  induction n with
  | zero => intro m h1; omega
  | succ n ih =>
    intro m h1 h2
    rw [X11_init_L235]
    by_cases c : 9 ≤ m
    · have : m = 9 := by omega
      subst this
      rw [if_pos (by decide)]
    · rw [if_neg (by rw [iN_Lle (by omega) (by omega)]; exact c), iN_Ladd, iN_addL]
      refine (stG _ h).trans ?_
      refine (stI (a := 1) rfl rfl (by omega) (by omega)).trans ?_
      have e := ih (m + 1) (by omega) (by omega)
      rw [← hFm_s] at e
      exact e
theorem n_gh {G : Mem → Option (Unit × Mem)} (h : fs[0]? = some (.ref (μ.length + 1))) : X11_init_L193 (fun μ_233 => X11_init_L235 G μ.length FU 0 μ_233) μ.length FU 0 (μ ++ .inr (11, fs) :: .inl (0, 173, .inl rF0) :: R) = G (μ ++ .inr (11, fs) :: .inl (0, 173, .inl (hFm 9)) :: R) := by
  have e := n_g (G := fun μ_233 => X11_init_L235 G μ.length FU 0 μ_233) (R := R) h FU 0 (by unfold FU; omega) (by omega)
  rw [rFm_0, show iN 0 = (0 : Int32) from rfl] at e
  rw [e]
  have e2 := n_h (G := G) (R := R) h FU 0 (by unfold FU; omega) (by omega)
  rw [hFm_0, show iN 0 = (0 : Int32) from rfl] at e2
  exact e2
set_option maxRecDepth 100000 in
theorem n_fX11_init (μ : Mem) : fX11_init μ.length (μ ++ [.inr (11, dfl11)]) = some ((), μ ++ refB μ.length) := by
  unfold fX11_init
  refine (stA 1 (by rfl)).trans ?_
  refine (stP (by rfl)).trans ?_
  refine (stA 2 (by rfl)).trans ?_
  refine (stP (by rfl)).trans ?_
  refine (stA 3 (by rfl)).trans ?_
  refine (stP (by rfl)).trans ?_
  refine (stA 4 (by rfl)).trans ?_
  refine (stP (by rfl)).trans ?_
  refine (stA 5 (by rfl)).trans ?_
  refine (stP (by rfl)).trans ?_
  refine (stA 6 (by rfl)).trans ?_
  refine (stP (by rfl)).trans ?_
  refine (stA 7 (by rfl)).trans ?_
  refine (stP (by rfl)).trans ?_
  refine (stA 8 (by rfl)).trans ?_
  refine (stP (by rfl)).trans ?_
  refine (stA 9 (by rfl)).trans ?_
  refine (stP (by rfl)).trans ?_
  refine (stA 10 (by rfl)).trans ?_
  refine (stP (by rfl)).trans ?_
  refine (stA 11 (by rfl)).trans ?_
  refine (stP (by rfl)).trans ?_
  refine (stA 12 (by rfl)).trans ?_
  refine (stP (by rfl)).trans ?_
  refine (stA 13 (by rfl)).trans ?_
  refine (stP (by rfl)).trans ?_
  refine (stA 14 (by rfl)).trans ?_
  refine (stI (a := 14) (i := 0) rfl rfl (by omega) (by omega)).trans ?_
  refine (stI (a := 14) (i := 1) rfl rfl (by omega) (by omega)).trans ?_
  refine (stI (a := 14) (i := 2) rfl rfl (by omega) (by omega)).trans ?_
  refine (stI (a := 14) (i := 3) rfl rfl (by omega) (by omega)).trans ?_
  refine (stI (a := 14) (i := 4) rfl rfl (by omega) (by omega)).trans ?_
  refine (stI (a := 14) (i := 5) rfl rfl (by omega) (by omega)).trans ?_
  refine (stP (by rfl)).trans ?_
  refine (stA 15 (by rfl)).trans ?_
  refine (stP (by rfl)).trans ?_
  refine (stA 16 (by rfl)).trans ?_
  refine (stP (by rfl)).trans ?_
  refine (stG (μ.length + 1) (by rfl)).trans ?_
  refine (stI (a := 1) (i := 0) rfl rfl (by omega) (by omega)).trans ?_
  refine (stG (μ.length + 1) (by rfl)).trans ?_
  refine (stI (a := 1) (i := 1) rfl rfl (by omega) (by omega)).trans ?_
  refine (stG (μ.length + 1) (by rfl)).trans ?_
  refine (stI (a := 1) (i := 2) rfl rfl (by omega) (by omega)).trans ?_
  refine (stG (μ.length + 1) (by rfl)).trans ?_
  refine (stI (a := 1) (i := 3) rfl rfl (by omega) (by omega)).trans ?_
  refine (n_gh (by rfl)).trans ?_
  rfl
end BORNR
