/-! ===== the constructors: what they make ===== -/
section BORN
variable {μ R : Mem} {c0 c : AC} {fs : List Value} {ci k q : Nat} {v : Value}
theorem ap_get {L : Mem} {i : Nat} : (μ ++ L)[μ.length + i]? = L[i]? := by
  rw [List.getElem?_append_right (Nat.le_add_right _ _), Nat.add_sub_cancel_left]
theorem ap_set {L : Mem} {i : Nat} : (μ ++ L).set (μ.length + i) c = μ ++ L.set i c := by
  rw [List.set_append_right _ _ (Nat.le_add_right _ _), Nat.add_sub_cancel_left]
theorem ap_get0 : (μ ++ c :: R)[μ.length]? = some c := ap_get (i := 0)
theorem ap_set0 : (μ ++ c0 :: R).set μ.length c = μ ++ c :: R := ap_set (i := 0)
theorem stP {β : Type} {F : Mem → Option β} (h : Nat.ble (k + 1) fs.length = true) : (pV (μ ++ .inr (ci, fs) :: R) μ.length ci k v).bind F = F (μ ++ .inr (ci, fs.set k v) :: R) := by
  unfold pV
  rw [ap_get0]
  show (if ci = ci ∧ k < fs.length then _ else _ : Option Mem).bind F = _
  rw [if_pos ⟨rfl, Nat.le_of_ble_eq_true h⟩, ap_set0]
  rfl
theorem stZ {β : Type} {F : Mem → Option β} {x : Int32} (hx : x = 0 ∨ x = 1) (h : Nat.ble (k + 1) fs.length = true) : (pZ (μ ++ .inr (ci, fs) :: R) μ.length ci k x).bind F = F (μ ++ .inr (ci, fs.set k (.int x)) :: R) := by
  unfold pZ
  rw [if_pos hx]
  exact stP h
theorem stG {β : Type} {F : Nat → Option β} (q : Nat) (h : fs[k]? = some (.ref q)) : (gR (μ ++ .inr (ci, fs) :: R) μ.length ci k).bind F = F q := by
  have e : gV (μ ++ .inr (ci, fs) :: R) μ.length ci k = some (.ref q) := by
    unfold gV
    rw [ap_get0]
    show (if ci = ci then fs[k]? else none) = _
    rw [if_pos rfl, h]
  unfold gR
  rw [e]
  rfl
theorem stA {β : Type} {F : Nat → Mem → Option β} (j : Nat) (hj : R.length + 1 = j) : nw (μ ++ c0 :: R) c F = F (μ.length + j) (μ ++ c0 :: (R ++ [c])) := by
  unfold nw
  rw [List.length_append, List.length_cons, hj, List.append_assoc, List.cons_append]
theorem stN {β : Type} {F : Nat → Mem → Option β} {f : Nat → Mem → Option (Unit × Mem)} {B : Nat → Mem} (hf : ∀ μ : Mem, f μ.length (μ ++ [c]) = some ((), μ ++ B μ.length)) (j : Nat) (hj : R.length + 1 = j) : nw (μ ++ c0 :: R) c (fun q μ5 => bd (f q μ5) (fun _ μ9 => F q μ9)) = F (μ.length + j) (μ ++ c0 :: (R ++ B (μ.length + j))) := by
  show bd (f (μ ++ c0 :: R).length ((μ ++ c0 :: R) ++ [c])) _ = _
  rw [hf, List.length_append, List.length_cons, hj, List.append_assoc, List.cons_append]
  rfl
theorem stI {β : Type} {F : Mem → Option β} {L : Mem} {a i n : Nat} {x ie : Int32} {f : Nat → Int32} (he : ie = iN i) (h : L[a]? = some (.inl (0, n, .inl f))) (hi : i < n) (hn : n < 2147483648) : (sI (μ ++ L) (μ.length + a) ie x).bind F = F (μ ++ L.set a (.inl (0, n, .inl (upd f i x)))) := by
  subst he
  unfold sI
  rw [ap_get, h]
  show (if 0 = 0 ∧ ¬ (iN i < 0 ∨ n ≤ (iN i).toNatClampNeg) then _ else _ : Option Mem).bind F = _
  rw [iN_nat (by omega), if_pos ⟨rfl, fun h => h.elim (iN_nn (by omega)) (by omega)⟩, ap_set]
  rfl
theorem stR {β : Type} {F : Mem → Option β} {L : Mem} {t a w i n : Nat} {ci : Nat} {g : List Value} {ie : Int32} {f : Nat → Option Nat} (he : ie = iN i) (h : L[a]? = some (.inl (t, n, .inr (.inr (.inr (.inr f)))))) (hv : L[w]? = some (.inr (ci, g))) (hi : i < n) (hn : n < 2147483648) : (sR (μ ++ L) t (μ.length + a) ie (μ.length + w) ci).bind F = F (μ ++ L.set a (.inl (t, n, .inr (.inr (.inr (.inr (va_up f i (some (μ.length + w)))))))) ) := by
  subst he
  unfold sR
  rw [ap_get, ap_get, h, hv]
  show (if t = t ∧ ci = ci ∧ ¬ (iN i < 0 ∨ n ≤ (iN i).toNatClampNeg) then _ else _ : Option Mem).bind F = _
  rw [iN_nat (by omega), if_pos ⟨rfl, rfl, fun h => h.elim (iN_nn (by omega)) (by omega)⟩, ap_set]
  rfl
theorem if_skip {β : Type} {a b : Option β} {p : Prop} [Decidable p] (h : decide p = false) : (if p then a else b) = b := if_neg (of_decide_eq_false h)
theorem if_take {β : Type} {a b : Option β} {p : Prop} [Decidable p] (h : decide p = true) : (if p then a else b) = a := if_pos (of_decide_eq_true h)
def demB (b : Nat) : Mem := [.inr (5, [.int 0, .int 0, .int 1, .int 0, .int 0, .int 0])]
def pasB (b : Nat) : Mem := [.inr (7, [.int 0, .int 0, .int 0, .int 0, .int 0, .int 0])]
def lin4_5 (b : Nat) : Mem := [.inr (6, [.int 4, .int 5, .ref (b + 1), .int 0]), .inl (0, 20, .inl (fun _ => 0))]
def lin2_8 (b : Nat) : Mem := [.inr (6, [.int 2, .int 8, .ref (b + 1), .int 0]), .inl (0, 16, .inl (fun _ => 0))]
def lin3_8 (b : Nat) : Mem := [.inr (6, [.int 3, .int 8, .ref (b + 1), .int 0]), .inl (0, 24, .inl (fun _ => 0))]
def lin1_100 (b : Nat) : Mem := [.inr (6, [.int 1, .int 100, .ref (b + 1), .int 0]), .inl (0, 100, .inl (fun _ => 0))]
def lin1_24 (b : Nat) : Mem := [.inr (6, [.int 1, .int 24, .ref (b + 1), .int 0]), .inl (0, 24, .inl (fun _ => 0))]
def rowB (b : Nat) : Mem := [.inr (1, [.ref (b + 1), .ref (b + 2), .ref (b + 3), .ref (b + 4)]), .inl (2, 546, .inr (.inr (.inl (fun _ => 0)))), .inl (2, 546, .inr (.inr (.inl (fun _ => 0)))), .inl (0, 504, .inl (fun _ => 0)), .inl (0, 252, .inl (fun _ => 0))]
def chaB (b : Nat) : Mem := [.inr (2, [.ref (b + 1), .ref (b + 2), .ref (b + 3), .ref (b + 4), .ref (b + 5), .ref (b + 6), .float FP.fconst0]), .inl (2, 9, .inr (.inr (.inl (fun _ => 0)))), .inl (2, 3, .inr (.inr (.inl (fun _ => 0)))), .inl (2, 3, .inr (.inr (.inl (fun _ => 0)))), .inl (0, 9, .inl (fun _ => 0)), .inl (2, 9, .inr (.inr (.inl (fun _ => 0)))), .inl (0, 8, .inl (fun _ => 0))]
def claB (b : Nat) : Mem := [.inr (3, [.ref (b + 1), .int 0, .int 0]), .inl (0, 84, .inl (fun _ => 0))]
def couB (b : Nat) : Mem := [.inr (4, [.ref (b + 1), .ref (b + 2), .ref (b + 3), .int 0, .int 0, .int 0, .int 0, .int 0]), .inr (7, [.int 0, .int 0, .int 0, .int 0, .int 0, .int 0]), .inl (0, 25, .inl (fun _ => 0)), .inl (0, 24, .inl (fun _ => 0))]
def tapB (b : Nat) : Mem := [.inr (9, [.int (-1), .int 0, .ref (b + 1)]), .inl (1, 60, .inr (.inl (fun _ => 0)))]
def infF (m : Nat) : Nat → Int32 := fun i => if i < 3 * m then (if i % 3 = 0 then 1 else if i % 3 = 1 then 2 else 4) else 0
def parF (m : Nat) : Nat → Int32 := fun i => if i < m then 1 else 0
def demR (b : Nat) : Nat → Option Nat := va_up (va_up (va_up (va_up (va_up (va_up (fun _ => none) 0 (some (b + 7))) 1 (some (b + 8))) 2 (some (b + 9))) 3 (some (b + 10))) 4 (some (b + 11))) 5 (some (b + 12))
def basB (b : Nat) : Mem := [.inr (0, [.int 8, .int 6, .int 2, .int 3, .ref (b + 1), .ref (b + 2), .ref (b + 3), .ref (b + 4), .ref (b + 5), .ref (b + 6), .int 0]), .inl (0, 36, .inl (infF 12)), .inl (0, 9, .inl (parF 9)), .inl (0, 12, .inl (fun _ => 0)), .inl (0, 12, .inl (fun _ => 0)), (.inl (4, 6, .inr (.inr (.inr (.inr (demR b)))))), .inl (0, 6, .inl (fun _ => 0)), .inr (5, [.int 0, .int 0, .int 1, .int 0, .int 0, .int 0]), .inr (5, [.int 0, .int 0, .int 1, .int 0, .int 0, .int 0]), .inr (5, [.int 0, .int 0, .int 1, .int 0, .int 0, .int 0]), .inr (5, [.int 0, .int 0, .int 1, .int 0, .int 0, .int 0]), .inr (5, [.int 0, .int 0, .int 1, .int 0, .int 0, .int 0]), .inr (5, [.int 0, .int 0, .int 1, .int 0, .int 0, .int 0])]
def setB (b : Nat) : Mem := .inr (8, [.ref (b + 1), .ref (b + 14), .ref (b + 16), .ref (b + 18)]) :: (basB (b + 1) ++ (lin4_5 (b + 14) ++ (lin2_8 (b + 16) ++ lin3_8 (b + 18))))
theorem n_fX5_init (μ : Mem) : fX5_init μ.length (μ ++ [.inr (5, dfl5)]) = some ((), μ ++ demB μ.length) := by
  unfold fX5_init
  refine (stP (by rfl)).trans ?_
  refine (stP (by rfl)).trans ?_
  refine (stP (by rfl)).trans ?_
  refine (stP (by rfl)).trans ?_
  refine (stP (by rfl)).trans ?_
  refine (stP (by rfl)).trans ?_
  rfl
theorem n_fX7_init (μ : Mem) : fX7_init μ.length (μ ++ [.inr (7, dfl7)]) = some ((), μ ++ pasB μ.length) := by
  unfold fX7_init
  refine (stP (by rfl)).trans ?_
  refine (stP (by rfl)).trans ?_
  refine (stP (by rfl)).trans ?_
  refine (stP (by rfl)).trans ?_
  refine (stP (by rfl)).trans ?_
  refine (stP (by rfl)).trans ?_
  rfl
theorem n_fX6_init_4_5 (μ : Mem) : fX6_init_4_5 μ.length (μ ++ [.inr (6, dfl6)]) = some ((), μ ++ lin4_5 μ.length) := by
  unfold fX6_init_4_5
  refine (stP (by rfl)).trans ?_
  refine (stP (by rfl)).trans ?_
  refine (stP (by rfl)).trans ?_
  refine (stA 1 (by rfl)).trans ?_
  refine (stP (by rfl)).trans ?_
  rfl
theorem n_fX6_init_2_8 (μ : Mem) : fX6_init_2_8 μ.length (μ ++ [.inr (6, dfl6)]) = some ((), μ ++ lin2_8 μ.length) := by
  unfold fX6_init_2_8
  refine (stP (by rfl)).trans ?_
  refine (stP (by rfl)).trans ?_
  refine (stP (by rfl)).trans ?_
  refine (stA 1 (by rfl)).trans ?_
  refine (stP (by rfl)).trans ?_
  rfl
theorem n_fX6_init_3_8 (μ : Mem) : fX6_init_3_8 μ.length (μ ++ [.inr (6, dfl6)]) = some ((), μ ++ lin3_8 μ.length) := by
  unfold fX6_init_3_8
  refine (stP (by rfl)).trans ?_
  refine (stP (by rfl)).trans ?_
  refine (stP (by rfl)).trans ?_
  refine (stA 1 (by rfl)).trans ?_
  refine (stP (by rfl)).trans ?_
  rfl
theorem n_fX6_init_1_100 (μ : Mem) : fX6_init_1_100 μ.length (μ ++ [.inr (6, dfl6)]) = some ((), μ ++ lin1_100 μ.length) := by
  unfold fX6_init_1_100
  refine (stP (by rfl)).trans ?_
  refine (stP (by rfl)).trans ?_
  refine (stP (by rfl)).trans ?_
  refine (stA 1 (by rfl)).trans ?_
  refine (stP (by rfl)).trans ?_
  rfl
theorem n_fX6_init_1_24 (μ : Mem) : fX6_init_1_24 μ.length (μ ++ [.inr (6, dfl6)]) = some ((), μ ++ lin1_24 μ.length) := by
  unfold fX6_init_1_24
  refine (stP (by rfl)).trans ?_
  refine (stP (by rfl)).trans ?_
  refine (stP (by rfl)).trans ?_
  refine (stA 1 (by rfl)).trans ?_
  refine (stP (by rfl)).trans ?_
  rfl
theorem n_fX1_init (μ : Mem) : fX1_init μ.length (μ ++ [.inr (1, dfl1)]) = some ((), μ ++ rowB μ.length) := by
  unfold fX1_init
  refine (stA 1 (by rfl)).trans ?_
  refine (stP (by rfl)).trans ?_
  refine (stA 2 (by rfl)).trans ?_
  refine (stP (by rfl)).trans ?_
  refine (stA 3 (by rfl)).trans ?_
  refine (stP (by rfl)).trans ?_
  refine (stA 4 (by rfl)).trans ?_
  refine (stP (by rfl)).trans ?_
  rfl
theorem n_fX2_init (μ : Mem) : fX2_init μ.length (μ ++ [.inr (2, dfl2)]) = some ((), μ ++ chaB μ.length) := by
  unfold fX2_init
  refine (stA 1 (by rfl)).trans ?_
  refine (stP (by rfl)).trans ?_
  refine (stA 2 (by rfl)).trans ?_
  refine (stP (by rfl)).trans ?_
  refine (stA 3 (by rfl)).trans ?_
  refine (stP (by rfl)).trans ?_
  refine (stA 4 (by rfl)).trans ?_
  refine (stP (by rfl)).trans ?_
  refine (stA 5 (by rfl)).trans ?_
  refine (stP (by rfl)).trans ?_
  refine (stA 6 (by rfl)).trans ?_
  refine (stP (by rfl)).trans ?_
  refine (stP (by rfl)).trans ?_
  rfl
theorem n_fX3_init (μ : Mem) : fX3_init μ.length (μ ++ [.inr (3, dfl3)]) = some ((), μ ++ claB μ.length) := by
  unfold fX3_init
  refine (stA 1 (by rfl)).trans ?_
  refine (stP (by rfl)).trans ?_
  refine (stP (by rfl)).trans ?_
  refine (stP (by rfl)).trans ?_
  rfl
theorem n_fX4_init (μ : Mem) : fX4_init μ.length (μ ++ [.inr (4, dfl4)]) = some ((), μ ++ couB μ.length) := by
  unfold fX4_init
  refine (stN (B := pasB) n_fX7_init 1 (by rfl)).trans ?_
  refine (stP (by rfl)).trans ?_
  refine (stA 2 (by rfl)).trans ?_
  refine (stP (by rfl)).trans ?_
  refine (stA 3 (by rfl)).trans ?_
  refine (stP (by rfl)).trans ?_
  refine (stP (by rfl)).trans ?_
  refine (stP (by rfl)).trans ?_
  refine (stP (by rfl)).trans ?_
  refine (stP (by rfl)).trans ?_
  refine (stP (by rfl)).trans ?_
  rfl
theorem n_fX9_init (μ : Mem) : fX9_init μ.length (μ ++ [.inr (9, dfl9)]) = some ((), μ ++ tapB μ.length) := by
  unfold fX9_init
  refine (stP (by rfl)).trans ?_
  refine (stP (by rfl)).trans ?_
  refine (stA 1 (by rfl)).trans ?_
  refine (stP (by rfl)).trans ?_
  rfl
theorem infF_0 : infF 0 = fun _ => 0 := funext fun i => if_neg (by omega)
theorem infF_s {m : Nat} : upd (upd (upd (infF m) (m * 3) 1) (m * 3 + 1) 2) (m * 3 + 2) 4 = infF (m + 1) := funext fun i => by
  unfold upd infF
  by_cases c : i < 3 * m
  · rw [if_neg (show ¬ i = m * 3 + 2 by omega), if_neg (show ¬ i = m * 3 + 1 by omega), if_neg (show ¬ i = m * 3 by omega), if_pos c, if_pos (show i < 3 * (m + 1) by omega)]
  · by_cases c0 : i = m * 3
    · rw [if_neg (by omega), if_neg (by omega), if_pos c0, if_pos (by omega), if_pos (by omega)]
    · by_cases c1 : i = m * 3 + 1
      · rw [if_neg (by omega), if_pos c1, if_pos (by omega), if_neg (by omega), if_pos (by omega)]
      · by_cases c2 : i = m * 3 + 2
        · rw [if_pos c2, if_pos (by omega), if_neg (by omega), if_neg (by omega)]
        · rw [if_neg c2, if_neg c1, if_neg c0, if_neg c, if_neg (by omega)]
theorem parF_0 : parF 0 = fun _ => 0 := funext fun i => if_neg (by omega)
theorem parF_s {m : Nat} : upd (parF m) m 1 = parF (m + 1) := funext fun i => by
  unfold upd parF
  by_cases c : i < m
  · rw [if_neg (show ¬ i = m by omega), if_pos c, if_pos (show i < m + 1 by omega)]
  · by_cases c0 : i = m
    · rw [if_pos c0, if_pos (by omega)]
    · rw [if_neg c0, if_neg c, if_neg (by omega)]
theorem n_inf {G : Mem → Option (Unit × Mem)} (h : fs[4]? = some (.ref (μ.length + 1))) : ∀ (n m : Nat), 12 - m < n → m ≤ 12 → X0_init_L82 G μ.length n (iN m) (μ ++ .inr (0, fs) :: .inl (0, 36, .inl (infF m)) :: R) = G (μ ++ .inr (0, fs) :: .inl (0, 36, .inl (infF 12)) :: R) := by
  intro n
  induction n with
  | zero => intro m h1; omega
  | succ n ih =>
    intro m h1 h2
    rw [X0_init_L82]
    by_cases c : 12 ≤ m
    · have : m = 12 := by omega
      subst this
      rw [if_pos (by decide)]
    · rw [if_neg (by rw [iN_Lle (by omega) (by omega)]; exact c)]
      rw [iN_mulL, iN_addL, iN_addL, iN_addL]
      refine (stG _ h).trans ?_
      refine (stI (a := 1) rfl rfl (by omega) (by omega)).trans ?_
      refine (stG _ h).trans ?_
      refine (stI (a := 1) rfl rfl (by omega) (by omega)).trans ?_
      refine (stG _ h).trans ?_
      refine (stI (a := 1) rfl rfl (by omega) (by omega)).trans ?_
      have e := ih (m + 1) (by omega) (by omega)
      rw [← infF_s] at e
      exact e
theorem n_par {G : Mem → Option (Unit × Mem)} (h : fs[5]? = some (.ref (μ.length + 2))) : ∀ (n m : Nat), 9 - m < n → m ≤ 9 → X0_init_L127 G μ.length n (iN m) (μ ++ .inr (0, fs) :: c0 :: .inl (0, 9, .inl (parF m)) :: R) = G (μ ++ .inr (0, fs) :: c0 :: .inl (0, 9, .inl (parF 9)) :: R) := by
  intro n
  induction n with
  | zero => intro m h1; omega
  | succ n ih =>
    intro m h1 h2
    rw [X0_init_L127]
    by_cases c : 9 ≤ m
    · have : m = 9 := by omega
      subst this
      rw [if_pos (by decide)]
    · rw [if_neg (by rw [iN_Lle (by omega) (by omega)]; exact c)]
      rw [iN_addL]
      refine (stG _ h).trans ?_
      refine (stI (a := 2) rfl rfl (by omega) (by omega)).trans ?_
      have e := ih (m + 1) (by omega) (by omega)
      rw [← parF_s] at e
      exact e
theorem n_inf0 {G : Mem → Option (Unit × Mem)} (h : fs[4]? = some (.ref (μ.length + 1))) : X0_init_L82 G μ.length FU 0 (μ ++ .inr (0, fs) :: .inl (0, 36, .inl (fun _ => 0)) :: R) = G (μ ++ .inr (0, fs) :: .inl (0, 36, .inl (infF 12)) :: R) := by
  have e := n_inf (G := G) (R := R) h FU 0 (by unfold FU; omega) (by omega)
  rw [infF_0, show iN 0 = (0 : Int32) from rfl] at e
  exact e
theorem n_par0 {G : Mem → Option (Unit × Mem)} (h : fs[5]? = some (.ref (μ.length + 2))) : X0_init_L127 G μ.length FU 0 (μ ++ .inr (0, fs) :: c0 :: .inl (0, 9, .inl (fun _ => 0)) :: R) = G (μ ++ .inr (0, fs) :: c0 :: .inl (0, 9, .inl (parF 9)) :: R) := by
  have e := n_par (G := G) (R := R) (c0 := c0) h FU 0 (by unfold FU; omega) (by omega)
  rw [parF_0, show iN 0 = (0 : Int32) from rfl] at e
  exact e
theorem ref_row {b d : Nat} {f : Nat → Option Nat} {n : Nat} (h : ∀ j, f j = if j < n then some (b + d * j) else none) : f = fun j => if j < n then some (b + d * j) else none := funext h
theorem n_fX0_init (μ : Mem) : fX0_init μ.length (μ ++ [.inr (0, dfl0)]) = some ((), μ ++ basB μ.length) := by
  unfold fX0_init
  refine (stP (by rfl)).trans ?_
  refine (stP (by rfl)).trans ?_
  refine (stP (by rfl)).trans ?_
  refine (stP (by rfl)).trans ?_
  refine (stA 1 (by rfl)).trans ?_
  refine (stP (by rfl)).trans ?_
  refine (stA 2 (by rfl)).trans ?_
  refine (stP (by rfl)).trans ?_
  refine (stA 3 (by rfl)).trans ?_
  refine (stP (by rfl)).trans ?_
  refine (stA 4 (by rfl)).trans ?_
  refine (stP (by rfl)).trans ?_
  refine (stA 5 (by rfl)).trans ?_
  refine (stP (by rfl)).trans ?_
  refine (stA 6 (by rfl)).trans ?_
  refine (stP (by rfl)).trans ?_
  refine (stP (by rfl)).trans ?_
  refine (n_inf0 (by rfl)).trans ?_
  refine (n_par0 (by rfl)).trans ?_
  refine (if_skip (by decide)).trans ?_
  refine (stG (μ.length + 5) (by rfl)).trans ?_
  refine (stN (B := demB) n_fX5_init 7 (by rfl)).trans ?_
  refine (stR (a := 5) (w := 7) (i := 0) (by decide) rfl rfl (by omega) (by omega)).trans ?_
  refine (if_skip (by decide)).trans ?_
  refine (stG (μ.length + 5) (by rfl)).trans ?_
  refine (stN (B := demB) n_fX5_init 8 (by rfl)).trans ?_
  refine (stR (a := 5) (w := 8) (i := 1) (by decide) rfl rfl (by omega) (by omega)).trans ?_
  refine (if_skip (by decide)).trans ?_
  refine (stG (μ.length + 5) (by rfl)).trans ?_
  refine (stN (B := demB) n_fX5_init 9 (by rfl)).trans ?_
  refine (stR (a := 5) (w := 9) (i := 2) (by decide) rfl rfl (by omega) (by omega)).trans ?_
  refine (if_skip (by decide)).trans ?_
  refine (stG (μ.length + 5) (by rfl)).trans ?_
  refine (stN (B := demB) n_fX5_init 10 (by rfl)).trans ?_
  refine (stR (a := 5) (w := 10) (i := 3) (by decide) rfl rfl (by omega) (by omega)).trans ?_
  refine (if_skip (by decide)).trans ?_
  refine (stG (μ.length + 5) (by rfl)).trans ?_
  refine (stN (B := demB) n_fX5_init 11 (by rfl)).trans ?_
  refine (stR (a := 5) (w := 11) (i := 4) (by decide) rfl rfl (by omega) (by omega)).trans ?_
  refine (if_skip (by decide)).trans ?_
  refine (stG (μ.length + 5) (by rfl)).trans ?_
  refine (stN (B := demB) n_fX5_init 12 (by rfl)).trans ?_
  refine (stR (a := 5) (w := 12) (i := 5) (by decide) rfl rfl (by omega) (by omega)).trans ?_
  refine (if_take (by decide)).trans ?_
  rfl
end BORN
