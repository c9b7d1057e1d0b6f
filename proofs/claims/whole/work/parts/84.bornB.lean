/-! ===== both objects ===== -/
section BORNB
variable {μ R P S T : Mem} {c0 c c1 : AC} {fs : List Value} {ci k q : Nat} {v : Value}
theorem stA2 {β : Type} {F : Nat → Mem → Option β} (j : Nat) (hj : P.length + S.length + 2 = j) : nw (μ ++ c0 :: (P ++ c1 :: S)) c F = F (μ.length + j) (μ ++ c0 :: (P ++ c1 :: (S ++ [c]))) := by
  refine (stA j (by rw [List.length_append, List.length_cons]; omega)).trans ?_
  rw [List.append_assoc, List.cons_append]
theorem stN2 {β : Type} {F : Nat → Mem → Option β} {f : Nat → Mem → Option (Unit × Mem)} {B : Nat → Mem} (hf : ∀ μ : Mem, f μ.length (μ ++ [c]) = some ((), μ ++ B μ.length)) (j : Nat) (hj : P.length + S.length + 2 = j) : nw (μ ++ c0 :: (P ++ c1 :: S)) c (fun q μ5 => bd (f q μ5) (fun _ μ9 => F q μ9)) = F (μ.length + j) (μ ++ c0 :: (P ++ c1 :: (S ++ B (μ.length + j)))) := by
  refine (stN hf j (by rw [List.length_append, List.length_cons]; omega)).trans ?_
  rw [List.append_assoc, List.cons_append]
theorem sl_at {A B : Mem} {x y : AC} {n : Nat} (h : A.length = n) : (A ++ x :: B)[n]? = some x ∧ (A ++ x :: B).set n y = A ++ y :: B := by
  subst h
  exact ⟨ap_get0, ap_set0⟩
theorem stRg {β : Type} {F : Mem → Option β} {A B : Mem} {t w i n ci a : Nat} {g : List Value} {ie : Int32} {f : Nat → Option Nat} (he : ie = iN i) (ha : A.length = a) (hv : (A ++ .inl (t, n, .inr (.inr (.inr (.inr f)))) :: B)[w]? = some (.inr (ci, g))) (hi : i < n) (hn : n < 2147483648) : (sR (μ ++ (A ++ .inl (t, n, .inr (.inr (.inr (.inr f)))) :: B)) t (μ.length + a) ie (μ.length + w) ci).bind F = F (μ ++ (A ++ .inl (t, n, .inr (.inr (.inr (.inr (va_up f i (some (μ.length + w))))))) :: B)) := by
  refine (stR he (sl_at (y := .inr (0, [])) ha).1 hv hi hn).trans ?_
  rw [(sl_at ha).2]
theorem stNR5 {β : Type} {F : Mem → Option β} {f : Nat → Mem → Option (Unit × Mem)} {B B' : Nat → Mem} {gg : Nat → List Value} {t i n ci : Nat} {ie : Int32} {h : Nat → Option Nat} (hf : ∀ μ : Mem, f μ.length (μ ++ [c]) = some ((), μ ++ B μ.length)) (hB : ∀ b, B b = .inr (ci, gg b) :: B' b) (a j : Nat) (ha : P.length + 1 = a) (hj : P.length + S.length + T.length + 3 = j) (he : ie = iN i) (hi : i < n) (hn : n < 2147483648) : nw (μ ++ c0 :: (P ++ .inl (t, n, .inr (.inr (.inr (.inr h)))) :: (S ++ c1 :: T))) c (fun q μ5 => bd (f q μ5) (fun _ μ9 => (sR μ9 t (μ.length + a) ie q ci).bind F)) = F (μ ++ c0 :: (P ++ .inl (t, n, .inr (.inr (.inr (.inr (va_up h i (some (μ.length + j))))))) :: (S ++ c1 :: (T ++ B (μ.length + j))))) := by
  refine (stN (F := fun q μ9 => (sR μ9 t (μ.length + a) ie q ci).bind F) hf j (by rw [List.length_append, List.length_cons, List.length_append, List.length_cons]; omega)).trans ?_
  have e : c0 :: (P ++ .inl (t, n, .inr (.inr (.inr (.inr h)))) :: (S ++ c1 :: T) ++ B (μ.length + j)) = (c0 :: P) ++ .inl (t, n, .inr (.inr (.inr (.inr h)))) :: (S ++ c1 :: (T ++ B (μ.length + j))) := by
    simp only [List.append_assoc, List.cons_append]
  rw [e]
  refine (stRg (A := c0 :: P) he (by rw [List.length_cons]; exact ha) (g := gg (μ.length + j)) ?_ hi hn).trans ?_
  · have e2 : (c0 :: P) ++ .inl (t, n, .inr (.inr (.inr (.inr h)))) :: (S ++ c1 :: (T ++ B (μ.length + j))) = ((c0 :: P) ++ .inl (t, n, .inr (.inr (.inr (.inr h)))) :: (S ++ c1 :: T)) ++ .inr (ci, gg (μ.length + j)) :: B' (μ.length + j) := by
      rw [hB]
      simp only [List.append_assoc, List.cons_append]
    rw [e2]
    exact (sl_at (y := c) (by simp only [List.length_append, List.length_cons]; omega)).1
  · rw [List.cons_append]
theorem stNR6 {β : Type} {F : Mem → Option β} {f : Nat → Mem → Option (Unit × Mem)} {B B' : Nat → Mem} {gg : Nat → List Value} {t i n ci : Nat} {ie : Int32} {h : Nat → Option Nat} (hf : ∀ μ : Mem, f μ.length (μ ++ [c]) = some ((), μ ++ B μ.length)) (hB : ∀ b, B b = .inr (ci, gg b) :: B' b) (a j : Nat) (ha : P.length + S.length + 2 = a) (hj : P.length + S.length + T.length + 3 = j) (he : ie = iN i) (hi : i < n) (hn : n < 2147483648) : nw (μ ++ c0 :: (P ++ c1 :: (S ++ .inl (t, n, .inr (.inr (.inr (.inr h)))) :: T))) c (fun q μ5 => bd (f q μ5) (fun _ μ9 => (sR μ9 t (μ.length + a) ie q ci).bind F)) = F (μ ++ c0 :: (P ++ c1 :: (S ++ .inl (t, n, .inr (.inr (.inr (.inr (va_up h i (some (μ.length + j))))))) :: (T ++ B (μ.length + j))))) := by
  refine (stN (F := fun q μ9 => (sR μ9 t (μ.length + a) ie q ci).bind F) hf j (by rw [List.length_append, List.length_cons, List.length_append, List.length_cons]; omega)).trans ?_
  have e : c0 :: (P ++ c1 :: (S ++ .inl (t, n, .inr (.inr (.inr (.inr h)))) :: T) ++ B (μ.length + j)) = (c0 :: (P ++ c1 :: S)) ++ .inl (t, n, .inr (.inr (.inr (.inr h)))) :: (T ++ B (μ.length + j)) := by
    simp only [List.append_assoc, List.cons_append]
  rw [e]
  refine (stRg (A := c0 :: (P ++ c1 :: S)) he (by simp only [List.length_append, List.length_cons]; omega) (g := gg (μ.length + j)) ?_ hi hn).trans ?_
  · have e2 : (c0 :: (P ++ c1 :: S)) ++ .inl (t, n, .inr (.inr (.inr (.inr h)))) :: (T ++ B (μ.length + j)) = ((c0 :: (P ++ c1 :: S)) ++ .inl (t, n, .inr (.inr (.inr (.inr h)))) :: T) ++ .inr (ci, gg (μ.length + j)) :: B' (μ.length + j) := by
      rw [hB]
      simp only [List.append_assoc, List.cons_append]
    rw [e2]
    exact (sl_at (y := c) (by simp only [List.length_append, List.length_cons]; omega)).1
  · simp only [List.append_assoc, List.cons_append]
theorem n_fX8_init (μ : Mem) : fX8_init μ.length (μ ++ [.inr (8, dfl8)]) = some ((), μ ++ setB μ.length) := by
  unfold fX8_init
  refine (stN (B := basB) n_fX0_init 1 (by rfl)).trans ?_
  refine (stP (by rfl)).trans ?_
  refine (stN (B := lin4_5) n_fX6_init_4_5 14 (by rfl)).trans ?_
  refine (stP (by rfl)).trans ?_
  refine (stN (B := lin2_8) n_fX6_init_2_8 16 (by rfl)).trans ?_
  refine (stP (by rfl)).trans ?_
  refine (stN (B := lin3_8) n_fX6_init_3_8 18 (by rfl)).trans ?_
  refine (stP (by rfl)).trans ?_
  rfl
def dfl10 : List Value := [.null, .null, .int 0, .null, .null, .null, .int 0, .int 0, .int 0, .int 0, .null, .null, .null, .null, .null, .null, .null]
def recR (b : Nat) : Nat → Option Nat := va_up (va_up (va_up (va_up (fun _ => none) 0 (some (b + 82))) 1 (some (b + 84))) 2 (some (b + 86))) 3 (some (b + 88))
def tapR (b : Nat) : Nat → Option Nat := va_up (va_up (va_up (va_up (va_up (va_up (fun _ => none) 0 (some (b + 90))) 1 (some (b + 92))) 2 (some (b + 94))) 3 (some (b + 96))) 4 (some (b + 98))) 5 (some (b + 100))
def preB (b : Nat) : Mem := (((((((([] ++ setB (b + 1)) ++ setB (b + 21)) ++ basB (b + 41)) ++ rowB (b + 54)) ++ rowB (b + 59)) ++ chaB (b + 64)) ++ pasB (b + 71)) ++ couB (b + 72))
def midB (b : Nat) : Mem := ([] ++ lin1_100 (b + 77)) ++ claB (b + 79)
def taiB (b : Nat) : Mem := (((((((((([] ++ lin1_24 (b + 82)) ++ lin1_24 (b + 84)) ++ lin1_24 (b + 86)) ++ lin1_24 (b + 88)) ++ tapB (b + 90)) ++ tapB (b + 92)) ++ tapB (b + 94)) ++ tapB (b + 96)) ++ tapB (b + 98)) ++ tapB (b + 100))
def minB (b : Nat) : Mem := .inr (10, [.ref (b + 1), .ref (b + 21), .int 0, .ref (b + 41), .ref (b + 54), .ref (b + 59), .int 0, .int 0, .int 0, .int (-5), .ref (b + 64), .ref (b + 71), .ref (b + 72), .ref (b + 76), .ref (b + 77), .ref (b + 79), .ref (b + 81)]) :: (preB b ++ .inl (5, 4, .inr (.inr (.inr (.inr (recR b))))) :: (midB b ++ .inl (6, 6, .inr (.inr (.inr (.inr (tapR b))))) :: taiB b))
set_option maxRecDepth 100000 in
theorem n10_tail (hP : P.length = 75) (hS : S.length = 4) (h13 : fs[13]? = some (.ref (μ.length + 76))) (h16 : fs[16]? = some (.ref (μ.length + 81))) : (fun (μ157 : Mem) => if (4 : Int32) ≤ (0 : Int32) then (none) else ((gR μ157 μ.length 10 13).bind fun x168 => nw μ157 (.inr (6, dfl6)) fun q172 μ172 => bd (fX6_init_1_24 q172 μ172) fun _ μ179 => (sR μ179 5 x168 ((0 : Int32)) q172 6).bind fun μ182 => if (4 : Int32) ≤ ((0 : Int32) + 1) then (none) else ((gR μ182 μ.length 10 13).bind fun x168_1 => nw μ182 (.inr (6, dfl6)) fun q172_1 μ172_1 => bd (fX6_init_1_24 q172_1 μ172_1) fun _ μ179_1 => (sR μ179_1 5 x168_1 (((0 : Int32) + 1)) q172_1 6).bind fun μ182_1 => if (4 : Int32) ≤ (((0 : Int32) + 1) + 1) then (none) else ((gR μ182_1 μ.length 10 13).bind fun x168_2 => nw μ182_1 (.inr (6, dfl6)) fun q172_2 μ172_2 => bd (fX6_init_1_24 q172_2 μ172_2) fun _ μ179_2 => (sR μ179_2 5 x168_2 ((((0 : Int32) + 1) + 1)) q172_2 6).bind fun μ182_2 => if (4 : Int32) ≤ ((((0 : Int32) + 1) + 1) + 1) then (none) else ((gR μ182_2 μ.length 10 13).bind fun x168_3 => nw μ182_2 (.inr (6, dfl6)) fun q172_3 μ172_3 => bd (fX6_init_1_24 q172_3 μ172_3) fun _ μ179_3 => (sR μ179_3 5 x168_3 (((((0 : Int32) + 1) + 1) + 1)) q172_3 6).bind fun μ182_3 => if (4 : Int32) ≤ (((((0 : Int32) + 1) + 1) + 1) + 1) then (if (6 : Int32) ≤ (0 : Int32) then (none) else ((gR μ182_3 μ.length 10 16).bind fun x198 => nw μ182_3 (.inr (9, dfl9)) fun q202 μ202 => bd (fX9_init q202 μ202) fun _ μ206 => (sR μ206 6 x198 ((0 : Int32)) q202 9).bind fun μ209 => if (6 : Int32) ≤ ((0 : Int32) + 1) then (none) else ((gR μ209 μ.length 10 16).bind fun x198_1 => nw μ209 (.inr (9, dfl9)) fun q202_1 μ202_1 => bd (fX9_init q202_1 μ202_1) fun _ μ206_1 => (sR μ206_1 6 x198_1 (((0 : Int32) + 1)) q202_1 9).bind fun μ209_1 => if (6 : Int32) ≤ (((0 : Int32) + 1) + 1) then (none) else ((gR μ209_1 μ.length 10 16).bind fun x198_2 => nw μ209_1 (.inr (9, dfl9)) fun q202_2 μ202_2 => bd (fX9_init q202_2 μ202_2) fun _ μ206_2 => (sR μ206_2 6 x198_2 ((((0 : Int32) + 1) + 1)) q202_2 9).bind fun μ209_2 => if (6 : Int32) ≤ ((((0 : Int32) + 1) + 1) + 1) then (none) else ((gR μ209_2 μ.length 10 16).bind fun x198_3 => nw μ209_2 (.inr (9, dfl9)) fun q202_3 μ202_3 => bd (fX9_init q202_3 μ202_3) fun _ μ206_3 => (sR μ206_3 6 x198_3 (((((0 : Int32) + 1) + 1) + 1)) q202_3 9).bind fun μ209_3 => if (6 : Int32) ≤ (((((0 : Int32) + 1) + 1) + 1) + 1) then (none) else ((gR μ209_3 μ.length 10 16).bind fun x198_4 => nw μ209_3 (.inr (9, dfl9)) fun q202_4 μ202_4 => bd (fX9_init q202_4 μ202_4) fun _ μ206_4 => (sR μ206_4 6 x198_4 ((((((0 : Int32) + 1) + 1) + 1) + 1)) q202_4 9).bind fun μ209_4 => if (6 : Int32) ≤ ((((((0 : Int32) + 1) + 1) + 1) + 1) + 1) then (none) else ((gR μ209_4 μ.length 10 16).bind fun x198_5 => nw μ209_4 (.inr (9, dfl9)) fun q202_5 μ202_5 => bd (fX9_init q202_5 μ202_5) fun _ μ206_5 => (sR μ206_5 6 x198_5 (((((((0 : Int32) + 1) + 1) + 1) + 1) + 1)) q202_5 9).bind fun μ209_5 => if (6 : Int32) ≤ (((((((0 : Int32) + 1) + 1) + 1) + 1) + 1) + 1) then (some ((), μ209_5)) else (none)))))))) else (none)))))) (μ ++ .inr (10, fs) :: (P ++ .inl (5, 4, .inr (.inr (.inr (.inr (fun _ => none))))) :: (S ++ .inl (6, 6, .inr (.inr (.inr (.inr (fun _ => none))))) :: []))) = some ((), μ ++ .inr (10, fs) :: (P ++ .inl (5, 4, .inr (.inr (.inr (.inr (recR μ.length))))) :: (S ++ .inl (6, 6, .inr (.inr (.inr (.inr (tapR μ.length))))) :: taiB μ.length))) := by
  refine (if_skip (by decide)).trans ?_
  refine (stG (μ.length + 76) h13).trans ?_
  refine (stNR5 (B := lin1_24) (gg := (fun b => [.int 1, .int 24, .ref (b + 1), .int 0])) (B' := (fun _ => [.inl (0, 24, .inl (fun _ => 0))])) (i := 0) n_fX6_init_1_24 (fun b => rfl) 76 82 (by rw [hP]) (by rw [hP, hS]; rfl) (by decide) (by omega) (by omega)).trans ?_
  refine (if_skip (by decide)).trans ?_
  refine (stG (μ.length + 76) h13).trans ?_
  refine (stNR5 (B := lin1_24) (gg := (fun b => [.int 1, .int 24, .ref (b + 1), .int 0])) (B' := (fun _ => [.inl (0, 24, .inl (fun _ => 0))])) (i := 1) n_fX6_init_1_24 (fun b => rfl) 76 84 (by rw [hP]) (by rw [hP, hS]; rfl) (by decide) (by omega) (by omega)).trans ?_
  refine (if_skip (by decide)).trans ?_
  refine (stG (μ.length + 76) h13).trans ?_
  refine (stNR5 (B := lin1_24) (gg := (fun b => [.int 1, .int 24, .ref (b + 1), .int 0])) (B' := (fun _ => [.inl (0, 24, .inl (fun _ => 0))])) (i := 2) n_fX6_init_1_24 (fun b => rfl) 76 86 (by rw [hP]) (by rw [hP, hS]; rfl) (by decide) (by omega) (by omega)).trans ?_
  refine (if_skip (by decide)).trans ?_
  refine (stG (μ.length + 76) h13).trans ?_
  refine (stNR5 (B := lin1_24) (gg := (fun b => [.int 1, .int 24, .ref (b + 1), .int 0])) (B' := (fun _ => [.inl (0, 24, .inl (fun _ => 0))])) (i := 3) n_fX6_init_1_24 (fun b => rfl) 76 88 (by rw [hP]) (by rw [hP, hS]; rfl) (by decide) (by omega) (by omega)).trans ?_
  refine (if_take (by decide)).trans ?_
  refine (if_skip (by decide)).trans ?_
  refine (stG (μ.length + 81) h16).trans ?_
  refine (stNR6 (B := tapB) (gg := (fun b => [.int (-1), .int 0, .ref (b + 1)])) (B' := (fun _ => [.inl (1, 60, .inr (.inl (fun _ => 0)))])) (i := 0) n_fX9_init (fun b => rfl) 81 90 (by rw [hP, hS]) (by rw [hP, hS]; rfl) (by decide) (by omega) (by omega)).trans ?_
  refine (if_skip (by decide)).trans ?_
  refine (stG (μ.length + 81) h16).trans ?_
  refine (stNR6 (B := tapB) (gg := (fun b => [.int (-1), .int 0, .ref (b + 1)])) (B' := (fun _ => [.inl (1, 60, .inr (.inl (fun _ => 0)))])) (i := 1) n_fX9_init (fun b => rfl) 81 92 (by rw [hP, hS]) (by rw [hP, hS]; rfl) (by decide) (by omega) (by omega)).trans ?_
  refine (if_skip (by decide)).trans ?_
  refine (stG (μ.length + 81) h16).trans ?_
  refine (stNR6 (B := tapB) (gg := (fun b => [.int (-1), .int 0, .ref (b + 1)])) (B' := (fun _ => [.inl (1, 60, .inr (.inl (fun _ => 0)))])) (i := 2) n_fX9_init (fun b => rfl) 81 94 (by rw [hP, hS]) (by rw [hP, hS]; rfl) (by decide) (by omega) (by omega)).trans ?_
  refine (if_skip (by decide)).trans ?_
  refine (stG (μ.length + 81) h16).trans ?_
  refine (stNR6 (B := tapB) (gg := (fun b => [.int (-1), .int 0, .ref (b + 1)])) (B' := (fun _ => [.inl (1, 60, .inr (.inl (fun _ => 0)))])) (i := 3) n_fX9_init (fun b => rfl) 81 96 (by rw [hP, hS]) (by rw [hP, hS]; rfl) (by decide) (by omega) (by omega)).trans ?_
  refine (if_skip (by decide)).trans ?_
  refine (stG (μ.length + 81) h16).trans ?_
  refine (stNR6 (B := tapB) (gg := (fun b => [.int (-1), .int 0, .ref (b + 1)])) (B' := (fun _ => [.inl (1, 60, .inr (.inl (fun _ => 0)))])) (i := 4) n_fX9_init (fun b => rfl) 81 98 (by rw [hP, hS]) (by rw [hP, hS]; rfl) (by decide) (by omega) (by omega)).trans ?_
  refine (if_skip (by decide)).trans ?_
  refine (stG (μ.length + 81) h16).trans ?_
  refine (stNR6 (B := tapB) (gg := (fun b => [.int (-1), .int 0, .ref (b + 1)])) (B' := (fun _ => [.inl (1, 60, .inr (.inl (fun _ => 0)))])) (i := 5) n_fX9_init (fun b => rfl) 81 100 (by rw [hP, hS]) (by rw [hP, hS]; rfl) (by decide) (by omega) (by omega)).trans ?_
  refine (if_take (by decide)).trans ?_
  rfl
set_option maxRecDepth 100000 in
set_option maxHeartbeats 4000000 in
theorem n_fX10_init (μ : Mem) : fX10_init μ.length (μ ++ [.inr (10, dfl10)]) = some ((), μ ++ minB μ.length) := by
  unfold fX10_init
  refine (stN (B := setB) n_fX8_init 1 (by rfl)).trans ?_
  refine (stP (by rfl)).trans ?_
  refine (stN (B := setB) n_fX8_init 21 (by rfl)).trans ?_
  refine (stP (by rfl)).trans ?_
  refine (stZ (Or.inl rfl) (by rfl)).trans ?_
  refine (stN (B := basB) n_fX0_init 41 (by rfl)).trans ?_
  refine (stP (by rfl)).trans ?_
  refine (stN (B := rowB) n_fX1_init 54 (by rfl)).trans ?_
  refine (stP (by rfl)).trans ?_
  refine (stN (B := rowB) n_fX1_init 59 (by rfl)).trans ?_
  refine (stP (by rfl)).trans ?_
  refine (stZ (Or.inl rfl) (by rfl)).trans ?_
  refine (stZ (Or.inl rfl) (by rfl)).trans ?_
  refine (stP (by rfl)).trans ?_
  refine (stP (by rfl)).trans ?_
  refine (stN (B := chaB) n_fX2_init 64 (by rfl)).trans ?_
  refine (stP (by rfl)).trans ?_
  refine (stN (B := pasB) n_fX7_init 71 (by rfl)).trans ?_
  refine (stP (by rfl)).trans ?_
  refine (stN (B := couB) n_fX4_init 72 (by rfl)).trans ?_
  refine (stP (by rfl)).trans ?_
  refine (stA 76 (by rfl)).trans ?_
  refine (stP (by rfl)).trans ?_
  refine (stN2 (P := preB μ.length) (B := lin1_100) n_fX6_init_1_100 77 (by rfl)).trans ?_
  refine (stP (by rfl)).trans ?_
  refine (stN2 (P := preB μ.length) (B := claB) n_fX3_init 79 (by rfl)).trans ?_
  refine (stP (by rfl)).trans ?_
  refine (stA2 (P := preB μ.length) 81 (by rfl)).trans ?_
  refine (stP (by rfl)).trans ?_
  exact n10_tail (P := preB μ.length) (S := midB μ.length) rfl rfl rfl rfl
end BORNB
