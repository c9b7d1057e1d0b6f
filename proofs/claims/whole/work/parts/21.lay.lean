/-! ===== the memory as it stands behind both constructors: a store of ints, floats, longs by place and index ===== -/
abbrev Sto : Type := (Nat → Nat → Int32) × (Nat → Nat → UInt32) × (Nat → Nat → Int64) × Nat × Nat
abbrev ShC : Type := (Nat × Nat × Nat × Nat) ⊕ (Nat × List (Nat × Nat))
def flV (s : Sto) (p k : Nat) : Nat × Nat → Value
  | (0, _) => .int (s.1 p k)
  | (1, _) => .float (s.2.1 p k)
  | (2, c) => .int (iN c)
  | (3, r) => .ref r
  | (4, _) => .ref s.2.2.2.1
  | _ => .ref s.2.2.2.2
def flds (s : Sto) (p : Nat) : Nat → List (Nat × Nat) → List Value
  | _, [] => []
  | k, f :: fs => flV s p k f :: flds s p (k + 1) fs
def cel (s : Sto) (p : Nat) : ShC → AC
  | .inl (0, n, _) => .inl (0, n, .inl (s.1 p))
  | .inl (3, n, _) => .inl (3, n, .inl (s.1 p))
  | .inl (1, n, _) => .inl (1, n, .inr (.inl (s.2.2.1 p)))
  | .inl (2, n, _) => .inl (2, n, .inr (.inr (.inl (s.2.1 p))))
  | .inl (t, n, b, d) => .inl (t, n, .inr (.inr (.inr (.inr (fun j => if j < n then some (b + d * j) else none)))))
  | .inr (ci, fs) => .inr (ci, flds s p 0 fs)
def cels (s : Sto) : Nat → List ShC → Mem
  | _, [] => []
  | p, c :: cs => cel s p c :: cels s (p + 1) cs
def shp : List ShC :=
  [.inr (10, [(3, 1), (3, 21), (0, 0), (3, 41), (3, 54), (3, 59), (0, 0), (0, 0), (0, 0), (0, 0), (3, 64), (3, 70), (3, 71), (3, 75), (3, 76), (3, 78), (3, 80)]),
  .inr (8, [(3, 2), (3, 15), (3, 17), (3, 19)]),
  .inr (0, [(0, 0), (0, 0), (0, 0), (0, 0), (3, 3), (3, 4), (3, 5), (3, 6), (3, 7), (3, 8), (0, 0)]),
  .inl (0, 36, 0, 0),
  .inl (0, 9, 0, 0),
  .inl (0, 12, 0, 0),
  .inl (0, 12, 0, 0),
  .inl (4, 6, 9, 1),
  .inl (0, 6, 0, 0),
  .inr (5, [(0, 0), (0, 0), (0, 0), (0, 0), (0, 0), (0, 0)]),
  .inr (5, [(0, 0), (0, 0), (0, 0), (0, 0), (0, 0), (0, 0)]),
  .inr (5, [(0, 0), (0, 0), (0, 0), (0, 0), (0, 0), (0, 0)]),
  .inr (5, [(0, 0), (0, 0), (0, 0), (0, 0), (0, 0), (0, 0)]),
  .inr (5, [(0, 0), (0, 0), (0, 0), (0, 0), (0, 0), (0, 0)]),
  .inr (5, [(0, 0), (0, 0), (0, 0), (0, 0), (0, 0), (0, 0)]),
  .inr (6, [(2, 4), (2, 5), (3, 16), (0, 0)]),
  .inl (0, 20, 0, 0),
  .inr (6, [(2, 2), (2, 8), (3, 18), (0, 0)]),
  .inl (0, 16, 0, 0),
  .inr (6, [(2, 3), (2, 8), (3, 20), (0, 0)]),
  .inl (0, 24, 0, 0),
  .inr (8, [(3, 22), (3, 35), (3, 37), (3, 39)]),
  .inr (0, [(0, 0), (0, 0), (0, 0), (0, 0), (3, 23), (3, 24), (3, 25), (3, 26), (3, 27), (3, 28), (0, 0)]),
  .inl (0, 36, 0, 0),
  .inl (0, 9, 0, 0),
  .inl (0, 12, 0, 0),
  .inl (0, 12, 0, 0),
  .inl (4, 6, 29, 1),
  .inl (0, 6, 0, 0),
  .inr (5, [(0, 0), (0, 0), (0, 0), (0, 0), (0, 0), (0, 0)]),
  .inr (5, [(0, 0), (0, 0), (0, 0), (0, 0), (0, 0), (0, 0)]),
  .inr (5, [(0, 0), (0, 0), (0, 0), (0, 0), (0, 0), (0, 0)]),
  .inr (5, [(0, 0), (0, 0), (0, 0), (0, 0), (0, 0), (0, 0)]),
  .inr (5, [(0, 0), (0, 0), (0, 0), (0, 0), (0, 0), (0, 0)]),
  .inr (5, [(0, 0), (0, 0), (0, 0), (0, 0), (0, 0), (0, 0)]),
  .inr (6, [(2, 4), (2, 5), (3, 36), (0, 0)]),
  .inl (0, 20, 0, 0),
  .inr (6, [(2, 2), (2, 8), (3, 38), (0, 0)]),
  .inl (0, 16, 0, 0),
  .inr (6, [(2, 3), (2, 8), (3, 40), (0, 0)]),
  .inl (0, 24, 0, 0),
  .inr (0, [(0, 0), (0, 0), (0, 0), (0, 0), (3, 42), (3, 43), (3, 44), (3, 45), (3, 46), (3, 47), (0, 0)]),
  .inl (0, 36, 0, 0),
  .inl (0, 9, 0, 0),
  .inl (0, 12, 0, 0),
  .inl (0, 12, 0, 0),
  .inl (4, 6, 48, 1),
  .inl (0, 6, 0, 0),
  .inr (5, [(0, 0), (0, 0), (0, 0), (0, 0), (0, 0), (0, 0)]),
  .inr (5, [(0, 0), (0, 0), (0, 0), (0, 0), (0, 0), (0, 0)]),
  .inr (5, [(0, 0), (0, 0), (0, 0), (0, 0), (0, 0), (0, 0)]),
  .inr (5, [(0, 0), (0, 0), (0, 0), (0, 0), (0, 0), (0, 0)]),
  .inr (5, [(0, 0), (0, 0), (0, 0), (0, 0), (0, 0), (0, 0)]),
  .inr (5, [(0, 0), (0, 0), (0, 0), (0, 0), (0, 0), (0, 0)]),
  .inr (1, [(3, 55), (3, 56), (3, 57), (3, 58)]),
  .inl (2, 546, 0, 0),
  .inl (2, 546, 0, 0),
  .inl (0, 504, 0, 0),
  .inl (0, 252, 0, 0),
  .inr (1, [(3, 60), (3, 61), (3, 62), (3, 63)]),
  .inl (2, 546, 0, 0),
  .inl (2, 546, 0, 0),
  .inl (0, 504, 0, 0),
  .inl (0, 252, 0, 0),
  .inr (2, [(3, 65), (4, 0), (5, 0), (3, 68), (3, 118), (3, 69), (1, 0)]),
  .inl (2, 9, 0, 0),
  .inl (2, 3, 0, 0),
  .inl (2, 3, 0, 0),
  .inl (0, 9, 0, 0),
  .inl (0, 8, 0, 0),
  .inr (7, [(0, 0), (0, 0), (0, 0), (0, 0), (0, 0), (0, 0)]),
  .inr (4, [(3, 72), (3, 73), (3, 74), (0, 0), (0, 0), (0, 0), (0, 0), (0, 0)]),
  .inr (7, [(0, 0), (0, 0), (0, 0), (0, 0), (0, 0), (0, 0)]),
  .inl (0, 25, 0, 0),
  .inl (0, 24, 0, 0),
  .inl (5, 4, 81, 2),
  .inr (6, [(2, 1), (2, 100), (3, 77), (0, 0)]),
  .inl (0, 100, 0, 0),
  .inr (3, [(3, 79), (0, 0), (0, 0)]),
  .inl (0, 84, 0, 0),
  .inl (6, 6, 89, 2),
  .inr (6, [(2, 1), (2, 24), (3, 82), (0, 0)]),
  .inl (0, 24, 0, 0),
  .inr (6, [(2, 1), (2, 24), (3, 84), (0, 0)]),
  .inl (0, 24, 0, 0),
  .inr (6, [(2, 1), (2, 24), (3, 86), (0, 0)]),
  .inl (0, 24, 0, 0),
  .inr (6, [(2, 1), (2, 24), (3, 88), (0, 0)]),
  .inl (0, 24, 0, 0),
  .inr (9, [(0, 0), (0, 0), (3, 90)]),
  .inl (1, 60, 0, 0),
  .inr (9, [(0, 0), (0, 0), (3, 92)]),
  .inl (1, 60, 0, 0),
  .inr (9, [(0, 0), (0, 0), (3, 94)]),
  .inl (1, 60, 0, 0),
  .inr (9, [(0, 0), (0, 0), (3, 96)]),
  .inl (1, 60, 0, 0),
  .inr (9, [(0, 0), (0, 0), (3, 98)]),
  .inl (1, 60, 0, 0),
  .inr (9, [(0, 0), (0, 0), (3, 100)]),
  .inl (1, 60, 0, 0),
  .inr (11, [(3, 102), (3, 103), (0, 0), (0, 0), (3, 104), (3, 105), (3, 106), (3, 107), (3, 108), (3, 109), (0, 0), (0, 0), (0, 0), (0, 0), (0, 0), (0, 0), (3, 110), (1, 0), (0, 0), (0, 0), (0, 0), (0, 0), (0, 0), (0, 0), (3, 111), (0, 0), (0, 0), (3, 112), (3, 113), (0, 0), (0, 0), (0, 0), (3, 114), (3, 115), (3, 116), (3, 117)]),
  .inl (0, 173, 0, 0),
  .inl (0, 173, 0, 0),
  .inl (0, 4, 0, 0),
  .inl (0, 96, 0, 0),
  .inl (2, 546, 0, 0),
  .inl (0, 504, 0, 0),
  .inl (0, 6, 0, 0),
  .inl (0, 6, 0, 0),
  .inl (2, 6, 0, 0),
  .inl (0, 25, 0, 0),
  .inl (0, 173, 0, 0),
  .inl (3, 100, 0, 0),
  .inl (0, 84, 0, 0),
  .inl (0, 6, 0, 0),
  .inl (0, 6, 0, 0),
  .inl (1, 360, 0, 0),
  .inl (2, 9, 0, 0)]
def lay (s : Sto) : Mem := cels s 0 shp
theorem cels_get (s : Sto) : ∀ (cs : List ShC) (b p : Nat), (cels s b cs)[p]? = (cs[p]?).map (cel s (b + p))
  | [], _, _ => by simp [cels]
  | c :: cs, b, 0 => by simp [cels]
  | c :: cs, b, p + 1 => by
    simp only [cels, List.getElem?_cons_succ]
    rw [cels_get s cs (b + 1) p, show b + 1 + p = b + (p + 1) by omega]
theorem lay_get (s : Sto) (p : Nat) : (lay s)[p]? = (shp[p]?).map (cel s p) := by
  unfold lay
  rw [cels_get, Nat.zero_add]
theorem lay_len (s : Sto) : (lay s).length = 119 := by
  have : ∀ (cs : List ShC) (b : Nat), (cels s b cs).length = cs.length := by
    intro cs
    induction cs with
    | nil => intro b; rfl
    | cons c cs ih => intro b; simp [cels, ih]
  exact this shp 0
theorem flds_get (s : Sto) (p : Nat) : ∀ (fs : List (Nat × Nat)) (b k : Nat), (flds s p b fs)[k]? = (fs[k]?).map (flV s p (b + k))
  | [], _, _ => by simp [flds]
  | c :: cs, b, 0 => by simp [flds]
  | c :: cs, b, k + 1 => by
    simp only [flds, List.getElem?_cons_succ]
    rw [flds_get s p cs (b + 1) k, show b + 1 + k = b + (k + 1) by omega]
theorem flds_congr {s t : Sto} {p : Nat} (h1 : t.1 p = s.1 p) (h2 : t.2.1 p = s.2.1 p) (h4 : t.2.2.2 = s.2.2.2) : ∀ (fs : List (Nat × Nat)) (k : Nat), flds t p k fs = flds s p k fs
  | [], _ => rfl
  | f :: fs, k => by
    simp only [flds]
    rw [flds_congr h1 h2 h4 fs]
    congr 1
    unfold flV
    split <;> simp [h1, h2, h4]
theorem cel_congr {s t : Sto} {p : Nat} (h1 : t.1 p = s.1 p) (h2 : t.2.1 p = s.2.1 p) (h3 : t.2.2.1 p = s.2.2.1 p) (h4 : t.2.2.2 = s.2.2.2) (c : ShC) : cel t p c = cel s p c := by
  unfold cel
  split <;> simp [h1, h2, h3, flds_congr h1 h2 h4]
theorem lay_set {s t : Sto} {p : Nat} {c : ShC} (hc : shp[p]? = some c) (h : ∀ q, q ≠ p → t.1 q = s.1 q ∧ t.2.1 q = s.2.1 q ∧ t.2.2.1 q = s.2.2.1 q) (h4 : t.2.2.2 = s.2.2.2) : (lay s).set p (cel t p c) = lay t := by
  apply List.ext_getElem?
  intro i
  rw [List.getElem?_set, lay_len, lay_get, lay_get]
  have hp : p < 119 := by
    have := (List.getElem?_eq_some_iff.mp hc).1
    exact this
  by_cases hi : p = i
  · subst hi
    rw [if_pos rfl, if_pos hp, hc]
    rfl
  · rw [if_neg hi]
    obtain ⟨a, b, d⟩ := h i (fun e => hi e.symm)
    cases shp[i]? with
    | none => rfl
    | some c => simp only [Option.map_some]; rw [cel_congr a b d h4]
/-- a row of ints, floats, longs becomes another -/
def rI (s : Sto) (p : Nat) (f : Nat → Int32) : Sto := (fun q => if q = p then f else s.1 q, s.2)
def rF (s : Sto) (p : Nat) (f : Nat → UInt32) : Sto := (s.1, fun q => if q = p then f else s.2.1 q, s.2.2)
def rJ (s : Sto) (p : Nat) (f : Nat → Int64) : Sto := (s.1, s.2.1, fun q => if q = p then f else s.2.2.1 q, s.2.2.2)
/-- one number becomes another -/
abbrev uI (s : Sto) (p k : Nat) (x : Int32) : Sto := rI s p (upd (s.1 p) k x)
abbrev uF (s : Sto) (p k : Nat) (x : UInt32) : Sto := rF s p (vf_upd (s.2.1 p) k x)
abbrev uJ (s : Sto) (p k : Nat) (x : Int64) : Sto := rJ s p (vp_updL (s.2.2.1 p) k x)
/-- the kinds of the layout -/
def qI (p ci k : Nat) : Bool := match shp[p]? with
  | some (.inr (c, fs)) => c == ci && (match fs[k]? with | some (0, _) => true | _ => false)
  | _ => false
def qF (p ci k : Nat) : Bool := match shp[p]? with
  | some (.inr (c, fs)) => c == ci && (match fs[k]? with | some (1, _) => true | _ => false)
  | _ => false
def qR (p ci k r : Nat) : Bool := match shp[p]? with
  | some (.inr (c, fs)) => c == ci && (match fs[k]? with | some (3, q) => q == r | _ => false)
  | _ => false
def qK (p ci k c0 : Nat) : Bool := match shp[p]? with
  | some (.inr (c, fs)) => c == ci && (match fs[k]? with | some (2, q) => q == c0 | _ => false)
  | _ => false
def qO (p ci : Nat) : Bool := match shp[p]? with
  | some (.inr (c, _)) => c == ci
  | _ => false
def nA (t p : Nat) : Nat := match shp[p]? with
  | some (.inl (t', n, _)) => if t' = t then n else 0
  | _ => 0
theorem qI_spec {p ci k : Nat} (h : qI p ci k = true) : ∃ fs c, shp[p]? = some (.inr (ci, fs)) ∧ fs[k]? = some (0, c) := by
  unfold qI at h
  split at h
  · rename_i c fs hp
    simp only [Bool.and_eq_true, beq_iff_eq] at h
    obtain ⟨h1, h2⟩ := h
    subst h1
    split at h2
    · rename_i c0 hk
      exact ⟨fs, c0, hp, hk⟩
    · cases h2
  · cases h
theorem qF_spec {p ci k : Nat} (h : qF p ci k = true) : ∃ fs c, shp[p]? = some (.inr (ci, fs)) ∧ fs[k]? = some (1, c) := by
  unfold qF at h
  split at h
  · rename_i c fs hp
    simp only [Bool.and_eq_true, beq_iff_eq] at h
    obtain ⟨h1, h2⟩ := h
    subst h1
    split at h2
    · rename_i c0 hk
      exact ⟨fs, c0, hp, hk⟩
    · cases h2
  · cases h
theorem qR_spec {p ci k r : Nat} (h : qR p ci k r = true) : ∃ fs, shp[p]? = some (.inr (ci, fs)) ∧ fs[k]? = some (3, r) := by
  unfold qR at h
  split at h
  · rename_i c fs hp
    simp only [Bool.and_eq_true, beq_iff_eq] at h
    obtain ⟨h1, h2⟩ := h
    subst h1
    split at h2
    · rename_i c0 hk
      simp only [beq_iff_eq] at h2
      subst h2
      exact ⟨fs, hp, hk⟩
    · cases h2
  · cases h
theorem qK_spec {p ci k r : Nat} (h : qK p ci k r = true) : ∃ fs, shp[p]? = some (.inr (ci, fs)) ∧ fs[k]? = some (2, r) := by
  unfold qK at h
  split at h
  · rename_i c fs hp
    simp only [Bool.and_eq_true, beq_iff_eq] at h
    obtain ⟨h1, h2⟩ := h
    subst h1
    split at h2
    · rename_i c0 hk
      simp only [beq_iff_eq] at h2
      subst h2
      exact ⟨fs, hp, hk⟩
    · cases h2
  · cases h
theorem qO_spec {p ci : Nat} (h : qO p ci = true) : ∃ fs, shp[p]? = some (.inr (ci, fs)) := by
  unfold qO at h
  split at h
  · rename_i c fs hp
    simp only [beq_iff_eq] at h
    subst h
    exact ⟨fs, hp⟩
  · cases h
theorem nA_spec {t p i : Nat} (h : i < nA t p) : ∃ n b, shp[p]? = some (.inl (t, n, b)) ∧ nA t p = n := by
  unfold nA at h ⊢
  split at h
  · rename_i t' n b hp
    split at h
    · rename_i ht
      subst ht
      exact ⟨n, b, hp, if_pos rfl⟩
    · omega
  · omega
theorem nA_small {t p : Nat} : nA t p ≤ 600 := by
  have h1 : ∀ c ∈ shp, (match c with | .inl (_, n, _) => n | .inr _ => 0) ≤ 600 := by decide
  unfold nA
  split
  · rename_i t' n b hp
    have := h1 _ (List.mem_of_getElem? hp)
    split <;> simp_all
  · omega
theorem idx_ok {i n : Nat} (h : i < n) (hn : n ≤ 600) : ¬ (iN i < 0 ∨ n ≤ (iN i).toNatClampNeg) := by
  rw [iN_neg (by omega), iN_nat (by omega)]
  simp
  omega
/-! ===== reading and writing ===== -/
theorem gV_lay {s : Sto} {p ci k : Nat} {fs : List (Nat × Nat)} {f : Nat × Nat} (hp : shp[p]? = some (.inr (ci, fs))) (hk : fs[k]? = some f) : gV (lay s) p ci k = some (flV s p k f) := by
  unfold gV
  rw [lay_get, hp]
  simp only [Option.map_some, cel, if_true]
  rw [flds_get, hk, Nat.zero_add]
  rfl
theorem gI_lay {s : Sto} {p ci k : Nat} (h : qI p ci k = true) : gI (lay s) p ci k = some (s.1 p k) := by
  obtain ⟨fs, c, h1, h2⟩ := qI_spec h
  unfold gI
  rw [gV_lay h1 h2]
  rfl
theorem gF_lay {s : Sto} {p ci k : Nat} (h : qF p ci k = true) : gF (lay s) p ci k = some (s.2.1 p k) := by
  obtain ⟨fs, c, h1, h2⟩ := qF_spec h
  unfold gF
  rw [gV_lay h1 h2]
  rfl
theorem gR_lay {s : Sto} {p ci k r : Nat} (h : qR p ci k r = true) : gR (lay s) p ci k = some r := by
  obtain ⟨fs, h1, h2⟩ := qR_spec h
  unfold gR
  rw [gV_lay h1 h2]
  rfl
theorem gK_lay {s : Sto} {p ci k r : Nat} (h : qK p ci k r = true) : gI (lay s) p ci k = some (iN r) := by
  obtain ⟨fs, h1, h2⟩ := qK_spec h
  unfold gI
  rw [gV_lay h1 h2]
  rfl
theorem isC_lay {s : Sto} {p ci : Nat} (h : qO p ci = true) : isC (lay s) p ci = some () := by
  obtain ⟨fs, h1⟩ := qO_spec h
  unfold isC
  rw [lay_get, h1]
  simp only [Option.map_some, cel, if_true]
theorem flds_set {s : Sto} {p k : Nat} {x : Int32} : ∀ (fs : List (Nat × Nat)) (b : Nat) (c : Nat), fs[k - b]? = some (0, c) → b ≤ k → flds (uI s p k x) p b fs = (flds s p b fs).set (k - b) (.int x)
  | [], b, c, h, _ => by simp at h
  | f :: fs, b, c, h, hb => by
    by_cases hk : b = k
    · subst hk
      simp only [Nat.sub_self, List.getElem?_cons_zero, Option.some.injEq] at h
      subst h
      simp only [flds, Nat.sub_self, List.set_cons_zero]
      congr 1
      · simp [flV, rI, upd]
      · -- behind k nothing changes
        have : ∀ (fs : List (Nat × Nat)) (j : Nat), b < j → flds (uI s p b x) p j fs = flds s p j fs := by
          intro fs
          induction fs with
          | nil => intro j _; rfl
          | cons g gs ih =>
            intro j hj
            simp only [flds]
            rw [ih (j + 1) (by omega)]
            congr 1
            unfold flV
            split <;> simp [rI, upd]
            intro hh
            omega
        exact this fs (b + 1) (by omega)
    · have e : k - b = (k - (b + 1)) + 1 := by omega
      rw [e, List.getElem?_cons_succ] at h
      simp only [flds]
      rw [flds_set fs (b + 1) c h (by omega), e, List.set_cons_succ]
      congr 1
      unfold flV
      split <;> simp [rI, upd]
      intro hh
      omega
theorem flds_setF {s : Sto} {p k : Nat} {x : UInt32} : ∀ (fs : List (Nat × Nat)) (b : Nat) (c : Nat), fs[k - b]? = some (1, c) → b ≤ k → flds (uF s p k x) p b fs = (flds s p b fs).set (k - b) (.float x)
  | [], b, c, h, _ => by simp at h
  | f :: fs, b, c, h, hb => by
    by_cases hk : b = k
    · subst hk
      simp only [Nat.sub_self, List.getElem?_cons_zero, Option.some.injEq] at h
      subst h
      simp only [flds, Nat.sub_self, List.set_cons_zero]
      congr 1
      · simp [flV, rF, vf_upd]
      · have : ∀ (fs : List (Nat × Nat)) (j : Nat), b < j → flds (uF s p b x) p j fs = flds s p j fs := by
          intro fs
          induction fs with
          | nil => intro j _; rfl
          | cons g gs ih =>
            intro j hj
            simp only [flds]
            rw [ih (j + 1) (by omega)]
            congr 1
            unfold flV
            split <;> simp [rF, vf_upd]
            intro hh
            omega
        exact this fs (b + 1) (by omega)
    · have e : k - b = (k - (b + 1)) + 1 := by omega
      rw [e, List.getElem?_cons_succ] at h
      simp only [flds]
      rw [flds_setF fs (b + 1) c h (by omega), e, List.set_cons_succ]
      congr 1
      unfold flV
      split <;> simp [rF, vf_upd]
      intro hh
      omega
theorem rI_off (s : Sto) (p : Nat) (f : Nat → Int32) : ∀ q, q ≠ p → (rI s p f).1 q = s.1 q ∧ (rI s p f).2.1 q = s.2.1 q ∧ (rI s p f).2.2.1 q = s.2.2.1 q := fun q h => ⟨by simp [rI, h], rfl, rfl⟩
theorem rF_off (s : Sto) (p : Nat) (f : Nat → UInt32) : ∀ q, q ≠ p → (rF s p f).1 q = s.1 q ∧ (rF s p f).2.1 q = s.2.1 q ∧ (rF s p f).2.2.1 q = s.2.2.1 q := fun q h => ⟨rfl, by simp [rF, h], rfl⟩
theorem rJ_off (s : Sto) (p : Nat) (f : Nat → Int64) : ∀ q, q ≠ p → (rJ s p f).1 q = s.1 q ∧ (rJ s p f).2.1 q = s.2.1 q ∧ (rJ s p f).2.2.1 q = s.2.2.1 q := fun q h => ⟨rfl, rfl, by simp [rJ, h]⟩
theorem pI_lay {s : Sto} {p ci k : Nat} {x : Int32} (h : qI p ci k = true) : pV (lay s) p ci k (.int x) = some (lay (uI s p k x)) := by
  obtain ⟨fs, c, h1, h2⟩ := qI_spec h
  unfold pV
  rw [lay_get, h1]
  simp only [Option.map_some, cel]
  rw [if_pos]
  · rw [← lay_set (s := s) (t := uI s p k x) h1 (rI_off s p _) rfl]
    simp only [cel]
    rw [flds_set fs 0 c (by simpa using h2) (Nat.zero_le _)]
    rfl
  · refine ⟨trivial, ?_⟩
    have : (flds s p 0 fs)[k]? = some (flV s p k (0, c)) := by rw [flds_get, h2, Nat.zero_add]; rfl
    exact (List.getElem?_eq_some_iff.mp this).1
theorem pF_lay {s : Sto} {p ci k : Nat} {x : UInt32} (h : qF p ci k = true) : pV (lay s) p ci k (.float x) = some (lay (uF s p k x)) := by
  obtain ⟨fs, c, h1, h2⟩ := qF_spec h
  unfold pV
  rw [lay_get, h1]
  simp only [Option.map_some, cel]
  rw [if_pos]
  · rw [← lay_set (s := s) (t := uF s p k x) h1 (rF_off s p _) rfl]
    simp only [cel]
    rw [flds_setF fs 0 c (by simpa using h2) (Nat.zero_le _)]
    rfl
  · refine ⟨trivial, ?_⟩
    have : (flds s p 0 fs)[k]? = some (flV s p k (1, c)) := by rw [flds_get, h2, Nat.zero_add]; rfl
    exact (List.getElem?_eq_some_iff.mp this).1
theorem pZ0_lay {s : Sto} {p ci k : Nat} (h : qI p ci k = true) : pZ (lay s) p ci k (0 : Int32) = some (lay (uI s p k 0)) := by
  unfold pZ
  rw [if_pos (Or.inl rfl), pI_lay h]
theorem pZ1_lay {s : Sto} {p ci k : Nat} (h : qI p ci k = true) : pZ (lay s) p ci k (1 : Int32) = some (lay (uI s p k 1)) := by
  unfold pZ
  rw [if_pos (Or.inr rfl), pI_lay h]
theorem aI_lay {s : Sto} {p i : Nat} (h : i < nA 0 p) : aI (lay s) 0 p (iN i) = some (s.1 p i) := by
  obtain ⟨n, b, h1, h2⟩ := nA_spec h
  have h3 : n ≤ 600 := h2 ▸ nA_small
  unfold aI
  rw [lay_get, h1]
  simp only [Option.map_some, cel]
  rw [if_pos ⟨trivial, idx_ok (h2 ▸ h) h3⟩, iN_nat (by omega)]
theorem aB_lay {s : Sto} {p i : Nat} (h : i < nA 3 p) : aI (lay s) 3 p (iN i) = some (s.1 p i) := by
  obtain ⟨n, b, h1, h2⟩ := nA_spec h
  have h3 : n ≤ 600 := h2 ▸ nA_small
  unfold aI
  rw [lay_get, h1]
  simp only [Option.map_some, cel]
  rw [if_pos ⟨trivial, idx_ok (h2 ▸ h) h3⟩, iN_nat (by omega)]
theorem aJ_lay {s : Sto} {p i : Nat} (h : i < nA 1 p) : aJ (lay s) p (iN i) = some (s.2.2.1 p i) := by
  obtain ⟨n, b, h1, h2⟩ := nA_spec h
  have h3 : n ≤ 600 := h2 ▸ nA_small
  unfold aJ
  rw [lay_get, h1]
  simp only [Option.map_some, cel]
  rw [if_pos ⟨trivial, idx_ok (h2 ▸ h) h3⟩, iN_nat (by omega)]
theorem aF_lay {s : Sto} {p i : Nat} (h : i < nA 2 p) : aF (lay s) p (iN i) = some (s.2.1 p i) := by
  obtain ⟨n, b, h1, h2⟩ := nA_spec h
  have h3 : n ≤ 600 := h2 ▸ nA_small
  unfold aF
  rw [lay_get, h1]
  simp only [Option.map_some, cel]
  rw [if_pos ⟨trivial, idx_ok (h2 ▸ h) h3⟩, iN_nat (by omega)]
theorem sI_lay {s : Sto} {p i : Nat} {x : Int32} (h : i < nA 0 p) : sI (lay s) p (iN i) x = some (lay (uI s p i x)) := by
  obtain ⟨n, b, h1, h2⟩ := nA_spec h
  have h3 : n ≤ 600 := h2 ▸ nA_small
  unfold sI
  rw [lay_get, h1]
  simp only [Option.map_some, cel]
  rw [if_pos ⟨trivial, idx_ok (h2 ▸ h) h3⟩, iN_nat (by omega), ← lay_set (s := s) (t := uI s p i x) h1 (rI_off s p _) rfl]
  simp only [cel, rI, if_true]
theorem sB_lay {s : Sto} {p i : Nat} {x : Int32} (h : i < nA 3 p) : sB (lay s) p (iN i) x = some (lay (uI s p i (vp_nar .byte x))) := by
  obtain ⟨n, b, h1, h2⟩ := nA_spec h
  have h3 : n ≤ 600 := h2 ▸ nA_small
  unfold sB
  rw [lay_get, h1]
  simp only [Option.map_some, cel]
  rw [if_pos ⟨trivial, idx_ok (h2 ▸ h) h3⟩, iN_nat (by omega), ← lay_set (s := s) (t := uI s p i (vp_nar .byte x)) h1 (rI_off s p _) rfl]
  simp only [cel, rI, if_true]
theorem sJ_lay {s : Sto} {p i : Nat} {x : Int64} (h : i < nA 1 p) : sJ (lay s) p (iN i) x = some (lay (uJ s p i x)) := by
  obtain ⟨n, b, h1, h2⟩ := nA_spec h
  have h3 : n ≤ 600 := h2 ▸ nA_small
  unfold sJ
  rw [lay_get, h1]
  simp only [Option.map_some, cel]
  rw [if_pos ⟨trivial, idx_ok (h2 ▸ h) h3⟩, iN_nat (by omega), ← lay_set (s := s) (t := uJ s p i x) h1 (rJ_off s p _) rfl]
  simp only [cel, rJ, if_true]
theorem sF_lay {s : Sto} {p i : Nat} {x : UInt32} (h : i < nA 2 p) : sF (lay s) p (iN i) x = some (lay (uF s p i x)) := by
  obtain ⟨n, b, h1, h2⟩ := nA_spec h
  have h3 : n ≤ 600 := h2 ▸ nA_small
  unfold sF
  rw [lay_get, h1]
  simp only [Option.map_some, cel]
  rw [if_pos ⟨trivial, idx_ok (h2 ▸ h) h3⟩, iN_nat (by omega), ← lay_set (s := s) (t := uF s p i x) h1 (rF_off s p _) rfl]
  simp only [cel, rF, if_true]
theorem cpI_lay {s : Sto} {p q a b n : Nat} (h1 : a + n ≤ nA 0 p) (h2 : b + n ≤ nA 0 q) (h3 : 0 < nA 0 p) (h4 : 0 < nA 0 q) : cpI (lay s) p (iN a) q (iN b) (iN n) = some (lay (rI s q (va_cpy (s.1 p) (s.1 q) a b n))) := by
  obtain ⟨n0, b0, e1, e2⟩ := nA_spec h3
  obtain ⟨n1, b1, f1, f2⟩ := nA_spec h4
  have k0 : n0 ≤ 600 := e2 ▸ nA_small
  have k1 : n1 ≤ 600 := f2 ▸ nA_small
  unfold cpI
  rw [lay_get, e1, lay_get, f1]
  simp only [Option.map_some, cel]
  rw [iN_nat (by omega), iN_nat (by omega), iN_nat (by omega)]
  rw [if_pos ⟨trivial, trivial, iN_nn (by omega), iN_nn (by omega), iN_nn (by omega), by omega, by omega⟩, ← lay_set (s := s) (t := rI s q (va_cpy (s.1 p) (s.1 q) a b n)) f1 (rI_off s q _) rfl]
  simp only [cel, rI, if_true]
theorem cpJ_lay {s : Sto} {p q a b n : Nat} (h1 : a + n ≤ nA 1 p) (h2 : b + n ≤ nA 1 q) (h3 : 0 < nA 1 p) (h4 : 0 < nA 1 q) : cpJ (lay s) p (iN a) q (iN b) (iN n) = some (lay (rJ s q (va_cpy (s.2.2.1 p) (s.2.2.1 q) a b n))) := by
  obtain ⟨n0, b0, e1, e2⟩ := nA_spec h3
  obtain ⟨n1, b1, f1, f2⟩ := nA_spec h4
  have k0 : n0 ≤ 600 := e2 ▸ nA_small
  have k1 : n1 ≤ 600 := f2 ▸ nA_small
  unfold cpJ
  rw [lay_get, e1, lay_get, f1]
  simp only [Option.map_some, cel]
  rw [iN_nat (by omega), iN_nat (by omega), iN_nat (by omega)]
  rw [if_pos ⟨trivial, trivial, iN_nn (by omega), iN_nn (by omega), iN_nn (by omega), by omega, by omega⟩, ← lay_set (s := s) (t := rJ s q (va_cpy (s.2.2.1 p) (s.2.2.1 q) a b n)) f1 (rJ_off s q _) rfl]
  simp only [cel, rJ, if_true]
theorem rr_0_0 {s : Sto} : gR (lay s) 0 10 0 = some 1 := gR_lay rfl
theorem rr_0_1 {s : Sto} : gR (lay s) 0 10 1 = some 21 := gR_lay rfl
theorem rr_0_3 {s : Sto} : gR (lay s) 0 10 3 = some 41 := gR_lay rfl
theorem rr_0_4 {s : Sto} : gR (lay s) 0 10 4 = some 54 := gR_lay rfl
theorem rr_0_5 {s : Sto} : gR (lay s) 0 10 5 = some 59 := gR_lay rfl
theorem rr_0_10 {s : Sto} : gR (lay s) 0 10 10 = some 64 := gR_lay rfl
theorem rr_0_11 {s : Sto} : gR (lay s) 0 10 11 = some 70 := gR_lay rfl
theorem rr_0_12 {s : Sto} : gR (lay s) 0 10 12 = some 71 := gR_lay rfl
theorem rr_0_13 {s : Sto} : gR (lay s) 0 10 13 = some 75 := gR_lay rfl
theorem rr_0_14 {s : Sto} : gR (lay s) 0 10 14 = some 76 := gR_lay rfl
theorem rr_0_15 {s : Sto} : gR (lay s) 0 10 15 = some 78 := gR_lay rfl
theorem rr_0_16 {s : Sto} : gR (lay s) 0 10 16 = some 80 := gR_lay rfl
theorem oc_0 {s : Sto} : isC (lay s) 0 10 = some () := isC_lay rfl
theorem gi_0_2 {s : Sto} : gI (lay s) 0 10 2 = some (s.1 0 2) := gI_lay rfl
theorem pi_0_2 {s : Sto} {x : Int32} : pV (lay s) 0 10 2 (.int x) = some (lay (uI s 0 2 x)) := pI_lay rfl
theorem gi_0_6 {s : Sto} : gI (lay s) 0 10 6 = some (s.1 0 6) := gI_lay rfl
theorem pi_0_6 {s : Sto} {x : Int32} : pV (lay s) 0 10 6 (.int x) = some (lay (uI s 0 6 x)) := pI_lay rfl
theorem gi_0_7 {s : Sto} : gI (lay s) 0 10 7 = some (s.1 0 7) := gI_lay rfl
theorem pi_0_7 {s : Sto} {x : Int32} : pV (lay s) 0 10 7 (.int x) = some (lay (uI s 0 7 x)) := pI_lay rfl
theorem gi_0_8 {s : Sto} : gI (lay s) 0 10 8 = some (s.1 0 8) := gI_lay rfl
theorem pi_0_8 {s : Sto} {x : Int32} : pV (lay s) 0 10 8 (.int x) = some (lay (uI s 0 8 x)) := pI_lay rfl
theorem gi_0_9 {s : Sto} : gI (lay s) 0 10 9 = some (s.1 0 9) := gI_lay rfl
theorem pi_0_9 {s : Sto} {x : Int32} : pV (lay s) 0 10 9 (.int x) = some (lay (uI s 0 9 x)) := pI_lay rfl
theorem rr_1_0 {s : Sto} : gR (lay s) 1 8 0 = some 2 := gR_lay rfl
theorem rr_1_1 {s : Sto} : gR (lay s) 1 8 1 = some 15 := gR_lay rfl
theorem rr_1_2 {s : Sto} : gR (lay s) 1 8 2 = some 17 := gR_lay rfl
theorem rr_1_3 {s : Sto} : gR (lay s) 1 8 3 = some 19 := gR_lay rfl
theorem oc_1 {s : Sto} : isC (lay s) 1 8 = some () := isC_lay rfl
theorem rr_21_0 {s : Sto} : gR (lay s) 21 8 0 = some 22 := gR_lay rfl
theorem rr_21_1 {s : Sto} : gR (lay s) 21 8 1 = some 35 := gR_lay rfl
theorem rr_21_2 {s : Sto} : gR (lay s) 21 8 2 = some 37 := gR_lay rfl
theorem rr_21_3 {s : Sto} : gR (lay s) 21 8 3 = some 39 := gR_lay rfl
theorem oc_21 {s : Sto} : isC (lay s) 21 8 = some () := isC_lay rfl
theorem rr_64_0 {s : Sto} : gR (lay s) 64 2 0 = some 65 := gR_lay rfl
theorem rr_64_3 {s : Sto} : gR (lay s) 64 2 3 = some 68 := gR_lay rfl
theorem rr_64_4 {s : Sto} : gR (lay s) 64 2 4 = some 118 := gR_lay rfl
theorem rr_64_5 {s : Sto} : gR (lay s) 64 2 5 = some 69 := gR_lay rfl
theorem oc_64 {s : Sto} : isC (lay s) 64 2 = some () := isC_lay rfl
theorem gf_64_6 {s : Sto} : gF (lay s) 64 2 6 = some (s.2.1 64 6) := gF_lay rfl
theorem pf_64_6 {s : Sto} {x : UInt32} : pV (lay s) 64 2 6 (.float x) = some (lay (uF s 64 6 x)) := pF_lay rfl
theorem ai_65 {s : Sto} {i : Nat} (h : i < 9) : aF (lay s) 65 (iN i) = some (s.2.1 65 i) := aF_lay (p := 65) h
theorem si_65 {s : Sto} {i : Nat} {x : UInt32} (h : i < 9) : sF (lay s) 65 (iN i) x = some (lay (uF s 65 i x)) := sF_lay (p := 65) h
theorem ai_66 {s : Sto} {i : Nat} (h : i < 3) : aF (lay s) 66 (iN i) = some (s.2.1 66 i) := aF_lay (p := 66) h
theorem si_66 {s : Sto} {i : Nat} {x : UInt32} (h : i < 3) : sF (lay s) 66 (iN i) x = some (lay (uF s 66 i x)) := sF_lay (p := 66) h
theorem ai_67 {s : Sto} {i : Nat} (h : i < 3) : aF (lay s) 67 (iN i) = some (s.2.1 67 i) := aF_lay (p := 67) h
theorem si_67 {s : Sto} {i : Nat} {x : UInt32} (h : i < 3) : sF (lay s) 67 (iN i) x = some (lay (uF s 67 i x)) := sF_lay (p := 67) h
theorem ai_68 {s : Sto} {i : Nat} (h : i < 9) : aI (lay s) 0 68 (iN i) = some (s.1 68 i) := aI_lay (p := 68) h
theorem si_68 {s : Sto} {i : Nat} {x : Int32} (h : i < 9) : sI (lay s) 68 (iN i) x = some (lay (uI s 68 i x)) := sI_lay (p := 68) h
theorem ai_69 {s : Sto} {i : Nat} (h : i < 8) : aI (lay s) 0 69 (iN i) = some (s.1 69 i) := aI_lay (p := 69) h
theorem si_69 {s : Sto} {i : Nat} {x : Int32} (h : i < 8) : sI (lay s) 69 (iN i) x = some (lay (uI s 69 i x)) := sI_lay (p := 69) h
theorem oc_70 {s : Sto} : isC (lay s) 70 7 = some () := isC_lay rfl
theorem gi_70_0 {s : Sto} : gI (lay s) 70 7 0 = some (s.1 70 0) := gI_lay rfl
theorem pi_70_0 {s : Sto} {x : Int32} : pV (lay s) 70 7 0 (.int x) = some (lay (uI s 70 0 x)) := pI_lay rfl
theorem gi_70_1 {s : Sto} : gI (lay s) 70 7 1 = some (s.1 70 1) := gI_lay rfl
theorem pi_70_1 {s : Sto} {x : Int32} : pV (lay s) 70 7 1 (.int x) = some (lay (uI s 70 1 x)) := pI_lay rfl
theorem gi_70_2 {s : Sto} : gI (lay s) 70 7 2 = some (s.1 70 2) := gI_lay rfl
theorem pi_70_2 {s : Sto} {x : Int32} : pV (lay s) 70 7 2 (.int x) = some (lay (uI s 70 2 x)) := pI_lay rfl
theorem gi_70_3 {s : Sto} : gI (lay s) 70 7 3 = some (s.1 70 3) := gI_lay rfl
theorem pi_70_3 {s : Sto} {x : Int32} : pV (lay s) 70 7 3 (.int x) = some (lay (uI s 70 3 x)) := pI_lay rfl
theorem gi_70_4 {s : Sto} : gI (lay s) 70 7 4 = some (s.1 70 4) := gI_lay rfl
theorem pi_70_4 {s : Sto} {x : Int32} : pV (lay s) 70 7 4 (.int x) = some (lay (uI s 70 4 x)) := pI_lay rfl
theorem gi_70_5 {s : Sto} : gI (lay s) 70 7 5 = some (s.1 70 5) := gI_lay rfl
theorem pi_70_5 {s : Sto} {x : Int32} : pV (lay s) 70 7 5 (.int x) = some (lay (uI s 70 5 x)) := pI_lay rfl
theorem rr_71_0 {s : Sto} : gR (lay s) 71 4 0 = some 72 := gR_lay rfl
theorem rr_71_1 {s : Sto} : gR (lay s) 71 4 1 = some 73 := gR_lay rfl
theorem rr_71_2 {s : Sto} : gR (lay s) 71 4 2 = some 74 := gR_lay rfl
theorem oc_71 {s : Sto} : isC (lay s) 71 4 = some () := isC_lay rfl
theorem gi_71_3 {s : Sto} : gI (lay s) 71 4 3 = some (s.1 71 3) := gI_lay rfl
theorem pi_71_3 {s : Sto} {x : Int32} : pV (lay s) 71 4 3 (.int x) = some (lay (uI s 71 3 x)) := pI_lay rfl
theorem gi_71_4 {s : Sto} : gI (lay s) 71 4 4 = some (s.1 71 4) := gI_lay rfl
theorem pi_71_4 {s : Sto} {x : Int32} : pV (lay s) 71 4 4 (.int x) = some (lay (uI s 71 4 x)) := pI_lay rfl
theorem gi_71_5 {s : Sto} : gI (lay s) 71 4 5 = some (s.1 71 5) := gI_lay rfl
theorem pi_71_5 {s : Sto} {x : Int32} : pV (lay s) 71 4 5 (.int x) = some (lay (uI s 71 5 x)) := pI_lay rfl
theorem gi_71_6 {s : Sto} : gI (lay s) 71 4 6 = some (s.1 71 6) := gI_lay rfl
theorem pi_71_6 {s : Sto} {x : Int32} : pV (lay s) 71 4 6 (.int x) = some (lay (uI s 71 6 x)) := pI_lay rfl
theorem gi_71_7 {s : Sto} : gI (lay s) 71 4 7 = some (s.1 71 7) := gI_lay rfl
theorem pi_71_7 {s : Sto} {x : Int32} : pV (lay s) 71 4 7 (.int x) = some (lay (uI s 71 7 x)) := pI_lay rfl
theorem oc_72 {s : Sto} : isC (lay s) 72 7 = some () := isC_lay rfl
theorem gi_72_0 {s : Sto} : gI (lay s) 72 7 0 = some (s.1 72 0) := gI_lay rfl
theorem pi_72_0 {s : Sto} {x : Int32} : pV (lay s) 72 7 0 (.int x) = some (lay (uI s 72 0 x)) := pI_lay rfl
theorem gi_72_1 {s : Sto} : gI (lay s) 72 7 1 = some (s.1 72 1) := gI_lay rfl
theorem pi_72_1 {s : Sto} {x : Int32} : pV (lay s) 72 7 1 (.int x) = some (lay (uI s 72 1 x)) := pI_lay rfl
theorem gi_72_2 {s : Sto} : gI (lay s) 72 7 2 = some (s.1 72 2) := gI_lay rfl
theorem pi_72_2 {s : Sto} {x : Int32} : pV (lay s) 72 7 2 (.int x) = some (lay (uI s 72 2 x)) := pI_lay rfl
theorem gi_72_3 {s : Sto} : gI (lay s) 72 7 3 = some (s.1 72 3) := gI_lay rfl
theorem pi_72_3 {s : Sto} {x : Int32} : pV (lay s) 72 7 3 (.int x) = some (lay (uI s 72 3 x)) := pI_lay rfl
theorem gi_72_4 {s : Sto} : gI (lay s) 72 7 4 = some (s.1 72 4) := gI_lay rfl
theorem pi_72_4 {s : Sto} {x : Int32} : pV (lay s) 72 7 4 (.int x) = some (lay (uI s 72 4 x)) := pI_lay rfl
theorem gi_72_5 {s : Sto} : gI (lay s) 72 7 5 = some (s.1 72 5) := gI_lay rfl
theorem pi_72_5 {s : Sto} {x : Int32} : pV (lay s) 72 7 5 (.int x) = some (lay (uI s 72 5 x)) := pI_lay rfl
theorem ai_73 {s : Sto} {i : Nat} (h : i < 25) : aI (lay s) 0 73 (iN i) = some (s.1 73 i) := aI_lay (p := 73) h
theorem si_73 {s : Sto} {i : Nat} {x : Int32} (h : i < 25) : sI (lay s) 73 (iN i) x = some (lay (uI s 73 i x)) := sI_lay (p := 73) h
theorem ai_74 {s : Sto} {i : Nat} (h : i < 24) : aI (lay s) 0 74 (iN i) = some (s.1 74 i) := aI_lay (p := 74) h
theorem si_74 {s : Sto} {i : Nat} {x : Int32} (h : i < 24) : sI (lay s) 74 (iN i) x = some (lay (uI s 74 i x)) := sI_lay (p := 74) h
theorem ai_77 {s : Sto} {i : Nat} (h : i < 100) : aI (lay s) 0 77 (iN i) = some (s.1 77 i) := aI_lay (p := 77) h
theorem si_77 {s : Sto} {i : Nat} {x : Int32} (h : i < 100) : sI (lay s) 77 (iN i) x = some (lay (uI s 77 i x)) := sI_lay (p := 77) h
theorem rr_78_0 {s : Sto} : gR (lay s) 78 3 0 = some 79 := gR_lay rfl
theorem oc_78 {s : Sto} : isC (lay s) 78 3 = some () := isC_lay rfl
theorem gi_78_1 {s : Sto} : gI (lay s) 78 3 1 = some (s.1 78 1) := gI_lay rfl
theorem pi_78_1 {s : Sto} {x : Int32} : pV (lay s) 78 3 1 (.int x) = some (lay (uI s 78 1 x)) := pI_lay rfl
theorem gi_78_2 {s : Sto} : gI (lay s) 78 3 2 = some (s.1 78 2) := gI_lay rfl
theorem pi_78_2 {s : Sto} {x : Int32} : pV (lay s) 78 3 2 (.int x) = some (lay (uI s 78 2 x)) := pI_lay rfl
theorem ai_79 {s : Sto} {i : Nat} (h : i < 84) : aI (lay s) 0 79 (iN i) = some (s.1 79 i) := aI_lay (p := 79) h
theorem si_79 {s : Sto} {i : Nat} {x : Int32} (h : i < 84) : sI (lay s) 79 (iN i) x = some (lay (uI s 79 i x)) := sI_lay (p := 79) h
theorem rr_101_0 {s : Sto} : gR (lay s) 101 11 0 = some 102 := gR_lay rfl
theorem rr_101_1 {s : Sto} : gR (lay s) 101 11 1 = some 103 := gR_lay rfl
theorem rr_101_4 {s : Sto} : gR (lay s) 101 11 4 = some 104 := gR_lay rfl
theorem rr_101_5 {s : Sto} : gR (lay s) 101 11 5 = some 105 := gR_lay rfl
theorem rr_101_6 {s : Sto} : gR (lay s) 101 11 6 = some 106 := gR_lay rfl
theorem rr_101_7 {s : Sto} : gR (lay s) 101 11 7 = some 107 := gR_lay rfl
theorem rr_101_8 {s : Sto} : gR (lay s) 101 11 8 = some 108 := gR_lay rfl
theorem rr_101_9 {s : Sto} : gR (lay s) 101 11 9 = some 109 := gR_lay rfl
theorem rr_101_16 {s : Sto} : gR (lay s) 101 11 16 = some 110 := gR_lay rfl
theorem rr_101_24 {s : Sto} : gR (lay s) 101 11 24 = some 111 := gR_lay rfl
theorem rr_101_27 {s : Sto} : gR (lay s) 101 11 27 = some 112 := gR_lay rfl
theorem rr_101_28 {s : Sto} : gR (lay s) 101 11 28 = some 113 := gR_lay rfl
theorem rr_101_32 {s : Sto} : gR (lay s) 101 11 32 = some 114 := gR_lay rfl
theorem rr_101_33 {s : Sto} : gR (lay s) 101 11 33 = some 115 := gR_lay rfl
theorem rr_101_34 {s : Sto} : gR (lay s) 101 11 34 = some 116 := gR_lay rfl
theorem rr_101_35 {s : Sto} : gR (lay s) 101 11 35 = some 117 := gR_lay rfl
theorem oc_101 {s : Sto} : isC (lay s) 101 11 = some () := isC_lay rfl
theorem gi_101_2 {s : Sto} : gI (lay s) 101 11 2 = some (s.1 101 2) := gI_lay rfl
theorem pi_101_2 {s : Sto} {x : Int32} : pV (lay s) 101 11 2 (.int x) = some (lay (uI s 101 2 x)) := pI_lay rfl
theorem gi_101_3 {s : Sto} : gI (lay s) 101 11 3 = some (s.1 101 3) := gI_lay rfl
theorem pi_101_3 {s : Sto} {x : Int32} : pV (lay s) 101 11 3 (.int x) = some (lay (uI s 101 3 x)) := pI_lay rfl
theorem gi_101_10 {s : Sto} : gI (lay s) 101 11 10 = some (s.1 101 10) := gI_lay rfl
theorem pi_101_10 {s : Sto} {x : Int32} : pV (lay s) 101 11 10 (.int x) = some (lay (uI s 101 10 x)) := pI_lay rfl
theorem gi_101_11 {s : Sto} : gI (lay s) 101 11 11 = some (s.1 101 11) := gI_lay rfl
theorem pi_101_11 {s : Sto} {x : Int32} : pV (lay s) 101 11 11 (.int x) = some (lay (uI s 101 11 x)) := pI_lay rfl
theorem gi_101_12 {s : Sto} : gI (lay s) 101 11 12 = some (s.1 101 12) := gI_lay rfl
theorem pi_101_12 {s : Sto} {x : Int32} : pV (lay s) 101 11 12 (.int x) = some (lay (uI s 101 12 x)) := pI_lay rfl
theorem gi_101_13 {s : Sto} : gI (lay s) 101 11 13 = some (s.1 101 13) := gI_lay rfl
theorem pi_101_13 {s : Sto} {x : Int32} : pV (lay s) 101 11 13 (.int x) = some (lay (uI s 101 13 x)) := pI_lay rfl
theorem gi_101_14 {s : Sto} : gI (lay s) 101 11 14 = some (s.1 101 14) := gI_lay rfl
theorem pi_101_14 {s : Sto} {x : Int32} : pV (lay s) 101 11 14 (.int x) = some (lay (uI s 101 14 x)) := pI_lay rfl
theorem gi_101_15 {s : Sto} : gI (lay s) 101 11 15 = some (s.1 101 15) := gI_lay rfl
theorem pi_101_15 {s : Sto} {x : Int32} : pV (lay s) 101 11 15 (.int x) = some (lay (uI s 101 15 x)) := pI_lay rfl
theorem gf_101_17 {s : Sto} : gF (lay s) 101 11 17 = some (s.2.1 101 17) := gF_lay rfl
theorem pf_101_17 {s : Sto} {x : UInt32} : pV (lay s) 101 11 17 (.float x) = some (lay (uF s 101 17 x)) := pF_lay rfl
theorem gi_101_18 {s : Sto} : gI (lay s) 101 11 18 = some (s.1 101 18) := gI_lay rfl
theorem pi_101_18 {s : Sto} {x : Int32} : pV (lay s) 101 11 18 (.int x) = some (lay (uI s 101 18 x)) := pI_lay rfl
theorem gi_101_19 {s : Sto} : gI (lay s) 101 11 19 = some (s.1 101 19) := gI_lay rfl
theorem pi_101_19 {s : Sto} {x : Int32} : pV (lay s) 101 11 19 (.int x) = some (lay (uI s 101 19 x)) := pI_lay rfl
theorem gi_101_20 {s : Sto} : gI (lay s) 101 11 20 = some (s.1 101 20) := gI_lay rfl
theorem pi_101_20 {s : Sto} {x : Int32} : pV (lay s) 101 11 20 (.int x) = some (lay (uI s 101 20 x)) := pI_lay rfl
theorem gi_101_21 {s : Sto} : gI (lay s) 101 11 21 = some (s.1 101 21) := gI_lay rfl
theorem pi_101_21 {s : Sto} {x : Int32} : pV (lay s) 101 11 21 (.int x) = some (lay (uI s 101 21 x)) := pI_lay rfl
theorem gi_101_22 {s : Sto} : gI (lay s) 101 11 22 = some (s.1 101 22) := gI_lay rfl
theorem pi_101_22 {s : Sto} {x : Int32} : pV (lay s) 101 11 22 (.int x) = some (lay (uI s 101 22 x)) := pI_lay rfl
theorem gi_101_23 {s : Sto} : gI (lay s) 101 11 23 = some (s.1 101 23) := gI_lay rfl
theorem pi_101_23 {s : Sto} {x : Int32} : pV (lay s) 101 11 23 (.int x) = some (lay (uI s 101 23 x)) := pI_lay rfl
theorem gi_101_25 {s : Sto} : gI (lay s) 101 11 25 = some (s.1 101 25) := gI_lay rfl
theorem pi_101_25 {s : Sto} {x : Int32} : pV (lay s) 101 11 25 (.int x) = some (lay (uI s 101 25 x)) := pI_lay rfl
theorem gi_101_26 {s : Sto} : gI (lay s) 101 11 26 = some (s.1 101 26) := gI_lay rfl
theorem pi_101_26 {s : Sto} {x : Int32} : pV (lay s) 101 11 26 (.int x) = some (lay (uI s 101 26 x)) := pI_lay rfl
theorem gi_101_29 {s : Sto} : gI (lay s) 101 11 29 = some (s.1 101 29) := gI_lay rfl
theorem pi_101_29 {s : Sto} {x : Int32} : pV (lay s) 101 11 29 (.int x) = some (lay (uI s 101 29 x)) := pI_lay rfl
theorem gi_101_30 {s : Sto} : gI (lay s) 101 11 30 = some (s.1 101 30) := gI_lay rfl
theorem pi_101_30 {s : Sto} {x : Int32} : pV (lay s) 101 11 30 (.int x) = some (lay (uI s 101 30 x)) := pI_lay rfl
theorem gi_101_31 {s : Sto} : gI (lay s) 101 11 31 = some (s.1 101 31) := gI_lay rfl
theorem pi_101_31 {s : Sto} {x : Int32} : pV (lay s) 101 11 31 (.int x) = some (lay (uI s 101 31 x)) := pI_lay rfl
theorem ai_102 {s : Sto} {i : Nat} (h : i < 173) : aI (lay s) 0 102 (iN i) = some (s.1 102 i) := aI_lay (p := 102) h
theorem si_102 {s : Sto} {i : Nat} {x : Int32} (h : i < 173) : sI (lay s) 102 (iN i) x = some (lay (uI s 102 i x)) := sI_lay (p := 102) h
theorem ai_103 {s : Sto} {i : Nat} (h : i < 173) : aI (lay s) 0 103 (iN i) = some (s.1 103 i) := aI_lay (p := 103) h
theorem si_103 {s : Sto} {i : Nat} {x : Int32} (h : i < 173) : sI (lay s) 103 (iN i) x = some (lay (uI s 103 i x)) := sI_lay (p := 103) h
theorem ai_104 {s : Sto} {i : Nat} (h : i < 4) : aI (lay s) 0 104 (iN i) = some (s.1 104 i) := aI_lay (p := 104) h
theorem si_104 {s : Sto} {i : Nat} {x : Int32} (h : i < 4) : sI (lay s) 104 (iN i) x = some (lay (uI s 104 i x)) := sI_lay (p := 104) h
theorem ai_105 {s : Sto} {i : Nat} (h : i < 96) : aI (lay s) 0 105 (iN i) = some (s.1 105 i) := aI_lay (p := 105) h
theorem si_105 {s : Sto} {i : Nat} {x : Int32} (h : i < 96) : sI (lay s) 105 (iN i) x = some (lay (uI s 105 i x)) := sI_lay (p := 105) h
theorem ai_106 {s : Sto} {i : Nat} (h : i < 546) : aF (lay s) 106 (iN i) = some (s.2.1 106 i) := aF_lay (p := 106) h
theorem si_106 {s : Sto} {i : Nat} {x : UInt32} (h : i < 546) : sF (lay s) 106 (iN i) x = some (lay (uF s 106 i x)) := sF_lay (p := 106) h
theorem ai_107 {s : Sto} {i : Nat} (h : i < 504) : aI (lay s) 0 107 (iN i) = some (s.1 107 i) := aI_lay (p := 107) h
theorem si_107 {s : Sto} {i : Nat} {x : Int32} (h : i < 504) : sI (lay s) 107 (iN i) x = some (lay (uI s 107 i x)) := sI_lay (p := 107) h
theorem ai_108 {s : Sto} {i : Nat} (h : i < 6) : aI (lay s) 0 108 (iN i) = some (s.1 108 i) := aI_lay (p := 108) h
theorem si_108 {s : Sto} {i : Nat} {x : Int32} (h : i < 6) : sI (lay s) 108 (iN i) x = some (lay (uI s 108 i x)) := sI_lay (p := 108) h
theorem ai_109 {s : Sto} {i : Nat} (h : i < 6) : aI (lay s) 0 109 (iN i) = some (s.1 109 i) := aI_lay (p := 109) h
theorem si_109 {s : Sto} {i : Nat} {x : Int32} (h : i < 6) : sI (lay s) 109 (iN i) x = some (lay (uI s 109 i x)) := sI_lay (p := 109) h
theorem ai_110 {s : Sto} {i : Nat} (h : i < 6) : aF (lay s) 110 (iN i) = some (s.2.1 110 i) := aF_lay (p := 110) h
theorem si_110 {s : Sto} {i : Nat} {x : UInt32} (h : i < 6) : sF (lay s) 110 (iN i) x = some (lay (uF s 110 i x)) := sF_lay (p := 110) h
theorem ai_111 {s : Sto} {i : Nat} (h : i < 25) : aI (lay s) 0 111 (iN i) = some (s.1 111 i) := aI_lay (p := 111) h
theorem si_111 {s : Sto} {i : Nat} {x : Int32} (h : i < 25) : sI (lay s) 111 (iN i) x = some (lay (uI s 111 i x)) := sI_lay (p := 111) h
theorem ai_112 {s : Sto} {i : Nat} (h : i < 173) : aI (lay s) 0 112 (iN i) = some (s.1 112 i) := aI_lay (p := 112) h
theorem si_112 {s : Sto} {i : Nat} {x : Int32} (h : i < 173) : sI (lay s) 112 (iN i) x = some (lay (uI s 112 i x)) := sI_lay (p := 112) h
theorem ai_113 {s : Sto} {i : Nat} (h : i < 100) : aI (lay s) 3 113 (iN i) = some (s.1 113 i) := aB_lay (p := 113) h
theorem si_113 {s : Sto} {i : Nat} {x : Int32} (h : i < 100) : sB (lay s) 113 (iN i) x = some (lay (uI s 113 i (vp_nar .byte x))) := sB_lay (p := 113) h
theorem ai_114 {s : Sto} {i : Nat} (h : i < 84) : aI (lay s) 0 114 (iN i) = some (s.1 114 i) := aI_lay (p := 114) h
theorem si_114 {s : Sto} {i : Nat} {x : Int32} (h : i < 84) : sI (lay s) 114 (iN i) x = some (lay (uI s 114 i x)) := sI_lay (p := 114) h
theorem ai_115 {s : Sto} {i : Nat} (h : i < 6) : aI (lay s) 0 115 (iN i) = some (s.1 115 i) := aI_lay (p := 115) h
theorem si_115 {s : Sto} {i : Nat} {x : Int32} (h : i < 6) : sI (lay s) 115 (iN i) x = some (lay (uI s 115 i x)) := sI_lay (p := 115) h
theorem ai_116 {s : Sto} {i : Nat} (h : i < 6) : aI (lay s) 0 116 (iN i) = some (s.1 116 i) := aI_lay (p := 116) h
theorem si_116 {s : Sto} {i : Nat} {x : Int32} (h : i < 6) : sI (lay s) 116 (iN i) x = some (lay (uI s 116 i x)) := sI_lay (p := 116) h
theorem ai_117 {s : Sto} {i : Nat} (h : i < 360) : aJ (lay s) 117 (iN i) = some (s.2.2.1 117 i) := aJ_lay (p := 117) h
theorem si_117 {s : Sto} {i : Nat} {x : Int64} (h : i < 360) : sJ (lay s) 117 (iN i) x = some (lay (uJ s 117 i x)) := sJ_lay (p := 117) h
theorem ai_118 {s : Sto} {i : Nat} (h : i < 9) : aF (lay s) 118 (iN i) = some (s.2.1 118 i) := aF_lay (p := 118) h
theorem si_118 {s : Sto} {i : Nat} {x : UInt32} (h : i < 9) : sF (lay s) 118 (iN i) x = some (lay (uF s 118 i x)) := sF_lay (p := 118) h
def Bs (p : Nat) : Prop := p = 2 ∨ p = 22 ∨ p = 41
theorem bs_r4 {s : Sto} {p : Nat} (hb : Bs p) : gR (lay s) p 0 4 = some (p + 1) := gR_lay (by rcases hb with rfl | rfl | rfl <;> rfl)
theorem bs_r5 {s : Sto} {p : Nat} (hb : Bs p) : gR (lay s) p 0 5 = some (p + 2) := gR_lay (by rcases hb with rfl | rfl | rfl <;> rfl)
theorem bs_r6 {s : Sto} {p : Nat} (hb : Bs p) : gR (lay s) p 0 6 = some (p + 3) := gR_lay (by rcases hb with rfl | rfl | rfl <;> rfl)
theorem bs_r7 {s : Sto} {p : Nat} (hb : Bs p) : gR (lay s) p 0 7 = some (p + 4) := gR_lay (by rcases hb with rfl | rfl | rfl <;> rfl)
theorem bs_r8 {s : Sto} {p : Nat} (hb : Bs p) : gR (lay s) p 0 8 = some (p + 5) := gR_lay (by rcases hb with rfl | rfl | rfl <;> rfl)
theorem bs_r9 {s : Sto} {p : Nat} (hb : Bs p) : gR (lay s) p 0 9 = some (p + 6) := gR_lay (by rcases hb with rfl | rfl | rfl <;> rfl)
theorem bs_g0 {s : Sto} {p : Nat} (hb : Bs p) : gI (lay s) p 0 0 = some (s.1 p 0) := gI_lay (by rcases hb with rfl | rfl | rfl <;> rfl)
theorem bs_p0 {s : Sto} {p : Nat} {x : Int32} (hb : Bs p) : pV (lay s) p 0 0 (.int x) = some (lay (uI s p 0 x)) := pI_lay (by rcases hb with rfl | rfl | rfl <;> rfl)
theorem bs_g1 {s : Sto} {p : Nat} (hb : Bs p) : gI (lay s) p 0 1 = some (s.1 p 1) := gI_lay (by rcases hb with rfl | rfl | rfl <;> rfl)
theorem bs_p1 {s : Sto} {p : Nat} {x : Int32} (hb : Bs p) : pV (lay s) p 0 1 (.int x) = some (lay (uI s p 1 x)) := pI_lay (by rcases hb with rfl | rfl | rfl <;> rfl)
theorem bs_g2 {s : Sto} {p : Nat} (hb : Bs p) : gI (lay s) p 0 2 = some (s.1 p 2) := gI_lay (by rcases hb with rfl | rfl | rfl <;> rfl)
theorem bs_p2 {s : Sto} {p : Nat} {x : Int32} (hb : Bs p) : pV (lay s) p 0 2 (.int x) = some (lay (uI s p 2 x)) := pI_lay (by rcases hb with rfl | rfl | rfl <;> rfl)
theorem bs_g3 {s : Sto} {p : Nat} (hb : Bs p) : gI (lay s) p 0 3 = some (s.1 p 3) := gI_lay (by rcases hb with rfl | rfl | rfl <;> rfl)
theorem bs_p3 {s : Sto} {p : Nat} {x : Int32} (hb : Bs p) : pV (lay s) p 0 3 (.int x) = some (lay (uI s p 3 x)) := pI_lay (by rcases hb with rfl | rfl | rfl <;> rfl)
theorem bs_g10 {s : Sto} {p : Nat} (hb : Bs p) : gI (lay s) p 0 10 = some (s.1 p 10) := gI_lay (by rcases hb with rfl | rfl | rfl <;> rfl)
theorem bs_p10 {s : Sto} {p : Nat} {x : Int32} (hb : Bs p) : pV (lay s) p 0 10 (.int x) = some (lay (uI s p 10 x)) := pI_lay (by rcases hb with rfl | rfl | rfl <;> rfl)
theorem bs_c {s : Sto} {p : Nat} (hb : Bs p) : isC (lay s) p 0 = some () := isC_lay (by rcases hb with rfl | rfl | rfl <;> rfl)
theorem bs_n1 {p : Nat} (hb : Bs p) : nA 0 (p + 1) = 36 := by rcases hb with rfl | rfl | rfl <;> rfl
theorem bs_a1 {s : Sto} {p i : Nat} (hb : Bs p) (h : i < 36) : aI (lay s) 0 (p + 1) (iN i) = some (s.1 (p + 1) i) := aI_lay (by rw [bs_n1 hb]; exact h)
theorem bs_s1 {s : Sto} {p i : Nat} {x : Int32} (hb : Bs p) (h : i < 36) : sI (lay s) (p + 1) (iN i) x = some (lay (uI s (p + 1) i x)) := sI_lay (by rw [bs_n1 hb]; exact h)
theorem bs_n2 {p : Nat} (hb : Bs p) : nA 0 (p + 2) = 9 := by rcases hb with rfl | rfl | rfl <;> rfl
theorem bs_a2 {s : Sto} {p i : Nat} (hb : Bs p) (h : i < 9) : aI (lay s) 0 (p + 2) (iN i) = some (s.1 (p + 2) i) := aI_lay (by rw [bs_n2 hb]; exact h)
theorem bs_s2 {s : Sto} {p i : Nat} {x : Int32} (hb : Bs p) (h : i < 9) : sI (lay s) (p + 2) (iN i) x = some (lay (uI s (p + 2) i x)) := sI_lay (by rw [bs_n2 hb]; exact h)
theorem bs_n3 {p : Nat} (hb : Bs p) : nA 0 (p + 3) = 12 := by rcases hb with rfl | rfl | rfl <;> rfl
theorem bs_a3 {s : Sto} {p i : Nat} (hb : Bs p) (h : i < 12) : aI (lay s) 0 (p + 3) (iN i) = some (s.1 (p + 3) i) := aI_lay (by rw [bs_n3 hb]; exact h)
theorem bs_s3 {s : Sto} {p i : Nat} {x : Int32} (hb : Bs p) (h : i < 12) : sI (lay s) (p + 3) (iN i) x = some (lay (uI s (p + 3) i x)) := sI_lay (by rw [bs_n3 hb]; exact h)
theorem bs_n4 {p : Nat} (hb : Bs p) : nA 0 (p + 4) = 12 := by rcases hb with rfl | rfl | rfl <;> rfl
theorem bs_a4 {s : Sto} {p i : Nat} (hb : Bs p) (h : i < 12) : aI (lay s) 0 (p + 4) (iN i) = some (s.1 (p + 4) i) := aI_lay (by rw [bs_n4 hb]; exact h)
theorem bs_s4 {s : Sto} {p i : Nat} {x : Int32} (hb : Bs p) (h : i < 12) : sI (lay s) (p + 4) (iN i) x = some (lay (uI s (p + 4) i x)) := sI_lay (by rw [bs_n4 hb]; exact h)
theorem bs_n6 {p : Nat} (hb : Bs p) : nA 0 (p + 6) = 6 := by rcases hb with rfl | rfl | rfl <;> rfl
theorem bs_a6 {s : Sto} {p i : Nat} (hb : Bs p) (h : i < 6) : aI (lay s) 0 (p + 6) (iN i) = some (s.1 (p + 6) i) := aI_lay (by rw [bs_n6 hb]; exact h)
theorem bs_s6 {s : Sto} {p i : Nat} {x : Int32} (hb : Bs p) (h : i < 6) : sI (lay s) (p + 6) (iN i) x = some (lay (uI s (p + 6) i x)) := sI_lay (by rw [bs_n6 hb]; exact h)
theorem aR_lay {s : Sto} {t p n b d i : Nat} (h : shp[p]? = some (.inl (t, n, b, d))) (ht : 4 ≤ t) (hi : i < n) (hn : n ≤ 600) : aR (lay s) t p (iN i) = some (b + d * i) := by
  unfold aR
  rw [lay_get, h]
  have : cel s p (.inl (t, n, b, d)) = .inl (t, n, .inr (.inr (.inr (.inr (fun j => if j < n then some (b + d * j) else none))))) := by
    unfold cel
    split <;> rename_i e <;> simp at e <;> first | (obtain ⟨rfl, _⟩ := e; omega) | (obtain ⟨rfl, rfl, rfl, rfl⟩ := e; rfl)
  simp only [Option.map_some, this]
  rw [if_pos ⟨trivial, idx_ok hi hn⟩, iN_nat (by omega), if_pos hi]
theorem bs_d {s : Sto} {p i : Nat} (hb : Bs p) (h : i < 6) : aR (lay s) 4 (p + 5) (iN i) = some (p + 7 + i) := by
  have := aR_lay (s := s) (t := 4) (p := p + 5) (n := 6) (b := p + 7) (d := 1) (i := i) (by rcases hb with rfl | rfl | rfl <;> rfl) (by omega) h (by omega)
  rw [Nat.one_mul] at this
  exact this
theorem bs_kd {p d k : Nat} (hb : Bs p) (hd : d < 6) (hk : k < 6) : qI (p + 7 + d) 5 k = true := by
  have : ∀ d < 6, ∀ k < 6, qI (2 + 7 + d) 5 k = true ∧ qI (22 + 7 + d) 5 k = true ∧ qI (41 + 7 + d) 5 k = true := by decide
  have h := this d hd k hk
  rcases hb with rfl | rfl | rfl
  · exact h.1
  · exact h.2.1
  · exact h.2.2
theorem bs_od {p d : Nat} (hb : Bs p) (hd : d < 6) : qO (p + 7 + d) 5 = true := by
  have : ∀ d < 6, qO (2 + 7 + d) 5 = true ∧ qO (22 + 7 + d) 5 = true ∧ qO (41 + 7 + d) 5 = true := by decide
  have h := this d hd
  rcases hb with rfl | rfl | rfl
  · exact h.1
  · exact h.2.1
  · exact h.2.2
theorem bs_gd {s : Sto} {p d k : Nat} (hb : Bs p) (hd : d < 6) (hk : k < 6) : gI (lay s) (p + 7 + d) 5 k = some (s.1 (p + 7 + d) k) := gI_lay (bs_kd hb hd hk)
theorem bs_pd {s : Sto} {p d k : Nat} {x : Int32} (hb : Bs p) (hd : d < 6) (hk : k < 6) : pV (lay s) (p + 7 + d) 5 k (.int x) = some (lay (uI s (p + 7 + d) k x)) := pI_lay (bs_kd hb hd hk)
theorem bs_cd {s : Sto} {p d : Nat} (hb : Bs p) (hd : d < 6) : isC (lay s) (p + 7 + d) 5 = some () := isC_lay (bs_od hb hd)
def Rw (r : Nat) : Prop := r = 54 ∨ r = 59
theorem rw_r0 {s : Sto} {r : Nat} (hr : Rw r) : gR (lay s) r 1 0 = some (r + 1) := gR_lay (by rcases hr with rfl | rfl <;> rfl)
theorem rw_r1 {s : Sto} {r : Nat} (hr : Rw r) : gR (lay s) r 1 1 = some (r + 2) := gR_lay (by rcases hr with rfl | rfl <;> rfl)
theorem rw_r2 {s : Sto} {r : Nat} (hr : Rw r) : gR (lay s) r 1 2 = some (r + 3) := gR_lay (by rcases hr with rfl | rfl <;> rfl)
theorem rw_r3 {s : Sto} {r : Nat} (hr : Rw r) : gR (lay s) r 1 3 = some (r + 4) := gR_lay (by rcases hr with rfl | rfl <;> rfl)
theorem rw_c {s : Sto} {r : Nat} (hr : Rw r) : isC (lay s) r 1 = some () := isC_lay (by rcases hr with rfl | rfl <;> rfl)
theorem rw_n1 {r : Nat} (hr : Rw r) : nA 2 (r + 1) = 546 := by rcases hr with rfl | rfl <;> rfl
theorem rw_a1 {s : Sto} {r i : Nat} (hr : Rw r) (h : i < 546) : aF (lay s) (r + 1) (iN i) = some (s.2.1 (r + 1) i) := aF_lay (by rw [rw_n1 hr]; exact h)
theorem rw_s1 {s : Sto} {r i : Nat} {x : UInt32} (hr : Rw r) (h : i < 546) : sF (lay s) (r + 1) (iN i) x = some (lay (uF s (r + 1) i x)) := sF_lay (by rw [rw_n1 hr]; exact h)
theorem rw_n2 {r : Nat} (hr : Rw r) : nA 2 (r + 2) = 546 := by rcases hr with rfl | rfl <;> rfl
theorem rw_a2 {s : Sto} {r i : Nat} (hr : Rw r) (h : i < 546) : aF (lay s) (r + 2) (iN i) = some (s.2.1 (r + 2) i) := aF_lay (by rw [rw_n2 hr]; exact h)
theorem rw_s2 {s : Sto} {r i : Nat} {x : UInt32} (hr : Rw r) (h : i < 546) : sF (lay s) (r + 2) (iN i) x = some (lay (uF s (r + 2) i x)) := sF_lay (by rw [rw_n2 hr]; exact h)
theorem rw_n3 {r : Nat} (hr : Rw r) : nA 0 (r + 3) = 504 := by rcases hr with rfl | rfl <;> rfl
theorem rw_a3 {s : Sto} {r i : Nat} (hr : Rw r) (h : i < 504) : aI (lay s) 0 (r + 3) (iN i) = some (s.1 (r + 3) i) := aI_lay (by rw [rw_n3 hr]; exact h)
theorem rw_s3 {s : Sto} {r i : Nat} {x : Int32} (hr : Rw r) (h : i < 504) : sI (lay s) (r + 3) (iN i) x = some (lay (uI s (r + 3) i x)) := sI_lay (by rw [rw_n3 hr]; exact h)
theorem rw_n4 {r : Nat} (hr : Rw r) : nA 0 (r + 4) = 252 := by rcases hr with rfl | rfl <;> rfl
theorem rw_a4 {s : Sto} {r i : Nat} (hr : Rw r) (h : i < 252) : aI (lay s) 0 (r + 4) (iN i) = some (s.1 (r + 4) i) := aI_lay (by rw [rw_n4 hr]; exact h)
theorem rw_s4 {s : Sto} {r i : Nat} {x : Int32} (hr : Rw r) (h : i < 252) : sI (lay s) (r + 4) (iN i) x = some (lay (uI s (r + 4) i x)) := sI_lay (by rw [rw_n4 hr]; exact h)
def Ln (l wd lm : Nat) : Prop := (l, wd, lm) ∈ [(15, 4, 5), (17, 2, 8), (19, 3, 8), (35, 4, 5), (37, 2, 8), (39, 3, 8), (76, 1, 100), (81, 1, 24), (83, 1, 24), (85, 1, 24), (87, 1, 24)]
theorem ln_k {l wd lm : Nat} (hl : Ln l wd lm) : qK l 6 0 wd = true ∧ qK l 6 1 lm = true ∧ qR l 6 2 (l + 1) = true ∧ qI l 6 3 = true ∧ qO l 6 = true ∧ nA 0 (l + 1) = wd * lm ∧ 0 < wd * lm := by
  have : ∀ q ∈ [(15, 4, 5), (17, 2, 8), (19, 3, 8), (35, 4, 5), (37, 2, 8), (39, 3, 8), (76, 1, 100), (81, 1, 24), (83, 1, 24), (85, 1, 24), (87, 1, 24)], qK q.1 6 0 q.2.1 = true ∧ qK q.1 6 1 q.2.2 = true ∧ qR q.1 6 2 (q.1 + 1) = true ∧ qI q.1 6 3 = true ∧ qO q.1 6 = true ∧ nA 0 (q.1 + 1) = q.2.1 * q.2.2 ∧ 0 < q.2.1 * q.2.2 := by decide
  exact this (l, wd, lm) hl
theorem ln_g0 {s : Sto} {l wd lm : Nat} (hl : Ln l wd lm) : gI (lay s) l 6 0 = some (iN wd) := gK_lay (ln_k hl).1
theorem ln_g1 {s : Sto} {l wd lm : Nat} (hl : Ln l wd lm) : gI (lay s) l 6 1 = some (iN lm) := gK_lay (ln_k hl).2.1
theorem ln_r2 {s : Sto} {l wd lm : Nat} (hl : Ln l wd lm) : gR (lay s) l 6 2 = some (l + 1) := gR_lay (ln_k hl).2.2.1
theorem ln_g3 {s : Sto} {l wd lm : Nat} (hl : Ln l wd lm) : gI (lay s) l 6 3 = some (s.1 l 3) := gI_lay (ln_k hl).2.2.2.1
theorem ln_p3 {s : Sto} {l wd lm : Nat} {x : Int32} (hl : Ln l wd lm) : pV (lay s) l 6 3 (.int x) = some (lay (uI s l 3 x)) := pI_lay (ln_k hl).2.2.2.1
theorem ln_c {s : Sto} {l wd lm : Nat} (hl : Ln l wd lm) : isC (lay s) l 6 = some () := isC_lay (ln_k hl).2.2.2.2.1
theorem ln_a {s : Sto} {l wd lm i : Nat} (hl : Ln l wd lm) (h : i < wd * lm) : aI (lay s) 0 (l + 1) (iN i) = some (s.1 (l + 1) i) := aI_lay (by rw [(ln_k hl).2.2.2.2.2.1]; exact h)
theorem ln_s {s : Sto} {l wd lm i : Nat} {x : Int32} (hl : Ln l wd lm) (h : i < wd * lm) : sI (lay s) (l + 1) (iN i) x = some (lay (uI s (l + 1) i x)) := sI_lay (by rw [(ln_k hl).2.2.2.2.2.1]; exact h)
theorem rc_a {s : Sto} {i : Nat} (h : i < 4) : aR (lay s) 5 75 (iN i) = some (81 + 2 * i) := aR_lay (t := 5) (p := 75) (n := 4) (b := 81) (d := 2) rfl (by omega) h (by omega)
theorem rc_l {i : Nat} (h : i < 4) : Ln (81 + 2 * i) 1 24 := by
  have : ∀ i < 4, (81 + 2 * i, 1, 24) ∈ [(15, 4, 5), (17, 2, 8), (19, 3, 8), (35, 4, 5), (37, 2, 8), (39, 3, 8), (76, 1, 100), (81, 1, 24), (83, 1, 24), (85, 1, 24), (87, 1, 24)] := by decide
  exact this i h
theorem tp_a {s : Sto} {i : Nat} (h : i < 6) : aR (lay s) 6 80 (iN i) = some (89 + 2 * i) := aR_lay (t := 6) (p := 80) (n := 6) (b := 89) (d := 2) rfl (by omega) h (by omega)
theorem tp_k {t : Nat} (h : t < 6) : qI (89 + 2 * t) 9 0 = true ∧ qI (89 + 2 * t) 9 1 = true ∧ qR (89 + 2 * t) 9 2 (90 + 2 * t) = true ∧ qO (89 + 2 * t) 9 = true ∧ nA 1 (90 + 2 * t) = 60 := by
  have : ∀ t < 6, qI (89 + 2 * t) 9 0 = true ∧ qI (89 + 2 * t) 9 1 = true ∧ qR (89 + 2 * t) 9 2 (90 + 2 * t) = true ∧ qO (89 + 2 * t) 9 = true ∧ nA 1 (90 + 2 * t) = 60 := by decide
  exact this t h
theorem tp_g0 {s : Sto} {t : Nat} (h : t < 6) : gI (lay s) (89 + 2 * t) 9 0 = some (s.1 (89 + 2 * t) 0) := gI_lay (tp_k h).1
theorem tp_g1 {s : Sto} {t : Nat} (h : t < 6) : gI (lay s) (89 + 2 * t) 9 1 = some (s.1 (89 + 2 * t) 1) := gI_lay (tp_k h).2.1
theorem tp_p0 {s : Sto} {t : Nat} {x : Int32} (h : t < 6) : pV (lay s) (89 + 2 * t) 9 0 (.int x) = some (lay (uI s (89 + 2 * t) 0 x)) := pI_lay (tp_k h).1
theorem tp_p1 {s : Sto} {t : Nat} {x : Int32} (h : t < 6) : pV (lay s) (89 + 2 * t) 9 1 (.int x) = some (lay (uI s (89 + 2 * t) 1 x)) := pI_lay (tp_k h).2.1
theorem tp_r {s : Sto} {t : Nat} (h : t < 6) : gR (lay s) (89 + 2 * t) 9 2 = some (90 + 2 * t) := gR_lay (tp_k h).2.2.1
theorem tp_c {s : Sto} {t : Nat} (h : t < 6) : isC (lay s) (89 + 2 * t) 9 = some () := isC_lay (tp_k h).2.2.2.1
theorem tp_ai {s : Sto} {t i : Nat} (h : t < 6) (hi : i < 60) : aJ (lay s) (90 + 2 * t) (iN i) = some (s.2.2.1 (90 + 2 * t) i) := aJ_lay (by rw [(tp_k h).2.2.2.2]; exact hi)
theorem tp_si {s : Sto} {t i : Nat} {x : Int64} (h : t < 6) (hi : i < 60) : sJ (lay s) (90 + 2 * t) (iN i) x = some (lay (uJ s (90 + 2 * t) i x)) := sJ_lay (by rw [(tp_k h).2.2.2.2]; exact hi)
theorem ch_g1 {s : Sto} : gR (lay s) 64 2 1 = some s.2.2.2.1 := by
  unfold gR
  rw [gV_lay (s := s) (p := 64) (ci := 2) (k := 1) (f := (4, 0)) rfl rfl]
  rfl
theorem ch_g2 {s : Sto} : gR (lay s) 64 2 2 = some s.2.2.2.2 := by
  unfold gR
  rw [gV_lay (s := s) (p := 64) (ci := 2) (k := 2) (f := (5, 0)) rfl rfl]
  rfl
set_option maxRecDepth 100000 in
theorem ch_p1 {s : Sto} {r : Nat} : pV (lay s) 64 2 1 (.ref r) = some (lay (s.1, s.2.1, s.2.2.1, r, s.2.2.2.2)) := rfl
set_option maxRecDepth 100000 in
theorem ch_p2 {s : Sto} {r : Nat} : pV (lay s) 64 2 2 (.ref r) = some (lay (s.1, s.2.1, s.2.2.1, s.2.2.2.1, r)) := rfl
