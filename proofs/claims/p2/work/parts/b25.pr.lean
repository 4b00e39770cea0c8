/-! What is PRINTED: numbers in figures, texts, trees. -/
def pr_d (n : Nat) : Nat → List Int32
  | 0 => [48 + Int32.ofNat (n % 10)]
  | k + 1 => (48 + Int32.ofNat (n / 10 ^ (k + 1) % 10)) :: pr_d n k
def pr_k (n : Nat) : Nat → Nat
  | 0 => 0
  | k + 1 => if 10 ^ (k + 1) ≤ n then k + 1 else pr_k n k
def pr_n (n : Nat) : List Int32 := pr_d n (pr_k n 9)
def pr_x (t : Nat) : List Int32 := (tb_txt.getD t []).map Int32.ofNat
def pr_i (v : Int32) : List Int32 := if v = -2147483648 then pr_x 20 else if v < 0 then 45 :: pr_n (-v).toNatClampNeg else pr_n v.toNatClampNeg
abbrev pr_S : Type := Nat × (Nat → Option Nat)
abbrev pr_O : Type := Option (List Int32 × pr_S)
def pr_b (x : pr_O) (f : pr_S → pr_O) : pr_O := match x with
  | none => none
  | some q => match f q.2 with
    | none => none
    | some w => some (q.1 ++ w.1, w.2)
def pr_sx (k : Int32) : Nat := if k = 6 then 27 else if k = 7 then 28 else if k = 8 then 29 else if k = 9 then 30 else 31
def pr_u (L : Nat → Option Nat) (i j : Nat) : Nat → Option Nat := fun m => if m = i then some j else L m
def pr_as (self : pr_S → tr_T → pr_O) (t : tr_T) : Nat → Nat → pr_S → pr_O
  | 0, _, s => some ([41], s)
  | r + 1, j, s => pr_b (some (if j = 0 then [] else pr_x 17, s)) fun s => pr_b (self s (tr_sub t j)) fun s => pr_as self t r (j + 1) s
def pr_in (pn : Nat) (self : pr_S → tr_T → pr_O) (s : pr_S) (t : tr_T) : pr_O := if ev_ok 78 t then (if tr_k t = 1 then some (pr_i (tr_v t), s) else if tr_k t = 2 then (if tr_n t < pn then some ([97 + tr_v t], s) else match s.2 (tr_n t) with
    | none => none
    | some j => some (120 :: pr_n j, s)) else if tr_k t = 3 then pr_b (some (pr_x 21 ++ pr_n s.1 ++ pr_x 22, s.1 + 1, pr_u s.2 (tr_n t) s.1)) (fun s => pr_b (self s (tr_sub t 0)) fun s => pr_b (some (pr_x 23, s)) fun s => pr_b (self s (tr_sub t 1)) fun s => some ([41], s)) else if tr_k t = 4 then pr_b (some (pr_x 24, s)) (fun s => pr_b (self s (tr_sub t 0)) fun s => pr_b (some (pr_x 25, s)) fun s => pr_b (self s (tr_sub t 1)) fun s => pr_b (some (pr_x 26, s)) fun s => pr_b (self s (tr_sub t 2)) fun s => some ([41], s)) else if tr_k t = 5 then pr_b (some (118 :: pr_n (tr_n t) ++ [40], s)) (fun s => pr_as self t (tr_a t) 0 s) else pr_b (some ([40], s)) (fun s => pr_b (self s (tr_sub t 0)) fun s => pr_b (some (pr_x (pr_sx (tr_k t)), s)) fun s => pr_b (self s (tr_sub t 1)) fun s => some ([41], s))) else none
def pr (pn : Nat) : Nat → pr_S → tr_T → pr_O
  | 0 => fun _ _ => none
  | r + 1 => fun s t => pr_in pn (pr pn r) s t
def pr_ps : Nat → Nat → List Int32
  | 0, _ => []
  | r + 1, i => (if i = 0 then [] else pr_x 17) ++ (97 + Int32.ofNat i) :: pr_ps r (i + 1)
/-- a version -/
def pr_v (k pn : Nat) (t : tr_T) : Option (List Int32) := match pr pn 96 (0, fun _ => none) t with
  | none => none
  | some q => some (118 :: pr_n k ++ 40 :: pr_ps pn 0 ++ pr_x 18 ++ q.1 ++ pr_x 19)
def pr_vs : Nat → pg_T → Option (List Int32)
  | _, [] => some []
  | k, d :: r => match pr_v k d.1 d.2.1, pr_vs (k + 1) r with
    | some l, some m => some (l ++ m)
    | _, _ => none
theorem pr_d_l (n : Nat) : ∀ k, (pr_d n k).length = k + 1 := by
  intro k
  induction k with
  | zero => rfl
  | succ k ih => show (pr_d n k).length + 1 = _; rw [ih]
theorem pr_k_le (n : Nat) : ∀ k, pr_k n k ≤ k := by
  intro k
  induction k with
  | zero => exact Nat.le_refl _
  | succ k ih =>
    unfold pr_k
    split
    · exact Nat.le_refl _
    · omega
theorem pr_n_l (n : Nat) : (pr_n n).length ≤ 10 := by
  unfold pr_n
  rw [pr_d_l]
  have := pr_k_le n 9
  omega
theorem pr_i_l (v : Int32) : (pr_i v).length ≤ 17 := by
  unfold pr_i
  split
  · decide
  · split
    · show (pr_n _).length + 1 ≤ 17
      have := pr_n_l (-v).toNatClampNeg
      omega
    · have := pr_n_l v.toNatClampNeg
      omega
/-- of k: 10^k <= n (or k = 0), and n < 10^(k+1) -/
theorem pr_k_ok {n : Nat} : ∀ j, n < 10 ^ (j + 1) → (pr_k n j = 0 ∨ 10 ^ pr_k n j ≤ n) ∧ n < 10 ^ (pr_k n j + 1) := by
  intro j
  induction j with
  | zero => intro h; exact ⟨Or.inl rfl, h⟩
  | succ j ih =>
    intro h
    unfold pr_k
    split
    · next hj => exact ⟨Or.inr hj, h⟩
    · next hj => exact ih (by omega)
theorem pr_k_un {n a b : Nat} (h1 : a = 0 ∨ 10 ^ a ≤ n) (h2 : n < 10 ^ (a + 1)) (h3 : b = 0 ∨ 10 ^ b ≤ n) (h4 : n < 10 ^ (b + 1)) : a = b := by
  rcases Nat.lt_trichotomy a b with q | q | q
  · have : 10 ^ (a + 1) ≤ 10 ^ b := Nat.pow_le_pow_right (by decide) q
    omega
  · exact q
  · have : 10 ^ (b + 1) ≤ 10 ^ a := Nat.pow_le_pow_right (by decide) q
    omega
/-! Ints: quotients of small numbers. -/
theorem im_div {a b : Nat} (ha : a < 2147483648) (hb : b < 2147483648) : Int32.ofNat a / Int32.ofNat b = Int32.ofNat (a / b) := by
  have hq : a / b < 2147483648 := Nat.lt_of_le_of_lt (Nat.div_le_self a b) ha
  apply Int32.toInt_inj.mp
  have hne : Int32.ofNat a ≠ Int32.minValue := fun q => by
    have := im_neg ha
    rw [q] at this
    exact this (by decide)
  rw [Int32.toInt_div_of_ne_left _ _ hne, im_i ha, im_i hb, im_i hq]
  rfl
theorem im_mod {q : Nat} (hq : q < 2147483648) : Int32.ofNat q - Int32.ofNat q / (10 : Int32) * (10 : Int32) = Int32.ofNat (q % 10) := by
  rw [show (10 : Int32) = Int32.ofNat 10 from rfl, im_div hq (by decide), ← Int32.ofNat_mul]
  have e : q = q % 10 + q / 10 * 10 := by omega
  have e2 : Int32.ofNat q = Int32.ofNat (q % 10 + q / 10 * 10) := by rw [← e]
  rw [e2, im_sb]
theorem im_m80 {q : Nat} (hq : q < 2147483648) : Int32.ofNat q - Int32.ofNat q / (80 : Int32) * (80 : Int32) = Int32.ofNat (q % 80) := by
  rw [show (80 : Int32) = Int32.ofNat 80 from rfl, im_div hq (by decide), ← Int32.ofNat_mul]
  have e : q = q % 80 + q / 80 * 80 := by omega
  have e2 : Int32.ofNat q = Int32.ofNat (q % 80 + q / 80 * 80) := by rw [← e]
  rw [e2, im_sb]
theorem pr_10 : ∀ k, k < 10 → 10 ^ k < 2147483648 := by decide
theorem im_neg_n {v : Int32} (h1 : ¬v = -2147483648) (h2 : v < 0) : ¬-v < 0 := by
  intro q
  have e0 : (0 : Int32).toInt = 0 := rfl
  have hm : v.toInt ≠ -2147483648 := fun w => h1 (Int32.toInt_inj.mp (by rw [w]; rfl))
  have hl := Int32.le_toInt v
  have a1 := Int32.lt_iff_toInt_lt.mp h2
  have a2 := Int32.lt_iff_toInt_lt.mp q
  rw [e0] at a1 a2
  rw [Int32.toInt_neg, Int.bmod_eq_of_le (by omega) (by omega)] at a2
  omega
theorem im_tl (v : Int32) : v.toNatClampNeg < 2147483648 := by
  by_cases h : v < 0
  · have : v.toNatClampNeg = 0 := by
      have a1 := Int32.lt_iff_toInt_lt.mp h
      have e0 : (0 : Int32).toInt = 0 := rfl
      rw [e0] at a1
      show v.toInt.toNat = 0
      omega
    omega
  · have := im_tn h
    have := Int32.toInt_lt v
    omega
