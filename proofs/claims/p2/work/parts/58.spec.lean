/-! How a text should be read: trees; tokens K with values V taken one by one; each part gives its tree, what is to be looked up (a name that is not there: 0; a call of a arguments: a + 1) in the text's order, how many nodes, the next token, how many names. -/
abbrev tr_T : Type := List Nat → Int32 × Int32 × Nat × Nat
def tr_sub (t : tr_T) (j : Nat) : tr_T := fun p => t (j :: p)
def tr_mk (k v : Int32) (o a : Nat) (f : Nat → tr_T) : tr_T := fun p => match p with
  | [] => (k, v, o, a)
  | j :: q => f j q
def tr_k (t : tr_T) : Int32 := (t []).1
def tr_v (t : tr_T) : Int32 := (t []).2.1
def tr_o (t : tr_T) : Nat := (t []).2.2.1
def tr_a (t : tr_T) : Nat := (t []).2.2.2
def tr_z : tr_T := fun _ => (0, 0, 0, 0)
def tr_l (k v : Int32) (o : Nat) : tr_T := tr_mk k v o 0 (fun _ => tr_z)
def tr_2 (k v : Int32) (o : Nat) (a b : tr_T) : tr_T := tr_mk k v o 2 (fun j => if j = 0 then a else b)
def tr_3 (k v : Int32) (o : Nat) (a b c : tr_T) : tr_T := tr_mk k v o 3 (fun j => if j = 0 then a else if j = 1 then b else c)
def tr_ls (l : List tr_T) : Nat → tr_T := fun j => l.getD j tr_z
/-- no deeper than d -/
def tr_fit : Nat → tr_T → Prop
  | 0, _ => False
  | d + 1, t => ∀ j, j < tr_a t → tr_fit d (tr_sub t j)
theorem tr_fit_s : ∀ (d : Nat) (t : tr_T), tr_fit d t → tr_fit (d + 1) t := by
  intro d
  induction d with
  | zero => intro t h; exact absurd h id
  | succ d ih => intro t h j hj; exact ih _ (h j hj)
theorem tr_fit_le {d e : Nat} {t : tr_T} (h : tr_fit d t) (hde : d ≤ e) : tr_fit e t := by
  induction hde with
  | refl => exact h
  | step _ ih => exact tr_fit_s _ _ ih
abbrev ps_E : Type := Int32 × Nat
def ps_b {α β : Type} (x : Except ps_E α) (f : α → Except ps_E β) : Except ps_E β := match x with
  | .ok a => f a
  | .error e => .error e
abbrev ps_O : Type := tr_T × List (Nat × Nat) × Nat × Nat × Nat
abbrev ps_P : Type := List (Int64 × Nat) → Nat → Nat → Except ps_E ps_O
def ps_take (K : Nat → Int32) (k : Int32) (i : Nat) : Except ps_E Nat := if K i = k then (if i < 1500 then (if K (i + 1) = 19 then .error (1, i + 1) else .ok (i + 1)) else .error (6, i)) else .error (2, i)
def ps_look (x : Int64) : List (Int64 × Nat) → Option Nat
  | [] => none
  | q :: r => if q.1 = x then some q.2 else ps_look x r
def ps_num (K : Nat → Int32) (V : Nat → Int64) (s : Int32) (i m : Nat) : Except ps_E ps_O := ps_b (ps_take K 1 i) fun i1 => .ok (tr_l 1 (s * (V i).toInt32) 0, [], 1, i1, m)
def ps_name (V : Nat → Int64) (sc : List (Int64 × Nat)) (o i m : Nat) : ps_O := match ps_look (V o) sc with
  | some s => (tr_l 2 (Int32.ofNat s) o, [], 1, i, m)
  | none => (tr_l 2 0 o, [(o, 0)], 1, i, m)
def ps_args (K : Nat → Int32) (self : ps_P) (sc : List (Int64 × Nat)) : Nat → Nat → Nat → Except ps_E (List tr_T × List (Nat × Nat) × Nat × Nat × Nat)
  | 0, i, m => .ok ([], [], 0, i, m)
  | f + 1, i, m => if K i = 17 then ps_b (ps_take K 17 i) fun i1 => ps_b (self sc i1 m) fun q => ps_b (ps_args K self sc f q.2.2.2.1 q.2.2.2.2) fun r => .ok (q.1 :: r.1, q.2.1 ++ r.2.1, q.2.2.1 + r.2.2.1, r.2.2.2.1, r.2.2.2.2) else .ok ([], [], 0, i, m)
def ps_call (K : Nat → Int32) (self : ps_P) (sc : List (Int64 × Nat)) (o i m : Nat) : Except ps_E ps_O :=
  ps_b (ps_take K 15 i) fun i1 => if K i1 = 16 then ps_b (ps_take K 16 i1) fun i2 => .ok (tr_mk 5 (Int32.ofNat o) o 0 (tr_ls []), [(o, 1)], 1, i2, m)
  else ps_b (self sc i1 m) fun q => ps_b (ps_args K self sc 1500 q.2.2.2.1 q.2.2.2.2) fun r => ps_b (ps_take K 16 r.2.2.2.1) fun i2 => .ok (tr_mk 5 (Int32.ofNat o) o (r.1.length + 1) (tr_ls (q.1 :: r.1)), (o, r.1.length + 2) :: (q.2.1 ++ r.2.1), 1 + q.2.2.1 + r.2.2.1, i2, r.2.2.2.2)
def ps_atom (K : Nat → Int32) (V : Nat → Int64) (self : ps_P) (sc : List (Int64 × Nat)) (i m : Nat) : Except ps_E ps_O :=
  if K i = 7 then ps_b (ps_take K 7 i) fun i1 => ps_num K V (-1) i1 m
  else if K i = 1 then ps_num K V 1 i m
  else if K i = 2 then ps_b (ps_take K 2 i) fun i1 => if K i1 = 15 then ps_call K self sc i i1 m else .ok (ps_name V sc i i1 m)
  else if K i = 15 then ps_b (ps_take K 15 i) fun i1 => ps_b (self sc i1 m) fun q => ps_b (ps_take K 16 q.2.2.2.1) fun i2 => .ok (q.1, q.2.1, q.2.2.1, i2, q.2.2.2.2)
  else .error (2, i)
/-- a part, a sign, a part -/
def ps_two (K : Nat → Int32) (g : Int32 → Bool) (p : Nat → Nat → Except ps_E ps_O) (i m : Nat) : Except ps_E ps_O :=
  ps_b (p i m) fun q => if g (K q.2.2.2.1) = true then ps_b (ps_take K (K q.2.2.2.1) q.2.2.2.1) fun i1 => ps_b (p i1 q.2.2.2.2) fun r => .ok (tr_2 (K q.2.2.2.1) 0 0 q.1 r.1, q.2.1 ++ r.2.1, q.2.2.1 + r.2.2.1 + 1, r.2.2.2.1, r.2.2.2.2)
  else .ok q
def ps_product (K : Nat → Int32) (V : Nat → Int64) (self : ps_P) (sc : List (Int64 × Nat)) : Nat → Nat → Except ps_E ps_O := ps_two K (fun k => k == 8) (ps_atom K V self sc)
def ps_sum (K : Nat → Int32) (V : Nat → Int64) (self : ps_P) (sc : List (Int64 × Nat)) : Nat → Nat → Except ps_E ps_O := ps_two K (fun k => k == 6 || k == 7) (ps_product K V self sc)
def ps_cmp (K : Nat → Int32) (V : Nat → Int64) (self : ps_P) (sc : List (Int64 × Nat)) : Nat → Nat → Except ps_E ps_O := ps_two K (fun k => k == 9 || k == 10) (ps_sum K V self sc)
/-- a name that is not there yet -/
def ps_new (K : Nat → Int32) (told many : Bool) (i : Nat) : Except ps_E Nat := if K i = 2 ∧ told = true then .error (3, i) else if K i = 2 ∧ many = true then .error (6, i) else ps_take K 2 i
def ps_let (K : Nat → Int32) (V : Nat → Int64) (self : ps_P) (sc : List (Int64 × Nat)) (i m : Nat) : Except ps_E ps_O :=
  ps_b (ps_take K 3 i) fun i1 => ps_b (ps_new K false (decide (16 ≤ m)) i1) fun i2 => ps_b (ps_take K 14 i2) fun i3 => ps_b (self sc i3 (m + 1)) fun q => ps_b (ps_take K 13 q.2.2.2.1) fun i4 => ps_b (self ((V i1, m) :: sc) i4 q.2.2.2.2) fun r => .ok (tr_2 3 (Int32.ofNat m) i1 q.1 r.1, q.2.1 ++ r.2.1, 1 + q.2.2.1 + r.2.2.1, r.2.2.2.1, r.2.2.2.2)
def ps_if (K : Nat → Int32) (self : ps_P) (sc : List (Int64 × Nat)) (i m : Nat) : Except ps_E ps_O :=
  ps_b (ps_take K 4 i) fun i1 => ps_b (self sc i1 m) fun q => ps_b (ps_take K 11 q.2.2.2.1) fun i2 => ps_b (self sc i2 q.2.2.2.2) fun r => ps_b (ps_take K 12 r.2.2.2.1) fun i3 => ps_b (self sc i3 r.2.2.2.2) fun s => .ok (tr_3 4 0 0 q.1 r.1 s.1, q.2.1 ++ (r.2.1 ++ s.2.1), 1 + q.2.2.1 + r.2.2.1 + s.2.2.1, s.2.2.2.1, s.2.2.2.2)
def ps_ex (K : Nat → Int32) (V : Nat → Int64) : Nat → ps_P
  | 0 => fun _ i _ => if K i = 3 ∨ K i = 4 ∨ K i = 7 ∨ K i = 1 ∨ K i = 2 ∨ K i = 15 then .error (6, i) else .error (2, i)
  | r + 1 => fun sc i m => if K i = 3 then ps_let K V (ps_ex K V r) sc i m else if K i = 4 then ps_if K (ps_ex K V r) sc i m else ps_cmp K V (ps_ex K V r) sc i m
/-- what holds of all that is read from i on -/
def ps_good (K : Nat → Int32) (d i m : Nat) (q : ps_O) : Prop := i < q.2.2.2.1 ∧ q.2.2.2.1 ≤ 1500 ∧ m ≤ q.2.2.2.2 ∧ (m ≤ 16 → q.2.2.2.2 ≤ 16) ∧ 1 ≤ q.2.2.1 ∧ q.2.2.1 + i ≤ q.2.2.2.1 ∧ ¬K q.2.2.2.1 = 19 ∧ tr_fit d q.1 ∧ (∀ o, o ∈ q.2.1 → i ≤ o.1 ∧ o.1 < q.2.2.2.1) ∧ q.2.1.Pairwise (fun a b => a.1 < b.1)
theorem ps_take_ok {K : Nat → Int32} {k : Int32} {i j : Nat} (h : ps_take K k i = .ok j) : K i = k ∧ i < 1500 ∧ j = i + 1 ∧ ¬K j = 19 := by
  unfold ps_take at h
  split at h
  · next h1 =>
    split at h
    · next h2 =>
      split at h
      · cases h
      · next h3 => cases h; exact ⟨h1, h2, rfl, h3⟩
    · cases h
  · cases h
theorem ps_b_ok {α β : Type} {x : Except ps_E α} {f : α → Except ps_E β} {b : β} (h : ps_b x f = .ok b) : ∃ a, x = .ok a ∧ f a = .ok b := by
  cases x with
  | error e => cases h
  | ok a => exact ⟨a, rfl, h⟩
theorem ps_new_ok {K : Nat → Int32} {a b : Bool} {i j : Nat} (h : ps_new K a b i = .ok j) : ps_take K 2 i = .ok j ∧ a = false ∧ b = false := by
  unfold ps_new at h
  split at h
  · cases h
  · next h1 =>
    split at h
    · cases h
    · next h2 =>
      obtain ⟨e, -⟩ := ps_take_ok h
      refine ⟨h, ?_, ?_⟩
      · cases a with
        | false => rfl
        | true => exact absurd ⟨e, rfl⟩ h1
      · cases b with
        | false => rfl
        | true => exact absurd ⟨e, rfl⟩ h2
