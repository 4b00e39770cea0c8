/-! part 58 -/
section
/-! How a text should be read: trees; tokens K with values V taken one by one; each part gives its tree, what is to be looked up (a name that is not there: 0; a call of a arguments: a + 1) in the text's order, how many nodes, the next token, how many names. -/
abbrev tr_T : Type := List Nat → Int32 × Int32 × Nat × Nat
def tr_sub (t : tr_T) (j : Nat) : tr_T := fun p => t (j :: p)
def tr_mk (k v : Int32) (o a : Nat) (f : Nat → tr_T) : tr_T := fun p => match p with
  | [] => (k, v, o, a)
  | j :: q => f j q
def tr_k (t : tr_T) : Int32 := (t []).1
def tr_v (t : tr_T) : Int32 := (t []).2.1
def tr_o (t : tr_T) : Nat := (t []).2.2.1
def tr_a (t : tr_T) : Nat := (t []).2.2.2
def tr_z : tr_T := fun _ => (0, 0, 0, 0)
def tr_l (k v : Int32) (o : Nat) : tr_T := tr_mk k v o 0 (fun _ => tr_z)
def tr_2 (k v : Int32) (o : Nat) (a b : tr_T) : tr_T := tr_mk k v o 2 (fun j => if j = 0 then a else b)
def tr_3 (k v : Int32) (o : Nat) (a b c : tr_T) : tr_T := tr_mk k v o 3 (fun j => if j = 0 then a else if j = 1 then b else c)
def tr_ls (l : List tr_T) : Nat → tr_T := fun j => l.getD j tr_z
/-- no deeper than d -/
def tr_fit : Nat → tr_T → Prop
  | 0, _ => False
  | d + 1, t => ∀ j, j < tr_a t → tr_fit d (tr_sub t j)
theorem tr_fit_s : ∀ (d : Nat) (t : tr_T), tr_fit d t → tr_fit (d + 1) t := by
  intro d
  induction d with
  | zero => intro t h; exact absurd h id
  | succ d ih => intro t h j hj; exact ih _ (h j hj)
theorem tr_fit_le {d e : Nat} {t : tr_T} (h : tr_fit d t) (hde : d ≤ e) : tr_fit e t := by
  induction hde with
  | refl => exact h
  | step _ ih => exact tr_fit_s _ _ ih
abbrev ps_E : Type := Int32 × Nat
def ps_b {α β : Type} (x : Except ps_E α) (f : α → Except ps_E β) : Except ps_E β := match x with
  | .ok a => f a
  | .error e => .error e
abbrev ps_O : Type := tr_T × List (Nat × Nat) × Nat × Nat × Nat
abbrev ps_P : Type := List (Int64 × Nat) → Nat → Nat → Except ps_E ps_O
def ps_take (K : Nat → Int32) (k : Int32) (i : Nat) : Except ps_E Nat := if K i = k then (if i < 1500 then (if K (i + 1) = 19 then .error (1, i + 1) else .ok (i + 1)) else .error (6, i)) else .error (2, i)
def ps_look (x : Int64) : List (Int64 × Nat) → Option Nat
  | [] => none
  | q :: r => if q.1 = x then some q.2 else ps_look x r
def ps_num (K : Nat → Int32) (V : Nat → Int64) (s : Int32) (i m : Nat) : Except ps_E ps_O := ps_b (ps_take K 1 i) fun i1 => .ok (tr_l 1 (s * (V i).toInt32) 0, [], 1, i1, m)
def ps_name (V : Nat → Int64) (sc : List (Int64 × Nat)) (o i m : Nat) : ps_O := match ps_look (V o) sc with
  | some s => (tr_l 2 (Int32.ofNat s) o, [], 1, i, m)
  | none => (tr_l 2 0 o, [(o, 0)], 1, i, m)
def ps_args (K : Nat → Int32) (self : ps_P) (sc : List (Int64 × Nat)) : Nat → Nat → Nat → Except ps_E (List tr_T × List (Nat × Nat) × Nat × Nat × Nat)
  | 0, i, m => .ok ([], [], 0, i, m)
  | f + 1, i, m => if K i = 17 then ps_b (ps_take K 17 i) fun i1 => ps_b (self sc i1 m) fun q => ps_b (ps_args K self sc f q.2.2.2.1 q.2.2.2.2) fun r => .ok (q.1 :: r.1, q.2.1 ++ r.2.1, q.2.2.1 + r.2.2.1, r.2.2.2.1, r.2.2.2.2) else .ok ([], [], 0, i, m)
def ps_call (K : Nat → Int32) (self : ps_P) (sc : List (Int64 × Nat)) (o i m : Nat) : Except ps_E ps_O :=
  ps_b (ps_take K 15 i) fun i1 => if K i1 = 16 then ps_b (ps_take K 16 i1) fun i2 => .ok (tr_mk 5 (Int32.ofNat o) o 0 (tr_ls []), [(o, 1)], 1, i2, m)
  else ps_b (self sc i1 m) fun q => ps_b (ps_args K self sc 1500 q.2.2.2.1 q.2.2.2.2) fun r => ps_b (ps_take K 16 r.2.2.2.1) fun i2 => .ok (tr_mk 5 (Int32.ofNat o) o (r.1.length + 1) (tr_ls (q.1 :: r.1)), (o, r.1.length + 2) :: (q.2.1 ++ r.2.1), 1 + q.2.2.1 + r.2.2.1, i2, r.2.2.2.2)
def ps_atom (K : Nat → Int32) (V : Nat → Int64) (self : ps_P) (sc : List (Int64 × Nat)) (i m : Nat) : Except ps_E ps_O :=
  if K i = 7 then ps_b (ps_take K 7 i) fun i1 => ps_num K V (-1) i1 m
  else if K i = 1 then ps_num K V 1 i m
  else if K i = 2 then ps_b (ps_take K 2 i) fun i1 => if K i1 = 15 then ps_call K self sc i i1 m else .ok (ps_name V sc i i1 m)
  else if K i = 15 then ps_b (ps_take K 15 i) fun i1 => ps_b (self sc i1 m) fun q => ps_b (ps_take K 16 q.2.2.2.1) fun i2 => .ok (q.1, q.2.1, q.2.2.1, i2, q.2.2.2.2)
  else .error (2, i)
/-- a part, a sign, a part -/
def ps_two (K : Nat → Int32) (g : Int32 → Bool) (p : Nat → Nat → Except ps_E ps_O) (i m : Nat) : Except ps_E ps_O :=
  ps_b (p i m) fun q => if g (K q.2.2.2.1) = true then ps_b (ps_take K (K q.2.2.2.1) q.2.2.2.1) fun i1 => ps_b (p i1 q.2.2.2.2) fun r => .ok (tr_2 (K q.2.2.2.1) 0 0 q.1 r.1, q.2.1 ++ r.2.1, q.2.2.1 + r.2.2.1 + 1, r.2.2.2.1, r.2.2.2.2)
  else .ok q
def ps_product (K : Nat → Int32) (V : Nat → Int64) (self : ps_P) (sc : List (Int64 × Nat)) : Nat → Nat → Except ps_E ps_O := ps_two K (fun k => k == 8) (ps_atom K V self sc)
def ps_sum (K : Nat → Int32) (V : Nat → Int64) (self : ps_P) (sc : List (Int64 × Nat)) : Nat → Nat → Except ps_E ps_O := ps_two K (fun k => k == 6 || k == 7) (ps_product K V self sc)
def ps_cmp (K : Nat → Int32) (V : Nat → Int64) (self : ps_P) (sc : List (Int64 × Nat)) : Nat → Nat → Except ps_E ps_O := ps_two K (fun k => k == 9 || k == 10) (ps_sum K V self sc)
/-- a name that is not there yet -/
def ps_new (K : Nat → Int32) (told many : Bool) (i : Nat) : Except ps_E Nat := if K i = 2 ∧ told = true then .error (3, i) else if K i = 2 ∧ many = true then .error (6, i) else ps_take K 2 i
def ps_let (K : Nat → Int32) (V : Nat → Int64) (self : ps_P) (sc : List (Int64 × Nat)) (i m : Nat) : Except ps_E ps_O :=
  ps_b (ps_take K 3 i) fun i1 => ps_b (ps_new K false (decide (16 ≤ m)) i1) fun i2 => ps_b (ps_take K 14 i2) fun i3 => ps_b (self sc i3 (m + 1)) fun q => ps_b (ps_take K 13 q.2.2.2.1) fun i4 => ps_b (self ((V i1, m) :: sc) i4 q.2.2.2.2) fun r => .ok (tr_2 3 (Int32.ofNat m) i1 q.1 r.1, q.2.1 ++ r.2.1, 1 + q.2.2.1 + r.2.2.1, r.2.2.2.1, r.2.2.2.2)
def ps_if (K : Nat → Int32) (self : ps_P) (sc : List (Int64 × Nat)) (i m : Nat) : Except ps_E ps_O :=
  ps_b (ps_take K 4 i) fun i1 => ps_b (self sc i1 m) fun q => ps_b (ps_take K 11 q.2.2.2.1) fun i2 => ps_b (self sc i2 q.2.2.2.2) fun r => ps_b (ps_take K 12 r.2.2.2.1) fun i3 => ps_b (self sc i3 r.2.2.2.2) fun s => .ok (tr_3 4 0 0 q.1 r.1 s.1, q.2.1 ++ (r.2.1 ++ s.2.1), 1 + q.2.2.1 + r.2.2.1 + s.2.2.1, s.2.2.2.1, s.2.2.2.2)
def ps_ex (K : Nat → Int32) (V : Nat → Int64) : Nat → ps_P
  | 0 => fun _ i _ => if K i = 3 ∨ K i = 4 ∨ K i = 7 ∨ K i = 1 ∨ K i = 2 ∨ K i = 15 then .error (6, i) else .error (2, i)
  | r + 1 => fun sc i m => if K i = 3 then ps_let K V (ps_ex K V r) sc i m else if K i = 4 then ps_if K (ps_ex K V r) sc i m else ps_cmp K V (ps_ex K V r) sc i m
/-- what holds of all that is read from i on -/
def ps_good (K : Nat → Int32) (d i m : Nat) (q : ps_O) : Prop := i < q.2.2.2.1 ∧ q.2.2.2.1 ≤ 1500 ∧ m ≤ q.2.2.2.2 ∧ (m ≤ 16 → q.2.2.2.2 ≤ 16) ∧ 1 ≤ q.2.2.1 ∧ q.2.2.1 + i ≤ q.2.2.2.1 ∧ ¬K q.2.2.2.1 = 19 ∧ tr_fit d q.1 ∧ (∀ o, o ∈ q.2.1 → i ≤ o.1 ∧ o.1 < q.2.2.2.1) ∧ q.2.1.Pairwise (fun a b => a.1 < b.1)
theorem ps_take_ok {K : Nat → Int32} {k : Int32} {i j : Nat} (h : ps_take K k i = .ok j) : K i = k ∧ i < 1500 ∧ j = i + 1 ∧ ¬K j = 19 := by
  unfold ps_take at h
  split at h
  · next h1 =>
    split at h
    · next h2 =>
      split at h
      · cases h
      · next h3 => cases h; exact ⟨h1, h2, rfl, h3⟩
    · cases h
  · cases h
theorem ps_b_ok {α β : Type} {x : Except ps_E α} {f : α → Except ps_E β} {b : β} (h : ps_b x f = .ok b) : ∃ a, x = .ok a ∧ f a = .ok b := by
  cases x with
  | error e => cases h
  | ok a => exact ⟨a, rfl, h⟩
theorem ps_new_ok {K : Nat → Int32} {a b : Bool} {i j : Nat} (h : ps_new K a b i = .ok j) : ps_take K 2 i = .ok j ∧ a = false ∧ b = false := by
  unfold ps_new at h
  split at h
  · cases h
  · next h1 =>
    split at h
    · cases h
    · next h2 =>
      obtain ⟨e, -⟩ := ps_take_ok h
      refine ⟨h, ?_, ?_⟩
      · cases a with
        | false => rfl
        | true => exact absurd ⟨e, rfl⟩ h1
      · cases b with
        | false => rfl
        | true => exact absurd ⟨e, rfl⟩ h2
end
/-! part 59 -/
section
/-! What holds of all that is read. -/
section PsG
variable {K : Nat → Int32} {V : Nat → Int64} {self : ps_P} {d : Nat}
theorem ps_join {a b c : Nat} {l1 l2 : List (Nat × Nat)} (h1 : ∀ o, o ∈ l1 → a ≤ o.1 ∧ o.1 < b) (p1 : l1.Pairwise (fun a b => a.1 < b.1)) (h2 : ∀ o, o ∈ l2 → b ≤ o.1 ∧ o.1 < c) (p2 : l2.Pairwise (fun a b => a.1 < b.1)) (hab : a ≤ b) (hbc : b ≤ c) : (∀ o, o ∈ l1 ++ l2 → a ≤ o.1 ∧ o.1 < c) ∧ (l1 ++ l2).Pairwise (fun a b => a.1 < b.1) := by
  refine ⟨fun o ho => ?_, List.pairwise_append.mpr ⟨p1, p2, fun x hx y hy => ?_⟩⟩
  · rcases List.mem_append.mp ho with h | h
    · have := h1 o h; omega
    · have := h2 o h; omega
  · have := h1 x hx
    have := h2 y hy
    omega
theorem ps_in {a b c e : Nat} {l : List (Nat × Nat)} (h : ∀ o, o ∈ l → b ≤ o.1 ∧ o.1 < c) (hab : a ≤ b) (hce : c ≤ e) : ∀ o, o ∈ l → a ≤ o.1 ∧ o.1 < e := fun o ho => by have := h o ho; omega
theorem ps_leaf_fit (k v : Int32) (o : Nat) : tr_fit 1 (tr_l k v o) := fun _ hj => absurd hj (Nat.not_lt_zero _)
theorem ps_num_good {s : Int32} {i m : Nat} {q : ps_O} (h : ps_num K V s i m = .ok q) : ps_good K 1 i m q := by
  obtain ⟨j, h1, h2⟩ := ps_b_ok h
  obtain ⟨h3, h4, rfl, h5⟩ := ps_take_ok h1
  cases h2
  exact ⟨Nat.lt_succ_self _, h4, Nat.le_refl _, id, Nat.le_refl _, by show 1 + i ≤ i + 1; omega, h5, ps_leaf_fit _ _ _, fun o ho => absurd ho (List.not_mem_nil), List.Pairwise.nil⟩
/-- arguments behind the first -/
def ps_goods (K : Nat → Int32) (d i m : Nat) (r : List tr_T × List (Nat × Nat) × Nat × Nat × Nat) : Prop := r.1.length + i ≤ r.2.2.2.1 ∧ (i ≤ 1500 → r.2.2.2.1 ≤ 1500) ∧ m ≤ r.2.2.2.2 ∧ (m ≤ 16 → r.2.2.2.2 ≤ 16) ∧ r.2.2.1 + i ≤ r.2.2.2.1 ∧ (¬K i = 19 → ¬K r.2.2.2.1 = 19) ∧ (∀ t, t ∈ r.1 → tr_fit d t) ∧ (∀ o, o ∈ r.2.1 → i ≤ o.1 ∧ o.1 < r.2.2.2.1) ∧ r.2.1.Pairwise (fun a b => a.1 < b.1)
theorem ps_args_good (hs : ∀ sc i m q, self sc i m = .ok q → ps_good K d i m q) {sc : List (Int64 × Nat)} : ∀ f i m r, ps_args K self sc f i m = .ok r → ps_goods K d i m r := by
  intro f
  have hz : ∀ i m, ps_goods K d i m ([], [], 0, i, m) := fun i m => ⟨by show 0 + i ≤ i; omega, id, Nat.le_refl _, id, by show 0 + i ≤ i; omega, id, fun t ht => absurd ht List.not_mem_nil, fun o ho => absurd ho List.not_mem_nil, List.Pairwise.nil⟩
  induction f with
  | zero =>
    intro i m r h
    cases h
    exact hz i m
  | succ f ih =>
    intro i m r h
    unfold ps_args at h
    split at h
    · obtain ⟨i1, h1, k0⟩ := ps_b_ok h
      obtain ⟨q, h2, g1⟩ := ps_b_ok k0
      obtain ⟨s, h3, g2⟩ := ps_b_ok g1
      obtain ⟨-, t2, rfl, -⟩ := ps_take_ok h1
      obtain ⟨a1, a2, a3, a4, a5, a6, a7, a8, a9, a10⟩ := hs _ _ _ _ h2
      obtain ⟨b1, b2, b3, b4, b5, b6, b7, b8, b9⟩ := ih _ _ _ h3
      have b2 := b2 a2
      cases g2
      obtain ⟨j1, j2⟩ := ps_join a9 a10 b8 b9 (by omega) (by omega)
      refine ⟨?_, fun _ => b2, Nat.le_trans a3 b3, fun z => b4 (a4 z), ?_, fun _ => b6 a7, fun t ht => ?_, ps_in j1 (by omega) (Nat.le_refl _), j2⟩
      · show s.1.length + 1 + i ≤ s.2.2.2.1
        omega
      · show q.2.2.1 + s.2.2.1 + i ≤ s.2.2.2.1
        omega
      · rcases List.mem_cons.mp ht with e | e
        · rw [e]; exact a8
        · exact b7 t e
    · cases h
      exact hz i m
theorem ps_call_good (hs : ∀ sc i m q, self sc i m = .ok q → ps_good K d i m q) {sc : List (Int64 × Nat)} {o i m : Nat} {q : ps_O} (ho : o < i) (h : ps_call K self sc o i m = .ok q) : i < q.2.2.2.1 ∧ q.2.2.2.1 ≤ 1500 ∧ m ≤ q.2.2.2.2 ∧ (m ≤ 16 → q.2.2.2.2 ≤ 16) ∧ 1 ≤ q.2.2.1 ∧ q.2.2.1 + i ≤ q.2.2.2.1 ∧ ¬K q.2.2.2.1 = 19 ∧ tr_fit (d + 1) q.1 ∧ (∀ x, x ∈ q.2.1 → o ≤ x.1 ∧ x.1 < q.2.2.2.1) ∧ q.2.1.Pairwise (fun a b => a.1 < b.1) := by
  obtain ⟨i1, h1, g1⟩ := ps_b_ok h
  obtain ⟨-, t2, rfl, -⟩ := ps_take_ok h1
  split at g1
  · obtain ⟨i2, h2, k0⟩ := ps_b_ok g1
    obtain ⟨-, u2, rfl, u4⟩ := ps_take_ok h2
    cases k0
    refine ⟨by show i < i + 1 + 1; omega, u2, Nat.le_refl _, id, Nat.le_refl _, by show 1 + i ≤ i + 1 + 1; omega, u4, fun _ hj => absurd hj (Nat.not_lt_zero _), fun x hx => ?_, List.pairwise_singleton _ _⟩
    rw [List.mem_singleton.mp hx]
    show o ≤ o ∧ o < i + 1 + 1
    omega
  · obtain ⟨p, h2, k0⟩ := ps_b_ok g1
    obtain ⟨r, h3, g2⟩ := ps_b_ok k0
    obtain ⟨i2, h4, g3⟩ := ps_b_ok g2
    obtain ⟨a1, a2, a3, a4, a5, a6, a7, a8, a9, a10⟩ := hs _ _ _ _ h2
    obtain ⟨b1, b2, b3, b4, b5, b6, b7, b8, b9⟩ := ps_args_good hs _ _ _ _ h3
    obtain ⟨-, u2, rfl, u4⟩ := ps_take_ok h4
    have b2 := b2 a2
    cases g3
    obtain ⟨j1, j2⟩ := ps_join a9 a10 b8 b9 (by omega) (by omega)
    refine ⟨?_, u2, Nat.le_trans a3 b3, fun z => b4 (a4 z), ?_, ?_, u4, fun j hj => ?_, fun x hx => ?_, List.pairwise_cons.mpr ⟨fun x hx => ?_, j2⟩⟩
    · show i < r.2.2.2.1 + 1
      omega
    · show 1 ≤ 1 + p.2.2.1 + r.2.2.1
      omega
    · show 1 + p.2.2.1 + r.2.2.1 + i ≤ r.2.2.2.1 + 1
      omega
    · show tr_fit d (tr_ls (p.1 :: r.1) j)
      have hj : j < (p.1 :: r.1).length := hj
      unfold tr_ls
      rw [List.getD_eq_getElem?_getD, List.getElem?_eq_getElem hj, Option.getD_some]
      rcases List.mem_cons.mp (List.getElem_mem hj) with e | e
      · rw [e]; exact a8
      · exact b7 _ e
    · rcases List.mem_cons.mp hx with e | e
      · rw [e]
        show o ≤ o ∧ o < r.2.2.2.1 + 1
        omega
      · have := j1 x e
        show o ≤ x.1 ∧ x.1 < r.2.2.2.1 + 1
        omega
    · have := j1 x hx
      show o < x.1
      omega
theorem ps_name_good {sc : List (Int64 × Nat)} {o i m : Nat} (hi : i = o + 1) (h15 : i ≤ 1500) (hk : ¬K i = 19) : ps_good K 1 o m (ps_name V sc o i m) := by
  unfold ps_name
  split
  · exact ⟨by show o < i; omega, h15, Nat.le_refl _, id, Nat.le_refl _, by show 1 + o ≤ i; omega, hk, ps_leaf_fit _ _ _, fun o ho => absurd ho List.not_mem_nil, List.Pairwise.nil⟩
  · refine ⟨by show o < i; omega, h15, Nat.le_refl _, id, Nat.le_refl _, by show 1 + o ≤ i; omega, hk, ps_leaf_fit _ _ _, fun x hx => ?_, List.pairwise_singleton _ _⟩
    rw [List.mem_singleton.mp hx]
    show o ≤ o ∧ o < i
    omega
theorem ps_atom_good (hs : ∀ sc i m q, self sc i m = .ok q → ps_good K d i m q) {sc : List (Int64 × Nat)} {i m : Nat} {q : ps_O} (h : ps_atom K V self sc i m = .ok q) : ps_good K (d + 1) i m q := by
  unfold ps_atom at h
  split at h
  · obtain ⟨i1, h1, k0⟩ := ps_b_ok h
    obtain ⟨-, t2, rfl, -⟩ := ps_take_ok h1
    obtain ⟨a1, a2, a3, a4, a5, a6, a7, a8, a9, a10⟩ := ps_num_good k0
    exact ⟨by omega, a2, a3, a4, a5, by omega, a7, tr_fit_le a8 (by omega), ps_in a9 (by omega) (Nat.le_refl _), a10⟩
  · split at h
    · obtain ⟨a1, a2, a3, a4, a5, a6, a7, a8, a9, a10⟩ := ps_num_good h
      exact ⟨a1, a2, a3, a4, a5, a6, a7, tr_fit_le a8 (by omega), a9, a10⟩
    · split at h
      · obtain ⟨i1, h1, k0⟩ := ps_b_ok h
        obtain ⟨-, t2, rfl, t4⟩ := ps_take_ok h1
        split at k0
        · obtain ⟨a1, a2, a3, a4, a5, a6, a7, a8, a9, a10⟩ := ps_call_good hs (Nat.lt_succ_self i) k0
          exact ⟨by omega, a2, a3, a4, a5, by omega, a7, a8, a9, a10⟩
        · cases k0
          obtain ⟨a1, a2, a3, a4, a5, a6, a7, a8, a9, a10⟩ := ps_name_good (V := V) (sc := sc) (o := i) (m := m) rfl t2 t4
          exact ⟨a1, a2, a3, a4, a5, a6, a7, tr_fit_le a8 (by omega), a9, a10⟩
      · split at h
        · obtain ⟨i1, h1, k0⟩ := ps_b_ok h
          obtain ⟨p, h2, g1⟩ := ps_b_ok k0
          obtain ⟨i2, h3, g2⟩ := ps_b_ok g1
          obtain ⟨-, t2, rfl, -⟩ := ps_take_ok h1
          obtain ⟨a1, a2, a3, a4, a5, a6, a7, a8, a9, a10⟩ := hs _ _ _ _ h2
          obtain ⟨-, u2, rfl, u4⟩ := ps_take_ok h3
          cases g2
          exact ⟨by show i < p.2.2.2.1 + 1; omega, u2, a3, a4, a5, by show p.2.2.1 + i ≤ p.2.2.2.1 + 1; omega, u4, tr_fit_s _ _ a8, ps_in a9 (by omega) (Nat.le_succ _), a10⟩
        · cases h
theorem tr_fit_2 {k v : Int32} {o d : Nat} {a b : tr_T} (ha : tr_fit d a) (hb : tr_fit d b) : tr_fit (d + 1) (tr_2 k v o a b) := by
  intro j hj
  show tr_fit d (if j = 0 then a else b)
  split
  · exact ha
  · exact hb
theorem tr_fit_3 {k v : Int32} {o d : Nat} {a b c : tr_T} (ha : tr_fit d a) (hb : tr_fit d b) (hc : tr_fit d c) : tr_fit (d + 1) (tr_3 k v o a b c) := by
  intro j hj
  show tr_fit d (if j = 0 then a else if j = 1 then b else c)
  split
  · exact ha
  · split
    · exact hb
    · exact hc
theorem ps_two_good {g : Int32 → Bool} {p : Nat → Nat → Except ps_E ps_O} (hp : ∀ i m q, p i m = .ok q → ps_good K d i m q) {i m : Nat} {q : ps_O} (h : ps_two K g p i m = .ok q) : ps_good K (d + 1) i m q := by
  obtain ⟨l, h1, g1⟩ := ps_b_ok h
  obtain ⟨a1, a2, a3, a4, a5, a6, a7, a8, a9, a10⟩ := hp _ _ _ h1
  split at g1
  · obtain ⟨i1, h2, k0⟩ := ps_b_ok g1
    obtain ⟨r, h3, g2⟩ := ps_b_ok k0
    obtain ⟨-, t2, rfl, -⟩ := ps_take_ok h2
    obtain ⟨b1, b2, b3, b4, b5, b6, b7, b8, b9, b10⟩ := hp _ _ _ h3
    cases g2
    obtain ⟨j1, j2⟩ := ps_join a9 a10 (ps_in b9 (Nat.le_succ _) (Nat.le_refl _)) b10 (by omega) (by omega)
    exact ⟨by show i < r.2.2.2.1; omega, b2, Nat.le_trans a3 b3, fun z => b4 (a4 z), by show 1 ≤ l.2.2.1 + r.2.2.1 + 1; omega, by show l.2.2.1 + r.2.2.1 + 1 + i ≤ r.2.2.2.1; omega, b7, tr_fit_2 a8 b8, j1, j2⟩
  · cases g1
    exact ⟨a1, a2, a3, a4, a5, a6, a7, tr_fit_s _ _ a8, a9, a10⟩
theorem ps_ex_good : ∀ (r : Nat) (sc : List (Int64 × Nat)) (i m : Nat) (q : ps_O), ps_ex K V r sc i m = .ok q → ps_good K (4 * r) i m q := by
  intro r
  induction r with
  | zero =>
    intro sc i m q h
    unfold ps_ex at h
    split at h
    · cases h
    · cases h
  | succ r ih =>
    intro sc i m q h
    unfold ps_ex at h
    split at h
    · obtain ⟨i1, h1, k0⟩ := ps_b_ok h
      obtain ⟨i2, h2, g1⟩ := ps_b_ok k0
      obtain ⟨i3, h3, g2⟩ := ps_b_ok g1
      obtain ⟨p, h4, g3⟩ := ps_b_ok g2
      obtain ⟨i4, h5, g4⟩ := ps_b_ok g3
      obtain ⟨s, h6, g5⟩ := ps_b_ok g4
      obtain ⟨-, t2, rfl, -⟩ := ps_take_ok h1
      obtain ⟨h2, -, hb⟩ := ps_new_ok h2
      have hb := of_decide_eq_false hb
      obtain ⟨-, u2, rfl, -⟩ := ps_take_ok h2
      obtain ⟨-, v2, rfl, -⟩ := ps_take_ok h3
      obtain ⟨a1, a2, a3, a4, a5, a6, a7, a8, a9, a10⟩ := ih _ _ _ _ h4
      obtain ⟨-, w2, rfl, -⟩ := ps_take_ok h5
      obtain ⟨b1, b2, b3, b4, b5, b6, b7, b8, b9, b10⟩ := ih _ _ _ _ h6
      cases g5
      obtain ⟨j1, j2⟩ := ps_join a9 a10 (ps_in b9 (Nat.le_succ _) (Nat.le_refl _)) b10 (by omega) (by omega)
      exact ⟨by show i < s.2.2.2.1; omega, b2, by show m ≤ s.2.2.2.2; omega, fun z => b4 (a4 (by omega)), by show 1 ≤ 1 + p.2.2.1 + s.2.2.1; omega, by show 1 + p.2.2.1 + s.2.2.1 + i ≤ s.2.2.2.1; omega, b7, tr_fit_le (tr_fit_2 a8 b8) (by omega), ps_in j1 (by omega) (Nat.le_refl _), j2⟩
    · split at h
      · obtain ⟨i1, h1, k0⟩ := ps_b_ok h
        obtain ⟨p, h4, g1⟩ := ps_b_ok k0
        obtain ⟨i2, h2, g2⟩ := ps_b_ok g1
        obtain ⟨s, h5, g3⟩ := ps_b_ok g2
        obtain ⟨i3, h3, g4⟩ := ps_b_ok g3
        obtain ⟨u, h6, g5⟩ := ps_b_ok g4
        obtain ⟨-, t2, rfl, -⟩ := ps_take_ok h1
        obtain ⟨-, u2, rfl, -⟩ := ps_take_ok h2
        obtain ⟨-, v2, rfl, -⟩ := ps_take_ok h3
        obtain ⟨a1, a2, a3, a4, a5, a6, a7, a8, a9, a10⟩ := ih _ _ _ _ h4
        obtain ⟨b1, b2, b3, b4, b5, b6, b7, b8, b9, b10⟩ := ih _ _ _ _ h5
        obtain ⟨c1, c2, c3, c4, c5, c6, c7, c8, c9, c10⟩ := ih _ _ _ _ h6
        cases g5
        obtain ⟨j1, j2⟩ := ps_join b9 b10 (ps_in c9 (Nat.le_succ _) (Nat.le_refl _)) c10 (by omega) (by omega)
        obtain ⟨j1, j2⟩ := ps_join a9 a10 (ps_in j1 (Nat.le_succ _) (Nat.le_refl _)) j2 (by omega) (by omega)
        exact ⟨by show i < u.2.2.2.1; omega, c2, by show m ≤ u.2.2.2.2; omega, fun z => c4 (b4 (a4 z)), by show 1 ≤ 1 + p.2.2.1 + s.2.2.1 + u.2.2.1; omega, by show 1 + p.2.2.1 + s.2.2.1 + u.2.2.1 + i ≤ u.2.2.2.1; omega, c7, tr_fit_le (tr_fit_3 a8 b8 c8) (by omega), ps_in j1 (by omega) (Nat.le_refl _), j2⟩
      · exact ps_two_good (d := 4 * r + 3) (fun i m q h => ps_two_good (d := 4 * r + 2) (fun i m q h => ps_two_good (d := 4 * r + 1) (fun i m q h => ps_atom_good ih h) h) h) h
end PsG
end
/-! part 60 -/
section
/-! Trees in the class's rows: a node that is opened, a part more; what a tree is there; nodes that stay. -/
def nd_L (t L : Nat) : Prop := (tp_t (t + 2)).2 = L ∧ (tp_t (t + 4)).2 = L ∧ (tp_t (t + 6)).2 = L ∧ (tp_t (t + 8)).2 = 4 * L ∧ (tp_t (t + 10)).2 = L ∧ (tp_t (t + 12)).2 = L
theorem fr_e {S : wd_S} {a k b m : Nat} {v : Int32} (h : b = a ∧ m = k) : (wd_i S a k v).1 b m = v := by rw [fr_i1, if_pos h]
/-- the nodes that p tells are the same -/
def nd_g (t : Nat) (p : Nat → Prop) (S S' : wd_S) : Prop := ∀ x, p x → S'.1 (t + 2) x = S.1 (t + 2) x ∧ S'.1 (t + 4) x = S.1 (t + 4) x ∧ S'.1 (t + 6) x = S.1 (t + 6) x ∧ S'.1 (t + 10) x = S.1 (t + 10) x ∧ S'.1 (t + 12) x = S.1 (t + 12) x ∧ ∀ j, j < 4 → S'.1 (t + 8) (4 * x + j) = S.1 (t + 8) (4 * x + j)
theorem nd_refl {t : Nat} {p : Nat → Prop} {S : wd_S} : nd_g t p S S := fun _ _ => ⟨rfl, rfl, rfl, rfl, rfl, fun _ _ => rfl⟩
theorem nd_trans {t : Nat} {p : Nat → Prop} {S S1 S2 : wd_S} (h1 : nd_g t p S S1) (h2 : nd_g t p S1 S2) : nd_g t p S S2 := fun x hx => by
  obtain ⟨a1, a2, a3, a4, a5, a6⟩ := h1 x hx
  obtain ⟨b1, b2, b3, b4, b5, b6⟩ := h2 x hx
  exact ⟨b1.trans a1, b2.trans a2, b3.trans a3, b4.trans a4, b5.trans a5, fun j hj => (b6 j hj).trans (a6 j hj)⟩
theorem nd_mono {t : Nat} {p q : Nat → Prop} {S S1 : wd_S} (hpq : ∀ x, q x → p x) (h1 : nd_g t p S S1) : nd_g t q S S1 := fun x hx => h1 x (hpq x hx)
theorem nd_rows {t : Nat} {p : Nat → Prop} {S S' : wd_S} (h : ∀ a, t ≤ a → a ≤ t + 12 → S'.1 a = S.1 a) : nd_g t p S S' := fun x _ => by
  rw [h (t + 2) (by omega) (by omega), h (t + 4) (by omega) (by omega), h (t + 6) (by omega) (by omega), h (t + 10) (by omega) (by omega), h (t + 12) (by omega) (by omega), h (t + 8) (by omega) (by omega)]
  exact ⟨rfl, rfl, rfl, rfl, rfl, fun _ _ => rfl⟩
/-- a node with kind, value, its parts so far, its size and lets so far -/
def nd_o (t : Nat) (S : wd_S) (y : Nat) (k v : Int32) (zs : List Nat) (sz lt : Nat) : Prop := S.1 (t + 2) y = k ∧ S.1 (t + 4) y = v ∧ S.1 (t + 6) y = Int32.ofNat zs.length ∧ S.1 (t + 10) y = Int32.ofNat sz ∧ S.1 (t + 12) y = Int32.ofNat lt ∧ ∀ j, j < 4 → (hj : j < zs.length) → S.1 (t + 8) (4 * y + j) = Int32.ofNat zs[j]
theorem nd_o_g {t : Nat} {p : Nat → Prop} {S S' : wd_S} {y : Nat} {k v : Int32} {zs : List Nat} {sz lt : Nat} (hy : p y) (h : nd_g t p S S') (ho : nd_o t S y k v zs sz lt) : nd_o t S' y k v zs sz lt := by
  obtain ⟨a1, a2, a3, a4, a5, a6⟩ := h y hy
  obtain ⟨b1, b2, b3, b4, b5, b6⟩ := ho
  exact ⟨a1.trans b1, a2.trans b2, a3.trans b3, a4.trans b4, a5.trans b5, fun j hj hz => (a6 j hj).trans (b6 j hj hz)⟩
/-- opening a node -/
theorem nd_op_out (t : Nat) (k v : Int32) (S : wd_S) : (∀ a, a < t ∨ t + 12 < a → (fo_op t k v S).1 a = S.1 a) ∧ (fo_op t k v S).2 = S.2 := by
  have hp : ∀ (r : Nat) (i w : Int32) (S1 : wd_S) (a : Nat), a ≠ r + 1 → (ro_put r i w S1).1 a = S1.1 a := fun r i w S1 a h => by
    unfold ro_put
    split
    · rfl
    · exact fr_row S1 h
  unfold fo_op
  refine ⟨fun a ha => ?_, ?_⟩
  · rw [hp _ _ _ _ _ (by omega), hp _ _ _ _ _ (by omega), hp _ _ _ _ _ (by omega), hp _ _ _ _ _ (by omega), hp _ _ _ _ _ (by omega), fr_row _ (by omega)]
  · rw [fr_p2, fr_p2, fr_p2, fr_p2, fr_p2]
    rfl
theorem nd_op {t L c : Nat} {k v : Int32} {S : wd_S} (hL : nd_L t L) (hc : S.1 t 6 = Int32.ofNat c) (hcL : c < L) : (fo_op t k v S).1 t 6 = Int32.ofNat (c + 1) ∧ nd_g t (fun x => x ≠ c) S (fo_op t k v S) ∧ nd_o t (fo_op t k v S) c k v [] 1 (if k = 3 then 1 else 0) := by
  obtain ⟨h2, h4, h6, h8, h10, h12⟩ := hL
  have e : fo_op t k v S = wd_i (wd_i (wd_i (wd_i (wd_i (wd_i S t 6 (Int32.ofNat (c + 1))) (t + 1 + 1) c k) (t + 3 + 1) c v) (t + 5 + 1) c 0) (t + 9 + 1) c 1) (t + 11 + 1) c (if k = 3 then 1 else 0) := by
    unfold fo_op
    rw [hc, im_s, ro_pn h12 hcL, ro_pn h10 hcL, ro_pn h6 hcL, ro_pn h4 hcL, ro_pn h2 hcL]
  rw [e]
  refine ⟨?_, fun x hx => ⟨?_, ?_, ?_, ?_, ?_, fun j _ => ?_⟩, ?_, ?_, ?_, ?_, ?_, fun j _ hj => absurd hj (Nat.not_lt_zero _)⟩
  · rw [fr_ne (by omega), fr_ne (by omega), fr_ne (by omega), fr_ne (by omega), fr_ne (by omega), fr_eq]
  · rw [fr_ne (by omega), fr_ne (by omega), fr_ne (by omega), fr_ne (by omega), fr_ne (by omega), fr_ne (by omega)]
  · rw [fr_ne (by omega), fr_ne (by omega), fr_ne (by omega), fr_ne (by omega), fr_ne (by omega), fr_ne (by omega)]
  · rw [fr_ne (by omega), fr_ne (by omega), fr_ne (by omega), fr_ne (by omega), fr_ne (by omega), fr_ne (by omega)]
  · rw [fr_ne (by omega), fr_ne (by omega), fr_ne (by omega), fr_ne (by omega), fr_ne (by omega), fr_ne (by omega)]
  · rw [fr_ne (by omega), fr_ne (by omega), fr_ne (by omega), fr_ne (by omega), fr_ne (by omega), fr_ne (by omega)]
  · rw [fr_ne (by omega), fr_ne (by omega), fr_ne (by omega), fr_ne (by omega), fr_ne (by omega), fr_ne (by omega)]
  · rw [fr_ne (by omega), fr_ne (by omega), fr_ne (by omega), fr_ne (by omega), fr_e (by omega)]
  · rw [fr_ne (by omega), fr_ne (by omega), fr_ne (by omega), fr_e (by omega)]
  · rw [fr_ne (by omega), fr_ne (by omega), fr_e (by omega)]
    rfl
  · rw [fr_ne (by omega), fr_e (by omega)]
    rfl
  · rw [fr_e (by omega)]
    by_cases hk : k = 3
    · rw [if_pos hk, if_pos hk]
      rfl
    · rw [if_neg hk, if_neg hk]
      rfl
/-- a part more -/
theorem nd_ap_out (t : Nat) (i v : Int32) (S : wd_S) : (∀ a, a ≤ t + 5 ∨ t + 12 < a → (fo_ap t i v S).1 a = S.1 a) ∧ (fo_ap t i v S).2 = S.2 := by
  have hp : ∀ (r : Nat) (i w : Int32) (S1 : wd_S) (a : Nat), a ≠ r + 1 → (ro_put r i w S1).1 a = S1.1 a := fun r i w S1 a h => by
    unfold ro_put
    split
    · rfl
    · exact fr_row S1 h
  unfold fo_ap
  refine ⟨fun a ha => ?_, ?_⟩
  · rw [hp _ _ _ _ _ (by omega), hp _ _ _ _ _ (by omega), hp _ _ _ _ _ (by omega)]
    split
    · rw [hp _ _ _ _ _ (by omega)]
    · rfl
  · rw [fr_p2, fr_p2, fr_p2]
    split
    · rw [fr_p2]
    · rfl
theorem nd_ap {t L y z : Nat} {k v : Int32} {zs : List Nat} {sz lt s2 l2 : Nat} {S : wd_S} (hL : nd_L t L) (hy : y < L) (hz : z < L) (hyz : y ≠ z) (hl : zs.length < 100000) (ho : nd_o t S y k v zs sz lt) (h10 : S.1 (t + 10) z = Int32.ofNat s2) (h12 : S.1 (t + 12) z = Int32.ofNat l2) : nd_g t (fun x => x ≠ y) S (fo_ap t (Int32.ofNat y) (Int32.ofNat z) S) ∧ nd_o t (fo_ap t (Int32.ofNat y) (Int32.ofNat z) S) y k v (zs ++ [z]) (sz + s2) (lt + l2) := by
  obtain ⟨g2, g4, g6, g8, g10, g12⟩ := hL
  obtain ⟨o2, o4, o6, o10, o12, o8⟩ := ho
  have hsm := tp_sm (t + 8)
  have e6 : ro_at (t + 5) (Int32.ofNat y) S = Int32.ofNat zs.length := by rw [ro_an g6 hy]; exact o6
  have ex : Int32.ofNat y * 4 + Int32.ofNat zs.length = Int32.ofNat (4 * y + zs.length) := by
    rw [show (4 : Int32) = Int32.ofNat 4 from rfl, ← Int32.ofNat_mul, ← Int32.ofNat_add, Nat.mul_comm]
  generalize hS1 : (if Int32.ofNat zs.length < 4 then ro_put (t + 7) (Int32.ofNat (4 * y + zs.length)) (Int32.ofNat z) S else S) = S1
  have p1 : ∀ a m, ¬(a = t + 8 ∧ m = 4 * y + zs.length) → S1.1 a m = S.1 a m := by
    intro a m h
    rw [← hS1]
    split
    · next hlt =>
      have hlt : zs.length < 4 := (mo_lt (m := 4) (b := 4) (by omega) (by omega) rfl).mp hlt
      rw [ro_pn g8 (by omega), fr_ne (by omega)]
    · rfl
  have p2 : zs.length < 4 → S1.1 (t + 8) (4 * y + zs.length) = Int32.ofNat z := by
    intro h
    rw [← hS1, if_pos ((mo_lt (m := 4) (b := 4) (by omega) (by omega) rfl).mpr h), ro_pn g8 (by omega), fr_e (by omega)]
  have e : fo_ap t (Int32.ofNat y) (Int32.ofNat z) S = wd_i (wd_i (wd_i S1 (t + 5 + 1) y (Int32.ofNat (zs.length + 1))) (t + 9 + 1) y (Int32.ofNat (sz + s2))) (t + 11 + 1) y (Int32.ofNat (lt + l2)) := by
    unfold fo_ap
    simp only []
    rw [e6, ex, hS1, im_s, ro_pn g6 hy]
    have a1 : ro_at (t + 9) (Int32.ofNat y) (wd_i S1 (t + 5 + 1) y (Int32.ofNat (zs.length + 1))) = Int32.ofNat sz := by
      rw [ro_an g10 hy, fr_ne (by omega), p1 _ _ (by omega)]
      exact o10
    have a2 : ro_at (t + 9) (Int32.ofNat z) (wd_i S1 (t + 5 + 1) y (Int32.ofNat (zs.length + 1))) = Int32.ofNat s2 := by
      rw [ro_an g10 hz, fr_ne (by omega), p1 _ _ (by omega)]
      exact h10
    rw [a1, a2, ← Int32.ofNat_add, ro_pn g10 hy]
    have a3 : ro_at (t + 11) (Int32.ofNat y) (wd_i (wd_i S1 (t + 5 + 1) y (Int32.ofNat (zs.length + 1))) (t + 9 + 1) y (Int32.ofNat (sz + s2))) = Int32.ofNat lt := by
      rw [ro_an g12 hy, fr_ne (by omega), fr_ne (by omega), p1 _ _ (by omega)]
      exact o12
    have a4 : ro_at (t + 11) (Int32.ofNat z) (wd_i (wd_i S1 (t + 5 + 1) y (Int32.ofNat (zs.length + 1))) (t + 9 + 1) y (Int32.ofNat (sz + s2))) = Int32.ofNat l2 := by
      rw [ro_an g12 hz, fr_ne (by omega), fr_ne (by omega), p1 _ _ (by omega)]
      exact h12
    rw [a3, a4, ← Int32.ofNat_add, ro_pn g12 hy]
  rw [e]
  refine ⟨fun x hx => ⟨?_, ?_, ?_, ?_, ?_, fun j hj => ?_⟩, ?_, ?_, ?_, ?_, ?_, fun j hj hz => ?_⟩
  · rw [fr_ne (by omega), fr_ne (by omega), fr_ne (by omega), p1 _ _ (by omega)]
  · rw [fr_ne (by omega), fr_ne (by omega), fr_ne (by omega), p1 _ _ (by omega)]
  · rw [fr_ne (by omega), fr_ne (by omega), fr_ne (by omega), p1 _ _ (by omega)]
  · rw [fr_ne (by omega), fr_ne (by omega), fr_ne (by omega), p1 _ _ (by omega)]
  · rw [fr_ne (by omega), fr_ne (by omega), fr_ne (by omega), p1 _ _ (by omega)]
  · rw [fr_ne (by omega), fr_ne (by omega), fr_ne (by omega)]
    by_cases h4 : zs.length < 4
    · exact p1 _ _ (by omega)
    · rw [← hS1, if_neg (fun q => h4 ((mo_lt (m := 4) (b := 4) (by omega) (by omega) rfl).mp q))]
  · rw [fr_ne (by omega), fr_ne (by omega), fr_ne (by omega), p1 _ _ (by omega)]
    exact o2
  · rw [fr_ne (by omega), fr_ne (by omega), fr_ne (by omega), p1 _ _ (by omega)]
    exact o4
  · rw [fr_ne (by omega), fr_ne (by omega), fr_e (by omega), List.length_append]
    rfl
  · rw [fr_ne (by omega), fr_e (by omega)]
  · rw [fr_e (by omega)]
  · rw [fr_ne (by omega), fr_ne (by omega), fr_ne (by omega)]
    have hz : j < zs.length + 1 := by rw [List.length_append] at hz; exact hz
    by_cases hj2 : j < zs.length
    · rw [p1 _ _ (by omega), List.getElem_append_left hj2]
      exact o8 j hj hj2
    · have ej : j = zs.length := by omega
      subst ej
      rw [p2 hj, List.getElem_append_right (Nat.le_refl _)]
      simp
/-- the tree that stands at y, between lo and hi -/
def nd_t (t : Nat) (S : wd_S) (lo hi : Nat) : Nat → Nat → tr_T → Prop
  | 0, _, _ => False
  | d + 1, y, T => lo ≤ y ∧ y < hi ∧ S.1 (t + 2) y = tr_k T ∧ S.1 (t + 4) y = tr_v T ∧ S.1 (t + 6) y = Int32.ofNat (tr_a T) ∧ ∀ j, j < 4 → j < tr_a T → ∃ z, S.1 (t + 8) (4 * y + j) = Int32.ofNat z ∧ nd_t t S lo hi d z (tr_sub T j)
theorem nd_t_g {t lo hi : Nat} {S S' : wd_S} (h : nd_g t (fun x => lo ≤ x ∧ x < hi) S S') : ∀ (d y : Nat) (T : tr_T), nd_t t S lo hi d y T → nd_t t S' lo hi d y T := by
  intro d
  induction d with
  | zero => intro y T h; exact h
  | succ d ih =>
    intro y T hT
    obtain ⟨h1, h2, h3, h4, h5, h6⟩ := hT
    obtain ⟨a1, a2, a3, -, -, a6⟩ := h y ⟨h1, h2⟩
    refine ⟨h1, h2, a1.trans h3, a2.trans h4, a3.trans h5, fun j hj hja => ?_⟩
    obtain ⟨z, e, hz⟩ := h6 j hj hja
    exact ⟨z, (a6 j hj).trans e, ih z _ hz⟩
theorem nd_t_r {t lo hi lo' hi' : Nat} {S : wd_S} (hl : lo' ≤ lo) (hh : hi ≤ hi') : ∀ (d y : Nat) (T : tr_T), nd_t t S lo hi d y T → nd_t t S lo' hi' d y T := by
  intro d
  induction d with
  | zero => intro y T h; exact h
  | succ d ih =>
    intro y T hT
    obtain ⟨h1, h2, h3, h4, h5, h6⟩ := hT
    refine ⟨by omega, by omega, h3, h4, h5, fun j hj hja => ?_⟩
    obtain ⟨z, e, hz⟩ := h6 j hj hja
    exact ⟨z, e, ih z _ hz⟩
theorem nd_t_s {t lo hi : Nat} {S : wd_S} : ∀ (d y : Nat) (T : tr_T), nd_t t S lo hi d y T → nd_t t S lo hi (d + 1) y T := by
  intro d
  induction d with
  | zero => intro y T h; exact absurd h id
  | succ d ih =>
    intro y T hT
    obtain ⟨h1, h2, h3, h4, h5, h6⟩ := hT
    refine ⟨h1, h2, h3, h4, h5, fun j hj hja => ?_⟩
    obtain ⟨z, e, hz⟩ := h6 j hj hja
    exact ⟨z, e, ih z _ hz⟩
theorem nd_t_le {t lo hi d e y : Nat} {S : wd_S} {T : tr_T} (h : nd_t t S lo hi d y T) (hde : d ≤ e) : nd_t t S lo hi e y T := by
  induction hde with
  | refl => exact h
  | step _ ih => exact nd_t_s _ _ _ ih
theorem nd_t_mk {t lo hi d y : Nat} {S : wd_S} {k v : Int32} {zs : List Nat} {sz lt o : Nat} {f : Nat → tr_T} (h1 : lo ≤ y) (h2 : y < hi) (ho : nd_o t S y k v zs sz lt) (hz : ∀ j, (hj : j < zs.length) → nd_t t S lo hi d zs[j] (f j)) : nd_t t S lo hi (d + 1) y (tr_mk k v o zs.length f) := by
  obtain ⟨o2, o4, o6, -, -, o8⟩ := ho
  exact ⟨h1, h2, o2, o4, o6, fun j hj hja => ⟨zs[j], o8 j hj hja, hz j hja⟩⟩
/-- the calls among k nodes from c on -/
def nd_c (t : Nat) (S : wd_S) : Nat → Nat → List (Int32 × Int32)
  | 0, _ => []
  | k + 1, c => if S.1 (t + 2) c = 5 then (S.1 (t + 4) c, S.1 (t + 6) c) :: nd_c t S k (c + 1) else nd_c t S k (c + 1)
theorem nd_c_s {t : Nat} {S : wd_S} {k c : Nat} : nd_c t S (k + 1) c = if S.1 (t + 2) c = 5 then (S.1 (t + 4) c, S.1 (t + 6) c) :: nd_c t S k (c + 1) else nd_c t S k (c + 1) := rfl
theorem nd_c_g {t : Nat} {S S' : wd_S} : ∀ (k c : Nat), nd_g t (fun x => c ≤ x ∧ x < c + k) S S' → nd_c t S' k c = nd_c t S k c := by
  intro k
  induction k with
  | zero => intro c _; rfl
  | succ k ih =>
    intro c h
    obtain ⟨a1, a2, a3, -, -, -⟩ := h c ⟨Nat.le_refl _, by omega⟩
    rw [nd_c_s, nd_c_s, a1, a2, a3, ih (c + 1) (nd_mono (fun x hx => ⟨by omega, by omega⟩) h)]
theorem nd_c_a {t : Nat} {S : wd_S} : ∀ (k l c : Nat), nd_c t S (k + l) c = nd_c t S k c ++ nd_c t S l (c + k) := by
  intro k
  induction k with
  | zero => intro l c; rw [Nat.zero_add]; rfl
  | succ k ih =>
    intro l c
    rw [show k + 1 + l = (k + l) + 1 by omega]
    rw [nd_c_s, nd_c_s, ih l (c + 1), show c + 1 + k = c + (k + 1) by omega]
    split
    · rfl
    · rfl
theorem nd_c_1 {t c : Nat} {S : wd_S} (h : ¬S.1 (t + 2) c = 5) : nd_c t S 1 c = [] := if_neg h
def ps_cl (M : List (Nat × Nat)) : List (Int32 × Int32) := M.filterMap (fun q => if q.2 = 0 then none else some (Int32.ofNat q.1, Int32.ofNat (q.2 - 1)))
theorem ps_cl_a (M N : List (Nat × Nat)) : ps_cl (M ++ N) = ps_cl M ++ ps_cl N := List.filterMap_append
end
/-! part 61 -/
section
/-! The class's reader: what holds while it goes well, and once it has a fault. -/
def rd_W (b a _k : Nat) : Prop := a = 47 ∨ a = 51 ∨ a = 53 ∨ (b + 1 ≤ a ∧ a ≤ b + 13)
def rd_X (K : Nat → Int32) (V : Nat → Int64) (b : Nat) (S0 : wd_S) : Prop := (b = 11 ∨ b = 29) ∧ S0.2.2.1 47 1 = b ∧ S0.2.2.1 47 2 = b + 1 ∧ (∀ i, i ≤ 1500 → (if Int32.ofNat i < S0.1 4 5 then ro_at 5 (Int32.ofNat i) S0 else 20) = K i) ∧ (∀ i, i ≤ 1500 → K i = 1 ∨ K i = 2 → lo_at 9 (Int32.ofNat i) S0 = V i)
def rd_sc : List (Int64 × Nat) → wd_S → Prop
  | [], _ => True
  | q :: r, S => S.2.1 51 r.length = q.1 ∧ S.1 53 r.length = Int32.ofNat q.2 ∧ q.2 < 16 ∧ rd_sc r S
theorem rd_sc_o {S S' : wd_S} : ∀ (sc : List (Int64 × Nat)), (∀ m, m < sc.length → S'.2.1 51 m = S.2.1 51 m ∧ S'.1 53 m = S.1 53 m) → rd_sc sc S → rd_sc sc S' := by
  intro sc
  induction sc with
  | nil => intro _ _; trivial
  | cons q r ih =>
    intro h hs
    obtain ⟨h1, h2, h4, h3⟩ := hs
    obtain ⟨e1, e2⟩ := h r.length (Nat.lt_succ_self _)
    exact ⟨e1.trans h1, e2.trans h2, h4, ih (fun m hm => h m (Nat.lt_succ_of_lt hm)) h3⟩
def rd_h (K : Nat → Int32) (b : Nat) (S0 : wd_S) (i m : Nat) (sc : List (Int64 × Nat)) (ms : Int32) (S : wd_S) : Prop := of_f (rd_W b) S0 S ∧ i ≤ 1500 ∧ ¬K i = 19 ∧ S.1 47 3 = Int32.ofNat i ∧ S.1 47 4 = K i ∧ S.1 47 5 = 0 ∧ S.1 47 8 = Int32.ofNat m ∧ m ≤ 16 ∧ S.1 47 11 = Int32.ofNat sc.length ∧ sc.length ≤ m ∧ rd_sc sc S ∧ S.1 47 12 = ms
def rd_bd (b : Nat) (S0 : wd_S) (e : ps_E) (s : Nat) (S : wd_S) : Prop := of_f (rd_W b) S0 S ∧ S.1 47 11 = Int32.ofNat s ∧ (¬e.1 = 0 ∧ e.2 ≤ 1500) ∧ ((S.1 47 5 = e.1 ∧ S.1 47 6 = Int32.ofNat e.2 ∧ S.1 47 4 = 20) ∨ (S.1 47 5 = 0 ∧ S.1 47 4 = 19 ∧ S.1 47 3 = Int32.ofNat e.2 ∧ e.1 = 1))
section Rd
variable {K : Nat → Int32} {V : Nat → Int64} {b : Nat} {S0 : wd_S} {i m : Nat} {sc : List (Int64 × Nat)} {ms : Int32} {S S' : wd_S} {e : ps_E} {s : Nat} {k : Int32}
theorem rd_kind (hX : rd_X K V b S0) (ho : of_f (rd_W b) S0 S) (hi : i ≤ 1500) : (if Int32.ofNat i < S.1 4 5 then ro_at 5 (Int32.ofNat i) S else 20) = K i := by
  obtain ⟨hb, -, -, h, -⟩ := hX
  have e1 : S.1 4 5 = S0.1 4 5 := ho.1 4 5 (by unfold rd_W; omega)
  have e2 : S.1 6 = S0.1 6 := funext (fun m => ho.1 6 m (by unfold rd_W; omega))
  rw [e1, fr_at 5 _ e2]
  exact h i hi
theorem rd_val (hX : rd_X K V b S0) (ho : of_f (rd_W b) S0 S) (hi : i ≤ 1500) (hk : K i = 1 ∨ K i = 2) : lo_at 9 (Int32.ofNat i) S = V i := by
  obtain ⟨hb, -, -, -, h⟩ := hX
  have e2 : S.2.1 10 = S0.2.1 10 := funext (fun m => ho.2.1 10 m (by unfold rd_W; omega))
  rw [fr_lat 9 _ e2]
  exact h i hi hk
theorem rd_r1 (hX : rd_X K V b S0) (ho : of_f (rd_W b) S0 S) : S.2.2.1 47 1 = b := by
  rw [ho.2.2]
  exact hX.2.1
theorem rd_r2 (hX : rd_X K V b S0) (ho : of_f (rd_W b) S0 S) : S.2.2.1 47 2 = b + 1 := by
  rw [ho.2.2]
  exact hX.2.2.1
theorem rd_t1 (hX : rd_X K V b S0) : tp_t b = (0, 0) := by
  rcases hX.1 with h | h <;> rw [h] <;> rfl
theorem rd_t2 (hX : rd_X K V b S0) : tp_t (b + 1) = (0, 8) := by
  rcases hX.1 with h | h <;> rw [h] <;> rfl
theorem rd_L (hX : rd_X K V b S0) : nd_L (b + 1) 1500 := by
  rcases hX.1 with h | h <;> rw [h] <;> exact ⟨rfl, rfl, rfl, rfl, rfl, rfl⟩
/-- faults -/
theorem rd_fa0 {x y : Int32} (h : S.1 47 5 = 0) : fo_fa x y S = wd_i (wd_i (wd_i S 47 5 x) 47 6 y) 47 4 20 := if_pos h
theorem rd_fa1 {x y : Int32} (h : ¬S.1 47 5 = 0) : fo_fa x y S = S := if_neg h
theorem rd_fa_out {x y : Int32} : (∀ a, a ≠ 47 → (fo_fa x y S).1 a = S.1 a) ∧ (∀ k, k ≠ 4 → k ≠ 5 → k ≠ 6 → (fo_fa x y S).1 47 k = S.1 47 k) ∧ (fo_fa x y S).2 = S.2 := by
  unfold fo_fa
  split
  · refine ⟨fun a ha => ?_, fun k h4 h5 h6 => ?_, rfl⟩
    · rw [fr_row _ ha, fr_row _ ha, fr_row _ ha]
    · rw [fr_ne (by omega), fr_ne (by omega), fr_ne (by omega)]
  · exact ⟨fun _ _ => rfl, fun _ _ _ _ => rfl, rfl⟩
theorem rd_tk_out : (∀ a, a ≠ 47 → (fo_tk k S).1 a = S.1 a) ∧ (∀ n, n ≠ 3 → n ≠ 4 → n ≠ 5 → n ≠ 6 → (fo_tk k S).1 47 n = S.1 47 n) ∧ (fo_tk k S).2 = S.2 := by
  unfold fo_tk
  split
  · split
    · refine ⟨fun a ha => ?_, fun k h3 h4 h5 h6 => ?_, rfl⟩
      · rw [fr_row _ ha, fr_row _ ha]
      · rw [fr_ne (by omega), fr_ne (by omega)]
    · obtain ⟨h1, h2, h3⟩ := rd_fa_out (S := S) (x := 6) (y := S.1 47 3)
      exact ⟨h1, fun n _ h4 h5 h6 => h2 n h4 h5 h6, h3⟩
  · unfold fo_rf
    obtain ⟨h1, h2, h3⟩ := rd_fa_out (S := S) (x := if S.1 47 4 = 19 then 1 else 2) (y := S.1 47 3)
    exact ⟨h1, fun n _ h4 h5 h6 => h2 n h4 h5 h6, h3⟩
theorem rd_of47 (h1 : ∀ a, a ≠ 47 → S'.1 a = S.1 a) (h2 : S'.2 = S.2) (h : of_f (rd_W b) S0 S) : of_f (rd_W b) S0 S' := by
  refine ⟨fun a k q => ?_, fun a k q => ?_, ?_⟩
  · rw [h1 a (fun z => q (Or.inl z))]
    exact h.1 a k q
  · rw [h2]
    exact h.2.1 a k q
  · rw [h2]
    exact h.2.2
theorem rd_oft (h1 : ∀ a, a < b + 1 ∨ b + 13 < a → S'.1 a = S.1 a) (h2 : S'.2 = S.2) (h : of_f (rd_W b) S0 S) : of_f (rd_W b) S0 S' := by
  refine ⟨fun a k q => ?_, fun a k q => ?_, ?_⟩
  · rw [h1 a (by unfold rd_W at q; omega)]
    exact h.1 a k q
  · rw [h2]
    exact h.2.1 a k q
  · rw [h2]
    exact h.2.2
theorem rd_h_t (hb : b = 11 ∨ b = 29) (h1 : ∀ a, a < b + 1 ∨ b + 13 < a → S'.1 a = S.1 a) (h2 : S'.2 = S.2) (h : rd_h K b S0 i m sc ms S) : rd_h K b S0 i m sc ms S' := by
  obtain ⟨a1, a2, a3, a4, a5, a6, a7, a8, a9, a10, a11, a12⟩ := h
  have e : S'.1 47 = S.1 47 := h1 47 (by omega)
  refine ⟨rd_oft h1 h2 a1, a2, a3, ?_, ?_, ?_, ?_, a8, ?_, a10, rd_sc_o sc (fun m _ => ⟨by rw [h2], by rw [h1 53 (by omega)]⟩) a11, ?_⟩
  · rw [e]; exact a4
  · rw [e]; exact a5
  · rw [e]; exact a6
  · rw [e]; exact a7
  · rw [e]; exact a9
  · rw [e]; exact a12
theorem rd_bd_t (hb : b = 11 ∨ b = 29) (h1 : ∀ a, a < b + 1 ∨ b + 13 < a → S'.1 a = S.1 a) (h2 : S'.2 = S.2) (h : rd_bd b S0 e s S) : rd_bd b S0 e s S' := by
  obtain ⟨a1, a2, a3, a4⟩ := h
  have e : S'.1 47 = S.1 47 := h1 47 (by omega)
  refine ⟨rd_oft h1 h2 a1, ?_, a3, ?_⟩
  · rw [e]; exact a2
  · rw [e]; exact a4
/-- a change of the reader's own numbers that a fault doesn't look at -/
theorem rd_bd_i {n : Nat} {v : Int32} (hn : n ≠ 3 ∧ n ≠ 4 ∧ n ≠ 5 ∧ n ≠ 6 ∧ n ≠ 11) (h : rd_bd b S0 e s S) : rd_bd b S0 e s (wd_i S 47 n v) := by
  obtain ⟨a1, a2, a3, a4⟩ := h
  refine ⟨of_i (Or.inl rfl) a1, ?_, a3, ?_⟩
  · rw [fr_ne (by omega)]; exact a2
  · rw [fr_ne (by omega), fr_ne (by omega), fr_ne (by omega), fr_ne (by omega)]; exact a4
theorem rd_bd_11 {u : Nat} (h : rd_bd b S0 e s S) : rd_bd b S0 e u (wd_i S 47 11 (Int32.ofNat u)) := by
  obtain ⟨a1, a2, a3, a4⟩ := h
  refine ⟨of_i (Or.inl rfl) a1, fr_eq, a3, ?_⟩
  rw [fr_ne (by omega), fr_ne (by omega), fr_ne (by omega), fr_ne (by omega)]; exact a4
theorem rd_bd_rf (h : rd_bd b S0 e s S) : rd_bd b S0 e s (fo_rf S) ∧ (fo_rf S).1 47 4 = 20 := by
  obtain ⟨a1, a2, a3, a4⟩ := h
  unfold fo_rf
  rcases a4 with ⟨c1, c2, c3⟩ | ⟨c1, c2, c3, c4⟩
  · rw [rd_fa1 (by rw [c1]; exact a3.1)]
    exact ⟨⟨a1, a2, a3, Or.inl ⟨c1, c2, c3⟩⟩, c3⟩
  · rw [rd_fa0 c1, if_pos c2, c3]
    refine ⟨⟨of_i (Or.inl rfl) (of_i (Or.inl rfl) (of_i (Or.inl rfl) a1)), ?_, a3, Or.inl ⟨?_, ?_, fr_eq⟩⟩, fr_eq⟩
    · rw [fr_ne (by omega), fr_ne (by omega), fr_ne (by omega)]; exact a2
    · rw [fr_ne (by omega), fr_ne (by omega), fr_eq, c4]
    · rw [fr_ne (by omega), fr_eq]
theorem rd_bd_4 (h : rd_bd b S0 e s S) : S.1 47 4 = 20 ∨ S.1 47 4 = 19 := by
  rcases h.2.2.2 with ⟨-, -, c⟩ | ⟨-, c, -⟩
  · exact Or.inl c
  · exact Or.inr c
theorem rd_bd_ne (h : rd_bd b S0 e s S) (h1 : k ≠ 19) (h2 : k ≠ 20) : ¬S.1 47 4 = k := by
  rcases rd_bd_4 h with c | c
  · rw [c]; exact fun q => h2 q.symm
  · rw [c]; exact fun q => h1 q.symm
theorem rd_bd_tk (h : rd_bd b S0 e s S) (h1 : k ≠ 19) (h2 : k ≠ 20) : rd_bd b S0 e s (fo_tk k S) := by
  unfold fo_tk
  rw [if_neg (rd_bd_ne h h1 h2)]
  exact (rd_bd_rf h).1
/-- a token is taken -/
theorem rd_tk_ok (hX : rd_X K V b S0) (h : rd_h K b S0 i m sc ms S) {j : Nat} (q : ps_take K k i = .ok j) : rd_h K b S0 j m sc ms (fo_tk k S) := by
  obtain ⟨q1, q2, rfl, q4⟩ := ps_take_ok q
  obtain ⟨h1, h2, h3⟩ := rd_tk_out (k := k) (S := S)
  have hb := hX.1
  obtain ⟨a1, a2, a3, a4, a5, a6, a7, a8, a9, a10, a11, a12⟩ := h
  have e : fo_tk k S = wd_i (wd_i S 47 3 (Int32.ofNat (i + 1))) 47 4 (K (i + 1)) := by
    unfold fo_tk
    rw [a5, if_pos q1, a4, if_pos ((mo_lt (m := 1500) (b := 1500) (by omega) (by omega) rfl).mpr q2), im_s, rd_kind hX a1 (by omega)]
  refine ⟨rd_of47 h1 h3 a1, by omega, q4, ?_, ?_, ?_, ?_, a8, ?_, a10, rd_sc_o sc (fun m _ => ⟨by rw [h3], by rw [h1 53 (by omega)]⟩) a11, ?_⟩
  · rw [e, fr_ne (by omega), fr_eq]
  · rw [e, fr_eq]
  · rw [e, fr_ne (by omega), fr_ne (by omega)]; exact a6
  · rw [h2 8 (by omega) (by omega) (by omega) (by omega)]; exact a7
  · rw [h2 11 (by omega) (by omega) (by omega) (by omega)]; exact a9
  · rw [h2 12 (by omega) (by omega) (by omega) (by omega)]; exact a12
theorem rd_fault (h : rd_h K b S0 i m sc ms S) {x : Int32} (hx : ¬x = 0) : rd_bd b S0 (x, i) sc.length (fo_fa x (S.1 47 3) S) := by
  obtain ⟨a1, a2, a3, a4, a5, a6, a7, a8, a9, a10, a11, a12⟩ := h
  rw [rd_fa0 a6, a4]
  refine ⟨of_i (Or.inl rfl) (of_i (Or.inl rfl) (of_i (Or.inl rfl) a1)), ?_, ⟨hx, a2⟩, Or.inl ⟨?_, ?_, fr_eq⟩⟩
  · rw [fr_ne (by omega), fr_ne (by omega), fr_ne (by omega)]; exact a9
  · rw [fr_ne (by omega), fr_ne (by omega), fr_eq]
  · rw [fr_ne (by omega), fr_eq]
theorem rd_refuse (h : rd_h K b S0 i m sc ms S) : rd_bd b S0 (2, i) sc.length (fo_rf S) := by
  unfold fo_rf
  rw [if_neg (by rw [h.2.2.2.2.1]; exact h.2.2.1)]
  exact rd_fault h (by decide)
theorem rd_tk_er (hX : rd_X K V b S0) (h : rd_h K b S0 i m sc ms S) (q : ps_take K k i = .error e) : rd_bd b S0 e sc.length (fo_tk k S) := by
  have h0 := h
  obtain ⟨a1, a2, a3, a4, a5, a6, a7, a8, a9, a10, a11, a12⟩ := h
  unfold ps_take at q
  unfold fo_tk
  rw [a5]
  by_cases q1 : K i = k
  · rw [if_pos q1] at q ⊢
    by_cases q2 : i < 1500
    · rw [if_pos q2] at q
      rw [a4, if_pos ((mo_lt (m := 1500) (b := 1500) (by omega) (by omega) rfl).mpr q2), im_s, rd_kind hX a1 (by omega)]
      by_cases q3 : K (i + 1) = 19
      · rw [if_pos q3] at q
        cases q
        refine ⟨of_i (Or.inl rfl) (of_i (Or.inl rfl) a1), ?_, ⟨(show ¬(1 : Int32) = 0 by decide), (show i + 1 ≤ 1500 by omega)⟩, Or.inr ⟨?_, ?_, ?_, rfl⟩⟩
        · rw [fr_ne (by omega), fr_ne (by omega)]; exact a9
        · rw [fr_ne (by omega), fr_ne (by omega)]; exact a6
        · rw [fr_eq]; exact q3
        · rw [fr_ne (by omega), fr_eq]
      · rw [if_neg q3] at q
        cases q
    · rw [if_neg q2] at q
      cases q
      rw [if_neg (fun z => q2 (by rw [a4] at z; exact (mo_lt (m := 1500) (b := 1500) (by omega) (by omega) rfl).mp z))]
      exact rd_fault h0 (by decide)
  · rw [if_neg q1] at q ⊢
    cases q
    exact rd_refuse h0
end Rd
end
/-! part 62 -/
section
/-! The reader with a fault: it comes to its end. New names, names that are looked up. -/
section Rd2
variable {K : Nat → Int32} {V : Nat → Int64} {b : Nat} {S0 : wd_S} {i m : Nat} {sc : List (Int64 × Nat)} {ms : Int32} {S S' : wd_S} {e : ps_E} {s : Nat} {k : Int32} {n : Nat} {a z : Int32}
theorem rc_43 : rc_Reader_takeE (n + 1) 43 a z S = fn_Reader_takeE (rc_Reader_takeE n) a S := rfl
theorem rc_45 : rc_Reader_takeE (n + 1) 45 a z S = fn_Reader_takeLet (rc_Reader_takeE n) a S := rfl
theorem rc_48 : rc_Reader_takeE (n + 1) 48 a z S = fn_Reader_takeIf (rc_Reader_takeE n) a S := rfl
theorem rc_49 : rc_Reader_takeE (n + 1) 49 a z S = fn_Reader_takeComparison (rc_Reader_takeE n) a S := rfl
theorem rc_50 : rc_Reader_takeE (n + 1) 50 a z S = fn_Reader_takeSum (rc_Reader_takeE n) a S := rfl
theorem rc_51 : rc_Reader_takeE (n + 1) 51 a z S = fn_Reader_takeProduct (rc_Reader_takeE n) a S := rfl
theorem rc_52 : rc_Reader_takeE (n + 1) 52 a z S = fn_Reader_takeAtom (rc_Reader_takeE n) a S := rfl
theorem rc_54 : rc_Reader_takeE (n + 1) 54 a z S = fn_Reader_takeCall (rc_Reader_takeE n) a z S := rfl
theorem rd_b52 (h : rd_bd b S0 e s S) : rc_Reader_takeE (n + 1) 52 a z S = some (0, fo_rf S) := by
  rw [rc_52]
  unfold fn_Reader_takeAtom
  rw [if_neg (rd_bd_ne h (by decide) (by decide)), if_neg (rd_bd_ne h (by decide) (by decide)), if_neg (rd_bd_ne h (by decide) (by decide)), if_neg (rd_bd_ne h (by decide) (by decide)), fo_refuse, wd_d_s]
theorem rd_b51 (h : rd_bd b S0 e s S) : rc_Reader_takeE (n + 2) 51 a z S = some (0, fo_rf S) := by
  rw [rc_51]
  unfold fn_Reader_takeProduct
  rw [rd_b52 h, wd_c_s, if_neg (by rw [(rd_bd_rf h).2]; decide)]
theorem rd_b50 (h : rd_bd b S0 e s S) : rc_Reader_takeE (n + 3) 50 a z S = some (0, fo_rf S) := by
  rw [rc_50]
  unfold fn_Reader_takeSum
  rw [rd_b51 h, wd_c_s, if_neg (by rw [(rd_bd_rf h).2]; decide), if_neg (by rw [(rd_bd_rf h).2]; decide)]
theorem rd_b49 (h : rd_bd b S0 e s S) : rc_Reader_takeE (n + 4) 49 a z S = some (0, fo_rf S) := by
  rw [rc_49]
  unfold fn_Reader_takeComparison
  rw [rd_b50 h, wd_c_s, if_neg (by rw [(rd_bd_rf h).2]; decide), if_neg (by rw [(rd_bd_rf h).2]; decide)]
theorem rd_b43 (h : rd_bd b S0 e s S) : rc_Reader_takeE (n + 5) 43 a z S = some (0, fo_rf S) := by
  rw [rc_43]
  unfold fn_Reader_takeE
  split
  · rw [if_neg (rd_bd_ne h (by decide) (by decide)), if_neg (rd_bd_ne h (by decide) (by decide)), rd_b49 h, wd_c_s]
  · unfold fn_Reader_refuseWithin fn_Reader_refuseWithin_97
    rw [if_neg (rd_bd_ne h (by decide) (by decide)), if_neg (rd_bd_ne h (by decide) (by decide)), if_neg (rd_bd_ne h (by decide) (by decide)), if_neg (rd_bd_ne h (by decide) (by decide)), if_neg (rd_bd_ne h (by decide) (by decide)), if_neg (rd_bd_ne h (by decide) (by decide)), if_neg (rd_bd_ne h (by decide) (by decide)), if_neg (rd_bd_ne h (by decide) (by decide)), if_neg (rd_bd_ne h (by decide) (by decide)), if_neg (rd_bd_ne h (by decide) (by decide)), if_neg (rd_bd_ne h (by decide) (by decide)), if_neg (rd_bd_ne h (by decide) (by decide)), if_neg (rd_bd_ne h (by decide) (by decide)), if_neg (rd_bd_ne h (by decide) (by decide)), if_neg (rd_bd_ne h (by decide) (by decide)), fo_refuse, wd_d_s, wd_d_s]
/-- new names -/
def fo_nn (p q : Int32) (S : wd_S) : wd_S := fo_tk 2 (if S.1 47 4 = 2 then (if p = 0 then (if q = 0 then S else fo_fa 6 (S.1 47 3) S) else fo_fa 3 (S.1 47 3) S) else S)
theorem fo_newName {p q : Int32} : fn_Reader_takeNewName p q S = some (lo_at 9 (S.1 47 3) S, fo_nn p q S) := by
  unfold fn_Reader_takeNewName fn_Reader_takeNewName_36 fn_Reader_takeNewName_58 fo_nn
  simp only [fo_value, wd_c_s, fo_takeKind, fo_faultAt, wd_d_s]
  by_cases h : S.1 47 4 = 2
  · rw [if_pos h, if_pos h, if_pos h]
    by_cases h1 : p = 0
    · rw [if_pos h1, if_pos h1]
      by_cases h2 : q = 0
      · rw [if_pos h2, if_pos h2]
      · rw [if_neg h2, if_neg h2]
    · rw [if_neg h1, if_neg h1]
  · rw [if_neg h, if_neg h, if_neg h]
theorem rd_bd_nn {p q : Int32} (h : rd_bd b S0 e s S) : rd_bd b S0 e s (fo_nn p q S) := by
  unfold fo_nn
  rw [if_neg (rd_bd_ne h (by decide) (by decide))]
  exact rd_bd_tk h (by decide) (by decide)
theorem rd_nn_out {p q : Int32} : (∀ a, a ≠ 47 → (fo_nn p q S).1 a = S.1 a) ∧ (fo_nn p q S).2 = S.2 := by
  unfold fo_nn
  obtain ⟨h1, -, h2⟩ := rd_tk_out (k := 2) (S := if S.1 47 4 = 2 then (if p = 0 then (if q = 0 then S else fo_fa 6 (S.1 47 3) S) else fo_fa 3 (S.1 47 3) S) else S)
  obtain ⟨g1, -, g2⟩ := rd_fa_out (x := 6) (y := S.1 47 3) (S := S)
  obtain ⟨k1, -, k2⟩ := rd_fa_out (x := 3) (y := S.1 47 3) (S := S)
  refine ⟨fun a ha => ?_, ?_⟩
  · rw [h1 a ha]
    split
    · split
      · split
        · rfl
        · exact g1 a ha
      · exact k1 a ha
    · rfl
  · rw [h2]
    split
    · split
      · split
        · rfl
        · exact g2
      · exact k2
    · rfl
theorem rd_nn_ok (hX : rd_X K V b S0) (h : rd_h K b S0 i m sc ms S) {p q : Int32} {x y : Bool} {j : Nat} (hp : p = 0 ↔ x = false) (hq : q = 0 ↔ y = false) (r : ps_new K x y i = .ok j) : rd_h K b S0 j m sc ms (fo_nn p q S) := by
  obtain ⟨r1, r2, r3⟩ := ps_new_ok r
  unfold fo_nn
  rw [if_pos (hp.mpr r2), if_pos (hq.mpr r3), ite_self]
  exact rd_tk_ok hX h r1
theorem rd_nn_er (hX : rd_X K V b S0) (h : rd_h K b S0 i m sc ms S) {p q : Int32} {x y : Bool} (hp : p = 0 ↔ x = false) (hq : q = 0 ↔ y = false) (r : ps_new K x y i = .error e) : rd_bd b S0 e sc.length (fo_nn p q S) := by
  unfold ps_new at r
  unfold fo_nn
  rw [h.2.2.2.2.1]
  by_cases hk : K i = 2
  · rw [if_pos hk]
    cases hx : x with
    | true =>
      rw [if_pos ⟨hk, hx⟩] at r
      cases r
      rw [if_neg (fun q => by have := hp.mp q; rw [hx] at this; cases this)]
      exact rd_bd_tk (rd_fault h (by decide)) (by decide) (by decide)
    | false =>
      rw [if_neg (fun q => by rw [hx] at q; cases q.2)] at r
      rw [if_pos (hp.mpr hx)]
      cases hy : y with
      | true =>
        rw [if_pos ⟨hk, hy⟩] at r
        cases r
        rw [if_neg (fun q => by have := hq.mp q; rw [hy] at this; cases this)]
        exact rd_bd_tk (rd_fault h (by decide)) (by decide) (by decide)
      | false =>
        rw [if_neg (fun q => by rw [hy] at q; cases q.2)] at r
        rw [if_pos (hq.mpr hy)]
        exact rd_tk_er hX h r
  · rw [if_neg hk]
    rw [if_neg (fun q => hk q.1), if_neg (fun q => hk q.1)] at r
    exact rd_tk_er hX h r
/-- the last of a name in the scope -/
theorem rd_look {x : Int64} : ∀ (sc : List (Int64 × Nat)) (f : Nat), sc.length ≤ 16 → sc.length < f → rd_sc sc S → ∃ w, fn_LongRow_lastOf_5 f 50 x (Int32.ofNat sc.length - 1) S = some (w, S) ∧ ((ps_look x sc = none ∧ w = -1) ∨ ∃ u j, ps_look x sc = some u ∧ w = Int32.ofNat j ∧ j < 16 ∧ S.1 53 j = Int32.ofNat u ∧ u < 16) := by
  intro sc
  induction sc with
  | nil =>
    intro f _ hf _
    obtain ⟨f, rfl⟩ : ∃ g, f = g + 1 := ⟨f - 1, by omega⟩
    refine ⟨-1, ?_, Or.inl ⟨rfl, rfl⟩⟩
    rw [fn_LongRow_lastOf_5]
    exact if_pos (by decide)
  | cons q r ih =>
    intro f hl hf hs
    obtain ⟨f, rfl⟩ : ∃ g, f = g + 1 := ⟨f - 1, by omega⟩
    obtain ⟨h1, h2, h4, h3⟩ := hs
    have hl : r.length + 1 ≤ 16 := hl
    have hf : r.length + 1 < f + 1 := hf
    show ∃ w, fn_LongRow_lastOf_5 (f + 1) 50 x (Int32.ofNat (r.length + 1) - 1) S = _ ∧ _
    rw [im_p, fn_LongRow_lastOf_5, if_neg (im_neg (by omega)), lo_at_ok, wd_c_s, lo_an (L := 16) rfl (by omega), h1]
    by_cases hq : q.1 = x
    · refine ⟨Int32.ofNat r.length, if_pos (sm_eq.mpr hq), Or.inr ⟨q.2, r.length, if_pos hq, rfl, by omega, h2, h4⟩⟩
    · obtain ⟨w, w1, w2⟩ := ih f (by omega) (by omega) h3
      refine ⟨w, ?_, ?_⟩
      · rw [if_neg (fun z => hq (sm_eq.mp z)), ← Int32.sub_eq_add_neg]
        exact w1
      · rw [show ps_look x (q :: r) = ps_look x r from if_neg hq]
        exact w2
theorem fo_enter {x : Int64} {v : Int32} : fn_Reader_enter x v S = some (wd_i (ro_put 52 (S.1 47 11) v (lo_put 50 (S.1 47 11) x S)) 47 11 (S.1 47 11 + 1)) := by
  unfold fn_Reader_enter
  simp only [wd_b]
  rw [lo_put_ok, wd_d_s, fr_q2, ro_put_ok, wd_d_s]
  have e : (ro_put 52 (S.1 47 11) v (lo_put 50 (S.1 47 11) x S)).1 47 11 = S.1 47 11 := by
    rw [fr_p1, if_neg (by omega), fr_q2]
  rw [e]
theorem rd_enter (h : rd_h K b S0 i m sc ms S) {x : Int64} {u : Nat} (hl : sc.length < m) (hu : u < 16) : ∃ S', fn_Reader_enter x (Int32.ofNat u) S = some S' ∧ rd_h K b S0 i m ((x, u) :: sc) ms S' ∧ (∀ a, a ≠ 47 → a ≠ 53 → S'.1 a = S.1 a) := by
  obtain ⟨a1, a2, a3, a4, a5, a6, a7, a8, a9, a10, a11, a12⟩ := h
  rw [fo_enter, a9, lo_pn (L := 16) rfl (by omega), ro_pn (L := 16) rfl (by omega), im_s]
  refine ⟨_, rfl, ⟨of_i (Or.inl rfl) (of_i (by unfold rd_W; omega) (of_l (by unfold rd_W; omega) a1)), a2, a3, ?_, ?_, ?_, ?_, a8, fr_eq, hl, ⟨?_, ?_, hu, ?_⟩, ?_⟩, fun a h1 h2 => ?_⟩
  · rw [fr_ne (by omega), fr_ne (by omega)]; exact a4
  · rw [fr_ne (by omega), fr_ne (by omega)]; exact a5
  · rw [fr_ne (by omega), fr_ne (by omega)]; exact a6
  · rw [fr_ne (by omega), fr_ne (by omega)]; exact a7
  · show (wd_l S 51 sc.length x).2.1 51 sc.length = x
    rw [fr_l1, if_pos ⟨rfl, rfl⟩]
  · rw [fr_ne (by omega), fr_e (by omega)]
  · refine rd_sc_o sc (fun m hm => ⟨?_, ?_⟩) a11
    · show (wd_l S 51 sc.length x).2.1 51 m = _
      rw [fr_l1, if_neg (by omega)]
    · rw [fr_ne (by omega), fr_ne (by omega)]
      rfl
  · rw [fr_ne (by omega), fr_ne (by omega)]; exact a12
  · rw [fr_row _ h1, fr_row _ h2]
    rfl
theorem rd_bd_enter {x : Int64} {v : Int32} (h : rd_bd b S0 e s S) : ∃ S', fn_Reader_enter x v S = some S' ∧ rd_bd b S0 e (s + 1) S' := by
  obtain ⟨a1, a2, a3, a4⟩ := h
  refine ⟨_, fo_enter, ?_, ?_, a3, ?_⟩
  · exact of_i (Or.inl rfl) (of_put (fun k => by unfold rd_W; omega) (of_lput (fun k => by unfold rd_W; omega) a1))
  · rw [fr_eq, a2, im_s]
  · have e : ∀ n, n ≠ 11 → (wd_i (ro_put 52 (S.1 47 11) v (lo_put 50 (S.1 47 11) x S)) 47 11 (S.1 47 11 + 1)).1 47 n = S.1 47 n := fun n hn => by
      rw [fr_ne (by omega), fr_p1, if_neg (by omega), fr_q2]
    rw [e 5 (by decide), e 6 (by decide), e 4 (by decide), e 3 (by decide)]
    exact a4
end Rd2
end
/-! part 63 -/
section
/-! The class's reader: what each part comes to; numbers, names, an E that becomes a part. -/
def rd_ms (ms : Int32) : List (Nat × Nat) → Int32
  | [] => ms
  | q :: r => rd_ms (if q.2 = 0 ∧ ms = -1 then Int32.ofNat q.1 else ms) r
theorem rd_ms_a : ∀ (M N : List (Nat × Nat)) (ms : Int32), rd_ms ms (M ++ N) = rd_ms (rd_ms ms M) N := by
  intro M
  induction M with
  | nil => intro N ms; rfl
  | cons q r ih => intro N ms; exact ih N _
def rd_G (K : Nat → Int32) (b : Nat) (S0 : wd_S) (m : Nat) (sc : List (Int64 × Nat)) (ms : Int32) (c d : Nat) (S : wd_S) (q : ps_O) (x : Int32) (S' : wd_S) : Prop := rd_h K b S0 q.2.2.2.1 q.2.2.2.2 sc (rd_ms ms q.2.1) S' ∧ S'.1 (b + 1) 6 = Int32.ofNat (c + q.2.2.1) ∧ nd_g (b + 1) (fun x => x < c) S S' ∧ ∃ y, x = Int32.ofNat y ∧ nd_t (b + 1) S' c (c + q.2.2.1) d y q.1 ∧ S'.1 (b + 1 + 10) y = Int32.ofNat q.2.2.1 ∧ S'.1 (b + 1 + 12) y = Int32.ofNat (q.2.2.2.2 - m) ∧ nd_c (b + 1) S' q.2.2.1 c = ps_cl q.2.1
def rd_R (K : Nat → Int32) (b : Nat) (S0 : wd_S) (m : Nat) (sc : List (Int64 × Nat)) (ms : Int32) (c d : Nat) (S : wd_S) (r : Except ps_E ps_O) (x : Int32) (S' : wd_S) : Prop := match r with
  | .error e => rd_bd b S0 e sc.length S'
  | .ok q => rd_G K b S0 m sc ms c d S q x S'
/-- code f does what p says -/
def rd_C (K : Nat → Int32) (b : Nat) (S0 : wd_S) (sc : List (Int64 × Nat)) (d : Nat) (p : Nat → Nat → Except ps_E ps_O) (f : wd_S → Option (Int32 × wd_S)) : Prop := ∀ (i m : Nat) (ms : Int32) (c : Nat) (S : wd_S), rd_h K b S0 i m sc ms S → S.1 (b + 1) 6 = Int32.ofNat c → c ≤ i → ∃ x S', f S = some (x, S') ∧ rd_R K b S0 m sc ms c d S (p i m) x S'
section Rd3
variable {K : Nat → Int32} {V : Nat → Int64} {b : Nat} {S0 : wd_S} {i m : Nat} {sc : List (Int64 × Nat)} {ms : Int32} {S S' S1 : wd_S} {e : ps_E} {s : Nat} {k : Int32} {n c d : Nat} {a z : Int32}
theorem nd_t_b {t lo hi d y : Nat} {T : tr_T} (h : nd_t t S lo hi d y T) : lo ≤ y ∧ y < hi := by
  cases d with
  | zero => exact absurd h id
  | succ d => exact ⟨h.1, h.2.1⟩
theorem rd_R_pre {r : Except ps_E ps_O} {x : Int32} (hn : nd_g (b + 1) (fun x => x < c) S S1) (h : rd_R K b S0 m sc ms c d S1 r x S') : rd_R K b S0 m sc ms c d S r x S' := by
  cases r with
  | error e => exact h
  | ok q =>
    obtain ⟨h1, h2, h3, h4⟩ := h
    exact ⟨h1, h2, nd_trans hn h3, h4⟩
theorem rd_R_d {r : Except ps_E ps_O} {x : Int32} {d' : Nat} (hd : d ≤ d') (h : rd_R K b S0 m sc ms c d S r x S') : rd_R K b S0 m sc ms c d' S r x S' := by
  cases r with
  | error e => exact h
  | ok q =>
    obtain ⟨h1, h2, h3, y, h4, h5, h6⟩ := h
    exact ⟨h1, h2, h3, y, h4, nd_t_le h5 hd, h6⟩
theorem rd_C_d {p : Nat → Nat → Except ps_E ps_O} {f : wd_S → Option (Int32 × wd_S)} {d' : Nat} (hd : d ≤ d') (h : rd_C K b S0 sc d p f) : rd_C K b S0 sc d' p f := fun i m ms c S h1 h2 h3 => by
  obtain ⟨x, S', e, hr⟩ := h i m ms c S h1 h2 h3
  exact ⟨x, S', e, rd_R_d hd hr⟩
theorem rd_tk_nd {p : Nat → Prop} (hb : b = 11 ∨ b = 29) : nd_g (b + 1) p S (fo_tk k S) := nd_rows (fun a h1 h2 => (rd_tk_out (k := k) (S := S)).1 a (by omega))
theorem rd_tk_c (hb : b = 11 ∨ b = 29) : (fo_tk k S).1 (b + 1) = S.1 (b + 1) := (rd_tk_out (k := k) (S := S)).1 (b + 1) (by omega)
theorem rd_op_h (hb : b = 11 ∨ b = 29) {v : Int32} (h : rd_h K b S0 i m sc ms S) : rd_h K b S0 i m sc ms (fo_op (b + 1) k v S) := by
  obtain ⟨h1, h2⟩ := nd_op_out (b + 1) k v S
  exact rd_h_t hb (fun a ha => h1 a (by omega)) h2 h
theorem rd_op_b (hb : b = 11 ∨ b = 29) {v : Int32} (h : rd_bd b S0 e s S) : rd_bd b S0 e s (fo_op (b + 1) k v S) := by
  obtain ⟨h1, h2⟩ := nd_op_out (b + 1) k v S
  exact rd_bd_t hb (fun a ha => h1 a (by omega)) h2 h
theorem rd_ap_h (hb : b = 11 ∨ b = 29) {v : Int32} (h : rd_h K b S0 i m sc ms S) : rd_h K b S0 i m sc ms (fo_ap (b + 1) k v S) := by
  obtain ⟨h1, h2⟩ := nd_ap_out (b + 1) k v S
  exact rd_h_t hb (fun a ha => h1 a (by omega)) h2 h
theorem rd_ap_b (hb : b = 11 ∨ b = 29) {v : Int32} (h : rd_bd b S0 e s S) : rd_bd b S0 e s (fo_ap (b + 1) k v S) := by
  obtain ⟨h1, h2⟩ := nd_ap_out (b + 1) k v S
  exact rd_bd_t hb (fun a ha => h1 a (by omega)) h2 h
/-- a leaf -/
theorem rd_leaf (hX : rd_X K V b S0) {M : List (Nat × Nat)} {v : Int32} {o : Nat} (h : rd_h K b S0 i m sc (rd_ms ms M) S1) (hc : S1.1 (b + 1) 6 = Int32.ofNat c) (hc2 : c < 1500) (hn : nd_g (b + 1) (fun x => x < c) S S1) (hk3 : ¬k = 3) (hk5 : ¬k = 5) (hM : ps_cl M = []) : rd_G K b S0 m sc ms c 1 S (tr_l k v o, M, 1, i, m) (Int32.ofNat c) (fo_op (b + 1) k v S1) := by
  obtain ⟨h1, h2, h3⟩ := nd_op (k := k) (v := v) (rd_L hX) hc hc2
  rw [if_neg hk3] at h3
  obtain ⟨o2, o4, o6, o10, o12, -⟩ := h3
  refine ⟨rd_op_h hX.1 h, h1, nd_trans hn (nd_mono (fun x hx => by omega) h2), c, rfl, ⟨Nat.le_refl _, by show c < c + 1; omega, o2, o4, o6, fun j _ hj => absurd hj (Nat.not_lt_zero _)⟩, o10, ?_, ?_⟩
  · rw [o12]
    show _ = Int32.ofNat (m - m)
    rw [Nat.sub_self]
  · rw [hM]
    exact nd_c_1 (by rw [o2]; exact hk5)
theorem rd_num (hX : rd_X K V b S0) {s : Int32} (h : rd_h K b S0 i m sc ms S) (hc : S.1 (b + 1) 6 = Int32.ofNat c) (hci : c ≤ i) : ∃ x S', fn_Reader_takeNumber s S = some (x, S') ∧ rd_R K b S0 m sc ms c 1 S (ps_num K V s i m) x S' := by
  unfold fn_Reader_takeNumber ps_num
  rw [fo_value, wd_c_s, fo_takeKind, wd_d_s]
  cases q : ps_take K 1 i with
  | error e =>
    have hb := rd_tk_er hX h q
    rw [rd_r2 hX hb.1, if_pos (rd_t2 hX), fo_open, wd_c_s]
    exact ⟨_, _, rfl, rd_op_b hX.1 hb⟩
  | ok j =>
    obtain ⟨q1, q2, -, -⟩ := ps_take_ok q
    have hg := rd_tk_ok hX h q
    rw [rd_r2 hX hg.1, if_pos (rd_t2 hX), fo_open, wd_c_s, rd_tk_c hX.1, hc, h.2.2.2.1, rd_val hX h.1 (by omega) (Or.inl q1)]
    exact ⟨_, _, rfl, rd_leaf hX (M := []) hg (by rw [rd_tk_c hX.1]; exact hc) (by omega) (rd_tk_nd hX.1) (by decide) (by decide) rfl⟩
theorem rd_name (hX : rd_X K V b S0) {o : Nat} (h : rd_h K b S0 i m sc ms S) (hio : i = o + 1) (ho : K o = 2) (hc : S.1 (b + 1) 6 = Int32.ofNat c) (hci : c ≤ o) : ∃ x S', fn_Reader_nameAlone (Int32.ofNat o) S = some (x, S') ∧ rd_G K b S0 m sc ms c 1 S (ps_name V sc o i m) x S' := by
  have hi := h.2.1
  have hl : sc.length ≤ 16 := by have := h.2.2.2.2.2.2.2.1; have := h.2.2.2.2.2.2.2.2.2.1; omega
  obtain ⟨w, w1, w2⟩ := rd_look (S := S) (x := V o) sc wd_F hl (by rw [show wd_F = 1000000 from rfl]; omega) h.2.2.2.2.2.2.2.2.2.2.1
  have w1 : fn_LongRow_lastOf 50 (V o) (Int32.ofNat sc.length) S = some (w, S) := w1
  have h38 : ∀ (l : Int32) (S2 : wd_S), of_f (rd_W b) S0 S2 → S2.1 (b + 1) 6 = Int32.ofNat c → fn_Reader_nameAlone_38 l S2 = some (Int32.ofNat c, fo_op (b + 1) 2 (ro_at 52 l S2) S2) := by
    intro l S2 h1 h2
    unfold fn_Reader_nameAlone_38
    rw [rd_r2 hX h1, if_pos (rd_t2 hX), ro_at_ok, wd_c_s, fo_open, wd_c_s, h2]
  unfold fn_Reader_nameAlone ps_name
  rw [fo_value, wd_c_s, rd_val hX h.1 (by omega) (Or.inr ho), h.2.2.2.2.2.2.2.2.1, w1, wd_c_s]
  rcases w2 with ⟨p1, rfl⟩ | ⟨u, j, p1, rfl, hj, p2, hu⟩
  · rw [if_pos rfl, p1, h.2.2.2.2.2.2.2.2.2.2.2]
    have e0 : ∀ S2 : wd_S, ro_at 52 (-1) S2 = 0 := fun S2 => if_pos (Or.inl (by decide))
    by_cases hm : ms = -1
    · rw [if_pos hm]
      simp only [wd_b]
      have hg : rd_h K b S0 i m sc (rd_ms ms [(o, 0)]) (wd_i S 47 12 (Int32.ofNat o)) := by
        obtain ⟨a1, a2, a3, a4, a5, a6, a7, a8, a9, a10, a11, a12⟩ := h
        refine ⟨of_i (Or.inl rfl) a1, a2, a3, ?_, ?_, ?_, ?_, a8, ?_, a10, rd_sc_o (S := S) sc (fun m _ => ⟨rfl, fr_ne (by omega)⟩) a11, ?_⟩
        · rw [fr_ne (by omega)]; exact a4
        · rw [fr_ne (by omega)]; exact a5
        · rw [fr_ne (by omega)]; exact a6
        · rw [fr_ne (by omega)]; exact a7
        · rw [fr_ne (by omega)]; exact a9
        · rw [fr_eq]
          exact (if_pos ⟨rfl, hm⟩).symm
      have hb := hX.1
      have hc2 : (wd_i S 47 12 (Int32.ofNat o)).1 (b + 1) 6 = Int32.ofNat c := by rw [fr_ne (by omega)]; exact hc
      rw [h38 _ _ hg.1 hc2, e0]
      exact ⟨_, _, rfl, rd_leaf hX hg hc2 (by omega) (nd_rows (fun a h1 h2 => fr_row _ (by omega))) (by decide) (by decide) rfl⟩
    · rw [if_neg hm, h38 _ _ h.1 hc, e0]
      have hg : rd_h K b S0 i m sc (rd_ms ms [(o, 0)]) S := by
        rw [show rd_ms ms [(o, 0)] = ms from if_neg (fun z => hm z.2)]
        exact h
      exact ⟨_, _, rfl, rd_leaf hX hg hc (by omega) nd_refl (by decide) (by decide) rfl⟩
  · rw [if_neg (fun z => by have := congrArg Int32.toInt z; rw [im_i (by omega)] at this; exact absurd this (by show ¬(j : Int) = -1; omega)), p1, h38 _ _ h.1 hc, ro_an (L := 16) rfl hj, p2]
    exact ⟨_, _, rfl, rd_leaf hX (M := []) h hc (by omega) nd_refl (by decide) (by decide) rfl⟩
end Rd3
end
/-! part 64 -/
section
/-! An E that becomes a part; if, let, signs. -/
section Rd4
variable {K : Nat → Int32} {V : Nat → Int64} {b : Nat} {S0 : wd_S} {i m : Nat} {sc : List (Int64 × Nat)} {ms : Int32} {S S' S1 : wd_S} {e : ps_E} {s : Nat} {k : Int32} {n c d : Nat} {a z : Int32} {self : ps_P}
/-- what an E as a further part of node y comes to -/
def rd_A (K : Nat → Int32) (b : Nat) (S0 : wd_S) (m : Nat) (sc : List (Int64 × Nat)) (ms : Int32) (c d y : Nat) (k v : Int32) (zs : List Nat) (sz lt : Nat) (S : wd_S) (r : Except ps_E ps_O) (S' : wd_S) : Prop := match r with
  | .error e => rd_bd b S0 e sc.length S'
  | .ok q => rd_h K b S0 q.2.2.2.1 q.2.2.2.2 sc (rd_ms ms q.2.1) S' ∧ S'.1 (b + 1) 6 = Int32.ofNat (c + q.2.2.1) ∧ nd_g (b + 1) (fun x => x < c ∧ x ≠ y) S S' ∧ ∃ z, nd_o (b + 1) S' y k v (zs ++ [z]) (sz + q.2.2.1) (lt + (q.2.2.2.2 - m)) ∧ nd_t (b + 1) S' c (c + q.2.2.1) d z q.1 ∧ nd_c (b + 1) S' q.2.2.1 c = ps_cl q.2.1
theorem rd_ea (hX : rd_X K V b S0) (hs : rd_C K b S0 sc d (self sc) (fun S => rc_Reader_takeE n 43 a 0 S)) (hgd : ∀ q, self sc i m = .ok q → ps_good K d i m q) {y : Nat} {k v : Int32} {zs : List Nat} {sz lt : Nat} (h : rd_h K b S0 i m sc ms S) (hc : S.1 (b + 1) 6 = Int32.ofNat c) (hci : c ≤ i) (hy : y < c) (ho : nd_o (b + 1) S y k v zs sz lt) (hz : zs.length < 100000) : ∃ S2, (∀ f : wd_S → Option (Int32 × wd_S), wd_c (rc_Reader_takeE n 43 a 0 S) (fun x S1 => wd_d (fn_Trees_append (b + 1) (Int32.ofNat y) x S1) f) = f S2) ∧ rd_A K b S0 m sc ms c d y k v zs sz lt S (self sc i m) S2 := by
  obtain ⟨x, S1, e1, hr⟩ := hs i m ms c S h hc hci
  have e1 : rc_Reader_takeE n 43 a 0 S = some (x, S1) := e1
  refine ⟨fo_ap (b + 1) (Int32.ofNat y) x S1, fun f => by rw [e1, wd_c_s, fo_append, wd_d_s], ?_⟩
  cases eq : self sc i m with
  | error e =>
    rw [eq] at hr
    exact rd_ap_b hX.1 hr
  | ok q =>
    rw [eq] at hr
    obtain ⟨g1, g2, g3, g4, g5, g6, g7, -⟩ := hgd q eq
    obtain ⟨h1, h2, h3, z, rfl, h5, h6, h7, h8⟩ := hr
    obtain ⟨z1, z2⟩ := nd_t_b h5
    obtain ⟨p1, p2⟩ := nd_ap (z := z) (rd_L hX) (show y < 1500 by omega) (show z < 1500 by omega) (by omega) hz (nd_o_g hy h3 ho) h6 h7
    refine ⟨rd_ap_h hX.1 h1, ?_, nd_trans (nd_mono (fun x hx => hx.1) h3) (nd_mono (fun x hx => hx.2) p1), z, p2, nd_t_g (nd_mono (fun x hx => by omega) p1) _ _ _ h5, ?_⟩
    · rw [(nd_ap_out (b + 1) (Int32.ofNat y) (Int32.ofNat z) S1).1 (b + 1) (by omega)]
      exact h2
    · rw [nd_c_g _ _ (nd_mono (fun x hx => by omega) p1)]
      exact h8
theorem rd_ba (hX : rd_X K V b S0) (hn : 5 ≤ n) (h : rd_bd b S0 e s S) {y : Int32} : ∃ S2, (∀ f : wd_S → Option (Int32 × wd_S), wd_c (rc_Reader_takeE n 43 a 0 S) (fun x S1 => wd_d (fn_Trees_append (b + 1) y x S1) f) = f S2) ∧ rd_bd b S0 e s S2 := by
  obtain ⟨n, rfl⟩ : ∃ z, n = z + 5 := ⟨n - 5, by omega⟩
  refine ⟨fo_ap (b + 1) y 0 (fo_rf S), fun f => by rw [rd_b43 h, wd_c_s, fo_append, wd_d_s], rd_ap_b hX.1 (rd_bd_rf h).1⟩
/-- if, from its last E back to its beginning -/
noncomputable def rd_i3 (n : Nat) (p1 x3 : Int32) (S22 : wd_S) : Option (Int32 × wd_S) :=
  wd_d (fn_Reader_takeKind (12 : Int32) S22) fun S25 => if tp_t (S25.2.2.1 47 2) = (0, 8) then wd_c (rc_Reader_takeE n 43 (p1 + (1 : Int32)) 0 S25) fun x30 S29 => wd_d (fn_Trees_append (S25.2.2.1 47 2) x3 x30 S29) fun S32 => some (x3, S32) else none
noncomputable def rd_i2 (n : Nat) (p1 x3 : Int32) (S12 : wd_S) : Option (Int32 × wd_S) :=
  wd_d (fn_Reader_takeKind (11 : Int32) S12) fun S15 => if tp_t (S15.2.2.1 47 2) = (0, 8) then wd_c (rc_Reader_takeE n 43 (p1 + (1 : Int32)) 0 S15) fun x20 S19 => wd_d (fn_Trees_append (S15.2.2.1 47 2) x3 x20 S19) fun S22 => rd_i3 n p1 x3 S22 else none
noncomputable def rd_i1 (n : Nat) (p1 x3 : Int32) (S2 : wd_S) : Option (Int32 × wd_S) :=
  wd_d (fn_Reader_takeKind (4 : Int32) S2) fun S5 => if tp_t (S5.2.2.1 47 2) = (0, 8) then wd_c (rc_Reader_takeE n 43 (p1 + (1 : Int32)) 0 S5) fun x10 S9 => wd_d (fn_Trees_append (S5.2.2.1 47 2) x3 x10 S9) fun S12 => rd_i2 n p1 x3 S12 else none
theorem rd_if_eq (hX : rd_X K V b S0) (ho : of_f (rd_W b) S0 S) : fn_Reader_takeIf (rc_Reader_takeE n) a S = rd_i1 n a (S.1 (b + 1) 6) (fo_op (b + 1) 4 0 S) := by
  unfold fn_Reader_takeIf
  rw [rd_r2 hX ho, if_pos (rd_t2 hX), fo_open, wd_c_s]
  rfl
theorem rd_i3_b (hX : rd_X K V b S0) (hn : 5 ≤ n) (h : rd_bd b S0 e s S) : ∃ S', rd_i3 n a z S = some (z, S') ∧ rd_bd b S0 e s S' := by
  unfold rd_i3
  have h1 := rd_bd_tk (k := 12) h (by decide) (by decide)
  rw [fo_takeKind, wd_d_s, rd_r2 hX h1.1, if_pos (rd_t2 hX)]
  obtain ⟨S2, e2, h2⟩ := rd_ba (a := a + 1) (y := z) hX hn h1
  rw [e2]
  exact ⟨_, rfl, h2⟩
theorem rd_i2_b (hX : rd_X K V b S0) (hn : 5 ≤ n) (h : rd_bd b S0 e s S) : ∃ S', rd_i2 n a z S = some (z, S') ∧ rd_bd b S0 e s S' := by
  unfold rd_i2
  have h1 := rd_bd_tk (k := 11) h (by decide) (by decide)
  rw [fo_takeKind, wd_d_s, rd_r2 hX h1.1, if_pos (rd_t2 hX)]
  obtain ⟨S2, e2, h2⟩ := rd_ba (a := a + 1) (y := z) hX hn h1
  rw [e2]
  exact rd_i3_b hX hn h2
theorem rd_i1_b (hX : rd_X K V b S0) (hn : 5 ≤ n) (h : rd_bd b S0 e s S) : ∃ S', rd_i1 n a z S = some (z, S') ∧ rd_bd b S0 e s S' := by
  unfold rd_i1
  have h1 := rd_bd_tk (k := 4) h (by decide) (by decide)
  rw [fo_takeKind, wd_d_s, rd_r2 hX h1.1, if_pos (rd_t2 hX)]
  obtain ⟨S2, e2, h2⟩ := rd_ba (a := a + 1) (y := z) hX hn h1
  rw [e2]
  exact rd_i2_b hX hn h2
theorem rd_cl2 (M N : List (Nat × Nat)) {t c k l : Nat} (h1 : nd_c t S k c = ps_cl M) (h2 : nd_c t S l (c + k) = ps_cl N) : nd_c t S (k + l) c = ps_cl (M ++ N) := by
  rw [nd_c_a, h1, h2, ps_cl_a]
theorem rd_if (hX : rd_X K V b S0) (hn : 5 ≤ n) (hs : rd_C K b S0 sc d (self sc) (fun S => rc_Reader_takeE n 43 (a + 1) 0 S)) (hgd : ∀ i m q, self sc i m = .ok q → ps_good K d i m q) : rd_C K b S0 sc (d + 1) (ps_if K self sc) (fun S => fn_Reader_takeIf (rc_Reader_takeE n) a S) := by
  intro i m ms c S h hc hci
  show ∃ x S', fn_Reader_takeIf (rc_Reader_takeE n) a S = some (x, S') ∧ _
  rw [rd_if_eq hX h.1, hc]
  unfold ps_if rd_i1
  rw [fo_takeKind, wd_d_s]
  have h1 : rd_h K b S0 i m sc ms (fo_op (b + 1) 4 0 S) := rd_op_h hX.1 h
  cases q1 : ps_take K 4 i with
  | error e =>
    have hb := rd_tk_er hX h1 q1
    rw [rd_r2 hX hb.1, if_pos (rd_t2 hX)]
    obtain ⟨S2, e2, h2⟩ := rd_ba (a := a + 1) (y := Int32.ofNat c) hX hn hb
    rw [e2]
    obtain ⟨S3, e3, h3⟩ := rd_i2_b (a := a) (z := Int32.ofNat c) hX hn h2
    exact ⟨_, _, e3, h3⟩
  | ok i1 =>
    obtain ⟨t1, t2, rfl, t4⟩ := ps_take_ok q1
    have h2 := rd_tk_ok hX h1 q1
    obtain ⟨o1, o2, o3⟩ := nd_op (k := 4) (v := 0) (rd_L hX) hc (show c < 1500 by omega)
    have o3 := nd_o_g (p := fun _ => True) trivial (rd_tk_nd (k := 4) hX.1) o3
    have o2 := nd_trans o2 (rd_tk_nd (k := 4) hX.1)
    rw [rd_r2 hX h2.1, if_pos (rd_t2 hX)]
    obtain ⟨S2, e2, a2⟩ := rd_ea hX hs (hgd _ _) h2 (by rw [rd_tk_c hX.1]; exact o1) (by omega) (Nat.lt_succ_self c) o3 (by decide)
    rw [e2]
    show ∃ x S', rd_i2 n a (Int32.ofNat c) S2 = some (x, S') ∧ rd_R K b S0 m sc ms c (d + 1) S (ps_b (self sc (i + 1) m) _) x S'
    cases q2 : self sc (i + 1) m with
    | error e =>
      rw [q2] at a2
      obtain ⟨S3, e3, h3⟩ := rd_i2_b (a := a) (z := Int32.ofNat c) hX hn a2
      exact ⟨_, _, e3, h3⟩
    | ok q =>
      rw [q2] at a2
      obtain ⟨g1, g2, g3, g4, g5, g6, g7, -⟩ := hgd _ _ q q2
      obtain ⟨h3, c3, n3, z1, w1, u1, l1⟩ := a2
      show ∃ x S', rd_i2 n a (Int32.ofNat c) S2 = some (x, S') ∧ rd_R K b S0 m sc ms c (d + 1) S (ps_b (ps_take K 11 q.2.2.2.1) _) x S'
      unfold rd_i2
      rw [fo_takeKind, wd_d_s]
      cases q3 : ps_take K 11 q.2.2.2.1 with
      | error e =>
        have hb := rd_tk_er hX h3 q3
        rw [rd_r2 hX hb.1, if_pos (rd_t2 hX)]
        obtain ⟨S4, e4, h4⟩ := rd_ba (a := a + 1) (y := Int32.ofNat c) hX hn hb
        rw [e4]
        obtain ⟨S5, e5, h5⟩ := rd_i3_b (a := a) (z := Int32.ofNat c) hX hn h4
        exact ⟨_, _, e5, h5⟩
      | ok i2 =>
        obtain ⟨-, t5, rfl, t6⟩ := ps_take_ok q3
        have h4 := rd_tk_ok hX h3 q3
        have n4 := nd_trans n3 (rd_tk_nd (k := 11) hX.1)
        have w1 := nd_o_g (p := fun _ => True) trivial (rd_tk_nd (k := 11) hX.1) w1
        have u1 := nd_t_g (rd_tk_nd (k := 11) hX.1) _ _ _ u1
        have l1 := (nd_c_g _ _ (rd_tk_nd (k := 11) hX.1)).trans l1
        rw [rd_r2 hX h4.1, if_pos (rd_t2 hX)]
        obtain ⟨S4, e4, a4⟩ := rd_ea hX hs (hgd _ _) h4 (by rw [rd_tk_c hX.1]; exact c3) (by omega) (by omega) w1 (show 1 < 100000 by decide)
        rw [e4]
        show ∃ x S', rd_i3 n a (Int32.ofNat c) S4 = some (x, S') ∧ rd_R K b S0 m sc ms c (d + 1) S (ps_b (self sc (q.2.2.2.1 + 1) q.2.2.2.2) _) x S'
        cases q4 : self sc (q.2.2.2.1 + 1) q.2.2.2.2 with
        | error e =>
          rw [q4] at a4
          obtain ⟨S5, e5, h5⟩ := rd_i3_b (a := a) (z := Int32.ofNat c) hX hn a4
          exact ⟨_, _, e5, h5⟩
        | ok r =>
          rw [q4] at a4
          obtain ⟨j1, j2, j3, j4, j5, j6, j7, -⟩ := hgd _ _ r q4
          obtain ⟨h5, c5, n5, z2, w2, u2, l2⟩ := a4
          show ∃ x S', rd_i3 n a (Int32.ofNat c) S4 = some (x, S') ∧ rd_R K b S0 m sc ms c (d + 1) S (ps_b (ps_take K 12 r.2.2.2.1) _) x S'
          unfold rd_i3
          rw [fo_takeKind, wd_d_s]
          cases q5 : ps_take K 12 r.2.2.2.1 with
          | error e =>
            have hb := rd_tk_er hX h5 q5
            rw [rd_r2 hX hb.1, if_pos (rd_t2 hX)]
            obtain ⟨S6, e6, h6⟩ := rd_ba (a := a + 1) (y := Int32.ofNat c) hX hn hb
            rw [e6]
            exact ⟨_, _, rfl, h6⟩
          | ok i3 =>
            obtain ⟨-, t7, rfl, t8⟩ := ps_take_ok q5
            have h6 := rd_tk_ok hX h5 q5
            have n6 := nd_trans n5 (rd_tk_nd (k := 12) hX.1)
            have w2 := nd_o_g (p := fun _ => True) trivial (rd_tk_nd (k := 12) hX.1) w2
            have u2 := nd_t_g (rd_tk_nd (k := 12) hX.1) _ _ _ u2
            have l2 := (nd_c_g _ _ (rd_tk_nd (k := 12) hX.1)).trans l2
            rw [rd_r2 hX h6.1, if_pos (rd_t2 hX)]
            obtain ⟨S6, e6, a6⟩ := rd_ea hX hs (hgd _ _) h6 (by rw [rd_tk_c hX.1]; exact c5) (by omega) (by omega) w2 (show 2 < 100000 by decide)
            rw [e6]
            refine ⟨_, _, rfl, ?_⟩
            show rd_R K b S0 m sc ms c (d + 1) S (ps_b (self sc (r.2.2.2.1 + 1) r.2.2.2.2) _) _ _
            cases q6 : self sc (r.2.2.2.1 + 1) r.2.2.2.2 with
            | error e =>
              rw [q6] at a6
              exact a6
            | ok v =>
              rw [q6] at a6
              obtain ⟨k1, k2, k3, k4, k5, k6, k7, -⟩ := hgd _ _ v q6
              obtain ⟨h7, c7, n7, z3, w3, u3, l3⟩ := a6
              obtain ⟨x1, x2⟩ := nd_t_b u1
              obtain ⟨x3, x4⟩ := nd_t_b u2
              obtain ⟨x5, x6⟩ := nd_t_b u3
              have u1 := nd_t_g (nd_mono (fun x hx => by omega) n7) _ _ _ (nd_t_g (nd_mono (fun x hx => by omega) n6) _ _ _ u1)
              have u2 := nd_t_g (nd_mono (fun x hx => by omega) n7) _ _ _ u2
              have l1 := (nd_c_g _ _ (nd_mono (fun x hx => by omega) n7)).trans ((nd_c_g _ _ (nd_mono (fun x hx => by omega) n6)).trans l1)
              have l2 := (nd_c_g _ _ (nd_mono (fun x hx => by omega) n7)).trans l2
              have hN : c + (1 + q.2.2.1 + r.2.2.1 + v.2.2.1) = c + 1 + q.2.2.1 + r.2.2.1 + v.2.2.1 := by omega
              refine ⟨?_, ?_, ?_, c, rfl, ?_, ?_, ?_, ?_⟩
              · show rd_h K b S0 v.2.2.2.1 v.2.2.2.2 sc (rd_ms ms (q.2.1 ++ (r.2.1 ++ v.2.1))) S6
                rw [rd_ms_a, rd_ms_a]
                exact h7
              · show S6.1 (b + 1) 6 = Int32.ofNat (c + (1 + q.2.2.1 + r.2.2.1 + v.2.2.1))
                rw [hN]
                exact c7
              · exact nd_trans (nd_mono (fun x hx => by omega) o2) (nd_trans (nd_mono (fun x hx => by omega) n4) (nd_trans (nd_mono (fun x hx => by omega) n6) (nd_mono (fun x hx => by omega) n7)))
              · show nd_t (b + 1) S6 c (c + (1 + q.2.2.1 + r.2.2.1 + v.2.2.1)) (d + 1) c (tr_3 4 0 0 q.1 r.1 v.1)
                refine nd_t_mk (zs := [z1, z2, z3]) (Nat.le_refl _) (by omega) w3 (fun j hj => ?_)
                have hj : j < 3 := hj
                match j, hj with
                | 0, _ => exact nd_t_r (by omega) (by omega) _ _ _ u1
                | 1, _ => exact nd_t_r (by omega) (by omega) _ _ _ u2
                | 2, _ => exact nd_t_r (by omega) (by omega) _ _ _ u3
              · rw [w3.2.2.2.1]
              · rw [w3.2.2.2.2.1]
                show Int32.ofNat (0 + (q.2.2.2.2 - m) + (r.2.2.2.2 - q.2.2.2.2) + (v.2.2.2.2 - r.2.2.2.2)) = Int32.ofNat (v.2.2.2.2 - m)
                congr 1
                omega
              · show nd_c (b + 1) S6 (1 + q.2.2.1 + r.2.2.1 + v.2.2.1) c = ps_cl (q.2.1 ++ (r.2.1 ++ v.2.1))
                rw [show 1 + q.2.2.1 + r.2.2.1 + v.2.2.1 = (q.2.2.1 + (r.2.2.1 + v.2.2.1)) + 1 by omega, nd_c_s, if_neg (by rw [w3.1]; decide)]
                exact rd_cl2 _ _ l1 (rd_cl2 _ _ l2 l3)
end Rd4
end
