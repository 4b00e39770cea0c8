/-! How a program should be read: params, functions. -/
def ps_par (K : Nat → Int32) (V : Nat → Int64) (sc : List (Int64 × Nat)) (i : Nat) : Except ps_E (List (Int64 × Nat) × Nat) := ps_b (ps_new K (ps_look (V i) sc).isSome (decide (4 ≤ sc.length)) i) fun i1 => .ok ((V i, sc.length) :: sc, i1)
def ps_pars (K : Nat → Int32) (V : Nat → Int64) : Nat → List (Int64 × Nat) → Nat → Except ps_E (List (Int64 × Nat) × Nat)
  | 0, sc, i => .ok (sc, i)
  | f + 1, sc, i => if K i = 17 then ps_b (ps_take K 17 i) fun i1 => ps_b (ps_par K V sc i1) fun q => ps_pars K V f q.1 q.2 else .ok (sc, i)
/-- of a function: its name, params, tree, what is to be looked up, nodes, names -/
abbrev ps_F : Type := Int64 × Nat × tr_T × List (Nat × Nat) × Nat × Nat
def ps_head (K : Nat → Int32) (V : Nat → Int64) (fk : List Int64) (i : Nat) : Except ps_E (List (Int64 × Nat) × Nat) :=
  ps_b (ps_new K (decide (V i ∈ fk)) (decide (48 ≤ fk.length)) i) fun i1 => ps_b (ps_take K 15 i1) fun i2 => if K i2 = 16 then .ok ([], i2) else ps_b (ps_par K V [] i2) fun q => ps_pars K V 1500 q.1 q.2
def ps_body (K : Nat → Int32) (V : Nat → Int64) (o : Nat) (w : List (Int64 × Nat) × Nat) : Except ps_E (ps_F × Nat) :=
  ps_b (ps_take K 16 w.2) fun i4 => ps_b (ps_take K 14 i4) fun i5 => ps_b (ps_ex K V 24 w.1 i5 w.1.length) fun q => ps_b (ps_take K 18 q.2.2.2.1) fun i6 => .ok ((V o, w.1.length, q.1, q.2.1, q.2.2.1, q.2.2.2.2), i6)
def ps_fun (K : Nat → Int32) (V : Nat → Int64) (fk : List Int64) (i : Nat) : Except ps_E (ps_F × Nat) := ps_b (ps_head K V fk i) (ps_body K V i)
def ps_funs (K : Nat → Int32) (V : Nat → Int64) : Nat → List ps_F → Nat → Except ps_E (List ps_F)
  | 0, fs, _ => .ok fs
  | f + 1, fs, i => if K i = 20 then .ok fs else ps_b (ps_fun K V (fs.map (fun q => q.1)) i) fun q => ps_funs K V f (fs ++ [q.1]) q.2
def ps_prog (K : Nat → Int32) (V : Nat → Int64) : Except ps_E (List ps_F) := if K 0 = 19 then .error (1, 0) else ps_b (ps_fun K V [] 0) fun q => ps_funs K V 1500 [q.1] q.2
/-- a scope that has nothing but params -/
def ps_ps : List (Int64 × Nat) → Prop
  | [] => True
  | q :: r => q.2 = r.length ∧ ps_ps r
theorem ps_par_ok {K : Nat → Int32} {V : Nat → Int64} {sc : List (Int64 × Nat)} {i : Nat} {q : List (Int64 × Nat) × Nat} (h : ps_par K V sc i = .ok q) : K i = 2 ∧ i < 1500 ∧ q = ((V i, sc.length) :: sc, i + 1) ∧ ¬K (i + 1) = 19 ∧ sc.length < 4 ∧ ps_look (V i) sc = none := by
  obtain ⟨j, h1, h2⟩ := ps_b_ok h
  obtain ⟨h3, h4, h5⟩ := ps_new_ok h1
  obtain ⟨a1, a2, rfl, a4⟩ := ps_take_ok h3
  cases h2
  refine ⟨a1, a2, rfl, a4, by have := of_decide_eq_false h5; omega, ?_⟩
  cases e : ps_look (V i) sc with
  | none => rfl
  | some u => rw [e] at h4; cases h4
theorem ps_pars_ok {K : Nat → Int32} {V : Nat → Int64} : ∀ (f : Nat) (sc : List (Int64 × Nat)) (i : Nat) (q : List (Int64 × Nat) × Nat), ps_pars K V f sc i = .ok q → i ≤ 1500 → ¬K i = 19 → ps_ps sc → sc.length ≤ 4 → i ≤ q.2 ∧ q.2 ≤ 1500 ∧ ¬K q.2 = 19 ∧ ps_ps q.1 ∧ q.1.length ≤ 4 := by
  intro f
  induction f with
  | zero =>
    intro sc i q h h1 h2 h3 h4
    cases h
    exact ⟨Nat.le_refl _, h1, h2, h3, h4⟩
  | succ f ih =>
    intro sc i q h h1 h2 h3 h4
    unfold ps_pars at h
    split at h
    · obtain ⟨j, k1, k2⟩ := ps_b_ok h
      obtain ⟨w, k3, k4⟩ := ps_b_ok k2
      obtain ⟨-, a2, rfl, -⟩ := ps_take_ok k1
      obtain ⟨b1, b2, rfl, b4, b5, b6⟩ := ps_par_ok k3
      obtain ⟨c1, c2, c3, c4, c5⟩ := ih _ _ _ k4 (by show i + 1 + 1 ≤ 1500; omega) b4 ⟨rfl, h3⟩ (by show sc.length + 1 ≤ 4; omega)
      exact ⟨by have : i + 1 + 1 ≤ q.2 := c1; omega, c2, c3, c4, c5⟩
    · cases h
      exact ⟨Nat.le_refl _, h1, h2, h3, h4⟩
theorem ps_head_ok {K : Nat → Int32} {V : Nat → Int64} {fk : List Int64} {i : Nat} {w : List (Int64 × Nat) × Nat} (h : ps_head K V fk i = .ok w) : K i = 2 ∧ i + 2 ≤ w.2 ∧ w.2 ≤ 1500 ∧ ¬K w.2 = 19 ∧ ps_ps w.1 ∧ w.1.length ≤ 4 ∧ ¬V i ∈ fk ∧ fk.length < 48 := by
  obtain ⟨i1, k1, k2⟩ := ps_b_ok h
  obtain ⟨i2, k3, k4⟩ := ps_b_ok k2
  obtain ⟨k1, kn, km⟩ := ps_new_ok k1
  obtain ⟨a1, a2, rfl, a4⟩ := ps_take_ok k1
  obtain ⟨b1, b2, rfl, b4⟩ := ps_take_ok k3
  have kn := of_decide_eq_false kn
  have km := of_decide_eq_false km
  split at k4
  · cases k4
    exact ⟨a1, Nat.le_refl _, b2, b4, trivial, Nat.zero_le _, kn, by omega⟩
  · obtain ⟨q, k5, k6⟩ := ps_b_ok k4
    obtain ⟨c1, c2, rfl, c4, -⟩ := ps_par_ok k5
    obtain ⟨d1, d2, d3, d4, d5⟩ := ps_pars_ok _ _ _ _ k6 c2 c4 ⟨rfl, trivial⟩ (show 1 ≤ 4 by decide)
    have d1 : i + 1 + 1 + 1 ≤ w.2 := d1
    exact ⟨a1, by omega, d2, d3, d4, d5, kn, by omega⟩
/-- of a function that was read from i to j -/
def ps_fg (K : Nat → Int32) (V : Nat → Int64) (i j : Nat) (q : ps_F) : Prop := i + 6 ≤ j ∧ j ≤ 1500 ∧ ¬K j = 19 ∧ q.2.1 ≤ 4 ∧ q.2.1 ≤ q.2.2.2.2.2 ∧ q.2.2.2.2.2 ≤ 16 ∧ 1 ≤ q.2.2.2.2.1 ∧ q.2.2.2.2.1 + i ≤ j ∧ tr_fit 96 q.2.2.1 ∧ (∀ o, o ∈ q.2.2.2.1 → i ≤ o.1 ∧ o.1 < j) ∧ q.2.2.2.1.Pairwise (fun a b => a.1 < b.1)
theorem ps_fun_ok {K : Nat → Int32} {V : Nat → Int64} {fk : List Int64} {i : Nat} {q : ps_F × Nat} (h : ps_fun K V fk i = .ok q) : ps_fg K V i q.2 q.1 ∧ q.1.1 = V i ∧ K i = 2 ∧ ¬V i ∈ fk ∧ fk.length < 48 := by
  obtain ⟨w, k1, k2⟩ := ps_b_ok h
  obtain ⟨a1, a2, a3, a4, a5, a6, a7, a8⟩ := ps_head_ok k1
  obtain ⟨i4, k3, k4⟩ := ps_b_ok k2
  obtain ⟨i5, k5, k6⟩ := ps_b_ok k4
  obtain ⟨r, k7, k8⟩ := ps_b_ok k6
  obtain ⟨i6, k9, k10⟩ := ps_b_ok k8
  obtain ⟨-, b2, rfl, -⟩ := ps_take_ok k3
  obtain ⟨-, c2, rfl, -⟩ := ps_take_ok k5
  obtain ⟨d1, d2, d3, d4, d5, d6, d7, d8, d9, d10⟩ := ps_ex_good _ _ _ _ _ k7
  obtain ⟨-, e2, rfl, e4⟩ := ps_take_ok k9
  cases k10
  exact ⟨⟨by show i + 6 ≤ r.2.2.2.1 + 1; omega, e2, e4, a6, d3, d4 (by omega), d5, by show r.2.2.1 + i ≤ r.2.2.2.1 + 1; omega, d8, ps_in d9 (by omega) (Nat.le_succ _), d10⟩, rfl, a1, a7, a8⟩
