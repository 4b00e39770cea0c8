/-! What a run gives: values, steps, the deepest; or how it ended otherwise; or nothing where a tree isn't as it should be. -/
abbrev ev_V : Type := Nat → Option Int32
abbrev ev_E : Type := Option (Int32 × Nat × Nat)
abbrev ev_O : Type := Int32 × ev_V × Nat × Nat
abbrev ev_P : Type := ev_V → Nat → Nat → tr_T → Except ev_E ev_O
def ev_b {α β : Type} (x : Except ev_E α) (f : α → Except ev_E β) : Except ev_E β := match x with
  | .ok a => f a
  | .error e => .error e
def ev_u (V : ev_V) (s : Nat) (v : Int32) : ev_V := fun i => if i = s then some v else V i
def ev_l (l : List Int32) : ev_V := fun i => l[i]?
def ev_sg (k a b : Int32) : Int32 := if k = 6 then a + b else if k = 7 then a - b else if k = 8 then a * b else if k = 9 then (if a < b then 1 else 0) else if a = b then 1 else 0
def tr_n (t : tr_T) : Nat := (tr_v t).toNatClampNeg
/-- a node as it should be -/
abbrev ev_ok (l : Nat) (t : tr_T) : Prop := tr_k t = 1 ∨ (tr_k t = 2 ∧ tr_v t = Int32.ofNat (tr_n t) ∧ tr_n t < 16) ∨ (tr_k t = 3 ∧ tr_v t = Int32.ofNat (tr_n t) ∧ tr_n t < 16 ∧ tr_a t = 2) ∨ (tr_k t = 4 ∧ tr_a t = 3) ∨ (tr_k t = 5 ∧ tr_a t ≤ 4 ∧ tr_v t = Int32.ofNat (tr_n t) ∧ tr_n t < l) ∨ ((tr_k t = 6 ∨ tr_k t = 7 ∨ tr_k t = 8 ∨ tr_k t = 9 ∨ tr_k t = 10) ∧ tr_a t = 2)
def ev_args (self : ev_P) (t : tr_T) : Nat → Nat → ev_V → Nat → Nat → Except ev_E (List Int32 × ev_V × Nat × Nat)
  | 0, _, V, s, m => .ok ([], V, s, m)
  | r + 1, j, V, s, m => ev_b (self V s m (tr_sub t j)) fun q => ev_b (ev_args self t r (j + 1) q.2.1 q.2.2.1 q.2.2.2) fun w => .ok (q.1 :: w.1, w.2)
def ev_in (P : List tr_T) (self : ev_P) : ev_P := fun V s m t => if ev_ok P.length t then (if tr_k t = 1 then .ok (tr_v t, V, s, m) else if tr_k t = 2 then (match V (tr_n t) with
    | some v => .ok (v, V, s, m)
    | none => .error none) else if tr_k t = 3 then (ev_b (self V s m (tr_sub t 0)) fun q => self (ev_u q.2.1 (tr_n t) q.1) q.2.2.1 q.2.2.2 (tr_sub t 1)) else if tr_k t = 4 then (ev_b (self V s m (tr_sub t 0)) fun q => self q.2.1 q.2.2.1 q.2.2.2 (tr_sub t (if q.1 = 0 then 2 else 1))) else if tr_k t = 5 then (ev_b (ev_args self t (tr_a t) 0 V s m) fun q => ev_b (self (ev_l q.1) q.2.2.1 q.2.2.2 (P.getD (tr_n t) tr_z)) fun w => .ok (w.1, q.2.1, w.2.2)) else (ev_b (self V s m (tr_sub t 0)) fun q => ev_b (self q.2.1 q.2.2.1 q.2.2.2 (tr_sub t 1)) fun w => .ok (ev_sg (tr_k t) q.1 w.1, w.2))) else .error none
/-- an EXPRESSION is begun with room for r more below -/
def ev (P : List tr_T) (lim : Nat) : Nat → ev_P
  | 0 => fun _ s m _ => if lim ≤ s then .error (some (2, s, m)) else .error (some (3, s, m))
  | r + 1 => fun V s m t => if lim ≤ s then .error (some (2, s, m)) else ev_in P (ev P lim r) V (s + 1) (max m (160 - r)) t
