/-! The typed state: ints (fields, arrays), longs, references that change, how many throws there were; the heap that it stands for. -/
abbrev wd_S : Type := (Nat → Nat → Int32) × (Nat → Nat → Int64) × (Nat → Nat → Nat) × Nat
def wd_u {α : Type} (f : Nat → Nat → α) (a k : Nat) (v : α) : Nat → Nat → α := fun b m => if b = a ∧ m = k then v else f b m
def wd_i (S : wd_S) (a k : Nat) (v : Int32) : wd_S := (wd_u S.1 a k v, S.2.1, S.2.2.1, S.2.2.2)
def wd_l (S : wd_S) (a k : Nat) (v : Int64) : wd_S := (S.1, wd_u S.2.1 a k v, S.2.2.1, S.2.2.2)
def wd_r (S : wd_S) (a k : Nat) (v : Nat) : wd_S := (S.1, S.2.1, wd_u S.2.2.1 a k v, S.2.2.2)
def wd_n (S : wd_S) : wd_S := (S.1, S.2.1, S.2.2.1, S.2.2.2 + 1)
def wd_v (S : wd_S) (a k : Nat) (q : Nat × Nat) : Value := if q.1 = 0 then .int (S.1 a k) else if q.1 = 1 then .ref q.2 else if q.1 = 2 then .ref (S.2.2.1 a k) else if q.1 = 3 then .long (S.2.1 a k) else .ref (a + q.2)
def wd_f (S : wd_S) (a : Nat) : Nat → List (Nat × Nat) → List Value
  | _, [] => []
  | k, q :: r => wd_v S a k q :: wd_f S a (k + 1) r
def wd_e (S : wd_S) (a : Nat) : mi_E :=
  if (tp_t a).1 = 0 then .inr ((tp_t a).2, wd_f S a 0 (tp_f (tp_t a).2))
  else if (tp_t a).1 = 1 then .inl (.int, (tp_t a).2, .inl (S.1 a))
  else if (tp_t a).1 = 2 then .inl (.long, (tp_t a).2, .inr (.inl (S.2.1 a)))
  else if (tp_t a).1 = 3 then .inl (.boolean, (tp_t a).2, .inl (S.1 a))
  else mi_dead
def wd_k (S : wd_S) : mi_H := (tp_c + S.2.2.2, tp_s + 6 * S.2.2.2, wd_e S)
theorem wd_len (S : wd_S) (a : Nat) : ∀ (l : List (Nat × Nat)) (k : Nat), (wd_f S a k l).length = l.length := by
  intro l
  induction l with
  | nil => intro k; rfl
  | cons q r ih => intro k; show (wd_f S a (k + 1) r).length + 1 = _; rw [ih]; rfl
theorem wd_get (S : wd_S) (a : Nat) : ∀ (l : List (Nat × Nat)) (k n : Nat) (q : Nat × Nat), l[n]? = some q → (wd_f S a k l)[n]? = some (wd_v S a (k + n) q) := by
  intro l
  induction l with
  | nil => intro k n q h; cases h
  | cons p r ih =>
    intro k n q h
    cases n with
    | zero =>
      rw [List.getElem?_cons_zero] at h
      cases h
      exact List.getElem?_cons_zero
    | succ n =>
      rw [List.getElem?_cons_succ] at h
      show (_ :: wd_f S a (k + 1) r)[n + 1]? = _
      rw [List.getElem?_cons_succ, ih (k + 1) n q h, show k + 1 + n = k + (n + 1) by omega]
/-- fields ahead of a place that changes stay -/
theorem wd_eqf (S S' : wd_S) (a : Nat) : ∀ (l : List (Nat × Nat)) (k : Nat), (∀ n q, l[n]? = some q → wd_v S' a (k + n) q = wd_v S a (k + n) q) → wd_f S' a k l = wd_f S a k l := by
  intro l
  induction l with
  | nil => intro k _; rfl
  | cons p r ih =>
    intro k h
    show wd_v S' a k p :: wd_f S' a (k + 1) r = wd_v S a k p :: wd_f S a (k + 1) r
    have h0 : wd_v S' a k p = wd_v S a k p := h 0 p List.getElem?_cons_zero
    rw [h0, ih (k + 1) (fun n q hq => by
      have := h (n + 1) q (by rw [List.getElem?_cons_succ]; exact hq)
      rw [show k + 1 + n = k + (n + 1) by omega]
      exact this)]
theorem wd_set (S S' : wd_S) (a : Nat) (v : Value) : ∀ (l : List (Nat × Nat)) (k n : Nat) (q : Nat × Nat), l[n]? = some q → wd_v S' a (k + n) q = v → (∀ m p, m ≠ n → l[m]? = some p → wd_v S' a (k + m) p = wd_v S a (k + m) p) → (wd_f S a k l).set n v = wd_f S' a k l := by
  intro l
  induction l with
  | nil => intro k n q h; cases h
  | cons p r ih =>
    intro k n q h hv hm
    cases n with
    | zero =>
      rw [List.getElem?_cons_zero] at h
      cases h
      show v :: wd_f S a (k + 1) r = wd_v S' a k p :: wd_f S' a (k + 1) r
      have hv : wd_v S' a k p = v := hv
      rw [hv]
      congr 1
      refine (wd_eqf S S' a r (k + 1) (fun n q hq => ?_)).symm
      have := hm (n + 1) q (by omega) (by rw [List.getElem?_cons_succ]; exact hq)
      rw [show k + 1 + n = k + (n + 1) by omega]
      exact this
    | succ n =>
      rw [List.getElem?_cons_succ] at h
      show wd_v S a k p :: (wd_f S a (k + 1) r).set n v = wd_v S' a k p :: wd_f S' a (k + 1) r
      have h0 := hm 0 p (by omega) List.getElem?_cons_zero
      have h0 : wd_v S' a k p = wd_v S a k p := h0
      rw [h0]
      congr 1
      refine ih (k + 1) n q h ?_ (fun m p hmn hp => ?_)
      · rw [show k + 1 + n = k + (n + 1) by omega]; exact hv
      · have := hm (m + 1) p (by omega) (by rw [List.getElem?_cons_succ]; exact hp)
        rw [show k + 1 + m = k + (m + 1) by omega]
        exact this
theorem wd_mg {S : wd_S} {a : Nat} (h : (tp_t a).1 ≤ 3) : mi_get (wd_k S) a = some (wd_e S a) ∧ a ≠ 0 := by
  obtain ⟨h1, h2⟩ := tp_ok a h
  refine ⟨?_, h2⟩
  unfold mi_get
  exact if_pos (show a < tp_c + S.2.2.2 by omega)
theorem wd_eo {S : wd_S} {a ci : Nat} (h : tp_t a = (0, ci)) : wd_e S a = .inr (ci, wd_f S a 0 (tp_f ci)) := by
  unfold wd_e
  rw [h]
  rfl
theorem wd_e1 {S : wd_S} {a n : Nat} (h : tp_t a = (1, n)) : wd_e S a = .inl (.int, n, .inl (S.1 a)) := by
  unfold wd_e
  rw [h]
  rfl
theorem wd_e2 {S : wd_S} {a n : Nat} (h : tp_t a = (2, n)) : wd_e S a = .inl (.long, n, .inr (.inl (S.2.1 a))) := by
  unfold wd_e
  rw [h]
  rfl
theorem wd_e3 {S : wd_S} {a n : Nat} (h : tp_t a = (3, n)) : wd_e S a = .inl (.boolean, n, .inl (S.1 a)) := by
  unfold wd_e
  rw [h]
  rfl
theorem wd_gf {P : mi_P} {j ix a ci k : Nat} {w : Bool} {S : wd_S} {q : Nat × Nat} (hf : mi_fl P j ix = some (ci, k, w)) (ht : tp_t a = (0, ci)) (hq : (tp_f ci)[k]? = some q) : mi_get_f P j ix a (wd_k S) = some (wd_v S a k q) := by
  obtain ⟨h1, h2⟩ := wd_mg (S := S) (a := a) (by rw [ht]; exact Nat.zero_le _)
  unfold mi_get_f
  rw [h1, hf, wd_eo ht]
  simp only []
  rw [if_pos ⟨h2, trivial⟩, wd_get S a _ 0 k q hq, Nat.zero_add]
/-- another state at one place -/
theorem wd_ext {S S' : wd_S} {a : Nat} {x : mi_E} (hn : S'.2.2.2 = S.2.2.2) (hx : wd_e S' a = x) (ho : ∀ b, b ≠ a → wd_e S' b = wd_e S b) : mi_set (wd_k S) a x = wd_k S' := by
  unfold mi_set wd_k
  rw [hn]
  congr 2
  funext b
  by_cases hb : b = a
  · rw [if_pos hb, hb, hx]
  · rw [if_neg hb, ho b hb]
theorem wd_u1 {α : Type} {f : Nat → Nat → α} {a b k : Nat} {v : α} (h : b ≠ a) : wd_u f a k v b = f b := by
  funext m
  unfold wd_u
  rw [if_neg (fun hh => h hh.1)]
theorem wd_u2 {α : Type} {f : Nat → Nat → α} {a k m : Nat} {v : α} : wd_u f a k v a m = if m = k then v else f a m := by
  unfold wd_u
  by_cases h : m = k
  · rw [if_pos ⟨rfl, h⟩, if_pos h]
  · rw [if_neg (fun hh => h hh.2), if_neg h]
theorem wd_oe {S S' : wd_S} {b : Nat} (h1 : S'.1 b = S.1 b) (h2 : S'.2.1 b = S.2.1 b) (h3 : S'.2.2.1 b = S.2.2.1 b) : wd_e S' b = wd_e S b := by
  have hf : ∀ l, wd_f S' b 0 l = wd_f S b 0 l := fun l => wd_eqf S S' b l 0 (fun n q _ => by unfold wd_v; rw [h1, h2, h3])
  unfold wd_e
  rw [hf, h1, h2]
theorem wd_pf {P : mi_P} {j ix a ci k : Nat} {S S' : wd_S} {v : Value} {q : Nat × Nat} (hf : mi_fl P j ix = some (ci, k, true)) (ht : tp_t a = (0, ci)) (hq : (tp_f ci)[k]? = some q) (hfit : mi_fit (mi_ft P ci k) v = true)
    (hn : S'.2.2.2 = S.2.2.2) (hv : wd_v S' a k q = v) (hm : ∀ m p, m ≠ k → (tp_f ci)[m]? = some p → wd_v S' a m p = wd_v S a m p) (ho : ∀ b, b ≠ a → wd_e S' b = wd_e S b) : mi_put_f P j ix a v (wd_k S) = some (wd_k S') := by
  obtain ⟨h1, h2⟩ := wd_mg (S := S) (a := a) (by rw [ht]; exact Nat.zero_le _)
  unfold mi_put_f
  rw [h1, hf, wd_eo ht]
  simp only []
  have hk : k < (wd_f S a 0 (tp_f ci)).length := by
    rw [wd_len]
    obtain ⟨h3, -⟩ := List.getElem?_eq_some_iff.mp hq
    exact h3
  rw [if_pos ⟨trivial, h2, trivial, hk, hfit⟩]
  congr 1
  refine wd_ext hn ?_ ho
  rw [wd_eo ht]
  congr 2
  refine (wd_set S S' a v (tp_f ci) 0 k q hq ?_ (fun m p hmk hp => ?_)).symm
  · rw [Nat.zero_add]; exact hv
  · rw [Nat.zero_add]; exact hm m p hmk hp
theorem wd_pi {P : mi_P} {j ix a ci k z : Nat} {S : wd_S} {v : Int32} (hf : mi_fl P j ix = some (ci, k, true)) (ht : tp_t a = (0, ci)) (hq : (tp_f ci)[k]? = some (0, z)) (hfit : mi_fit (mi_ft P ci k) (.int v) = true) : mi_put_f P j ix a (.int v) (wd_k S) = some (wd_k (wd_i S a k v)) := by
  refine wd_pf hf ht hq hfit rfl ?_ (fun m p hm _ => ?_) (fun b hb => wd_oe (wd_u1 hb) rfl rfl)
  · show Value.int (wd_u S.1 a k v a k) = _
    rw [wd_u2, if_pos rfl]
  · unfold wd_v
    show (if p.1 = 0 then Value.int (wd_u S.1 a k v a m) else _) = _
    rw [wd_u2, if_neg hm]
    rfl
theorem wd_pl {P : mi_P} {j ix a ci k z : Nat} {S : wd_S} {v : Int64} (hf : mi_fl P j ix = some (ci, k, true)) (ht : tp_t a = (0, ci)) (hq : (tp_f ci)[k]? = some (3, z)) (hfit : mi_fit (mi_ft P ci k) (.long v) = true) : mi_put_f P j ix a (.long v) (wd_k S) = some (wd_k (wd_l S a k v)) := by
  refine wd_pf hf ht hq hfit rfl ?_ (fun m p hm _ => ?_) (fun b hb => wd_oe rfl (wd_u1 hb) rfl)
  · show Value.long (wd_u S.2.1 a k v a k) = _
    rw [wd_u2, if_pos rfl]
  · unfold wd_v wd_l
    simp only []
    rw [wd_u2, if_neg hm]
theorem wd_pr {P : mi_P} {j ix a ci k z : Nat} {S : wd_S} {v : Nat} (hf : mi_fl P j ix = some (ci, k, true)) (ht : tp_t a = (0, ci)) (hq : (tp_f ci)[k]? = some (2, z)) (hfit : mi_fit (mi_ft P ci k) (.ref v) = true) : mi_put_f P j ix a (.ref v) (wd_k S) = some (wd_k (wd_r S a k v)) := by
  refine wd_pf hf ht hq hfit rfl ?_ (fun m p hm _ => ?_) (fun b hb => wd_oe rfl rfl (wd_u1 hb))
  · show Value.ref (wd_u S.2.2.1 a k v a k) = _
    rw [wd_u2, if_pos rfl]
  · unfold wd_v wd_r
    simp only []
    rw [wd_u2, if_neg hm]
section WdArr
variable {L : Nat} {xs : Nat → Int32} {S : wd_S} {a n : Nat} {x : Int32}
theorem wd_a4 (ht : tp_t a = (1, n)) (hx : ¬(x < 0 ∨ n ≤ x.toNatClampNeg)) : mi_ld_i4 L xs a x (wd_k S) = some (.int (S.1 a x.toNatClampNeg)) := by
  obtain ⟨h1, h2⟩ := wd_mg (S := S) (a := a) (by rw [ht]; exact Nat.le_of_ble_eq_true rfl)
  unfold mi_ld_i4
  rw [if_neg h2, h1, wd_e1 ht]
  exact if_neg hx
theorem wd_a8 (ht : tp_t a = (2, n)) (hx : ¬(x < 0 ∨ n ≤ x.toNatClampNeg)) : mi_ld_i8 a x (wd_k S) = some (.long (S.2.1 a x.toNatClampNeg)) := by
  obtain ⟨h1, h2⟩ := wd_mg (S := S) (a := a) (by rw [ht]; exact Nat.le_of_ble_eq_true rfl)
  unfold mi_ld_i8
  rw [h1, wd_e2 ht]
  exact if_neg (fun h => h.elim h2 hx)
theorem wd_a1 (ht : tp_t a = (3, n)) (hx : ¬(x < 0 ∨ n ≤ x.toNatClampNeg)) : mi_ld_i1 a x (wd_k S) = some (.int (S.1 a x.toNatClampNeg)) := by
  obtain ⟨h1, h2⟩ := wd_mg (S := S) (a := a) (by rw [ht]; exact Nat.le_of_ble_eq_true rfl)
  unfold mi_ld_i1
  rw [h1, wd_e3 ht]
  exact if_neg (fun h => h.elim h2 hx)
theorem wd_s4 {v : Int32} (ht : tp_t a = (1, n)) (hx : ¬(x < 0 ∨ n ≤ x.toNatClampNeg)) : mi_as_i4 a x v (wd_k S) = some (wd_k (wd_i S a x.toNatClampNeg v)) := by
  obtain ⟨h1, h2⟩ := wd_mg (S := S) (a := a) (by rw [ht]; exact Nat.le_of_ble_eq_true rfl)
  unfold mi_as_i4
  rw [h1, wd_e1 ht]
  refine (if_neg (fun h => h.elim h2 hx)).trans ?_
  congr 1
  refine wd_ext rfl ?_ (fun b hb => wd_oe (wd_u1 hb) rfl rfl)
  rw [wd_e1 ht]
  congr 4
  funext m
  exact wd_u2
theorem wd_s8 {v : Int64} (ht : tp_t a = (2, n)) (hx : ¬(x < 0 ∨ n ≤ x.toNatClampNeg)) : mi_as_i8 a x v (wd_k S) = some (wd_k (wd_l S a x.toNatClampNeg v)) := by
  obtain ⟨h1, h2⟩ := wd_mg (S := S) (a := a) (by rw [ht]; exact Nat.le_of_ble_eq_true rfl)
  unfold mi_as_i8
  rw [h1, wd_e2 ht]
  refine (if_neg (fun h => h.elim h2 hx)).trans ?_
  congr 1
  refine wd_ext rfl ?_ (fun b hb => wd_oe rfl (wd_u1 hb) rfl)
  rw [wd_e2 ht]
  congr 5
  funext m
  exact wd_u2
theorem wd_s1 {v : Int32} (ht : tp_t a = (3, n)) (hx : ¬(x < 0 ∨ n ≤ x.toNatClampNeg)) (hv : mi_fit .boolean (.int v) = true) : mi_as_i1 a x v (wd_k S) = some (wd_k (wd_i S a x.toNatClampNeg v)) := by
  obtain ⟨h1, h2⟩ := wd_mg (S := S) (a := a) (by rw [ht]; exact Nat.le_of_ble_eq_true rfl)
  unfold mi_as_i1
  rw [h1, wd_e3 ht]
  refine (if_neg (fun h => h.elim h2 hx)).trans ?_
  rw [if_pos hv]
  congr 1
  refine wd_ext rfl ?_ (fun b hb => wd_oe (wd_u1 hb) rfl rfl)
  rw [wd_e3 ht]
  congr 4
  funext m
  exact wd_u2
theorem wd_al (ht : tp_t a = (1, n) ∨ tp_t a = (2, n) ∨ tp_t a = (3, n)) : mi_alen L a (wd_k S) = some (.int (Int32.ofNat n)) := by
  unfold mi_alen
  rcases ht with ht | ht | ht
  · obtain ⟨h1, h2⟩ := wd_mg (S := S) (a := a) (by rw [ht]; exact Nat.le_of_ble_eq_true rfl)
    rw [if_neg h2, h1, wd_e1 ht]
  · obtain ⟨h1, h2⟩ := wd_mg (S := S) (a := a) (by rw [ht]; exact Nat.le_of_ble_eq_true rfl)
    rw [if_neg h2, h1, wd_e2 ht]
  · obtain ⟨h1, h2⟩ := wd_mg (S := S) (a := a) (by rw [ht]; exact Nat.le_of_ble_eq_true rfl)
    rw [if_neg h2, h1, wd_e3 ht]
theorem wd_rc {P : mi_P} {k ci : Nat} {as : List Value} (ht : tp_t a = (0, ci)) (hk : mi_kc P k = ci) : mi_rc P k (wd_k S) (.ref a :: as) = true := by
  obtain ⟨h1, h2⟩ := wd_mg (S := S) (a := a) (by rw [ht]; exact Nat.zero_le _)
  unfold mi_rc
  simp only []
  rw [h1, wd_eo ht]
  simp only [hk, decide_true, Bool.and_true]
  exact decide_eq_true h2
theorem wd_th : mi_push (wd_k S) 6 mi_dead = wd_k (wd_n S) := by
  unfold mi_push wd_k
  show (_, _, _) = (tp_c + (S.2.2.2 + 1), tp_s + 6 * (S.2.2.2 + 1), wd_e (wd_n S))
  congr 1
  congr 1
  funext b
  have h0 : wd_e (wd_n S) b = wd_e S b := wd_oe rfl rfl rfl
  rw [h0]
  by_cases hb : b = tp_c + S.2.2.2
  · rw [if_pos hb]
    have : ¬ (tp_t b).1 ≤ 3 := fun h => by have := (tp_ok b h).1; omega
    unfold wd_e
    rw [if_neg (by omega), if_neg (by omega), if_neg (by omega), if_neg (by omega)]
  · rw [if_neg hb]
end WdArr
