/-! The small machine's step and run. -/
def mi_sub (lv : mi_L) (i : Nat) : mi_L := lv.filter (fun q => !(q.1 == i) && !(q.1 + 1 == i && q.2.category == 2))
def mi_wt (st : List Value) : Nat := (st.map fun v => v.category).sum
def mi_ret (rt : Option FieldType) (i : Instr) (st : List Value) : Option (Option Value) := match i, st with
  | .ireturn, [.int x] => match rt with
    | some .int => some (some (.int x))
    | some .boolean => if mi_fit .boolean (.int x) = true then some (some (.int x)) else none
    | _ => none
  | .lreturn, [.long x] => match rt with
    | some .long => some (some (.long x))
    | _ => none
  | .areturn, [.ref a] => match rt with
    | some (.object _) => some (some (.ref a))
    | _ => none
  | .areturn, [.retAddr t] => match rt with
    | some (.object _) => some (some (.retAddr t))
    | _ => none
  | .return_, [] => match rt with
    | none => some none
    | _ => none
  | _, _ => none
/-- a call's place: the method, its kind (0 virtual, 1 static, 2 a constructor, 3 Object's, 4 a nest mate's static, 5 a static with handlers, 6 a member of a text), how many arguments -/
def mi_site (P : mi_P) (j : Nat) (i : Instr) : Option (Nat × Nat × Nat × Nat) := match i with
  | .invokevirtual ix => match mi_iv P j ix with
    | some (k, kind, n) => if kind = 0 ∨ kind = 6 then some (k, kind, n, ix) else none
    | none => none
  | .invokestatic ix => match mi_iv P j ix with
    | some (k, kind, n) => if kind = 1 ∨ kind = 4 ∨ kind = 5 then some (k, kind, n, ix) else none
    | none => none
  | .invokespecial ix => match mi_iv P j ix with
    | some (k, kind, n) => if kind = 2 ∨ kind = 3 then some (k, kind, n, ix) else none
    | none => none
  | _ => none
def mi_cargs (kind n : Nat) (st : List Value) : Option (List Value × List Value) :=
  if kind = 0 ∨ kind = 2 then (match st.drop n with
    | .ref a :: r => some (.ref a :: (st.take n).reverse, r)
    | _ => none)
  else if n ≤ st.length then some ((st.take n).reverse, st.drop n) else none
def mi_rc (P : mi_P) (k : Nat) (h : mi_H) (as : List Value) : Bool := match as with
  | .ref a :: _ => match mi_get h a with
    | some (.inr (ci, _)) => decide (a ≠ 0) && decide (ci = mi_kc P k)
    | _ => false
  | _ => false
abbrev mi_S : Type := (Nat × mi_L × List Value × mi_H) ⊕ (mi_O × mi_H)
abbrev mi_C : Type := Nat → List Value → mi_H → Option (mi_O × mi_H)
/-- a member of a text: its arguments, what is below -/
def mi_targs (n : Nat) (st : List Value) : Option (Nat × List Value × List Value) := match st.drop n with
  | .retAddr t :: r => some (t, (st.take n).reverse, r)
  | _ => none
/-- a throw comes back from a call -/
def mi_exc (P : mi_P) (j pc : Nat) (lv : mi_L) (E : String) (g : mi_H) : Option mi_S := match mi_ca P j pc E with
  | none => if (mi_hh P j).isEmpty = true then some (.inr (.inr E, g)) else none
  | some hp => match mi_is P j hp with
    | some (.astore_n q) => if (q : Nat) < mi_mx P j then some (.inl (hp + 1, mi_sub lv (q : Nat), [], g)) else none
    | some (.astore q) => if q < mi_mx P j then some (.inl (hp + 2, mi_sub lv q, [], g)) else none
    | _ => none
def mi_inv (P : mi_P) (call : mi_C) (j : Nat) (i : Instr) (pc : Nat) (lv : mi_L) (st : List Value) (h : mi_H) : Option mi_S := match mi_site P j i with
  | none => none
  | some (k, kind, n, _) =>
    if kind = 3 then (match st with
      | .ref _ :: r => if mi_wt r ≤ 8 then some (.inl (pc + 3, lv, r, h)) else none
      | _ => none)
    else if kind = 6 then (match mi_targs n st with
      | some (t, as, r) => if mi_wt r ≤ 8 then (match mi_pr P k (.retAddr t :: as) with
        | some v => some (.inl (pc + 3, lv, v :: r, h))
        | none => none) else none
      | none => none)
    else match mi_cargs kind n st with
      | none => none
      | some (as, r) => if mi_wt r ≤ 8 ∧ (kind = 0 → mi_rc P k h as = true) then (match call k as h with
          | none => none
          | some (.inl v, g) => some (.inl (pc + 3, lv, v.toList ++ r, g))
          | some (.inr E, g) => if kind = 2 ∨ kind = 4 then none else mi_exc P j pc lv E g)
        else none
/-- a thing of which nothing is known -/
def mi_dead : mi_E := .inr (1000000, [])
def mi_step (P : mi_P) (L : Nat) (xs : Nat → Int32) (call : mi_C) (j pc : Nat) (lv : mi_L) (st : List Value) (h : mi_H) : Option mi_S := match mi_th P j pc with
  | some E => if st.isEmpty = true then some (.inr (.inr E, mi_push h 6 mi_dead)) else none
  | none => match mi_is P j pc with
    | none => none
    | some i => match mi_pure i st with
      | some st' => some (.inl (pc + mi_len i, lv, st', h))
      | none => match mi_loc (mi_mx P j) i lv st with
        | some q => some (.inl (pc + mi_len i, q.1, q.2, h))
        | none => match mi_jmp i pc st with
          | some q => some (.inl (q.1, lv, q.2, h))
          | none => match mi_heap P L xs j i st h with
            | some q => some (.inl (pc + mi_len i, lv, q.1, q.2))
            | none => match mi_ret (mi_rt P j) i st with
              | some v => some (.inr (.inl v, h))
              | none => mi_inv P call j i pc lv st h
def mi_run (P : mi_P) (L : Nat) (xs : Nat → Int32) (call : mi_C) (j : Nat) : Nat → Nat → mi_L → List Value → mi_H → Option (mi_O × mi_H)
  | 0, _, _, _, _ => none
  | n + 1, pc, lv, st, h => match mi_step P L xs call j pc lv st h with
    | none => none
    | some (.inr o) => some o
    | some (.inl q) => mi_run P L xs call j n q.1 q.2.1 q.2.2.1 q.2.2.2
def mi_call (P : mi_P) (L : Nat) (xs : Nat → Int32) (fuel : Nat) : Nat → mi_C
  | 0, _, _, _ => none
  | d + 1, j, as, h => if mi_wt as ≤ mi_mx P j then mi_run P L xs (mi_call P L xs fuel d) j fuel 0 (lv_args 0 as) [] h else none
/-- cells and slots grow alone -/
def mi_le (h h' : mi_H) : Prop := h.1 ≤ h'.1 ∧ h.2.1 ≤ h'.2.1
theorem mi_le.rf (h : mi_H) : mi_le h h := ⟨Nat.le_refl _, Nat.le_refl _⟩
theorem mi_le.tr {h h1 h2 : mi_H} (a : mi_le h h1) (b : mi_le h1 h2) : mi_le h h2 := ⟨Nat.le_trans a.1 b.1, Nat.le_trans a.2 b.2⟩
theorem mi_heap_le {P : mi_P} {L : Nat} {xs : Nat → Int32} {j : Nat} {i : Instr} {st : List Value} {h : mi_H} {q : List Value × mi_H} (hi : mi_heap P L xs j i st h = some q) : mi_le h q.2 := by
  unfold mi_heap at hi
  split at hi
  · obtain ⟨v, -, e1⟩ := Option.map_eq_some_iff.mp hi; cases e1; exact mi_le.rf _
  · obtain ⟨v, hv, e1⟩ := Option.map_eq_some_iff.mp hi
    cases e1
    unfold mi_put_f at hv
    split at hv
    · split at hv
      · cases hv; exact mi_le.rf _
      · cases hv
    · cases hv
  · obtain ⟨v, -, e1⟩ := Option.map_eq_some_iff.mp hi; cases e1; exact mi_le.rf _
  · obtain ⟨v, -, e1⟩ := Option.map_eq_some_iff.mp hi; cases e1; exact mi_le.rf _
  · obtain ⟨v, -, e1⟩ := Option.map_eq_some_iff.mp hi; cases e1; exact mi_le.rf _
  · obtain ⟨v, hv, e1⟩ := Option.map_eq_some_iff.mp hi
    cases e1
    unfold mi_as_i4 at hv
    split at hv
    · split at hv
      · cases hv
      · cases hv; exact mi_le.rf _
    · cases hv
  · obtain ⟨v, hv, e1⟩ := Option.map_eq_some_iff.mp hi
    cases e1
    unfold mi_as_i8 at hv
    split at hv
    · split at hv
      · cases hv
      · cases hv; exact mi_le.rf _
    · cases hv
  · obtain ⟨v, hv, e1⟩ := Option.map_eq_some_iff.mp hi
    cases e1
    unfold mi_as_i1 at hv
    split at hv
    · split at hv
      · cases hv
      · split at hv
        · cases hv; exact mi_le.rf _
        · cases hv
    · cases hv
  · obtain ⟨v, -, e1⟩ := Option.map_eq_some_iff.mp hi; cases e1; exact mi_le.rf _
  · split at hi
    · cases hi
    · obtain ⟨v, -, e1⟩ := Option.map_eq_some_iff.mp hi; cases e1; exact ⟨Nat.le_succ _, Nat.le_add_right _ _⟩
  · obtain ⟨v, -, e1⟩ := Option.map_eq_some_iff.mp hi; cases e1; exact ⟨Nat.le_succ _, Nat.le_add_right _ _⟩
  · split at hi
    · cases hi; exact mi_le.rf _
    · cases hi; exact mi_le.rf _
    · cases hi
  · split at hi
    · cases hi; exact mi_le.rf _
    · cases hi
  · split at hi
    · cases hi; exact mi_le.rf _
    · cases hi
  · cases hi
def mi_snd (q : mi_S) : mi_H := match q with
  | .inl x => x.2.2.2
  | .inr x => x.2
theorem mi_exc_le {P : mi_P} {j pc : Nat} {lv : mi_L} {E : String} {g : mi_H} {q : mi_S} (h : mi_exc P j pc lv E g = some q) : mi_snd q = g := by
  unfold mi_exc at h
  split at h
  · split at h
    · cases h; rfl
    · cases h
  · split at h
    · split at h
      · cases h; rfl
      · cases h
    · split at h
      · cases h; rfl
      · cases h
    · cases h
theorem mi_inv_le {P : mi_P} {call : mi_C} {j : Nat} {i : Instr} {pc : Nat} {lv : mi_L} {st : List Value} {h : mi_H} {q : mi_S} (hc : ∀ k as g o g', call k as g = some (o, g') → mi_le g g') (hi : mi_inv P call j i pc lv st h = some q) : mi_le h (mi_snd q) := by
  unfold mi_inv at hi
  split at hi
  · cases hi
  · split at hi
    · split at hi
      · split at hi
        · cases hi; exact mi_le.rf _
        · cases hi
      · cases hi
    · split at hi
      · split at hi
        · split at hi
          · split at hi
            · cases hi; exact mi_le.rf _
            · cases hi
          · cases hi
        · cases hi
      · split at hi
        · cases hi
        · split at hi
          · split at hi
            · cases hi
            · next hcl => cases hi; exact hc _ _ _ _ _ hcl
            · next hcl =>
              split at hi
              · cases hi
              · rw [mi_exc_le hi]; exact hc _ _ _ _ _ hcl
          · cases hi
theorem mi_step_le {P : mi_P} {L : Nat} {xs : Nat → Int32} {call : mi_C} {j pc : Nat} {lv : mi_L} {st : List Value} {h : mi_H} {q : mi_S} (hc : ∀ k as g o g', call k as g = some (o, g') → mi_le g g') (hi : mi_step P L xs call j pc lv st h = some q) : mi_le h (mi_snd q) := by
  unfold mi_step at hi
  split at hi
  · split at hi
    · cases hi; exact ⟨Nat.le_succ _, Nat.le_add_right _ _⟩
    · cases hi
  · split at hi
    · cases hi
    · split at hi
      · cases hi; exact mi_le.rf _
      · split at hi
        · cases hi; exact mi_le.rf _
        · split at hi
          · cases hi; exact mi_le.rf _
          · split at hi
            · next hh => cases hi; exact mi_heap_le hh
            · split at hi
              · cases hi; exact mi_le.rf _
              · exact mi_inv_le hc hi
theorem mi_run_le {P : mi_P} {L : Nat} {xs : Nat → Int32} {call : mi_C} {j : Nat} (hc : ∀ k as g o g', call k as g = some (o, g') → mi_le g g') : ∀ (n pc : Nat) (lv : mi_L) (st : List Value) (h : mi_H) (o : mi_O) (h' : mi_H), mi_run P L xs call j n pc lv st h = some (o, h') → mi_le h h' := by
  intro n
  induction n with
  | zero => intro pc lv st h o h' hr; cases hr
  | succ n ih =>
    intro pc lv st h o h' hr
    unfold mi_run at hr
    split at hr
    · cases hr
    · next q hq => cases hr; exact mi_step_le hc hq
    · next q hq => exact (mi_step_le hc hq).tr (ih _ _ _ _ _ _ hr)
theorem mi_call_le {P : mi_P} {L : Nat} {xs : Nat → Int32} {fuel : Nat} : ∀ (d k : Nat) (as : List Value) (g : mi_H) (o : mi_O) (g' : mi_H), mi_call P L xs fuel d k as g = some (o, g') → mi_le g g' := by
  intro d
  induction d with
  | zero => intro k as g o g' h; cases h
  | succ d ih =>
    intro k as g o g' h
    unfold mi_call at h
    split at h
    · exact mi_run_le (fun k as g o g' h => ih k as g o g' h) _ _ _ _ _ _ _ h
    · cases h
