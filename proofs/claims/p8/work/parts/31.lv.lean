/-! A run that goes through with some locals goes through with more of them. -/
def ls_sub (a b : mi_L) : Prop := (a.map (fun q => q.1)).Nodup ∧ ∀ i v, mi_lget a i = some v → mi_lget b i = some v
theorem ls_cons {k i : Nat} {v : Value} {l : mi_L} : mi_lget ((k, v) :: l) i = if k = i then some v else mi_lget l i := by
  unfold mi_lget
  rw [List.find?_cons]
  by_cases h : k = i
  · rw [if_pos h]
    have h1 : (((k, v) : Nat × Value).1 == i) = true := by simp [h]
    simp only [h1, Option.map_some]
  · rw [if_neg h]
    have h1 : (((k, v) : Nat × Value).1 == i) = false := by simp [h]
    simp only [h1]
theorem ls_mem {i : Nat} {v : Value} : ∀ {l : mi_L}, mi_lget l i = some v → i ∈ l.map (fun q => q.1) := by
  intro l
  induction l with
  | nil => intro h; cases h
  | cons q r ih =>
    intro h
    rw [ls_cons] at h
    by_cases hq : q.1 = i
    · simp [hq]
    · rw [if_neg hq] at h
      exact List.mem_cons_of_mem _ (ih h)
theorem ls_f1 {p : Nat × Value → Bool} {i : Nat} {v : Value} : ∀ {l : mi_L}, (l.map (fun q => q.1)).Nodup → mi_lget (l.filter p) i = some v → mi_lget l i = some v ∧ p (i, v) = true := by
  intro l
  induction l with
  | nil => intro _ h; cases h
  | cons q r ih =>
    intro hn h
    rw [List.map_cons, List.nodup_cons] at hn
    rw [List.filter_cons] at h
    cases hp : p q with
    | true =>
      rw [if_pos hp] at h
      rw [ls_cons] at h ⊢
      by_cases hq : q.1 = i
      · rw [if_pos hq] at h ⊢
        cases h
        exact ⟨rfl, by rw [← hq]; exact hp⟩
      · rw [if_neg hq] at h ⊢
        exact ih hn.2 h
    | false =>
      rw [if_neg (by rw [hp]; exact Bool.false_ne_true)] at h
      obtain ⟨h1, h2⟩ := ih hn.2 h
      rw [ls_cons]
      have hq : q.1 ≠ i := fun e => hn.1 (by rw [e]; exact ls_mem h1)
      rw [if_neg hq]
      exact ⟨h1, h2⟩
theorem ls_f2 {p : Nat × Value → Bool} {i : Nat} {v : Value} : ∀ {l : mi_L}, mi_lget l i = some v → p (i, v) = true → mi_lget (l.filter p) i = some v := by
  intro l
  induction l with
  | nil => intro h; cases h
  | cons q r ih =>
    intro h hp
    rw [ls_cons] at h
    rw [List.filter_cons]
    by_cases hq : q.1 = i
    · rw [if_pos hq] at h
      cases h
      have h1 : p q = true := by
        have : q = (i, q.2) := by rw [← hq]
        rw [this]; exact hp
      rw [if_pos h1, ls_cons, if_pos hq]
    · rw [if_neg hq] at h
      cases h1 : p q with
      | true => rw [if_pos rfl, ls_cons, if_neg hq]; exact ih h hp
      | false => rw [if_neg Bool.false_ne_true]; exact ih h hp
theorem ls_nd {p : Nat × Value → Bool} {l : mi_L} (h : (l.map (fun q => q.1)).Nodup) : ((l.filter p).map (fun q => q.1)).Nodup :=
  List.Nodup.sublist (List.Sublist.map _ List.filter_sublist) h
theorem ls_filter {p : Nat × Value → Bool} {a b : mi_L} (h : ls_sub a b) : ls_sub (a.filter p) (b.filter p) := by
  refine ⟨ls_nd h.1, fun i v hv => ?_⟩
  obtain ⟨h1, h2⟩ := ls_f1 h.1 hv
  exact ls_f2 (h.2 i v h1) h2
theorem ls_put {p : Nat × Value → Bool} {a b : mi_L} {k : Nat} {w : Value} (hp : ∀ v, p (k, v) = false) (h : ls_sub a b) : ls_sub ((k, w) :: a.filter p) ((k, w) :: b.filter p) := by
  have h0 := ls_filter (p := p) h
  refine ⟨?_, fun i v hv => ?_⟩
  · rw [List.map_cons, List.nodup_cons]
    refine ⟨fun hm => ?_, h0.1⟩
    obtain ⟨q, hq, e1⟩ := List.mem_map.mp hm
    have h1 := (List.mem_filter.mp hq).2
    have h2 := hp q.2
    have e1 : q.1 = k := e1
    have e2 : q = (k, q.2) := by rw [← e1]
    rw [e2, h2] at h1
    cases h1
  · rw [ls_cons] at hv ⊢
    by_cases hk : k = i
    · rw [if_pos hk] at hv ⊢; exact hv
    · rw [if_neg hk] at hv ⊢; exact h0.2 i v hv
theorem ls_st1 {a b : mi_L} {k : Nat} {w : Value} (h : ls_sub a b) : ls_sub (mi_st1 a k w) (mi_st1 b k w) := ls_put (fun v => by simp) h
theorem ls_st2 {a b : mi_L} {k : Nat} {w : Value} (h : ls_sub a b) : ls_sub (mi_st2 a k w) (mi_st2 b k w) := ls_put (fun v => by simp) h
theorem ls_subs {a b : mi_L} {k : Nat} (h : ls_sub a b) : ls_sub (mi_sub a k) (mi_sub b k) := ls_filter h
theorem ls_ld {k n : Nat} {a b : mi_L} {st r : List Value} (h : ls_sub a b) (hh : mi_ld k a n st = some r) : mi_ld k b n st = some r := by
  unfold mi_ld at hh ⊢
  cases hg : mi_lget a n with
  | none => rw [hg] at hh; cases hh
  | some v => rw [h.2 n v hg]; rw [hg] at hh; exact hh
theorem ls_loc {nL : Nat} {i : Instr} {a b : mi_L} {st : List Value} {q : mi_L × List Value} (h : ls_sub a b) (hh : mi_loc nL i a st = some q) : ∃ b', mi_loc nL i b st = some (b', q.2) ∧ ls_sub q.1 b' := by
  have sto : ∀ k n, mi_sto nL k a n st = some q → ∃ b', mi_sto nL k b n st = some (b', q.2) ∧ ls_sub q.1 b' := by
    intro k n hs
    unfold mi_sto at hs ⊢
    split at hs
    case h_6 => cases hs
    case h_2 =>
      split at hs
      · next hc => cases hs; exact ⟨_, if_pos hc, ls_st2 h⟩
      · cases hs
    all_goals
      split at hs
      · next hc => cases hs; exact ⟨_, if_pos hc, ls_st1 h⟩
      · cases hs
  have ld : ∀ k n, (mi_ld k a n st).map (fun r => (a, r)) = some q → ∃ b', (mi_ld k b n st).map (fun r => (b, r)) = some (b', q.2) ∧ ls_sub q.1 b' := by
    intro k n hs
    obtain ⟨r, hr, e1⟩ := Option.map_eq_some_iff.mp hs
    cases e1
    exact ⟨b, by rw [ls_ld h hr]; rfl, h⟩
  unfold mi_loc at hh
  split at hh
  case h_1 => exact ld _ _ hh
  case h_2 => exact ld _ _ hh
  case h_3 => exact ld _ _ hh
  case h_4 => exact ld _ _ hh
  case h_5 => exact ld _ _ hh
  case h_6 => exact ld _ _ hh
  case h_7 => exact sto _ _ hh
  case h_8 => exact sto _ _ hh
  case h_9 => exact sto _ _ hh
  case h_10 => exact sto _ _ hh
  case h_11 => exact sto _ _ hh
  case h_12 => exact sto _ _ hh
  case h_13 =>
    rename_i k n
    obtain ⟨r, hr, e1⟩ := Option.map_eq_some_iff.mp hh
    cases e1
    unfold mi_inc at hr
    cases hg : mi_lget a k with
    | none => rw [hg] at hr; cases hr
    | some v =>
      rw [hg] at hr
      cases v with
      | int x =>
        simp only [] at hr
        by_cases hc : k < nL
        · rw [if_pos hc] at hr
          cases hr
          refine ⟨_, ?_, ls_st1 h⟩
          show (mi_inc nL b k n).map _ = _
          unfold mi_inc
          rw [h.2 k _ hg]
          simp only [if_pos hc]
          rfl
        · rw [if_neg hc] at hr; cases hr
      | long x => cases hr
      | float x => cases hr
      | double x => cases hr
      | null => cases hr
      | ref x => cases hr
      | retAddr x => cases hr
  case h_14 => cases hh
def ls_S (q q' : mi_S) : Prop := match q, q' with
  | .inl a, .inl b => b.1 = a.1 ∧ ls_sub a.2.1 b.2.1 ∧ b.2.2 = a.2.2
  | .inr a, .inr b => b = a
  | _, _ => False
theorem ls_kd5 {P : mi_P} {c : mi_C} {j pc : Nat} {i : Instr} {lv : mi_L} {st : List Value} {h : mi_H} {q : mi_S} (hh : mi_inv P c j i pc lv st h = some q) : sy_kd i = 5 := by
  unfold mi_inv at hh
  cases hs : mi_site P j i with
  | none => rw [hs] at hh; cases hh
  | some w =>
    unfold mi_site at hs
    split at hs
    · rfl
    · rfl
    · rfl
    · cases hs
theorem ls_inv {P : mi_P} {c : mi_C} {j pc : Nat} {i : Instr} {a b : mi_L} {st : List Value} {h : mi_H} {q : mi_S} (hs : ls_sub a b) (hh : mi_inv P c j i pc a st h = some q) : ∃ q', mi_inv P c j i pc b st h = some q' ∧ ls_S q q' := by
  unfold mi_inv at hh ⊢
  cases hsi : mi_site P j i with
  | none => rw [hsi] at hh; cases hh
  | some w =>
    obtain ⟨k, kind, n, ix⟩ := w
    rw [hsi] at hh
    simp only [] at hh ⊢
    by_cases h3 : kind = 3
    · rw [if_pos h3] at hh ⊢
      split at hh
      · next x r =>
        by_cases hw : mi_wt r ≤ 8
        · rw [if_pos hw] at hh
          cases hh
          exact ⟨.inl (pc + 3, b, r, h), if_pos hw, rfl, hs, rfl⟩
        · rw [if_neg hw] at hh; cases hh
      · cases hh
    · rw [if_neg h3] at hh ⊢
      by_cases h6 : kind = 6
      · rw [if_pos h6] at hh ⊢
        cases ht : mi_targs n st with
        | none => rw [ht] at hh; cases hh
        | some w =>
          obtain ⟨t, as, r⟩ := w
          rw [ht] at hh
          simp only [] at hh ⊢
          by_cases hw : mi_wt r ≤ 8
          · rw [if_pos hw] at hh ⊢
            cases hp : mi_pr P k (.retAddr t :: as) with
            | none => rw [hp] at hh; cases hh
            | some v =>
              rw [hp] at hh
              cases hh
              exact ⟨.inl (pc + 3, b, v :: r, h), rfl, rfl, hs, rfl⟩
          · rw [if_neg hw] at hh; cases hh
      · rw [if_neg h6] at hh ⊢
        cases ha : mi_cargs kind n st with
        | none => rw [ha] at hh; cases hh
        | some w =>
          obtain ⟨as, r⟩ := w
          rw [ha] at hh
          simp only [] at hh ⊢
          by_cases hcond : mi_wt r ≤ 8 ∧ (kind = 0 → mi_rc P k h as = true)
          · rw [if_pos hcond] at hh ⊢
            cases hk : c k as h with
            | none => rw [hk] at hh; cases hh
            | some w =>
              obtain ⟨o, g⟩ := w
              rw [hk] at hh
              cases o with
              | inl v =>
                simp only [] at hh ⊢
                cases hh
                exact ⟨.inl (pc + 3, b, v.toList ++ r, g), rfl, rfl, hs, rfl⟩
              | inr E =>
                simp only [] at hh ⊢
                by_cases hk2 : kind = 2 ∨ kind = 4
                · rw [if_pos hk2] at hh; cases hh
                · rw [if_neg hk2] at hh ⊢
                  unfold mi_exc at hh ⊢
                  cases hc : mi_ca P j pc E with
                  | none =>
                    rw [hc] at hh
                    simp only [] at hh ⊢
                    by_cases he : (mi_hh P j).isEmpty = true
                    · rw [if_pos he] at hh ⊢
                      cases hh
                      exact ⟨_, rfl, rfl⟩
                    · rw [if_neg he] at hh; cases hh
                  | some hp =>
                    rw [hc] at hh
                    simp only [] at hh ⊢
                    split at hh
                    · next q1 hi =>
                      by_cases hm : (q1 : Nat) < mi_mx P j
                      · rw [if_pos hm] at hh
                        cases hh
                        exact ⟨.inl (hp + 1, mi_sub b (q1 : Nat), [], g), if_pos hm, rfl, ls_subs hs, rfl⟩
                      · rw [if_neg hm] at hh; cases hh
                    · next q1 hi =>
                      by_cases hm : q1 < mi_mx P j
                      · rw [if_pos hm] at hh
                        cases hh
                        exact ⟨.inl (hp + 2, mi_sub b q1, [], g), if_pos hm, rfl, ls_subs hs, rfl⟩
                      · rw [if_neg hm] at hh; cases hh
                    · cases hh
          · rw [if_neg hcond] at hh; cases hh
theorem ls_step {P : mi_P} {L : Nat} {xs : Nat → Int32} {c : mi_C} {j pc : Nat} {a b : mi_L} {st : List Value} {h : mi_H} {q : mi_S} (hs : ls_sub a b) (hi : mi_step P L xs c j pc a st h = some q) : ∃ q', mi_step P L xs c j pc b st h = some q' ∧ ls_S q q' := by
  unfold mi_step at hi
  cases h1 : mi_th P j pc with
  | some E =>
    rw [h1] at hi
    simp only [] at hi
    by_cases he : st.isEmpty = true
    · rw [if_pos he] at hi
      cases hi
      refine ⟨.inr (.inr E, mi_push h 6 mi_dead), ?_, rfl⟩
      unfold mi_step
      simp only [h1, if_pos he]
    · rw [if_neg he] at hi; cases hi
  | none =>
    rw [h1] at hi
    simp only [] at hi
    cases h2 : mi_is P j pc with
    | none => rw [h2] at hi; cases hi
    | some i =>
      rw [h2] at hi
      simp only [] at hi
      cases h3 : mi_pure i st with
      | some w => rw [h3] at hi; cases hi; exact ⟨_, sy_step0 h1 h2 h3, rfl, hs, rfl⟩
      | none =>
        rw [h3] at hi
        simp only [] at hi
        cases h4 : mi_loc (mi_mx P j) i a st with
        | some w =>
          rw [h4] at hi
          cases hi
          obtain ⟨b', h5, h6⟩ := ls_loc hs h4
          exact ⟨_, sy_step1 h1 h2 h5, rfl, h6, rfl⟩
        | none =>
          rw [h4] at hi
          simp only [] at hi
          cases h5 : mi_jmp i pc st with
          | some w => rw [h5] at hi; cases hi; exact ⟨_, sy_step2 h1 h2 h5, rfl, hs, rfl⟩
          | none =>
            rw [h5] at hi
            simp only [] at hi
            cases h6 : mi_heap P L xs j i st h with
            | some w => rw [h6] at hi; cases hi; exact ⟨_, sy_step3 h1 h2 h6, rfl, hs, rfl⟩
            | none =>
              rw [h6] at hi
              simp only [] at hi
              cases h7 : mi_ret (mi_rt P j) i st with
              | some w => rw [h7] at hi; cases hi; exact ⟨_, sy_step4 h1 h2 h7, rfl⟩
              | none =>
                rw [h7] at hi
                simp only [] at hi
                obtain ⟨q', h8, h9⟩ := ls_inv hs hi
                exact ⟨q', sy_step5 h1 h2 (ls_kd5 hi) h8, h9⟩
theorem ls_run {P : mi_P} {L : Nat} {xs : Nat → Int32} {c : mi_C} {j : Nat} : ∀ (n pc : Nat) (a b : mi_L) (st : List Value) (h : mi_H) (r : mi_O × mi_H), ls_sub a b → mi_run P L xs c j n pc a st h = some r → mi_run P L xs c j n pc b st h = some r := by
  intro n
  induction n with
  | zero => intro pc a b st h r _ hr; cases hr
  | succ n ih =>
    intro pc a b st h r hs hr
    rw [mi_run] at hr ⊢
    cases hq : mi_step P L xs c j pc a st h with
    | none => rw [hq] at hr; cases hr
    | some q =>
      rw [hq] at hr
      obtain ⟨q', h1, h2⟩ := ls_step hs hq
      rw [h1]
      cases q with
      | inr o =>
        cases q' with
        | inl w => exact absurd h2 (fun hf => hf)
        | inr o' => have h2 : o' = o := h2; subst h2; exact hr
      | inl w =>
        cases q' with
        | inr o' => exact absurd h2 (fun hf => hf)
        | inl w' =>
          obtain ⟨e1, e2, e3⟩ := h2
          obtain ⟨x1, x2, x3⟩ := w
          obtain ⟨y1, y2, y3⟩ := w'
          simp only [] at e1 e2 e3 hr ⊢
          subst e1
          subst e3
          exact ih _ _ _ _ _ _ e2 hr
theorem go_lv {P : mi_P} {L : Nat} {xs : Nat → Int32} {d j pc : Nat} {a b : mi_L} {st : List Value} {h : mi_H} {r : mi_O × mi_H} (hs : ls_sub a b) (hg : go_r P L xs d j pc a st h r) : go_r P L xs d j pc b st h r := by
  obtain ⟨F, hF⟩ := hg
  exact ⟨F, ls_run _ _ _ _ _ _ _ hs hF⟩
theorem ls_nil {b : mi_L} : ls_sub [] b := ⟨List.nodup_nil, fun i v h => by cases h⟩
theorem ls_sc {a b : mi_L} {k : Nat} {v : Value} (hk : (a.map (fun q => q.1)).elem k = false) (hv : mi_lget b k = some v) (h : ls_sub a b) : ls_sub ((k, v) :: a) b := by
  refine ⟨?_, fun i w hw => ?_⟩
  · rw [List.map_cons, List.nodup_cons]
    refine ⟨fun hm => ?_, h.1⟩
    rw [List.elem_eq_true_of_mem hm] at hk
    exact Bool.noConfusion hk
  · rw [ls_cons] at hw
    by_cases e : k = i
    · rw [if_pos e] at hw
      cases hw
      rw [← e]; exact hv
    · rw [if_neg e] at hw; exact h.2 i w hw
