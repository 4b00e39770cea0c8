/-! Runs whose fuel nobody counts: ev_r a call that comes back, go_r a run from a place on. -/
def ev_C (c c' : mi_C) : Prop := ∀ k as h r, c k as h = some r → c' k as h = some r
theorem ev_inv {P : mi_P} {c c' : mi_C} (hc : ev_C c c') {j pc : Nat} {i : Instr} {lv : mi_L} {st : List Value} {h : mi_H} {q : mi_S} (hi : mi_inv P c j i pc lv st h = some q) : mi_inv P c' j i pc lv st h = some q := by
  unfold mi_inv at hi ⊢
  cases hs : mi_site P j i with
  | none => rw [hs] at hi; cases hi
  | some w =>
    obtain ⟨k, kind, n, ix⟩ := w
    rw [hs] at hi
    simp only [] at hi ⊢
    by_cases h3 : kind = 3
    · rw [if_pos h3] at hi ⊢; exact hi
    · rw [if_neg h3] at hi ⊢
      by_cases h6 : kind = 6
      · rw [if_pos h6] at hi ⊢; exact hi
      · rw [if_neg h6] at hi ⊢
        cases ha : mi_cargs kind n st with
        | none => rw [ha] at hi; cases hi
        | some w =>
          obtain ⟨as, r⟩ := w
          rw [ha] at hi
          simp only [] at hi ⊢
          by_cases hcond : mi_wt r ≤ 8 ∧ (kind = 0 → mi_rc P k h as = true)
          · rw [if_pos hcond] at hi ⊢
            cases hk : c k as h with
            | none => rw [hk] at hi; cases hi
            | some w => rw [hc _ _ _ _ hk]; rw [hk] at hi; exact hi
          · rw [if_neg hcond] at hi; cases hi
theorem ev_step {P : mi_P} {L : Nat} {xs : Nat → Int32} {c c' : mi_C} (hc : ev_C c c') {j pc : Nat} {lv : mi_L} {st : List Value} {h : mi_H} {q : mi_S} (hi : mi_step P L xs c j pc lv st h = some q) : mi_step P L xs c' j pc lv st h = some q := by
  unfold mi_step at hi ⊢
  cases h1 : mi_th P j pc with
  | some E => rw [h1] at hi; exact hi
  | none =>
    rw [h1] at hi
    simp only [] at hi ⊢
    cases h2 : mi_is P j pc with
    | none => rw [h2] at hi; cases hi
    | some i =>
      rw [h2] at hi
      simp only [] at hi ⊢
      cases h3 : mi_pure i st with
      | some w => rw [h3] at hi; exact hi
      | none =>
        rw [h3] at hi
        simp only [] at hi ⊢
        cases h4 : mi_loc (mi_mx P j) i lv st with
        | some w => rw [h4] at hi; exact hi
        | none =>
          rw [h4] at hi
          simp only [] at hi ⊢
          cases h5 : mi_jmp i pc st with
          | some w => rw [h5] at hi; exact hi
          | none =>
            rw [h5] at hi
            simp only [] at hi ⊢
            cases h6 : mi_heap P L xs j i st h with
            | some w => rw [h6] at hi; exact hi
            | none =>
              rw [h6] at hi
              simp only [] at hi ⊢
              cases h7 : mi_ret (mi_rt P j) i st with
              | some w => rw [h7] at hi; exact hi
              | none =>
                rw [h7] at hi
                simp only [] at hi ⊢
                exact ev_inv hc hi
theorem ev_run {P : mi_P} {L : Nat} {xs : Nat → Int32} {c c' : mi_C} (hc : ev_C c c') {j : Nat} : ∀ (n m pc : Nat) (lv : mi_L) (st : List Value) (h : mi_H) (r : mi_O × mi_H), mi_run P L xs c j n pc lv st h = some r → n ≤ m → mi_run P L xs c' j m pc lv st h = some r := by
  intro n
  induction n with
  | zero => intro m pc lv st h r hr; cases hr
  | succ n ih =>
    intro m pc lv st h r hr hm
    obtain ⟨m, rfl⟩ : ∃ k, m = k + 1 := ⟨m - 1, by omega⟩
    rw [mi_run] at hr ⊢
    cases hs : mi_step P L xs c j pc lv st h with
    | none => rw [hs] at hr; cases hr
    | some q =>
      rw [hs] at hr
      rw [ev_step hc hs]
      cases q with
      | inl q => exact ih _ _ _ _ _ _ hr (by omega)
      | inr o => exact hr
theorem ev_call {P : mi_P} {L : Nat} {xs : Nat → Int32} {F F' : Nat} (hF : F ≤ F') : ∀ (d d' : Nat), d ≤ d' → ev_C (mi_call P L xs F d) (mi_call P L xs F' d') := by
  intro d
  induction d with
  | zero => intro d' _ k as h r hr; cases hr
  | succ d ih =>
    intro d' hd k as h r hr
    obtain ⟨d', rfl⟩ : ∃ e, d' = e + 1 := ⟨d' - 1, by omega⟩
    unfold mi_call at hr ⊢
    by_cases hw : mi_wt as ≤ mi_mx P k
    · rw [if_pos hw] at hr ⊢
      exact ev_run (ih d' (by omega)) _ _ _ _ _ _ _ hr hF
    · rw [if_neg hw] at hr; cases hr
def ev_r (P : mi_P) (L : Nat) (xs : Nat → Int32) (d j : Nat) (as : List Value) (h : mi_H) (r : mi_O × mi_H) : Prop := ∃ F, mi_call P L xs F d j as h = some r
def go_r (P : mi_P) (L : Nat) (xs : Nat → Int32) (d j pc : Nat) (lv : mi_L) (st : List Value) (h : mi_H) (r : mi_O × mi_H) : Prop := ∃ F, mi_run P L xs (mi_call P L xs F d) j F pc lv st h = some r
section EvGo
variable {P : mi_P} {L : Nat} {xs : Nat → Int32} {d j pc : Nat} {lv : mi_L} {st : List Value} {h : mi_H} {r : mi_O × mi_H}
theorem ev_up {as : List Value} {d' : Nat} (hd : d ≤ d') (he : ev_r P L xs d j as h r) : ev_r P L xs d' j as h r := by
  obtain ⟨F, hF⟩ := he
  exact ⟨F, ev_call (Nat.le_refl _) _ _ hd _ _ _ _ hF⟩
theorem go_up {d' : Nat} (hd : d ≤ d') (hg : go_r P L xs d j pc lv st h r) : go_r P L xs d' j pc lv st h r := by
  obtain ⟨F, hF⟩ := hg
  exact ⟨F, ev_run (ev_call (Nat.le_refl _) _ _ hd) _ _ _ _ _ _ _ hF (Nat.le_refl _)⟩
theorem go_s {q : Nat × mi_L × List Value × mi_H} (hs : ∀ c, mi_step P L xs c j pc lv st h = some (.inl q)) (hg : go_r P L xs d j q.1 q.2.1 q.2.2.1 q.2.2.2 r) : go_r P L xs d j pc lv st h r := by
  obtain ⟨F, hF⟩ := hg
  refine ⟨F + 1, ?_⟩
  rw [mi_run, hs]
  exact ev_run (ev_call (Nat.le_succ _) _ _ (Nat.le_refl _)) _ _ _ _ _ _ _ hF (Nat.le_refl _)
theorem go_e (hs : ∀ c, mi_step P L xs c j pc lv st h = some (.inr r)) : go_r P L xs d j pc lv st h r := by
  refine ⟨1, ?_⟩
  rw [mi_run, hs]
theorem go_c {q : Nat × mi_L × List Value × mi_H} {k : Nat} {as : List Value} {rc : mi_O × mi_H} (he : ev_r P L xs d k as h rc) (hs : ∀ c : mi_C, c k as h = some rc → mi_step P L xs c j pc lv st h = some (.inl q)) (hg : go_r P L xs d j q.1 q.2.1 q.2.2.1 q.2.2.2 r) : go_r P L xs d j pc lv st h r := by
  obtain ⟨F, hF⟩ := hg
  obtain ⟨G, hG⟩ := he
  refine ⟨F + G + 1, ?_⟩
  rw [mi_run, hs _ (ev_call (show G ≤ F + G + 1 by omega) _ _ (Nat.le_refl _) _ _ _ _ hG)]
  exact ev_run (ev_call (show F ≤ F + G + 1 by omega) _ _ (Nat.le_refl _)) _ _ _ _ _ _ _ hF (by omega)
theorem go_ce {k : Nat} {as : List Value} {rc : mi_O × mi_H} (he : ev_r P L xs d k as h rc) (hs : ∀ c : mi_C, c k as h = some rc → mi_step P L xs c j pc lv st h = some (.inr r)) : go_r P L xs d j pc lv st h r := by
  obtain ⟨G, hG⟩ := he
  refine ⟨G + 1, ?_⟩
  rw [mi_run, hs _ (ev_call (show G ≤ G + 1 by omega) _ _ (Nat.le_refl _) _ _ _ _ hG)]
theorem ev_of {as : List Value} (hw : mi_wt as ≤ mi_mx P j) (hg : go_r P L xs d j 0 (lv_args 0 as) [] h r) : ev_r P L xs (d + 1) j as h r := by
  obtain ⟨F, hF⟩ := hg
  refine ⟨F, ?_⟩
  unfold mi_call
  rw [if_pos hw]
  exact hF
end EvGo
