/-! A run doesn't look beyond the heap's end. -/
def hq_h (A h : mi_H) : Prop := h.1 = A.1 ∧ h.2.1 = A.2.1 ∧ ∀ a, a < A.1 → h.2.2 a = A.2.2 a
section Hq
variable {A h G : mi_H} {P : mi_P} {L : Nat} {xs : Nat → Int32} {j pc : Nat} {i : Instr} {lv : mi_L} {st : List Value}
theorem hq_get (H : hq_h A h) (a : Nat) : mi_get h a = mi_get A a := by
  unfold mi_get
  rw [H.1]
  by_cases ha : a < A.1
  · rw [if_pos ha, if_pos ha, H.2.2 a ha]
  · rw [if_neg ha, if_neg ha]
theorem hq_set (H : hq_h A h) {a : Nat} {x : mi_E} : hq_h (mi_set A a x) (mi_set h a x) := by
  refine ⟨H.1, H.2.1, fun b hb => ?_⟩
  show (if b = a then x else h.2.2 b) = (if b = a then x else A.2.2 b)
  rw [H.2.2 b hb]
theorem hq_push (H : hq_h A h) {n : Nat} {x : mi_E} : hq_h (mi_push A n x) (mi_push h n x) := by
  refine ⟨congrArg (· + 1) H.1, congrArg (· + n) H.2.1, fun b hb => ?_⟩
  have hb : b < A.1 + 1 := hb
  show (if b = h.1 then x else h.2.2 b) = (if b = A.1 then x else A.2.2 b)
  rw [H.1]
  by_cases e : b = A.1
  · rw [if_pos e, if_pos e]
  · rw [if_neg e, if_neg e, H.2.2 b (by omega)]
theorem hq_pf (H : hq_h A h) {ix a : Nat} {v : Value} (hh : mi_put_f P j ix a v A = some G) : ∃ g, mi_put_f P j ix a v h = some g ∧ hq_h G g := by
  unfold mi_put_f at hh ⊢
  rw [hq_get H a]
  cases hm : mi_get A a with
  | none => rw [hm] at hh; cases hh
  | some x =>
    cases x with
    | inl y => rw [hm] at hh; cases hh
    | inr y =>
      obtain ⟨ci, fs⟩ := y
      cases hf : mi_fl P j ix with
      | none => rw [hm, hf] at hh; cases hh
      | some z =>
        obtain ⟨cj, k, w⟩ := z
        rw [hm, hf] at hh
        simp only [] at hh ⊢
        by_cases hc : w = true ∧ a ≠ 0 ∧ ci = cj ∧ k < fs.length ∧ mi_fit (mi_ft P ci k) v = true
        · rw [if_pos hc] at hh ⊢
          cases hh
          exact ⟨_, rfl, hq_set H⟩
        · rw [if_neg hc] at hh; cases hh
theorem hq_a4 (H : hq_h A h) {a : Nat} {x v : Int32} (hh : mi_as_i4 a x v A = some G) : ∃ g, mi_as_i4 a x v h = some g ∧ hq_h G g := by
  unfold mi_as_i4 at hh ⊢
  rw [hq_get H a]
  generalize mi_get A a = y at hh ⊢
  split at hh
  · next n f =>
    by_cases hc : a = 0 ∨ x < 0 ∨ n ≤ x.toNatClampNeg
    · rw [if_pos hc] at hh; cases hh
    · rw [if_neg hc] at hh; cases hh; exact ⟨_, if_neg hc, hq_set H⟩
  · cases hh
theorem hq_a8 (H : hq_h A h) {a : Nat} {x : Int32} {v : Int64} (hh : mi_as_i8 a x v A = some G) : ∃ g, mi_as_i8 a x v h = some g ∧ hq_h G g := by
  unfold mi_as_i8 at hh ⊢
  rw [hq_get H a]
  generalize mi_get A a = y at hh ⊢
  split at hh
  · next n f =>
    by_cases hc : a = 0 ∨ x < 0 ∨ n ≤ x.toNatClampNeg
    · rw [if_pos hc] at hh; cases hh
    · rw [if_neg hc] at hh; cases hh; exact ⟨_, if_neg hc, hq_set H⟩
  · cases hh
theorem hq_a1 (H : hq_h A h) {a : Nat} {x v : Int32} (hh : mi_as_i1 a x v A = some G) : ∃ g, mi_as_i1 a x v h = some g ∧ hq_h G g := by
  unfold mi_as_i1 at hh ⊢
  rw [hq_get H a]
  generalize mi_get A a = y at hh ⊢
  split at hh
  · next n f =>
    by_cases hc : a = 0 ∨ x < 0 ∨ n ≤ x.toNatClampNeg
    · rw [if_pos hc] at hh; cases hh
    · rw [if_neg hc] at hh
      by_cases hf : mi_fit .boolean (.int v) = true
      · rw [if_pos hf] at hh; cases hh; exact ⟨_, by simp only [if_neg hc, if_pos hf], hq_set H⟩
      · rw [if_neg hf] at hh; cases hh
  · cases hh
theorem hq_heap (H : hq_h A h) {q : List Value × mi_H} (hh : mi_heap P L xs j i st A = some q) : ∃ g, mi_heap P L xs j i st h = some (q.1, g) ∧ hq_h q.2 g := by
  unfold mi_heap at hh
  split at hh
  · obtain ⟨w, hw, e1⟩ := Option.map_eq_some_iff.mp hh
    cases e1
    refine ⟨h, ?_, H⟩
    show (mi_get_f P j _ _ h).map _ = _
    unfold mi_get_f at hw ⊢
    rw [hq_get H, hw]
    rfl
  · obtain ⟨w, hw, e1⟩ := Option.map_eq_some_iff.mp hh
    cases e1
    obtain ⟨g, h1, h2⟩ := hq_pf H hw
    refine ⟨g, ?_, h2⟩
    show (mi_put_f P j _ _ _ h).map _ = _
    rw [h1]
    rfl
  · obtain ⟨w, hw, e1⟩ := Option.map_eq_some_iff.mp hh
    cases e1
    refine ⟨h, ?_, H⟩
    show (mi_ld_i4 L xs _ _ h).map _ = _
    unfold mi_ld_i4 at hw ⊢
    rw [hq_get H, hw]
    rfl
  · obtain ⟨w, hw, e1⟩ := Option.map_eq_some_iff.mp hh
    cases e1
    refine ⟨h, ?_, H⟩
    show (mi_ld_i8 _ _ h).map _ = _
    unfold mi_ld_i8 at hw ⊢
    rw [hq_get H, hw]
    rfl
  · obtain ⟨w, hw, e1⟩ := Option.map_eq_some_iff.mp hh
    cases e1
    refine ⟨h, ?_, H⟩
    show (mi_ld_i1 _ _ h).map _ = _
    unfold mi_ld_i1 at hw ⊢
    rw [hq_get H, hw]
    rfl
  · obtain ⟨w, hw, e1⟩ := Option.map_eq_some_iff.mp hh
    cases e1
    obtain ⟨g, h1, h2⟩ := hq_a4 H hw
    refine ⟨g, ?_, h2⟩
    show (mi_as_i4 _ _ _ h).map _ = _
    rw [h1]
    rfl
  · obtain ⟨w, hw, e1⟩ := Option.map_eq_some_iff.mp hh
    cases e1
    obtain ⟨g, h1, h2⟩ := hq_a8 H hw
    refine ⟨g, ?_, h2⟩
    show (mi_as_i8 _ _ _ h).map _ = _
    rw [h1]
    rfl
  · obtain ⟨w, hw, e1⟩ := Option.map_eq_some_iff.mp hh
    cases e1
    obtain ⟨g, h1, h2⟩ := hq_a1 H hw
    refine ⟨g, ?_, h2⟩
    show (mi_as_i1 _ _ _ h).map _ = _
    rw [h1]
    rfl
  · obtain ⟨w, hw, e1⟩ := Option.map_eq_some_iff.mp hh
    cases e1
    refine ⟨h, ?_, H⟩
    show (mi_alen L _ h).map _ = _
    unfold mi_alen at hw ⊢
    rw [hq_get H, hw]
    rfl
  · next t n r =>
    by_cases hc : n < 0 ∨ 536870912 < n.toNatClampNeg * 8
    · rw [if_pos hc] at hh; cases hh
    · rw [if_neg hc] at hh
      obtain ⟨w, hw, e1⟩ := Option.map_eq_some_iff.mp hh
      cases e1
      refine ⟨mi_push h n.toNatClampNeg (.inl w), ?_, hq_push H⟩
      unfold mi_heap
      simp only [if_neg hc, hw, Option.map_some, H.1]
  · obtain ⟨w, hw, e1⟩ := Option.map_eq_some_iff.mp hh
    cases e1
    refine ⟨mi_push h _ (.inr (w, mi_dfs (mi_ft P) w (mi_nf P w))), ?_, hq_push H⟩
    show (mi_nw P j _).map _ = _
    rw [hw]
    simp only [Option.map_some, H.1]
  · split at hh
    · next hc => cases hh; exact ⟨h, by unfold mi_heap; simp only [hc], H⟩
    · next hc => cases hh; exact ⟨h, by unfold mi_heap; simp only [hc], H⟩
    · cases hh
  · split at hh
    · next hc => cases hh; exact ⟨h, by unfold mi_heap; simp only [hc], H⟩
    · cases hh
  · split at hh
    · next hc => cases hh; exact ⟨h, by unfold mi_heap; simp only [hc], H⟩
    · cases hh
  · cases hh
def hq_C (c : mi_C) : Prop := ∀ k as A o G, c k as A = some (o, G) → ∀ h, hq_h A h → ∃ g, c k as h = some (o, g) ∧ hq_h G g
def hq_S (q q' : mi_S) : Prop := match q, q' with
  | .inl a, .inl b => b.1 = a.1 ∧ b.2.1 = a.2.1 ∧ b.2.2.1 = a.2.2.1 ∧ hq_h a.2.2.2 b.2.2.2
  | .inr a, .inr b => b.1 = a.1 ∧ hq_h a.2 b.2
  | _, _ => False
theorem hq_exc (H : hq_h A h) {E : String} {q : mi_S} (hh : mi_exc P j pc lv E A = some q) : ∃ q', mi_exc P j pc lv E h = some q' ∧ hq_S q q' := by
  unfold mi_exc at hh ⊢
  cases hc : mi_ca P j pc E with
  | none =>
    rw [hc] at hh
    simp only [] at hh ⊢
    by_cases he : (mi_hh P j).isEmpty = true
    · rw [if_pos he] at hh ⊢; cases hh; exact ⟨_, rfl, rfl, H⟩
    · rw [if_neg he] at hh; cases hh
  | some hp =>
    rw [hc] at hh
    simp only [] at hh ⊢
    generalize mi_is P j hp = y at hh ⊢
    split at hh
    · next q1 =>
      by_cases hm : (q1 : Nat) < mi_mx P j
      · rw [if_pos hm] at hh; cases hh; exact ⟨_, if_pos hm, rfl, rfl, rfl, H⟩
      · rw [if_neg hm] at hh; cases hh
    · next q1 =>
      by_cases hm : q1 < mi_mx P j
      · rw [if_pos hm] at hh; cases hh; exact ⟨_, if_pos hm, rfl, rfl, rfl, H⟩
      · rw [if_neg hm] at hh; cases hh
    · cases hh
theorem hq_rc (H : hq_h A h) {k : Nat} {as : List Value} : mi_rc P k h as = mi_rc P k A as := by
  unfold mi_rc
  split
  · rw [hq_get H]
  · rfl
theorem hq_inv {c : mi_C} (hC : hq_C c) (H : hq_h A h) {q : mi_S} (hh : mi_inv P c j i pc lv st A = some q) : ∃ q', mi_inv P c j i pc lv st h = some q' ∧ hq_S q q' := by
  unfold mi_inv at hh ⊢
  cases hsi : mi_site P j i with
  | none => rw [hsi] at hh; cases hh
  | some w =>
    obtain ⟨k, kind, n, ix⟩ := w
    rw [hsi] at hh
    simp only [] at hh ⊢
    by_cases h3 : kind = 3
    · rw [if_pos h3] at hh ⊢
      split at hh
      · next x r =>
        by_cases hw : mi_wt r ≤ 8
        · rw [if_pos hw] at hh
          cases hh
          exact ⟨.inl (pc + 3, lv, r, h), if_pos hw, rfl, rfl, rfl, H⟩
        · rw [if_neg hw] at hh; cases hh
      · cases hh
    · rw [if_neg h3] at hh ⊢
      by_cases h6 : kind = 6
      · rw [if_pos h6] at hh ⊢
        cases ht : mi_targs n st with
        | none => rw [ht] at hh; cases hh
        | some w =>
          obtain ⟨t, as, r⟩ := w
          rw [ht] at hh
          simp only [] at hh ⊢
          by_cases hw : mi_wt r ≤ 8
          · rw [if_pos hw] at hh ⊢
            cases hp : mi_pr P k (.retAddr t :: as) with
            | none => rw [hp] at hh; cases hh
            | some v =>
              rw [hp] at hh
              cases hh
              exact ⟨.inl (pc + 3, lv, v :: r, h), rfl, rfl, rfl, rfl, H⟩
          · rw [if_neg hw] at hh; cases hh
      · rw [if_neg h6] at hh ⊢
        cases ha : mi_cargs kind n st with
        | none => rw [ha] at hh; cases hh
        | some w =>
          obtain ⟨as, r⟩ := w
          rw [ha] at hh
          simp only [] at hh ⊢
          rw [hq_rc H]
          by_cases hcond : mi_wt r ≤ 8 ∧ (kind = 0 → mi_rc P k A as = true)
          · rw [if_pos hcond] at hh ⊢
            cases hk : c k as A with
            | none => rw [hk] at hh; cases hh
            | some w =>
              obtain ⟨o, g⟩ := w
              rw [hk] at hh
              obtain ⟨g', hg', Hg⟩ := hC _ _ _ _ _ hk h H
              rw [hg']
              cases o with
              | inl v =>
                simp only [] at hh ⊢
                cases hh
                exact ⟨.inl (pc + 3, lv, v.toList ++ r, g'), rfl, rfl, rfl, rfl, Hg⟩
              | inr E =>
                simp only [] at hh ⊢
                by_cases hk2 : kind = 2 ∨ kind = 4
                · rw [if_pos hk2] at hh; cases hh
                · rw [if_neg hk2] at hh ⊢
                  exact hq_exc Hg hh
          · rw [if_neg hcond] at hh; cases hh
theorem hq_step {c : mi_C} (hC : hq_C c) (H : hq_h A h) {q : mi_S} (hi : mi_step P L xs c j pc lv st A = some q) : ∃ q', mi_step P L xs c j pc lv st h = some q' ∧ hq_S q q' := by
  unfold mi_step at hi
  cases h1 : mi_th P j pc with
  | some E =>
    rw [h1] at hi
    simp only [] at hi
    by_cases he : st.isEmpty = true
    · rw [if_pos he] at hi
      cases hi
      refine ⟨.inr (.inr E, mi_push h 6 mi_dead), ?_, rfl, hq_push H⟩
      unfold mi_step
      simp only [h1, if_pos he]
    · rw [if_neg he] at hi; cases hi
  | none =>
    rw [h1] at hi
    simp only [] at hi
    cases h2 : mi_is P j pc with
    | none => rw [h2] at hi; cases hi
    | some i =>
      rw [h2] at hi
      simp only [] at hi
      cases h3 : mi_pure i st with
      | some w => rw [h3] at hi; cases hi; exact ⟨_, sy_step0 h1 h2 h3, rfl, rfl, rfl, H⟩
      | none =>
        rw [h3] at hi
        simp only [] at hi
        cases h4 : mi_loc (mi_mx P j) i lv st with
        | some w => rw [h4] at hi; cases hi; exact ⟨_, sy_step1 h1 h2 h4, rfl, rfl, rfl, H⟩
        | none =>
          rw [h4] at hi
          simp only [] at hi
          cases h5 : mi_jmp i pc st with
          | some w => rw [h5] at hi; cases hi; exact ⟨_, sy_step2 h1 h2 h5, rfl, rfl, rfl, H⟩
          | none =>
            rw [h5] at hi
            simp only [] at hi
            cases h6 : mi_heap P L xs j i st A with
            | some w =>
              rw [h6] at hi
              cases hi
              obtain ⟨g, h7, h8⟩ := hq_heap H h6
              exact ⟨_, sy_step3 h1 h2 h7, rfl, rfl, rfl, h8⟩
            | none =>
              rw [h6] at hi
              simp only [] at hi
              cases h7 : mi_ret (mi_rt P j) i st with
              | some w => rw [h7] at hi; cases hi; exact ⟨_, sy_step4 h1 h2 h7, rfl, H⟩
              | none =>
                rw [h7] at hi
                simp only [] at hi
                obtain ⟨q', h8, h9⟩ := hq_inv hC H hi
                exact ⟨q', sy_step5 h1 h2 (ls_kd5 hi) h8, h9⟩
theorem hq_run {c : mi_C} (hC : hq_C c) : ∀ (n pc : Nat) (lv : mi_L) (st : List Value) (A h : mi_H) (o : mi_O) (G : mi_H), hq_h A h → mi_run P L xs c j n pc lv st A = some (o, G) → ∃ g, mi_run P L xs c j n pc lv st h = some (o, g) ∧ hq_h G g := by
  intro n
  induction n with
  | zero => intro pc lv st A h o G _ hr; cases hr
  | succ n ih =>
    intro pc lv st A h o G H hr
    rw [mi_run] at hr ⊢
    cases hq : mi_step P L xs c j pc lv st A with
    | none => rw [hq] at hr; cases hr
    | some q =>
      rw [hq] at hr
      obtain ⟨q', h1, h2⟩ := hq_step hC H hq
      rw [h1]
      cases q with
      | inr w =>
        cases q' with
        | inl w' => exact absurd h2 (fun hf => hf)
        | inr w' =>
          obtain ⟨e1, e2⟩ := h2
          obtain ⟨x1, x2⟩ := w
          obtain ⟨y1, y2⟩ := w'
          simp only [] at e1 e2 hr ⊢
          subst e1
          cases hr
          exact ⟨y2, rfl, e2⟩
      | inl w =>
        cases q' with
        | inr w' => exact absurd h2 (fun hf => hf)
        | inl w' =>
          obtain ⟨e1, e2, e3, e4⟩ := h2
          obtain ⟨x1, x2, x3, x4⟩ := w
          obtain ⟨y1, y2, y3, y4⟩ := w'
          simp only [] at e1 e2 e3 e4 hr ⊢
          subst e1 e2 e3
          exact ih _ _ _ _ _ _ _ e4 hr
theorem hq_call {F : Nat} : ∀ d, hq_C (mi_call P L xs F d) := by
  intro d
  induction d with
  | zero => intro k as A o G h; cases h
  | succ d ih =>
    intro k as A o G hh h H
    unfold mi_call at hh ⊢
    by_cases hw : mi_wt as ≤ mi_mx P k
    · rw [if_pos hw] at hh ⊢
      exact hq_run ih _ _ _ _ _ _ _ _ H hh
    · rw [if_neg hw] at hh; cases hh
end Hq
