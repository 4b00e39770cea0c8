/-! How many versions there may be. -/
theorem mk_pig1 (n : Nat) : ∀ l : List Nat, l.Nodup → l.length ≤ (l.filter (fun x => decide (¬x = n))).length + 1 := by
  intro l
  induction l with
  | nil => intro _; exact Nat.zero_le _
  | cons a l ih =>
    intro h
    obtain ⟨h1, h2⟩ := List.nodup_cons.mp h
    by_cases e : a = n
    · have hf : l.filter (fun x => decide (¬x = n)) = l := List.filter_eq_self.mpr (fun x hx => decide_eq_true (fun q => h1 (by rw [e, ← q]; exact hx)))
      rw [List.filter_cons_of_neg (by rw [decide_eq_true_iff]; exact fun q => q e), hf]
      exact Nat.le_refl _
    · rw [List.filter_cons_of_pos (p := fun x => decide (¬x = n)) (decide_eq_true e)]
      exact Nat.succ_le_succ (ih h2)
theorem mk_pig : ∀ (n : Nat) (l : List Nat), l.Nodup → (∀ x, x ∈ l → x < n) → l.length ≤ n := by
  intro n
  induction n with
  | zero =>
    intro l _ h
    cases l with
    | nil => exact Nat.le_refl _
    | cons a l => exact absurd (h a List.mem_cons_self) (Nat.not_lt_zero _)
  | succ n ih =>
    intro l hl h
    have h1 := mk_pig1 n l hl
    have h2 := ih (l.filter (fun x => decide (¬x = n))) (hl.filter _) (fun x hx => by
      obtain ⟨q1, q2⟩ := List.mem_filter.mp hx
      have q3 := h x q1
      have q4 := of_decide_eq_true q2
      omega)
    omega
def mk_ok (pg : pg_T) (vs : List mk_V) : Prop := (∀ q, q ∈ vs → q.1 < pg.length ∧ q.2.1 < 2 ^ pg_n pg q.1) ∧ (∀ q, q ∈ vs.drop 30 → q.2.1 = 0) ∧ ((vs.drop 30).map (fun q => q.1)).Nodup
theorem mk_ok_len {pg : pg_T} {vs : List mk_V} (h : mk_ok pg vs) : vs.length ≤ 30 + pg.length := by
  obtain ⟨h1, h2, h3⟩ := h
  have := mk_pig pg.length _ h3 (fun x hx => by
    obtain ⟨q, q1, q2⟩ := List.mem_map.mp hx
    rw [← q2]
    exact (h1 q (List.mem_of_mem_drop q1)).1)
  rw [List.length_map, List.length_drop] at this
  omega
theorem mk_bt_0 (i : Nat) : mk_bt 0 i = false := by
  unfold mk_bt
  rw [Nat.zero_div]
  rfl
theorem mk_ok_add {pg : pg_T} {vs : List mk_V} {q : mk_V} (h : mk_ok pg vs) (h1 : q.1 < pg.length) (h2 : q.2.1 < 2 ^ pg_n pg q.1) (h3 : vs.length < 30 ∨ (q.2.1 = 0 ∧ ∀ v, v ∈ vs → v.2.1 = 0 → ¬v.1 = q.1)) : mk_ok pg (vs ++ [q]) := by
  obtain ⟨a1, a2, a3⟩ := h
  refine ⟨fun x hx => ?_, ?_⟩
  · rcases List.mem_append.mp hx with e | e
    · exact a1 x e
    · rw [List.mem_singleton.mp e]; exact ⟨h1, h2⟩
  · rcases h3 with h3 | ⟨h3, h4⟩
    · have e : (vs ++ [q]).drop 30 = [] := List.drop_eq_nil_of_le (by rw [List.length_append]; show vs.length + 1 ≤ 30; omega)
      rw [e]
      exact ⟨fun x hx => absurd hx List.not_mem_nil, List.nodup_nil⟩
    · by_cases hl : vs.length < 30
      · have e : (vs ++ [q]).drop 30 = [] := List.drop_eq_nil_of_le (by rw [List.length_append]; show vs.length + 1 ≤ 30; omega)
        rw [e]
        exact ⟨fun x hx => absurd hx List.not_mem_nil, List.nodup_nil⟩
      · rw [List.drop_append_of_le_length (by omega)]
        refine ⟨fun x hx => ?_, ?_⟩
        · rcases List.mem_append.mp hx with e | e
          · exact a2 x e
          · rw [List.mem_singleton.mp e]; exact h3
        · rw [List.map_append, List.nodup_append]
          refine ⟨a3, List.pairwise_singleton _ _, fun a ha b hb => ?_⟩
          obtain ⟨v, v1, v2⟩ := List.mem_map.mp ha
          have hb : b = q.1 := List.mem_singleton.mp hb
          rw [hb, ← v2]
          exact h4 v (List.mem_of_mem_drop v1) (a2 v v1)
theorem mk_ld_ok {pg : pg_T} {vs : List mk_V} {f m : Nat} {kn : Nat → Int32} {as : List mk_R} (h : mk_ok pg vs) (hf : f < pg.length) (hm : m < 2 ^ pg_n pg f) : mk_ok pg (mk_ld f m kn as vs).2.2 ∧ (mk_ld f m kn as vs).1 < (mk_ld f m kn as vs).2.2.length ∧ vs <+: (mk_ld f m kn as vs).2.2 := by
  unfold mk_ld
  cases e : mk_fd f m kn vs 0 with
  | some k =>
    obtain ⟨-, h1, -⟩ := mk_fd_lt _ _ _ e
    exact ⟨h, by show k < vs.length; omega, List.prefix_refl _⟩
  | none =>
    simp only []
    split
    · next hl =>
      exact ⟨mk_ok_add h hf hm (Or.inl hl), by show vs.length < (vs ++ [mk_new f m kn]).length; rw [List.length_append]; exact Nat.lt_succ_self _, List.prefix_append _ _⟩
    · next hl =>
      cases e2 : mk_fd f 0 kn vs 0 with
      | some k =>
        obtain ⟨-, h1, -⟩ := mk_fd_lt _ _ _ e2
        exact ⟨h, by show k < vs.length; omega, List.prefix_refl _⟩
      | none =>
        refine ⟨mk_ok_add h hf (Nat.two_pow_pos _) (Or.inr ⟨rfl, fun v hv h0 hq => ?_⟩), by show vs.length < (vs ++ [mk_new f 0 kn]).length; rw [List.length_append]; exact Nat.lt_succ_self _, List.prefix_append _ _⟩
        have := mk_fd_no _ _ e2 v hv
        have hq : v.1 = f := hq
        rw [mk_is_iff.mpr ⟨hq, h0, fun i _ hb => absurd hb (by rw [mk_bt_0]; decide)⟩] at this
        cases this
/-! Versions only become more. -/
theorem mk_ld_pre (f m : Nat) (kn : Nat → Int32) (as : List mk_R) (vs : List mk_V) : vs <+: (mk_ld f m kn as vs).2.2 := by
  unfold mk_ld
  split
  · exact List.prefix_refl _
  · split
    · exact List.prefix_append _ _
    · split
      · exact List.prefix_refl _
      · exact List.prefix_append _ _
theorem mk_call_pre {P : List tr_T} {f : Nat} {as : List mk_R} {s : mk_S} {w : mk_R × mk_S} (h : mk_call P f as s = .ok w) : s.1 <+: w.2.1 := by
  unfold mk_call at h
  split at h
  · split at h
    · cases h; exact List.prefix_refl _
    · cases h
    · cases h; exact mk_ld_pre _ _ _ _ _
  · cases h; exact mk_ld_pre _ _ _ _ _
theorem mk_args_pre {self : mk_P} (hs : ∀ N s t q, self N s t = .ok q → s.1 <+: q.2.2.1) {t : tr_T} : ∀ (r j : Nat) (N : mk_N) (s : mk_S) (q : List mk_R × mk_N × mk_S), mk_args self t r j N s = .ok q → s.1 <+: q.2.2.1 := by
  intro r
  induction r with
  | zero => intro j N s q h; cases h; exact List.prefix_refl _
  | succ r ih =>
    intro j N s q h
    obtain ⟨a, h1, h2⟩ := mk_b_ok h
    obtain ⟨w, h3, h4⟩ := mk_b_ok h2
    cases h4
    exact (hs _ _ _ _ h1).trans (show _ <+: w.2.2.1 from ih _ _ _ _ h3)
theorem mk_pre {pg : pg_T} : ∀ (r : Nat) (N : mk_N) (s : mk_S) (t : tr_T) (q : mk_O), mk pg r N s t = .ok q → s.1 <+: q.2.2.1 := by
  intro r
  induction r with
  | zero => intro N s t q h; cases h
  | succ r ih =>
    intro N s t q h
    unfold mk at h
    split at h
    · cases h
    · unfold mk_in at h
      split at h
      · split at h
        · cases h; exact List.prefix_refl _
        · split at h
          · split at h
            · cases h; exact List.prefix_refl _
            · cases h
          · split at h
            · obtain ⟨a, h1, h2⟩ := mk_b_ok h
              split at h2
              · exact (ih _ _ _ _ h1).trans (ih _ _ _ _ h2)
              · obtain ⟨w, h3, h4⟩ := mk_b_ok h2
                cases h4
                exact (ih _ _ _ _ h1).trans (show _ <+: w.2.2.1 from ih _ _ _ _ h3)
            · split at h
              · obtain ⟨a, h1, h2⟩ := mk_b_ok h
                split at h2
                · exact (ih _ _ _ _ h1).trans (ih _ _ _ _ h2)
                · obtain ⟨w, h3, h4⟩ := mk_b_ok h2
                  obtain ⟨u, h5, h6⟩ := mk_b_ok h4
                  cases h6
                  exact (ih _ _ _ _ h1).trans ((ih _ _ _ _ h3).trans (show _ <+: u.2.2.1 from ih _ _ _ _ h5))
              · split at h
                · split at h
                  · obtain ⟨a, h1, h2⟩ := mk_b_ok h
                    obtain ⟨w, h3, h4⟩ := mk_b_ok h2
                    cases h4
                    exact (mk_args_pre ih _ _ _ _ _ h1).trans (mk_call_pre h3)
                  · cases h
                · obtain ⟨a, h1, h2⟩ := mk_b_ok h
                  obtain ⟨w, h3, h4⟩ := mk_b_ok h2
                  split at h4
                  · cases h4
                    exact (ih _ _ _ _ h1).trans (show _ <+: w.2.2.1 from ih _ _ _ _ h3)
                  · cases h4
                    exact (ih _ _ _ _ h1).trans (show _ <+: w.2.2.1 from ih _ _ _ _ h3)
      · cases h
