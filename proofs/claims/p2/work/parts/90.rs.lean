/-! Where a tree's names lead, and what is to be looked up in it. -/
def rs_b (V : Nat → Int64) (R : List (Int64 × Nat) → tr_T → List (Nat × Nat) → Prop) (sc : List (Int64 × Nat)) (t : tr_T) (M : List (Nat × Nat)) : Prop := (tr_k t = 1 ∧ M = []) ∨ (tr_k t = 2 ∧ ((∃ s, ps_look (V (tr_o t)) sc = some s ∧ tr_v t = Int32.ofNat s ∧ M = []) ∨ (ps_look (V (tr_o t)) sc = none ∧ M = [(tr_o t, 0)]))) ∨ (tr_k t = 3 ∧ sc.length < 16 ∧ ∃ s M1 M2, s < 16 ∧ tr_v t = Int32.ofNat s ∧ M = M1 ++ M2 ∧ R sc (tr_sub t 0) M1 ∧ R ((V (tr_o t), s) :: sc) (tr_sub t 1) M2) ∨ (tr_k t = 4 ∧ ∃ M1 M2 M3, M = M1 ++ (M2 ++ M3) ∧ R sc (tr_sub t 0) M1 ∧ R sc (tr_sub t 1) M2 ∧ R sc (tr_sub t 2) M3) ∨ (tr_k t = 5 ∧ ∃ Ms : List (List (Nat × Nat)), Ms.length = tr_a t ∧ M = (tr_o t, tr_a t + 1) :: Ms.flatten ∧ ∀ j, (hj : j < Ms.length) → R sc (tr_sub t j) Ms[j]) ∨ ((tr_k t = 6 ∨ tr_k t = 7 ∨ tr_k t = 8 ∨ tr_k t = 9 ∨ tr_k t = 10) ∧ ∃ M1 M2, M = M1 ++ M2 ∧ R sc (tr_sub t 0) M1 ∧ R sc (tr_sub t 1) M2)
theorem rs_b_m {V : Nat → Int64} {R R' : List (Int64 × Nat) → tr_T → List (Nat × Nat) → Prop} {sc : List (Int64 × Nat)} {t : tr_T} {M : List (Nat × Nat)} (hR : ∀ sc t M, R sc t M → R' sc t M) (h : rs_b V R sc t M) : rs_b V R' sc t M := by
  rcases h with h | h | h | h | h | h
  · exact Or.inl h
  · exact Or.inr (Or.inl h)
  · obtain ⟨h1, h2, s, M1, M2, h7, h3, h4, h5, h6⟩ := h
    exact Or.inr (Or.inr (Or.inl ⟨h1, h2, s, M1, M2, h7, h3, h4, hR _ _ _ h5, hR _ _ _ h6⟩))
  · obtain ⟨h1, M1, M2, M3, h2, h3, h4, h5⟩ := h
    exact Or.inr (Or.inr (Or.inr (Or.inl ⟨h1, M1, M2, M3, h2, hR _ _ _ h3, hR _ _ _ h4, hR _ _ _ h5⟩)))
  · obtain ⟨h1, Ms, h2, h3, h4⟩ := h
    exact Or.inr (Or.inr (Or.inr (Or.inr (Or.inl ⟨h1, Ms, h2, h3, fun j hj => hR _ _ _ (h4 j hj)⟩))))
  · obtain ⟨h1, M1, M2, h2, h3, h4⟩ := h
    exact Or.inr (Or.inr (Or.inr (Or.inr (Or.inr ⟨h1, M1, M2, h2, hR _ _ _ h3, hR _ _ _ h4⟩))))
def rs_t (V : Nat → Int64) : Nat → List (Int64 × Nat) → tr_T → List (Nat × Nat) → Prop
  | 0 => fun _ _ _ => False
  | d + 1 => fun sc t M => rs_b V (rs_t V d) sc t M
theorem rs_t_s {V : Nat → Int64} : ∀ (d : Nat) (sc : List (Int64 × Nat)) (t : tr_T) (M : List (Nat × Nat)), rs_t V d sc t M → rs_t V (d + 1) sc t M := by
  intro d
  induction d with
  | zero => intro sc t M h; exact absurd h id
  | succ d ih => intro sc t M h; exact rs_b_m ih h
theorem rs_t_le {V : Nat → Int64} {d e : Nat} {sc : List (Int64 × Nat)} {t : tr_T} {M : List (Nat × Nat)} (h : rs_t V d sc t M) (hde : d ≤ e) : rs_t V e sc t M := by
  induction hde with
  | refl => exact h
  | step _ ih => exact rs_t_s _ _ _ _ ih
section Rs
variable {K : Nat → Int32} {V : Nat → Int64} {self : ps_P} {d : Nat}
theorem rs_args (hs : ∀ sc i m q, sc.length ≤ m → self sc i m = .ok q → rs_t V d sc q.1 q.2.1) (hgd : ∀ sc i m q, self sc i m = .ok q → ps_good K d i m q) {sc : List (Int64 × Nat)} : ∀ f i m r, sc.length ≤ m → ps_args K self sc f i m = .ok r → ∃ Ms : List (List (Nat × Nat)), Ms.length = r.1.length ∧ r.2.1 = Ms.flatten ∧ ∀ j, (hj : j < Ms.length) → rs_t V d sc (tr_ls r.1 j) Ms[j] := by
  intro f
  induction f with
  | zero => intro i m r _ h; cases h; exact ⟨[], rfl, rfl, fun j hj => absurd hj (Nat.not_lt_zero _)⟩
  | succ f ih =>
    intro i m r hm h
    unfold ps_args at h
    split at h
    · obtain ⟨i1, -, g1⟩ := ps_b_ok h
      obtain ⟨q, h2, g2⟩ := ps_b_ok g1
      obtain ⟨s, h3, g3⟩ := ps_b_ok g2
      obtain ⟨-, -, p3, -⟩ := hgd _ _ _ _ h2
      obtain ⟨Ms, e1, e2, e3⟩ := ih _ _ _ (by omega) h3
      cases g3
      refine ⟨q.2.1 :: Ms, ?_, ?_, fun j hj => ?_⟩
      · show Ms.length + 1 = s.1.length + 1
        rw [e1]
      · show q.2.1 ++ s.2.1 = (q.2.1 :: Ms).flatten
        rw [e2]
        rfl
      · cases j with
        | zero => exact hs _ _ _ _ hm h2
        | succ j => exact e3 j (Nat.lt_of_succ_lt_succ hj)
    · cases h
      exact ⟨[], rfl, rfl, fun j hj => absurd hj (Nat.not_lt_zero _)⟩
theorem rs_atom (hs : ∀ sc i m q, sc.length ≤ m → self sc i m = .ok q → rs_t V d sc q.1 q.2.1) (hgd : ∀ sc i m q, self sc i m = .ok q → ps_good K d i m q) {sc : List (Int64 × Nat)} {i m : Nat} {q : ps_O} (hm : sc.length ≤ m) (h : ps_atom K V self sc i m = .ok q) : rs_t V (d + 1) sc q.1 q.2.1 := by
  have hnum : ∀ s i q, ps_num K V s i m = .ok q → rs_t V (d + 1) sc q.1 q.2.1 := fun s i q h => by
    obtain ⟨i2, -, g2⟩ := ps_b_ok h
    cases g2
    exact Or.inl ⟨rfl, rfl⟩
  unfold ps_atom at h
  split at h
  · obtain ⟨i1, -, g1⟩ := ps_b_ok h
    exact hnum _ _ _ g1
  · split at h
    · exact hnum _ _ _ h
    · split at h
      · obtain ⟨i1, -, g1⟩ := ps_b_ok h
        split at g1
        · obtain ⟨i2, -, g2⟩ := ps_b_ok g1
          split at g2
          · obtain ⟨i3, -, g3⟩ := ps_b_ok g2
            cases g3
            exact Or.inr (Or.inr (Or.inr (Or.inr (Or.inl ⟨rfl, [], rfl, rfl, fun j hj => absurd hj (Nat.not_lt_zero _)⟩))))
          · obtain ⟨p, h2, g3⟩ := ps_b_ok g2
            obtain ⟨r, h3, g4⟩ := ps_b_ok g3
            obtain ⟨i3, -, g5⟩ := ps_b_ok g4
            obtain ⟨-, -, p3, -⟩ := hgd _ _ _ _ h2
            obtain ⟨Ms, e1, e2, e3⟩ := rs_args hs hgd _ _ _ _ (by omega) h3
            cases g5
            refine Or.inr (Or.inr (Or.inr (Or.inr (Or.inl ⟨rfl, p.2.1 :: Ms, ?_, ?_, fun j hj => ?_⟩))))
            · show Ms.length + 1 = r.1.length + 1
              rw [e1]
            · show (i, r.1.length + 2) :: (p.2.1 ++ r.2.1) = (i, r.1.length + 1 + 1) :: (p.2.1 :: Ms).flatten
              rw [e2]
              rfl
            · cases j with
              | zero => exact hs _ _ _ _ hm h2
              | succ j => exact e3 j (Nat.lt_of_succ_lt_succ hj)
        · cases g1
          refine Or.inr (Or.inl ?_)
          unfold ps_name
          cases e : ps_look (V i) sc with
          | some s => exact ⟨rfl, Or.inl ⟨s, e, rfl, rfl⟩⟩
          | none => exact ⟨rfl, Or.inr ⟨e, rfl⟩⟩
      · split at h
        · obtain ⟨i1, -, g1⟩ := ps_b_ok h
          obtain ⟨p, h2, g2⟩ := ps_b_ok g1
          obtain ⟨i2, -, g3⟩ := ps_b_ok g2
          cases g3
          exact rs_t_s _ _ _ _ (hs _ _ _ p hm h2)
        · cases h
theorem rs_two {g : Int32 → Bool} (hg : ∀ k : Int32, g k = true → k = 6 ∨ k = 7 ∨ k = 8 ∨ k = 9 ∨ k = 10) {sc : List (Int64 × Nat)} {p : Nat → Nat → Except ps_E ps_O} (hp : ∀ i m q, sc.length ≤ m → p i m = .ok q → rs_t V d sc q.1 q.2.1) (hgd : ∀ i m q, p i m = .ok q → ps_good K d i m q) {i m : Nat} {q : ps_O} (hm : sc.length ≤ m) (h : ps_two K g p i m = .ok q) : rs_t V (d + 1) sc q.1 q.2.1 := by
  obtain ⟨l, h1, g1⟩ := ps_b_ok h
  obtain ⟨-, -, p3, -⟩ := hgd _ _ _ h1
  split at g1
  · next hk =>
    obtain ⟨i1, -, g2⟩ := ps_b_ok g1
    obtain ⟨r, h3, g3⟩ := ps_b_ok g2
    cases g3
    exact Or.inr (Or.inr (Or.inr (Or.inr (Or.inr ⟨hg _ hk, l.2.1, r.2.1, rfl, hp _ _ _ hm h1, hp _ _ _ (by omega) h3⟩))))
  · cases g1
    exact rs_t_s _ _ _ _ (hp _ _ _ hm h1)
theorem rs_ex : ∀ (r : Nat) (sc : List (Int64 × Nat)) (i m : Nat) (q : ps_O), sc.length ≤ m → ps_ex K V r sc i m = .ok q → rs_t V (4 * r) sc q.1 q.2.1 := by
  intro r
  induction r with
  | zero =>
    intro sc i m q _ h
    unfold ps_ex at h
    split at h
    · cases h
    · cases h
  | succ r ih =>
    intro sc i m q hm h
    have hgd : ∀ sc i m q, ps_ex K V r sc i m = .ok q → ps_good K (4 * r) i m q := fun sc i m q hq => ps_ex_good r sc i m q hq
    unfold ps_ex at h
    split at h
    · obtain ⟨i1, k1, g1⟩ := ps_b_ok h
      obtain ⟨i2, k2, g2⟩ := ps_b_ok g1
      obtain ⟨i3, k3, g3⟩ := ps_b_ok g2
      obtain ⟨p, h4, g4⟩ := ps_b_ok g3
      obtain ⟨i4, k4, g5⟩ := ps_b_ok g4
      obtain ⟨s, h6, g6⟩ := ps_b_ok g5
      obtain ⟨-, -, kb⟩ := ps_new_ok k2
      have kb := of_decide_eq_false kb
      obtain ⟨-, -, p3, -⟩ := hgd _ _ _ _ h4
      cases g6
      exact rs_t_le (d := 4 * r + 1) (Or.inr (Or.inr (Or.inl ⟨rfl, by omega, m, p.2.1, s.2.1, by omega, rfl, rfl, ih _ _ _ _ (by omega) h4, ih _ _ _ _ (by show sc.length + 1 ≤ _; omega) h6⟩))) (by omega)
    · split at h
      · obtain ⟨i1, k1, g1⟩ := ps_b_ok h
        obtain ⟨p, h4, g2⟩ := ps_b_ok g1
        obtain ⟨i2, k2, g3⟩ := ps_b_ok g2
        obtain ⟨s, h5, g4⟩ := ps_b_ok g3
        obtain ⟨i3, k3, g5⟩ := ps_b_ok g4
        obtain ⟨u, h6, g6⟩ := ps_b_ok g5
        obtain ⟨-, -, p3, -⟩ := hgd _ _ _ _ h4
        obtain ⟨-, -, p4, -⟩ := hgd _ _ _ _ h5
        cases g6
        exact rs_t_le (d := 4 * r + 1) (Or.inr (Or.inr (Or.inr (Or.inl ⟨rfl, p.2.1, s.2.1, u.2.1, rfl, ih _ _ _ _ hm h4, ih _ _ _ _ (by omega) h5, ih _ _ _ _ (by omega) h6⟩)))) (by omega)
      · have c1 : ∀ k : Int32, (k == 8) = true → k = 6 ∨ k = 7 ∨ k = 8 ∨ k = 9 ∨ k = 10 := fun k hk => by
          rw [beq_iff_eq] at hk
          exact Or.inr (Or.inr (Or.inl hk))
        have c2 : ∀ k : Int32, (k == 6 || k == 7) = true → k = 6 ∨ k = 7 ∨ k = 8 ∨ k = 9 ∨ k = 10 := fun k hk => by
          rw [Bool.or_eq_true, beq_iff_eq, beq_iff_eq] at hk
          rcases hk with z | z
          · exact Or.inl z
          · exact Or.inr (Or.inl z)
        have c3 : ∀ k : Int32, (k == 9 || k == 10) = true → k = 6 ∨ k = 7 ∨ k = 8 ∨ k = 9 ∨ k = 10 := fun k hk => by
          rw [Bool.or_eq_true, beq_iff_eq, beq_iff_eq] at hk
          rcases hk with z | z
          · exact Or.inr (Or.inr (Or.inr (Or.inl z)))
          · exact Or.inr (Or.inr (Or.inr (Or.inr z)))
        exact rs_two (d := 4 * r + 3) c3 (fun i m q hm h => rs_two (d := 4 * r + 2) c2 (fun i m q hm h => rs_two (d := 4 * r + 1) c1 (fun i m q hm h => rs_atom ih hgd hm h) (fun i m q h => ps_atom_good hgd h) hm h) (fun i m q h => ps_two_good (fun i m q h => ps_atom_good hgd h) h) hm h) (fun i m q h => ps_two_good (fun i m q h => ps_two_good (fun i m q h => ps_atom_good hgd h) h) h) hm h
end Rs
