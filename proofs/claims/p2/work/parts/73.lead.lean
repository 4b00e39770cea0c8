/-! What is to be looked up: names at their tokens; the first that is not there. -/
section Ld
variable {K : Nat → Int32} {V : Nat → Int64} {self : ps_P}
def ps_2 (K : Nat → Int32) (M : List (Nat × Nat)) : Prop := ∀ o, o ∈ M → K o.1 = 2 ∧ o.2 ≤ 1502
theorem ps_2_a {M N : List (Nat × Nat)} (h1 : ps_2 K M) (h2 : ps_2 K N) : ps_2 K (M ++ N) := fun o ho => by
  rcases List.mem_append.mp ho with h | h
  · exact h1 o h
  · exact h2 o h
theorem ps_2_0 : ps_2 K [] := fun o ho => absurd ho List.not_mem_nil
theorem ps_2_c {q : Nat × Nat} {M : List (Nat × Nat)} (h1 : K q.1 = 2 ∧ q.2 ≤ 1502) (h2 : ps_2 K M) : ps_2 K (q :: M) := fun o ho => by
  rcases List.mem_cons.mp ho with h | h
  · rw [h]; exact h1
  · exact h2 o h
theorem ps_args_2 (hs : ∀ sc i m q, self sc i m = .ok q → ps_2 K q.2.1) {sc : List (Int64 × Nat)} : ∀ f i m r, ps_args K self sc f i m = .ok r → ps_2 K r.2.1 := by
  intro f
  induction f with
  | zero => intro i m r h; cases h; exact ps_2_0
  | succ f ih =>
    intro i m r h
    unfold ps_args at h
    split at h
    · obtain ⟨i1, -, g1⟩ := ps_b_ok h
      obtain ⟨q, h2, g2⟩ := ps_b_ok g1
      obtain ⟨s, h3, g3⟩ := ps_b_ok g2
      cases g3
      exact ps_2_a (hs _ _ _ _ h2) (ih _ _ _ h3)
    · cases h; exact ps_2_0
theorem ps_atom_2 {d : Nat} (hgd : ∀ sc i m q, self sc i m = .ok q → ps_good K d i m q) (hs : ∀ sc i m q, self sc i m = .ok q → ps_2 K q.2.1) {sc : List (Int64 × Nat)} {i m : Nat} {q : ps_O} (h : ps_atom K V self sc i m = .ok q) : ps_2 K q.2.1 := by
  unfold ps_atom at h
  split at h
  · obtain ⟨i1, -, g1⟩ := ps_b_ok h
    obtain ⟨i2, -, g2⟩ := ps_b_ok g1
    cases g2
    exact ps_2_0
  · split at h
    · obtain ⟨i2, -, g2⟩ := ps_b_ok h
      cases g2
      exact ps_2_0
    · split at h
      · next hk =>
        obtain ⟨i1, -, g1⟩ := ps_b_ok h
        split at g1
        · obtain ⟨i2, -, g2⟩ := ps_b_ok g1
          split at g2
          · obtain ⟨i3, -, g3⟩ := ps_b_ok g2
            cases g3
            exact ps_2_c ⟨hk, (show 1 ≤ 1502 by decide)⟩ ps_2_0
          · obtain ⟨p, h2, g3⟩ := ps_b_ok g2
            obtain ⟨r, h3, g4⟩ := ps_b_ok g3
            obtain ⟨i3, -, g5⟩ := ps_b_ok g4
            cases g5
            obtain ⟨b1, b2, -⟩ := ps_args_good hgd _ _ _ _ h3
            obtain ⟨-, a2, -⟩ := hgd _ _ _ _ h2
            have b2 := b2 a2
            exact ps_2_c ⟨hk, by show r.1.length + 2 ≤ 1502; omega⟩ (ps_2_a (hs _ _ _ _ h2) (ps_args_2 hs _ _ _ _ h3))
        · cases g1
          unfold ps_name
          split
          · exact ps_2_0
          · exact ps_2_c ⟨hk, Nat.zero_le _⟩ ps_2_0
      · split at h
        · obtain ⟨i1, -, g1⟩ := ps_b_ok h
          obtain ⟨p, h2, g2⟩ := ps_b_ok g1
          obtain ⟨i2, -, g3⟩ := ps_b_ok g2
          cases g3
          exact hs _ _ _ p h2
        · cases h
theorem ps_two_2 {g : Int32 → Bool} {p : Nat → Nat → Except ps_E ps_O} (hp : ∀ i m q, p i m = .ok q → ps_2 K q.2.1) {i m : Nat} {q : ps_O} (h : ps_two K g p i m = .ok q) : ps_2 K q.2.1 := by
  obtain ⟨l, h1, g1⟩ := ps_b_ok h
  split at g1
  · obtain ⟨i1, -, g2⟩ := ps_b_ok g1
    obtain ⟨r, h3, g3⟩ := ps_b_ok g2
    cases g3
    exact ps_2_a (hp _ _ _ h1) (hp _ _ _ h3)
  · cases g1
    exact hp _ _ _ h1
theorem ps_ex_2 : ∀ (r : Nat) (sc : List (Int64 × Nat)) (i m : Nat) (q : ps_O), ps_ex K V r sc i m = .ok q → ps_2 K q.2.1 := by
  intro r
  induction r with
  | zero =>
    intro sc i m q h
    unfold ps_ex at h
    split at h
    · cases h
    · cases h
  | succ r ih =>
    intro sc i m q h
    unfold ps_ex at h
    split at h
    · obtain ⟨i1, -, g1⟩ := ps_b_ok h
      obtain ⟨i2, -, g2⟩ := ps_b_ok g1
      obtain ⟨i3, -, g3⟩ := ps_b_ok g2
      obtain ⟨p, h4, g4⟩ := ps_b_ok g3
      obtain ⟨i4, -, g5⟩ := ps_b_ok g4
      obtain ⟨s, h6, g6⟩ := ps_b_ok g5
      cases g6
      exact ps_2_a (ih _ _ _ _ h4) (ih _ _ _ _ h6)
    · split at h
      · obtain ⟨i1, -, g1⟩ := ps_b_ok h
        obtain ⟨p, h4, g2⟩ := ps_b_ok g1
        obtain ⟨i2, -, g3⟩ := ps_b_ok g2
        obtain ⟨s, h5, g4⟩ := ps_b_ok g3
        obtain ⟨i3, -, g5⟩ := ps_b_ok g4
        obtain ⟨u, h6, g6⟩ := ps_b_ok g5
        cases g6
        exact ps_2_a (ih _ _ _ _ h4) (ps_2_a (ih _ _ _ _ h5) (ih _ _ _ _ h6))
      · exact ps_two_2 (fun i m q h => ps_two_2 (fun i m q h => ps_two_2 (fun i m q h => ps_atom_2 (fun sc i m q h => ps_ex_good r sc i m q h) ih h) h) h) h
theorem ps_fun_2 {fk : List Int64} {i : Nat} {q : ps_F × Nat} (h : ps_fun K V fk i = .ok q) : ps_2 K q.1.2.2.2.1 := by
  obtain ⟨w, k1, k2⟩ := ps_b_ok h
  obtain ⟨i4, k3, k4⟩ := ps_b_ok k2
  obtain ⟨i5, k5, k6⟩ := ps_b_ok k4
  obtain ⟨r, k7, k8⟩ := ps_b_ok k6
  obtain ⟨i6, k9, k10⟩ := ps_b_ok k8
  cases k10
  exact ps_ex_2 _ _ _ _ _ k7
/-- of all functions: what is to be looked up stands in order, below j -/
def ps_gd (K : Nat → Int32) (j : Nat) (fs : List ps_F) : Prop := ps_2 K (ps_M fs) ∧ (∀ o, o ∈ ps_M fs → o.1 < j) ∧ (ps_M fs).Pairwise (fun a b => a.1 < b.1) ∧ (∀ q, q ∈ fs → q.2.1 ≤ 4 ∧ q.2.1 ≤ q.2.2.2.2.2 ∧ q.2.2.2.2.2 ≤ 16 ∧ tr_fit 96 q.2.2.1) ∧ fs.length ≤ 48
theorem ps_M_a (fs : List ps_F) (q : ps_F) : ps_M (fs ++ [q]) = ps_M fs ++ q.2.2.2.1 := by
  unfold ps_M
  rw [List.flatMap_append, List.flatMap_singleton]
theorem ps_gd_s {i : Nat} {fs : List ps_F} {q : ps_F × Nat} (h : ps_gd K i fs) (hq : ps_fun K V (fs.map (fun q => q.1)) i = .ok q) : ps_gd K q.2 (fs ++ [q.1]) := by
  obtain ⟨a1, a2, a3, a4, a5⟩ := h
  obtain ⟨⟨w1, w2, w3, w4, w5, w6, w7, w8, w9, w10, w11⟩, -, -, -, v5⟩ := ps_fun_ok hq
  rw [List.length_map] at v5
  refine ⟨?_, ?_, ?_, fun z hz => ?_, ?_⟩
  · rw [ps_M_a]
    exact ps_2_a a1 (ps_fun_2 hq)
  · rw [ps_M_a]
    intro o ho
    rcases List.mem_append.mp ho with h | h
    · have := a2 o h; omega
    · exact (w10 o h).2
  · rw [ps_M_a]
    refine List.pairwise_append.mpr ⟨a3, w11, fun x hx y hy => ?_⟩
    have := a2 x hx
    have := w10 y hy
    omega
  · rcases List.mem_append.mp hz with h | h
    · exact a4 z h
    · rw [List.mem_singleton.mp h]
      exact ⟨w4, w5, w6, w9⟩
  · rw [List.length_append]
    exact v5
theorem ps_funs_gd : ∀ (f i : Nat) (fs fs' : List ps_F), i ≤ 1500 → ps_gd K i fs → ps_funs K V f fs i = .ok fs' → ps_gd K 1500 fs' := by
  intro f
  have hz : ∀ i fs, i ≤ 1500 → ps_gd K i fs → ps_gd K 1500 fs := fun i fs hi h => ⟨h.1, fun o ho => by have := h.2.1 o ho; omega, h.2.2⟩
  induction f with
  | zero => intro i fs fs' hi h hq; cases hq; exact hz i fs hi h
  | succ f ih =>
    intro i fs fs' hi h hq
    unfold ps_funs at hq
    split at hq
    · cases hq; exact hz i fs hi h
    · obtain ⟨q, h1, h2⟩ := ps_b_ok hq
      obtain ⟨⟨w1, w2, -⟩, -⟩ := ps_fun_ok h1
      exact ih q.2 _ _ w2 (ps_gd_s h h1) h2
theorem ps_prog_gd {fs : List ps_F} (h : ps_prog K V = .ok fs) : ps_gd K 1500 fs := by
  unfold ps_prog at h
  split at h
  · cases h
  · obtain ⟨q, h1, h2⟩ := ps_b_ok h
    obtain ⟨⟨w1, w2, -⟩, -⟩ := ps_fun_ok h1
    have h0 : ps_gd K 0 [] := ⟨ps_2_0, fun o ho => absurd ho List.not_mem_nil, List.Pairwise.nil, fun q hq => absurd hq List.not_mem_nil, by decide⟩
    exact ps_funs_gd _ _ _ _ w2 (ps_gd_s (fs := []) h0 h1) h2
/-- the last function of a name -/
def ps_ix (x : Int64) : List ps_F → Nat → Option Nat → Option Nat
  | [], _, r => r
  | q :: l, j, r => ps_ix x l (j + 1) (if q.1 = x then some j else r)
theorem ps_ix_none {x : Int64} : ∀ (l : List ps_F) (j : Nat) (r : Option Nat), (∀ q, q ∈ l → ¬q.1 = x) → ps_ix x l j r = r := by
  intro l
  induction l with
  | nil => intro j r _; rfl
  | cons q l ih =>
    intro j r h
    unfold ps_ix
    rw [ih _ _ (fun z hz => h z (List.mem_cons_of_mem _ hz)), if_neg (h q List.mem_cons_self)]
theorem ps_ix_some {x : Int64} : ∀ (l : List ps_F) (j : Nat) (r : Option Nat) (m : Nat) (hm : m < l.length), l[m].1 = x → (∀ n, m < n → (hn : n < l.length) → ¬l[n].1 = x) → ps_ix x l j r = some (j + m) := by
  intro l
  induction l with
  | nil => intro j r m hm; exact absurd hm (Nat.not_lt_zero _)
  | cons q l ih =>
    intro j r m hm h1 h2
    unfold ps_ix
    cases m with
    | zero =>
      have h1 : q.1 = x := h1
      rw [if_pos h1]
      exact ps_ix_none _ _ _ (fun z hz => by
        obtain ⟨n, hn, rfl⟩ := List.getElem_of_mem hz
        exact h2 (n + 1) (Nat.succ_pos _) (Nat.succ_lt_succ hn))
    | succ m =>
      rw [ih (j + 1) _ m (Nat.lt_of_succ_lt_succ hm) h1 (fun n hn hl => h2 (n + 1) (Nat.succ_lt_succ hn) (Nat.succ_lt_succ hl))]
      congr 1
      omega
def ps_d : ps_F := (0, 0, tr_z, [], 0, 0)
def ps_bad (V : Nat → Int64) (fs : List ps_F) (q : Nat × Nat) : Option ps_E := if q.2 = 0 then some (4, q.1) else match ps_ix (V q.1) fs 0 none with
  | none => some (4, q.1)
  | some f => if (fs.getD f ps_d).2.1 = q.2 - 1 then none else some (5, q.1)
def ps_first (V : Nat → Int64) (fs : List ps_F) : List (Nat × Nat) → Option ps_E
  | [] => none
  | q :: r => match ps_bad V fs q with
    | some e => some e
    | none => ps_first V fs r
/-- the first bad call below last -/
def ps_fl (V : Nat → Int64) (fs : List ps_F) (last : Nat) : List (Nat × Nat) → Option ps_E
  | [] => none
  | q :: r => if q.2 = 0 then ps_fl V fs last r else if q.1 < last then (match ps_bad V fs q with
    | some e => some e
    | none => ps_fl V fs last r) else ps_fl V fs last r
def ps_mi : List (Nat × Nat) → Option Nat
  | [] => none
  | q :: r => if q.2 = 0 then some q.1 else ps_mi r
theorem ps_fl_hi {fs : List ps_F} {last : Nat} : ∀ (M : List (Nat × Nat)), (∀ o, o ∈ M → last ≤ o.1) → ps_fl V fs last M = none := by
  intro M
  induction M with
  | nil => intro _; rfl
  | cons q r ih =>
    intro h
    have h1 := h q List.mem_cons_self
    unfold ps_fl
    rw [if_neg (show ¬q.1 < last by omega), ite_self]
    exact ih (fun o ho => h o (List.mem_cons_of_mem _ ho))
theorem ps_mi_in : ∀ (M : List (Nat × Nat)) (o : Nat), ps_mi M = some o → (o, 0) ∈ M := by
  intro M
  induction M with
  | nil => intro o h; cases h
  | cons q r ih =>
    intro o h
    unfold ps_mi at h
    split at h
    · next h0 =>
      cases h
      have : q = (q.1, 0) := Prod.ext rfl h0
      rw [← this]
      exact List.mem_cons_self
    · exact List.mem_cons_of_mem _ (ih o h)
theorem ps_first_eq {fs : List ps_F} : ∀ (M : List (Nat × Nat)), (∀ o, o ∈ M → o.1 < 1500) → M.Pairwise (fun a b => a.1 < b.1) → ps_first V fs M = match ps_mi M with
    | none => ps_fl V fs 1500 M
    | some o => match ps_fl V fs o M with
      | some e => some e
      | none => some (4, o) := by
  intro M
  induction M with
  | nil => intro _ _; rfl
  | cons q r ih =>
    intro h1 h2
    obtain ⟨p1, p2⟩ := List.pairwise_cons.mp h2
    have ih := ih (fun o ho => h1 o (List.mem_cons_of_mem _ ho)) p2
    unfold ps_first ps_mi ps_fl
    by_cases h0 : q.2 = 0
    · have eb : ps_bad V fs q = some (4, q.1) := if_pos h0
      rw [eb, if_pos h0]
      simp only []
      rw [if_pos h0, ps_fl_hi r (fun o ho => Nat.le_of_lt (p1 o ho))]
    · rw [if_neg h0]
      cases hm : ps_mi r with
      | none =>
        rw [hm] at ih
        simp only [] at ih ⊢
        rw [if_neg h0, if_pos (h1 q List.mem_cons_self), ih]
      | some o =>
        rw [hm] at ih
        simp only [] at ih ⊢
        rw [if_neg h0, if_pos (p1 _ (ps_mi_in r o hm)), ih]
        cases ps_bad V fs q with
        | none => rfl
        | some e => rfl
theorem rd_ms_ne {ms : Int32} (h : ¬ms = -1) : ∀ M : List (Nat × Nat), rd_ms ms M = ms := by
  intro M
  induction M with
  | nil => rfl
  | cons q r ih =>
    show rd_ms (if q.2 = 0 ∧ ms = -1 then Int32.ofNat q.1 else ms) r = ms
    rw [if_neg (fun z => h z.2), ih]
theorem rd_ms_mi : ∀ (M : List (Nat × Nat)), (∀ o, o ∈ M → o.1 < 1500) → rd_ms (-1) M = match ps_mi M with
    | none => -1
    | some o => Int32.ofNat o := by
  intro M
  induction M with
  | nil => intro _; rfl
  | cons q r ih =>
    intro h
    have hq := h q List.mem_cons_self
    have ih := ih (fun o ho => h o (List.mem_cons_of_mem _ ho))
    unfold ps_mi
    show rd_ms (if q.2 = 0 ∧ (-1 : Int32) = -1 then Int32.ofNat q.1 else -1) r = _
    by_cases h0 : q.2 = 0
    · rw [if_pos ⟨h0, rfl⟩, if_pos h0]
      refine rd_ms_ne (fun z => ?_) r
      have := congrArg Int32.toInt z
      rw [im_i (by omega)] at this
      exact absurd this (by show ¬(q.1 : Int) = -1; omega)
    · rw [if_neg (fun z => h0 z.1), if_neg h0]
      exact ih
end Ld
