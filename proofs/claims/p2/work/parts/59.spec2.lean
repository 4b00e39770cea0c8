/-! What holds of all that is read. -/
section PsG
variable {K : Nat → Int32} {V : Nat → Int64} {self : ps_P} {d : Nat}
theorem ps_join {a b c : Nat} {l1 l2 : List (Nat × Nat)} (h1 : ∀ o, o ∈ l1 → a ≤ o.1 ∧ o.1 < b) (p1 : l1.Pairwise (fun a b => a.1 < b.1)) (h2 : ∀ o, o ∈ l2 → b ≤ o.1 ∧ o.1 < c) (p2 : l2.Pairwise (fun a b => a.1 < b.1)) (hab : a ≤ b) (hbc : b ≤ c) : (∀ o, o ∈ l1 ++ l2 → a ≤ o.1 ∧ o.1 < c) ∧ (l1 ++ l2).Pairwise (fun a b => a.1 < b.1) := by
  refine ⟨fun o ho => ?_, List.pairwise_append.mpr ⟨p1, p2, fun x hx y hy => ?_⟩⟩
  · rcases List.mem_append.mp ho with h | h
    · have := h1 o h; omega
    · have := h2 o h; omega
  · have := h1 x hx
    have := h2 y hy
    omega
theorem ps_in {a b c e : Nat} {l : List (Nat × Nat)} (h : ∀ o, o ∈ l → b ≤ o.1 ∧ o.1 < c) (hab : a ≤ b) (hce : c ≤ e) : ∀ o, o ∈ l → a ≤ o.1 ∧ o.1 < e := fun o ho => by have := h o ho; omega
theorem ps_leaf_fit (k v : Int32) (o : Nat) : tr_fit 1 (tr_l k v o) := fun _ hj => absurd hj (Nat.not_lt_zero _)
theorem ps_num_good {s : Int32} {i m : Nat} {q : ps_O} (h : ps_num K V s i m = .ok q) : ps_good K 1 i m q := by
  obtain ⟨j, h1, h2⟩ := ps_b_ok h
  obtain ⟨h3, h4, rfl, h5⟩ := ps_take_ok h1
  cases h2
  exact ⟨Nat.lt_succ_self _, h4, Nat.le_refl _, id, Nat.le_refl _, by show 1 + i ≤ i + 1; omega, h5, ps_leaf_fit _ _ _, fun o ho => absurd ho (List.not_mem_nil), List.Pairwise.nil⟩
/-- arguments behind the first -/
def ps_goods (K : Nat → Int32) (d i m : Nat) (r : List tr_T × List (Nat × Nat) × Nat × Nat × Nat) : Prop := r.1.length + i ≤ r.2.2.2.1 ∧ (i ≤ 1500 → r.2.2.2.1 ≤ 1500) ∧ m ≤ r.2.2.2.2 ∧ (m ≤ 16 → r.2.2.2.2 ≤ 16) ∧ r.2.2.1 + i ≤ r.2.2.2.1 ∧ (¬K i = 19 → ¬K r.2.2.2.1 = 19) ∧ (∀ t, t ∈ r.1 → tr_fit d t) ∧ (∀ o, o ∈ r.2.1 → i ≤ o.1 ∧ o.1 < r.2.2.2.1) ∧ r.2.1.Pairwise (fun a b => a.1 < b.1)
theorem ps_args_good (hs : ∀ sc i m q, self sc i m = .ok q → ps_good K d i m q) {sc : List (Int64 × Nat)} : ∀ f i m r, ps_args K self sc f i m = .ok r → ps_goods K d i m r := by
  intro f
  have hz : ∀ i m, ps_goods K d i m ([], [], 0, i, m) := fun i m => ⟨by show 0 + i ≤ i; omega, id, Nat.le_refl _, id, by show 0 + i ≤ i; omega, id, fun t ht => absurd ht List.not_mem_nil, fun o ho => absurd ho List.not_mem_nil, List.Pairwise.nil⟩
  induction f with
  | zero =>
    intro i m r h
    cases h
    exact hz i m
  | succ f ih =>
    intro i m r h
    unfold ps_args at h
    split at h
    · obtain ⟨i1, h1, k0⟩ := ps_b_ok h
      obtain ⟨q, h2, g1⟩ := ps_b_ok k0
      obtain ⟨s, h3, g2⟩ := ps_b_ok g1
      obtain ⟨-, t2, rfl, -⟩ := ps_take_ok h1
      obtain ⟨a1, a2, a3, a4, a5, a6, a7, a8, a9, a10⟩ := hs _ _ _ _ h2
      obtain ⟨b1, b2, b3, b4, b5, b6, b7, b8, b9⟩ := ih _ _ _ h3
      have b2 := b2 a2
      cases g2
      obtain ⟨j1, j2⟩ := ps_join a9 a10 b8 b9 (by omega) (by omega)
      refine ⟨?_, fun _ => b2, Nat.le_trans a3 b3, fun z => b4 (a4 z), ?_, fun _ => b6 a7, fun t ht => ?_, ps_in j1 (by omega) (Nat.le_refl _), j2⟩
      · show s.1.length + 1 + i ≤ s.2.2.2.1
        omega
      · show q.2.2.1 + s.2.2.1 + i ≤ s.2.2.2.1
        omega
      · rcases List.mem_cons.mp ht with e | e
        · rw [e]; exact a8
        · exact b7 t e
    · cases h
      exact hz i m
theorem ps_call_good (hs : ∀ sc i m q, self sc i m = .ok q → ps_good K d i m q) {sc : List (Int64 × Nat)} {o i m : Nat} {q : ps_O} (ho : o < i) (h : ps_call K self sc o i m = .ok q) : i < q.2.2.2.1 ∧ q.2.2.2.1 ≤ 1500 ∧ m ≤ q.2.2.2.2 ∧ (m ≤ 16 → q.2.2.2.2 ≤ 16) ∧ 1 ≤ q.2.2.1 ∧ q.2.2.1 + i ≤ q.2.2.2.1 ∧ ¬K q.2.2.2.1 = 19 ∧ tr_fit (d + 1) q.1 ∧ (∀ x, x ∈ q.2.1 → o ≤ x.1 ∧ x.1 < q.2.2.2.1) ∧ q.2.1.Pairwise (fun a b => a.1 < b.1) := by
  obtain ⟨i1, h1, g1⟩ := ps_b_ok h
  obtain ⟨-, t2, rfl, -⟩ := ps_take_ok h1
  split at g1
  · obtain ⟨i2, h2, k0⟩ := ps_b_ok g1
    obtain ⟨-, u2, rfl, u4⟩ := ps_take_ok h2
    cases k0
    refine ⟨by show i < i + 1 + 1; omega, u2, Nat.le_refl _, id, Nat.le_refl _, by show 1 + i ≤ i + 1 + 1; omega, u4, fun _ hj => absurd hj (Nat.not_lt_zero _), fun x hx => ?_, List.pairwise_singleton _ _⟩
    rw [List.mem_singleton.mp hx]
    show o ≤ o ∧ o < i + 1 + 1
    omega
  · obtain ⟨p, h2, k0⟩ := ps_b_ok g1
    obtain ⟨r, h3, g2⟩ := ps_b_ok k0
    obtain ⟨i2, h4, g3⟩ := ps_b_ok g2
    obtain ⟨a1, a2, a3, a4, a5, a6, a7, a8, a9, a10⟩ := hs _ _ _ _ h2
    obtain ⟨b1, b2, b3, b4, b5, b6, b7, b8, b9⟩ := ps_args_good hs _ _ _ _ h3
    obtain ⟨-, u2, rfl, u4⟩ := ps_take_ok h4
    have b2 := b2 a2
    cases g3
    obtain ⟨j1, j2⟩ := ps_join a9 a10 b8 b9 (by omega) (by omega)
    refine ⟨?_, u2, Nat.le_trans a3 b3, fun z => b4 (a4 z), ?_, ?_, u4, fun j hj => ?_, fun x hx => ?_, List.pairwise_cons.mpr ⟨fun x hx => ?_, j2⟩⟩
    · show i < r.2.2.2.1 + 1
      omega
    · show 1 ≤ 1 + p.2.2.1 + r.2.2.1
      omega
    · show 1 + p.2.2.1 + r.2.2.1 + i ≤ r.2.2.2.1 + 1
      omega
    · show tr_fit d (tr_ls (p.1 :: r.1) j)
      have hj : j < (p.1 :: r.1).length := hj
      unfold tr_ls
      rw [List.getD_eq_getElem?_getD, List.getElem?_eq_getElem hj, Option.getD_some]
      rcases List.mem_cons.mp (List.getElem_mem hj) with e | e
      · rw [e]; exact a8
      · exact b7 _ e
    · rcases List.mem_cons.mp hx with e | e
      · rw [e]
        show o ≤ o ∧ o < r.2.2.2.1 + 1
        omega
      · have := j1 x e
        show o ≤ x.1 ∧ x.1 < r.2.2.2.1 + 1
        omega
    · have := j1 x hx
      show o < x.1
      omega
theorem ps_name_good {sc : List (Int64 × Nat)} {o i m : Nat} (hi : i = o + 1) (h15 : i ≤ 1500) (hk : ¬K i = 19) : ps_good K 1 o m (ps_name V sc o i m) := by
  unfold ps_name
  split
  · exact ⟨by show o < i; omega, h15, Nat.le_refl _, id, Nat.le_refl _, by show 1 + o ≤ i; omega, hk, ps_leaf_fit _ _ _, fun o ho => absurd ho List.not_mem_nil, List.Pairwise.nil⟩
  · refine ⟨by show o < i; omega, h15, Nat.le_refl _, id, Nat.le_refl _, by show 1 + o ≤ i; omega, hk, ps_leaf_fit _ _ _, fun x hx => ?_, List.pairwise_singleton _ _⟩
    rw [List.mem_singleton.mp hx]
    show o ≤ o ∧ o < i
    omega
theorem ps_atom_good (hs : ∀ sc i m q, self sc i m = .ok q → ps_good K d i m q) {sc : List (Int64 × Nat)} {i m : Nat} {q : ps_O} (h : ps_atom K V self sc i m = .ok q) : ps_good K (d + 1) i m q := by
  unfold ps_atom at h
  split at h
  · obtain ⟨i1, h1, k0⟩ := ps_b_ok h
    obtain ⟨-, t2, rfl, -⟩ := ps_take_ok h1
    obtain ⟨a1, a2, a3, a4, a5, a6, a7, a8, a9, a10⟩ := ps_num_good k0
    exact ⟨by omega, a2, a3, a4, a5, by omega, a7, tr_fit_le a8 (by omega), ps_in a9 (by omega) (Nat.le_refl _), a10⟩
  · split at h
    · obtain ⟨a1, a2, a3, a4, a5, a6, a7, a8, a9, a10⟩ := ps_num_good h
      exact ⟨a1, a2, a3, a4, a5, a6, a7, tr_fit_le a8 (by omega), a9, a10⟩
    · split at h
      · obtain ⟨i1, h1, k0⟩ := ps_b_ok h
        obtain ⟨-, t2, rfl, t4⟩ := ps_take_ok h1
        split at k0
        · obtain ⟨a1, a2, a3, a4, a5, a6, a7, a8, a9, a10⟩ := ps_call_good hs (Nat.lt_succ_self i) k0
          exact ⟨by omega, a2, a3, a4, a5, by omega, a7, a8, a9, a10⟩
        · cases k0
          obtain ⟨a1, a2, a3, a4, a5, a6, a7, a8, a9, a10⟩ := ps_name_good (V := V) (sc := sc) (o := i) (m := m) rfl t2 t4
          exact ⟨a1, a2, a3, a4, a5, a6, a7, tr_fit_le a8 (by omega), a9, a10⟩
      · split at h
        · obtain ⟨i1, h1, k0⟩ := ps_b_ok h
          obtain ⟨p, h2, g1⟩ := ps_b_ok k0
          obtain ⟨i2, h3, g2⟩ := ps_b_ok g1
          obtain ⟨-, t2, rfl, -⟩ := ps_take_ok h1
          obtain ⟨a1, a2, a3, a4, a5, a6, a7, a8, a9, a10⟩ := hs _ _ _ _ h2
          obtain ⟨-, u2, rfl, u4⟩ := ps_take_ok h3
          cases g2
          exact ⟨by show i < p.2.2.2.1 + 1; omega, u2, a3, a4, a5, by show p.2.2.1 + i ≤ p.2.2.2.1 + 1; omega, u4, tr_fit_s _ _ a8, ps_in a9 (by omega) (Nat.le_succ _), a10⟩
        · cases h
theorem tr_fit_2 {k v : Int32} {o d : Nat} {a b : tr_T} (ha : tr_fit d a) (hb : tr_fit d b) : tr_fit (d + 1) (tr_2 k v o a b) := by
  intro j hj
  show tr_fit d (if j = 0 then a else b)
  split
  · exact ha
  · exact hb
theorem tr_fit_3 {k v : Int32} {o d : Nat} {a b c : tr_T} (ha : tr_fit d a) (hb : tr_fit d b) (hc : tr_fit d c) : tr_fit (d + 1) (tr_3 k v o a b c) := by
  intro j hj
  show tr_fit d (if j = 0 then a else if j = 1 then b else c)
  split
  · exact ha
  · split
    · exact hb
    · exact hc
theorem ps_two_good {g : Int32 → Bool} {p : Nat → Nat → Except ps_E ps_O} (hp : ∀ i m q, p i m = .ok q → ps_good K d i m q) {i m : Nat} {q : ps_O} (h : ps_two K g p i m = .ok q) : ps_good K (d + 1) i m q := by
  obtain ⟨l, h1, g1⟩ := ps_b_ok h
  obtain ⟨a1, a2, a3, a4, a5, a6, a7, a8, a9, a10⟩ := hp _ _ _ h1
  split at g1
  · obtain ⟨i1, h2, k0⟩ := ps_b_ok g1
    obtain ⟨r, h3, g2⟩ := ps_b_ok k0
    obtain ⟨-, t2, rfl, -⟩ := ps_take_ok h2
    obtain ⟨b1, b2, b3, b4, b5, b6, b7, b8, b9, b10⟩ := hp _ _ _ h3
    cases g2
    obtain ⟨j1, j2⟩ := ps_join a9 a10 (ps_in b9 (Nat.le_succ _) (Nat.le_refl _)) b10 (by omega) (by omega)
    exact ⟨by show i < r.2.2.2.1; omega, b2, Nat.le_trans a3 b3, fun z => b4 (a4 z), by show 1 ≤ l.2.2.1 + r.2.2.1 + 1; omega, by show l.2.2.1 + r.2.2.1 + 1 + i ≤ r.2.2.2.1; omega, b7, tr_fit_2 a8 b8, j1, j2⟩
  · cases g1
    exact ⟨a1, a2, a3, a4, a5, a6, a7, tr_fit_s _ _ a8, a9, a10⟩
theorem ps_ex_good : ∀ (r : Nat) (sc : List (Int64 × Nat)) (i m : Nat) (q : ps_O), ps_ex K V r sc i m = .ok q → ps_good K (4 * r) i m q := by
  intro r
  induction r with
  | zero =>
    intro sc i m q h
    unfold ps_ex at h
    split at h
    · cases h
    · cases h
  | succ r ih =>
    intro sc i m q h
    unfold ps_ex at h
    split at h
    · obtain ⟨i1, h1, k0⟩ := ps_b_ok h
      obtain ⟨i2, h2, g1⟩ := ps_b_ok k0
      obtain ⟨i3, h3, g2⟩ := ps_b_ok g1
      obtain ⟨p, h4, g3⟩ := ps_b_ok g2
      obtain ⟨i4, h5, g4⟩ := ps_b_ok g3
      obtain ⟨s, h6, g5⟩ := ps_b_ok g4
      obtain ⟨-, t2, rfl, -⟩ := ps_take_ok h1
      obtain ⟨h2, -, hb⟩ := ps_new_ok h2
      have hb := of_decide_eq_false hb
      obtain ⟨-, u2, rfl, -⟩ := ps_take_ok h2
      obtain ⟨-, v2, rfl, -⟩ := ps_take_ok h3
      obtain ⟨a1, a2, a3, a4, a5, a6, a7, a8, a9, a10⟩ := ih _ _ _ _ h4
      obtain ⟨-, w2, rfl, -⟩ := ps_take_ok h5
      obtain ⟨b1, b2, b3, b4, b5, b6, b7, b8, b9, b10⟩ := ih _ _ _ _ h6
      cases g5
      obtain ⟨j1, j2⟩ := ps_join a9 a10 (ps_in b9 (Nat.le_succ _) (Nat.le_refl _)) b10 (by omega) (by omega)
      exact ⟨by show i < s.2.2.2.1; omega, b2, by show m ≤ s.2.2.2.2; omega, fun z => b4 (a4 (by omega)), by show 1 ≤ 1 + p.2.2.1 + s.2.2.1; omega, by show 1 + p.2.2.1 + s.2.2.1 + i ≤ s.2.2.2.1; omega, b7, tr_fit_le (tr_fit_2 a8 b8) (by omega), ps_in j1 (by omega) (Nat.le_refl _), j2⟩
    · split at h
      · obtain ⟨i1, h1, k0⟩ := ps_b_ok h
        obtain ⟨p, h4, g1⟩ := ps_b_ok k0
        obtain ⟨i2, h2, g2⟩ := ps_b_ok g1
        obtain ⟨s, h5, g3⟩ := ps_b_ok g2
        obtain ⟨i3, h3, g4⟩ := ps_b_ok g3
        obtain ⟨u, h6, g5⟩ := ps_b_ok g4
        obtain ⟨-, t2, rfl, -⟩ := ps_take_ok h1
        obtain ⟨-, u2, rfl, -⟩ := ps_take_ok h2
        obtain ⟨-, v2, rfl, -⟩ := ps_take_ok h3
        obtain ⟨a1, a2, a3, a4, a5, a6, a7, a8, a9, a10⟩ := ih _ _ _ _ h4
        obtain ⟨b1, b2, b3, b4, b5, b6, b7, b8, b9, b10⟩ := ih _ _ _ _ h5
        obtain ⟨c1, c2, c3, c4, c5, c6, c7, c8, c9, c10⟩ := ih _ _ _ _ h6
        cases g5
        obtain ⟨j1, j2⟩ := ps_join b9 b10 (ps_in c9 (Nat.le_succ _) (Nat.le_refl _)) c10 (by omega) (by omega)
        obtain ⟨j1, j2⟩ := ps_join a9 a10 (ps_in j1 (Nat.le_succ _) (Nat.le_refl _)) j2 (by omega) (by omega)
        exact ⟨by show i < u.2.2.2.1; omega, c2, by show m ≤ u.2.2.2.2; omega, fun z => c4 (b4 (a4 z)), by show 1 ≤ 1 + p.2.2.1 + s.2.2.1 + u.2.2.1; omega, by show 1 + p.2.2.1 + s.2.2.1 + u.2.2.1 + i ≤ u.2.2.2.1; omega, c7, tr_fit_le (tr_fit_3 a8 b8 c8) (by omega), ps_in j1 (by omega) (Nat.le_refl _), j2⟩
      · exact ps_two_good (d := 4 * r + 3) (fun i m q h => ps_two_good (d := 4 * r + 2) (fun i m q h => ps_two_good (d := 4 * r + 1) (fun i m q h => ps_atom_good ih h) h) h) h
end PsG
