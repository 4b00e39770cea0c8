/-! part b41 -/
section
/-! What was read is as it should be. -/
abbrev we (V : Nat → Int64) (fs : List ps_F) (d : Nat) (B : Nat → Prop) (t : tr_T) : Prop := wf_t True fs.length (pg_n (ps_out V fs)) d B (tr_g (ld_G V fs) t)
def ws (V : Nat → Int64) (fs : List ps_F) (d : Nat) (sc : List (Int64 × Nat)) (p : Nat → Nat → Except ps_E ps_O) : Prop := ∀ i m q (B : Nat → Prop), p i m = .ok q → (∀ u, u ∈ sc → B u.2) → (∀ s, B s → s < m) → m ≤ 16 → (∀ o, o ∈ q.2.1 → ps_bad V fs o = none) → we V fs d B q.1
def ws_F (fs : List ps_F) : Prop := fs.length ≤ 48 ∧ ∀ q, q ∈ fs → q.2.1 ≤ 4
section Wf5
variable {K : Nat → Int32} {V : Nat → Int64} {self : ps_P} {d : Nat} {fs : List ps_F} {B : Nat → Prop} {sc : List (Int64 × Nat)}
theorem ps_look_m {x : Int64} {s : Nat} : ∀ sc : List (Int64 × Nat), ps_look x sc = some s → ∃ u, u ∈ sc ∧ u.2 = s := by
  intro sc
  induction sc with
  | nil => intro h; cases h
  | cons q r ih =>
    intro h
    unfold ps_look at h
    split at h
    · cases h
      exact ⟨q, List.mem_cons_self, rfl⟩
    · obtain ⟨u, h1, h2⟩ := ih h
      exact ⟨u, List.mem_cons_of_mem _ h1, h2⟩
theorem ps_ix_lt {x : Int64} {f : Nat} : ∀ (l : List ps_F) (j : Nat) (r : Option Nat), ps_ix x l j r = some f → r = some f ∨ f < j + l.length := by
  intro l
  induction l with
  | nil => intro j r h; exact Or.inl h
  | cons q l ih =>
    intro j r h
    unfold ps_ix at h
    have e : (q :: l).length = l.length + 1 := rfl
    rcases ih _ _ h with h1 | h1
    · split at h1
      · cases h1
        exact Or.inr (by omega)
      · exact Or.inl h1
    · exact Or.inr (by omega)
theorem ps_out_n {f : Nat} (hf : f < fs.length) : pg_n (ps_out V fs) f = fs[f].2.1 := by
  have h : f < (ps_out V fs).length := by rw [ps_out_l]; exact hf
  unfold pg_n
  rw [List.getD_eq_getElem?_getD, List.getElem?_eq_getElem h, Option.getD_some, ps_out_g h hf]
/-- a call that isn't bad -/
theorem ps_bad_n {o n : Nat} (h : ps_bad V fs (o, n + 1) = none) (ho : o < 2147483648) : ∃ f, f < fs.length ∧ ld_G V fs (Int32.ofNat o) = Int32.ofNat f ∧ pg_n (ps_out V fs) f = n := by
  unfold ps_bad at h
  rw [if_neg (show ¬(o, n + 1).2 = 0 from Nat.succ_ne_zero n)] at h
  unfold ld_G
  rw [im_t ho]
  cases e : ps_ix (V o) fs 0 none with
  | none => rw [e] at h; cases h
  | some f =>
    rw [e] at h
    have hf : f < fs.length := by
      rcases ps_ix_lt _ _ _ e with q | q
      · cases q
      · omega
    refine ⟨f, hf, rfl, ?_⟩
    dsimp only at h
    split at h
    · next hq =>
      rw [List.getD_eq_getElem?_getD, List.getElem?_eq_getElem hf, Option.getD_some] at hq
      rw [ps_out_n hf]
      exact hq
    · cases h
theorem we_call (hF : ws_F fs) {o n : Nat} {ts : List tr_T} (ho : o < 1500) (hn : ts.length = n) (hb : ps_bad V fs (o, n + 1) = none) (ht : ∀ j, j < n → we V fs d B (tr_ls ts j)) : we V fs (d + 1) B (tr_mk 5 (Int32.ofNat o) o n (tr_ls ts)) := by
  obtain ⟨f, f1, f2, f3⟩ := ps_bad_n hb (by omega)
  have h48 := hF.1
  have h4 := hF.2 fs[f] (List.getElem_mem f1)
  rw [ps_out_n f1] at f3
  have ev : tr_v (tr_g (ld_G V fs) (tr_mk 5 (Int32.ofNat o) o n (tr_ls ts))) = Int32.ofNat f := f2
  have en : tr_n (tr_g (ld_G V fs) (tr_mk 5 (Int32.ofNat o) o n (tr_ls ts))) = f := by
    unfold tr_n
    rw [ev, im_t (by omega)]
  exact Or.inr (Or.inr (Or.inr (Or.inr (Or.inl ⟨rfl, by show n ≤ 4; omega, by rw [ev, en], by rw [en]; exact f1, by rw [en, ps_out_n f1]; exact f3.symm, fun j hj => ht j hj⟩))))
theorem we_args (hs : ∀ sc, ws V fs d sc (self sc)) (hgd : ∀ sc i m q, self sc i m = .ok q → ps_good K d i m q) : ∀ f i m r, ps_args K self sc f i m = .ok r → (∀ u, u ∈ sc → B u.2) → (∀ s, B s → s < m) → m ≤ 16 → (∀ o, o ∈ r.2.1 → ps_bad V fs o = none) → ∀ j, j < r.1.length → we V fs d B (tr_ls r.1 j) := by
  intro f
  induction f with
  | zero => intro i m r h _ _ _ _ j hj; cases h; exact absurd hj (Nat.not_lt_zero _)
  | succ f ih =>
    intro i m r h h1 h2 h3 h4 j hj
    unfold ps_args at h
    split at h
    · obtain ⟨i1, -, g1⟩ := ps_b_ok h
      obtain ⟨q, k2, g2⟩ := ps_b_ok g1
      obtain ⟨s, k3, g3⟩ := ps_b_ok g2
      obtain ⟨-, -, p3, p4, -⟩ := hgd _ _ _ _ k2
      cases g3
      cases j with
      | zero => exact hs sc _ _ _ _ k2 h1 h2 h3 (fun o ho => h4 o (List.mem_append_left _ ho))
      | succ j => exact ih _ _ _ k3 h1 (fun s hs => by have := h2 s hs; omega) (p4 h3) (fun o ho => h4 o (List.mem_append_right _ ho)) j (Nat.lt_of_succ_lt_succ hj)
    · cases h
      exact absurd hj (Nat.not_lt_zero _)
theorem we_atom (hF : ws_F fs) (hs : ∀ sc, ws V fs d sc (self sc)) (hgd : ∀ sc i m q, self sc i m = .ok q → ps_good K d i m q) : ws V fs (d + 1) sc (ps_atom K V self sc) := by
  intro i m q B h h1 h2 h3 h4
  have hnum : ∀ s i q, ps_num K V s i m = .ok q → we V fs (d + 1) B q.1 := fun s i q h => by
    obtain ⟨i2, -, g2⟩ := ps_b_ok h
    cases g2
    exact Or.inl rfl
  unfold ps_atom at h
  split at h
  · obtain ⟨i1, -, g1⟩ := ps_b_ok h
    exact hnum _ _ _ g1
  · split at h
    · exact hnum _ _ _ h
    · split at h
      · obtain ⟨i1, k1, g1⟩ := ps_b_ok h
        obtain ⟨-, hi, -⟩ := ps_take_ok k1
        split at g1
        · obtain ⟨i2, -, g2⟩ := ps_b_ok g1
          split at g2
          · obtain ⟨i3, -, g3⟩ := ps_b_ok g2
            cases g3
            exact we_call hF (ts := []) hi rfl (h4 (i, 1) List.mem_cons_self) (fun j hj => absurd hj (Nat.not_lt_zero _))
          · obtain ⟨p, k2, g3⟩ := ps_b_ok g2
            obtain ⟨r, k3, g4⟩ := ps_b_ok g3
            obtain ⟨i3, -, g5⟩ := ps_b_ok g4
            obtain ⟨-, -, p3, p4, -⟩ := hgd _ _ _ _ k2
            cases g5
            refine we_call hF (ts := p.1 :: r.1) (n := r.1.length + 1) hi rfl (h4 (i, r.1.length + 2) List.mem_cons_self) (fun j hj => ?_)
            cases j with
            | zero => exact hs sc _ _ _ _ k2 h1 h2 h3 (fun o ho => h4 o (List.mem_cons_of_mem _ (List.mem_append_left _ ho)))
            | succ j => exact we_args hs hgd _ _ _ _ k3 h1 (fun s hs => by have := h2 s hs; omega) (p4 h3) (fun o ho => h4 o (List.mem_cons_of_mem _ (List.mem_append_right _ ho))) j (Nat.lt_of_succ_lt_succ hj)
        · cases g1
          unfold ps_name at h4 ⊢
          cases e : ps_look (V i) sc with
          | some s =>
            obtain ⟨u, u1, u2⟩ := ps_look_m _ e
            have hB : B s := by rw [← u2]; exact h1 u u1
            have hm := h2 s hB
            have en : tr_n (tr_g (ld_G V fs) (tr_l 2 (Int32.ofNat s) i)) = s := by
              show (Int32.ofNat s).toNatClampNeg = s
              exact im_t (by omega)
            exact Or.inr (Or.inl ⟨rfl, by show tr_v (tr_g (ld_G V fs) (tr_l 2 (Int32.ofNat s) i)) = Int32.ofNat (tr_n (tr_g (ld_G V fs) (tr_l 2 (Int32.ofNat s) i))); rw [en]; rfl, by show tr_n (tr_g (ld_G V fs) (tr_l 2 (Int32.ofNat s) i)) < 16; rw [en]; omega, by show B (tr_n (tr_g (ld_G V fs) (tr_l 2 (Int32.ofNat s) i))); rw [en]; exact hB⟩)
          | none =>
            rw [e] at h4
            have := h4 (i, 0) List.mem_cons_self
            cases this
      · split at h
        · obtain ⟨i1, -, g1⟩ := ps_b_ok h
          obtain ⟨p, k2, g2⟩ := ps_b_ok g1
          obtain ⟨i2, -, g3⟩ := ps_b_ok g2
          cases g3
          exact wf_t_s _ _ _ (hs sc _ _ p _ k2 h1 h2 h3 h4)
        · cases h
theorem we_two {g : Int32 → Bool} (hg : ∀ k : Int32, g k = true → k = 6 ∨ k = 7 ∨ k = 8 ∨ k = 9 ∨ k = 10) {p : Nat → Nat → Except ps_E ps_O} (hp : ws V fs d sc p) (hgd : ∀ i m q, p i m = .ok q → ps_good K d i m q) : ws V fs (d + 1) sc (ps_two K g p) := by
  intro i m q B h h1 h2 h3 h4
  obtain ⟨l, k1, g1⟩ := ps_b_ok h
  obtain ⟨-, -, p3, p4, -⟩ := hgd _ _ _ k1
  split at g1
  · next hk =>
    obtain ⟨i1, -, g2⟩ := ps_b_ok g1
    obtain ⟨r, k3, g3⟩ := ps_b_ok g2
    cases g3
    have hg := hg _ hk
    generalize K l.2.2.2.1 = k at hg
    have ek : tr_k (tr_g (ld_G V fs) (tr_2 k 0 0 l.1 r.1)) = k := tr_g_k
    have e0 : tr_a (tr_g (ld_G V fs) (tr_2 k 0 0 l.1 r.1)) = 2 := tr_g_a
    exact Or.inr (Or.inr (Or.inr (Or.inr (Or.inr ⟨by rw [ek]; exact hg, e0, hp _ _ _ _ k1 h1 h2 h3 (fun o ho => h4 o (List.mem_append_left _ ho)), hp _ _ _ _ k3 h1 (fun s hs => by have := h2 s hs; omega) (p4 h3) (fun o ho => h4 o (List.mem_append_right _ ho))⟩))))
  · cases g1
    exact wf_t_s _ _ _ (hp _ _ _ _ k1 h1 h2 h3 h4)
theorem we_ex (hF : ws_F fs) : ∀ (r : Nat) (sc : List (Int64 × Nat)), ws V fs (4 * r) sc (ps_ex K V r sc) := by
  intro r
  induction r with
  | zero =>
    intro sc i m q B h
    unfold ps_ex at h
    split at h
    · cases h
    · cases h
  | succ r ih =>
    intro sc i m q B h h1 h2 h3 h4
    have hgd : ∀ sc i m q, ps_ex K V r sc i m = .ok q → ps_good K (4 * r) i m q := fun sc i m q hq => ps_ex_good r sc i m q hq
    unfold ps_ex at h
    split at h
    · obtain ⟨i1, k1, g1⟩ := ps_b_ok h
      obtain ⟨i2, k2, g2⟩ := ps_b_ok g1
      obtain ⟨i3, k3, g3⟩ := ps_b_ok g2
      obtain ⟨p, k4, g4⟩ := ps_b_ok g3
      obtain ⟨i4, k5, g5⟩ := ps_b_ok g4
      obtain ⟨s, k6, g6⟩ := ps_b_ok g5
      obtain ⟨-, -, kb⟩ := ps_new_ok k2
      have kb := of_decide_eq_false kb
      obtain ⟨-, -, p3, p4, -⟩ := hgd _ _ _ _ k4
      have p5 := p4 (by omega)
      cases g6
      have en : tr_n (tr_g (ld_G V fs) (tr_2 3 (Int32.ofNat m) i1 p.1 s.1)) = m := by
        show (Int32.ofNat m).toNatClampNeg = m
        exact im_t (by omega)
      refine wf_t_le (d := 4 * r + 1) (Or.inr (Or.inr (Or.inl ⟨rfl, by rw [en]; rfl, by rw [en]; omega, rfl, fun _ hb => ?_, ih _ _ _ _ _ k4 h1 (fun s hs => by have := h2 s hs; omega) (by omega) (fun o ho => h4 o (List.mem_append_left _ ho)), ?_⟩))) (by omega)
      · rw [en] at hb
        have := h2 _ hb
        omega
      · rw [en]
        refine ih _ _ _ _ _ k6 (fun u hu => ?_) (fun s hs => ?_) p5 (fun o ho => h4 o (List.mem_append_right _ ho))
        · rcases List.mem_cons.mp hu with rfl | hu
          · exact Or.inr rfl
          · exact Or.inl (h1 u hu)
        · rcases hs with hs | hs
          · have := h2 s hs
            omega
          · omega
    · split at h
      · obtain ⟨i1, k1, g1⟩ := ps_b_ok h
        obtain ⟨p, k4, g2⟩ := ps_b_ok g1
        obtain ⟨i2, k2, g3⟩ := ps_b_ok g2
        obtain ⟨s, k5, g4⟩ := ps_b_ok g3
        obtain ⟨i3, k3, g5⟩ := ps_b_ok g4
        obtain ⟨u, k6, g6⟩ := ps_b_ok g5
        obtain ⟨-, -, p3, p4, -⟩ := hgd _ _ _ _ k4
        obtain ⟨-, -, s3, s4, -⟩ := hgd _ _ _ _ k5
        have p5 := p4 h3
        have s5 := s4 p5
        cases g6
        exact wf_t_le (d := 4 * r + 1) (Or.inr (Or.inr (Or.inr (Or.inl ⟨rfl, rfl, ih _ _ _ _ _ k4 h1 h2 h3 (fun o ho => h4 o (List.mem_append_left _ ho)), ih _ _ _ _ _ k5 h1 (fun s hs => by have := h2 s hs; omega) p5 (fun o ho => h4 o (List.mem_append_right _ (List.mem_append_left _ ho))), ih _ _ _ _ _ k6 h1 (fun s hs => by have := h2 s hs; omega) s5 (fun o ho => h4 o (List.mem_append_right _ (List.mem_append_right _ ho)))⟩)))) (by omega)
      · have c1 : ∀ k : Int32, (k == 8) = true → k = 6 ∨ k = 7 ∨ k = 8 ∨ k = 9 ∨ k = 10 := fun k hk => by
          rw [beq_iff_eq] at hk
          exact Or.inr (Or.inr (Or.inl hk))
        have c2 : ∀ k : Int32, (k == 6 || k == 7) = true → k = 6 ∨ k = 7 ∨ k = 8 ∨ k = 9 ∨ k = 10 := fun k hk => by
          rw [Bool.or_eq_true, beq_iff_eq, beq_iff_eq] at hk
          rcases hk with z | z
          · exact Or.inl z
          · exact Or.inr (Or.inl z)
        have c3 : ∀ k : Int32, (k == 9 || k == 10) = true → k = 6 ∨ k = 7 ∨ k = 8 ∨ k = 9 ∨ k = 10 := fun k hk => by
          rw [Bool.or_eq_true, beq_iff_eq, beq_iff_eq] at hk
          rcases hk with z | z
          · exact Or.inr (Or.inr (Or.inr (Or.inl z)))
          · exact Or.inr (Or.inr (Or.inr (Or.inr z)))
        have w1 : ws V fs (4 * r + 1) sc (ps_atom K V (ps_ex K V r) sc) := we_atom hF ih hgd
        have w2 := we_two c1 w1 (fun i m q h => ps_atom_good hgd h)
        have w3 := we_two c2 w2 (fun i m q h => ps_two_good (fun i m q h => ps_atom_good hgd h) h)
        exact we_two c3 w3 (fun i m q h => ps_two_good (fun i m q h => ps_two_good (fun i m q h => ps_atom_good hgd h) h) h) i m q B h h1 h2 h3 h4
/-- a function that was read -/
def ps_src (K : Nat → Int32) (V : Nat → Int64) (q : ps_F) : Prop := ∃ sc i u, ps_ps sc ∧ sc.length ≤ 4 ∧ q.2.1 = sc.length ∧ ps_ex K V 24 sc i sc.length = .ok u ∧ q.2.2.1 = u.1 ∧ q.2.2.2.1 = u.2.1
theorem ps_fun_src {fk : List Int64} {i : Nat} {q : ps_F × Nat} (h : ps_fun K V fk i = .ok q) : ps_src K V q.1 := by
  obtain ⟨w, k1, k2⟩ := ps_b_ok h
  obtain ⟨a1, a2, a3, a4, a5, a6, a7, a8⟩ := ps_head_ok k1
  obtain ⟨i4, k3, k4⟩ := ps_b_ok k2
  obtain ⟨i5, k5, k6⟩ := ps_b_ok k4
  obtain ⟨r, k7, k8⟩ := ps_b_ok k6
  obtain ⟨i6, k9, k10⟩ := ps_b_ok k8
  cases k10
  exact ⟨w.1, i5, r, a5, a6, rfl, k7, rfl, rfl⟩
theorem ps_funs_src : ∀ (f i : Nat) (fs fs' : List ps_F), (∀ q, q ∈ fs → ps_src K V q) → ps_funs K V f fs i = .ok fs' → ∀ q, q ∈ fs' → ps_src K V q := by
  intro f
  induction f with
  | zero => intro i fs fs' h1 h; cases h; exact h1
  | succ f ih =>
    intro i fs fs' h1 h
    unfold ps_funs at h
    split at h
    · cases h; exact h1
    · obtain ⟨q, k1, k2⟩ := ps_b_ok h
      refine ih _ _ _ (fun x hx => ?_) k2
      rcases List.mem_append.mp hx with hx | hx
      · exact h1 x hx
      · rw [List.mem_singleton.mp hx]
        exact ps_fun_src k1
theorem ps_prog_src (h : ps_prog K V = .ok fs) : ∀ q, q ∈ fs → ps_src K V q := by
  unfold ps_prog at h
  split at h
  · cases h
  · obtain ⟨q, k1, k2⟩ := ps_b_ok h
    exact ps_funs_src _ _ _ _ (fun x hx => by rw [List.mem_singleton.mp hx]; exact ps_fun_src k1) k2
theorem ps_ps_lt : ∀ sc : List (Int64 × Nat), ps_ps sc → ∀ u, u ∈ sc → u.2 < sc.length := by
  intro sc
  induction sc with
  | nil => intro _ u hu; exact absurd hu List.not_mem_nil
  | cons q r ih =>
    intro h u hu
    show u.2 < r.length + 1
    rcases List.mem_cons.mp hu with rfl | hu
    · rw [h.1]; exact Nat.lt_succ_self _
    · have := ih h.2 u hu
      omega
theorem ps_first_n : ∀ M : List (Nat × Nat), ps_first V fs M = none → ∀ o, o ∈ M → ps_bad V fs o = none := by
  intro M
  induction M with
  | nil => intro _ o ho; exact absurd ho List.not_mem_nil
  | cons q r ih =>
    intro h o ho
    unfold ps_first at h
    cases e : ps_bad V fs q with
    | some x => rw [e] at h; cases h
    | none =>
      rw [e] at h
      rcases List.mem_cons.mp ho with rfl | ho
      · exact e
      · exact ih h o ho
theorem wf_read (h : ps_read K V = .ok fs) : wf_P (ps_out V fs) := by
  unfold ps_read at h
  obtain ⟨fs', k1, k2⟩ := ps_b_ok h
  cases e : ps_first V fs' (ps_M fs') with
  | some x => rw [e] at k2; cases k2
  | none =>
    rw [e] at k2
    cases k2
    obtain ⟨-, -, -, g4, g5⟩ := ps_prog_gd k1
    have hF : ws_F fs := ⟨g5, fun q hq => (g4 q hq).1⟩
    refine ⟨by rw [ps_out_l]; exact g5, fun f => ?_, fun f hf => ?_⟩
    · by_cases hf : f < fs.length
      · rw [ps_out_n hf]
        exact (g4 _ (List.getElem_mem hf)).1
      · unfold pg_n
        rw [List.getD_eq_getElem?_getD, List.getElem?_eq_none (by rw [ps_out_l]; omega)]
        exact Nat.zero_le _
    · rw [ps_out_l] at hf ⊢
      have hfo : f < (ps_out V fs).length := by rw [ps_out_l]; exact hf
      obtain ⟨sc, i, u, s1, s2, s3, s4, s5, s6⟩ := ps_prog_src k1 fs[f] (List.getElem_mem hf)
      have et : (pg_P (ps_out V fs)).getD f tr_z = tr_g (ld_G V fs) u.1 := by
        unfold pg_P
        rw [List.getD_eq_getElem?_getD, List.getElem?_map, List.getElem?_eq_getElem hfo, ps_out_g hfo hf]
        show tr_g (ld_G V fs) fs[f].2.2.1 = _
        rw [s5]
      rw [et, ps_out_n hf, s3]
      refine we_ex hF 24 sc i sc.length u _ s4 (ps_ps_lt sc s1) (fun s hs => hs) (by omega) (fun o ho => ps_first_n _ e o ?_)
      unfold ps_M
      exact List.mem_flatMap.mpr ⟨fs[f], List.getElem_mem hf, by rw [s6]; exact ho⟩
end Wf5
end
/-! part b42 -/
section
/-! run(): what it gives; the class. -/
def ge {α : Type} (x : Except ev_E α) : Prop := match x with
  | .ok _ => True
  | .error none => True
  | .error (some e) => e.1 = 2 ∨ e.1 = 3
theorem ge_b {α β : Type} {x : Except ev_E α} {f : α → Except ev_E β} (h : ge x) (hf : ∀ a, ge (f a)) : ge (ev_b x f) := by
  cases x with
  | ok a => exact hf a
  | error e =>
    cases e with
    | none => trivial
    | some u => exact h
theorem ge_args {self : ev_P} (hs : ∀ V s m t, ge (self V s m t)) {t : tr_T} : ∀ (r j : Nat) (V : ev_V) (s m : Nat), ge (ev_args self t r j V s m) := by
  intro r
  induction r with
  | zero => intro j V s m; trivial
  | succ r ih =>
    intro j V s m
    exact ge_b (hs _ _ _ _) (fun q => ge_b (ih _ _ _ _) (fun w => trivial))
theorem ev_ge {P : List tr_T} {lim : Nat} : ∀ (r : Nat) (V : ev_V) (s m : Nat) (t : tr_T), ge (ev P lim r V s m t) := by
  intro r
  induction r with
  | zero =>
    intro V s m t
    unfold ev
    split
    · exact Or.inl rfl
    · exact Or.inr rfl
  | succ r ih =>
    intro V s m t
    unfold ev
    split
    · exact Or.inl rfl
    · unfold ev_in
      split
      · split
        · trivial
        · split
          · split <;> trivial
          · split
            · exact ge_b (ih _ _ _ _) (fun q => ih _ _ _ _)
            · split
              · exact ge_b (ih _ _ _ _) (fun q => ih _ _ _ _)
              · split
                · exact ge_b (ge_args ih _ _ _ _ _) (fun q => ge_b (ih _ _ _ _) (fun w => trivial))
                · exact ge_b (ih _ _ _ _) (fun q => ge_b (ih _ _ _ _) (fun w => trivial))
      · trivial
def rn (pg : pg_T) (l : List Int32) (p lim : Int32) : String ⊕ (Int32 × Int32 × Nat × Nat) := if pg.length = 0 then .inl "java/lang/IllegalStateException" else if p < 0 ∨ ¬p < Int32.ofNat pg.length then .inl "java/lang/IndexOutOfBoundsException" else if lim < 0 ∨ 20000 < lim then .inl "java/lang/IllegalArgumentException" else if pg_n pg p.toNatClampNeg = l.length then (match ev (pg_P pg) lim.toNatClampNeg 160 (ev_l l) 0 0 ((pg_P pg).getD p.toNatClampNeg tr_z) with
    | .ok q => .inr (1, q.1, q.2.2.1, q.2.2.2)
    | .error none => .inr (0, 0, 0, 0)
    | .error (some e) => .inr (e.1, 0, e.2.1, e.2.2)) else .inl "java/lang/IllegalArgumentException"
def rn_W (a k : Nat) : Prop := cx_W a k ∨ (a = 1 ∧ k = 18) ∨ a = 134
def rn_ok (pg : pg_T) (l : List Int32) : Prop := ∀ f lim, f < pg.length → pg_n pg f = l.length → ¬ev (pg_P pg) lim 160 (ev_l l) 0 0 ((pg_P pg).getD f tr_z) = .error none
section Rn
variable {b L M : Nat} {pg : pg_T} {S S' S1 : wd_S} {l : List Int32} {p lim : Int32}
theorem rn_135 {x y : Int32} (h9 : S.1 104 9 = x) (h10 : S.1 104 10 = y) {r v : Int32} : ∃ S', fn_Sp_run_135 r 0 v S = some (.inl r, S') ∧ S'.1 134 0 = v ∧ S'.1 134 1 = x ∧ S'.1 134 2 = y ∧ of_r rn_W cx_R S S' := by
  have t : (tp_t (133 + 1)).2 = 3 := rfl
  unfold fn_Sp_run_135 fn_Runner_steps fn_Runner_deepest
  refine ⟨wd_i (wd_i (wd_i S (133 + 1) 0 v) (133 + 1) 1 x) (133 + 1) 2 y, ?_, ?_, ?_, ?_, ?_⟩
  · rw [ro_put_ok, wd_d_s, show (0 : Int32) = Int32.ofNat 0 from rfl, ro_pn t (show 0 < 3 by decide), wd_c_s, ro_put_ok, wd_d_s, fr_ne (by omega), h9, show (1 : Int32) = Int32.ofNat 1 from rfl, ro_pn t (show 1 < 3 by decide), wd_c_s, ro_put_ok, wd_d_s, fr_ne (by omega), fr_ne (by omega), h10, show (2 : Int32) = Int32.ofNat 2 from rfl, ro_pn t (show 2 < 3 by decide)]
  · rw [fr_ne (by omega), fr_ne (by omega), fr_eq]
  · rw [fr_ne (by omega), fr_eq]
  · rw [fr_eq]
  · exact ofr_i (by unfold rn_W; omega) (ofr_i (by unfold rn_W; omega) (ofr_i (by unfold rn_W; omega) ofr_refl))
theorem sp_run18 (hb : cb_ok b L M) (hM : pg.length ≤ M) (hM2 : (tp_t (b + 16 + 1)).2 = M) (hc : S.1 b 3 = Int32.ofNat pg.length) (hpar : ∀ j, (hj : j < pg.length) → S.1 (b + 17) j = Int32.ofNat pg[j].1 ∧ pg[j].1 ≤ 4) (hP : cg_P b L 96 (pg_P pg) S) (hg : S.1 1 18 = Int32.ofNat l.length) (hl4 : l.length ≤ 4) (hl : ∀ i, (hi : i < l.length) → S.1 132 i = l[i]) (hnn : rn_ok pg l) (hb1 : 1 < b) : match rn pg l p lim with
    | .inl E => fn_Sp_run_18 p lim b S = some (.inr E, wd_n S)
    | .inr r => ∃ S', fn_Sp_run_18 p lim b S = some (.inl r.1, S') ∧ S'.1 1 18 = 0 ∧ S'.1 134 0 = r.2.1 ∧ S'.1 134 1 = Int32.ofNat r.2.2.1 ∧ S'.1 134 2 = Int32.ofNat r.2.2.2 ∧ of_r rn_W cx_R S S' := by
  have hb0 := hb
  obtain ⟨c1, c2, c3, c4, c5, c6, c7⟩ := hb
  have hlen : pg.length < 2147483648 := by omega
  unfold rn fn_Sp_run_18 fn_Bodies_count fn_Sp_run_81
  rw [wd_c_s, hc]
  by_cases h0 : pg.length = 0
  · rw [if_pos h0, if_pos (by rw [h0]; rfl)]
  · rw [if_neg h0, if_neg (show ¬Int32.ofNat pg.length = 0 from fun q => h0 ((im_eq (m := pg.length) (n := 0) hlen (by omega)).mp q)), fo_has, wd_c_s, hc]
    by_cases h1 : p < 0 ∨ ¬p < Int32.ofNat pg.length
    · rw [if_pos h1, if_pos h1, if_pos rfl]
    · rw [if_neg h1, if_neg h1, if_neg (show ¬(1 : Int32) = 0 by decide)]
      have hp0 : ¬p < 0 := fun q => h1 (Or.inl q)
      have hpl : p.toNatClampNeg < pg.length := (im_ltn hp0 hlen).mp (Decidable.byContradiction fun q => h1 (Or.inr q))
      obtain ⟨f, hf⟩ : ∃ f, f = p.toNatClampNeg := ⟨_, rfl⟩
      have ep : p = Int32.ofNat f := by rw [hf]; exact (im_of hp0).symm
      rw [← hf] at hpl ⊢
      by_cases h2 : lim < 0
      · rw [if_pos (Or.inl h2), if_pos h2]
      · by_cases h3 : 20000 < lim
        · rw [if_pos (Or.inr h3), if_neg h2, if_pos h3]
        · rw [if_neg (fun q => q.elim h2 h3), if_neg h2, if_neg h3]
          have hlim : lim.toNatClampNeg ≤ 20000 := by
            have : ¬20000 < lim.toNatClampNeg := fun q => h3 (by
              rw [← im_of h2]
              exact (im_lt (m := 20000) (by omega) (im_tl lim)).mpr q)
            omega
          obtain ⟨n, hn⟩ : ∃ n, n = lim.toNatClampNeg := ⟨_, rfl⟩
          have en : lim = Int32.ofNat n := by rw [hn]; exact (im_of h2).symm
          rw [← hn] at hlim ⊢
          obtain ⟨a1, a2⟩ := hpar f hpl
          have epn : pg_n pg f = pg[f].1 := by
            unfold pg_n
            rw [List.getD_eq_getElem?_getD, List.getElem?_eq_getElem hpl]
            rfl
          rw [fo_params, wd_c_s, hg, ep, ro_an hM2 (show f < M by omega), a1, epn]
          by_cases h4 : pg[f].1 = l.length
          · rw [if_pos h4, if_pos (by rw [h4])]
            have hfP : f < (pg_P pg).length := by rw [pg_P_l]; exact hpl
            have eP : (pg_P pg).getD f tr_z = (pg_P pg)[f] := by rw [List.getD_eq_getElem?_getD, List.getElem?_eq_getElem hfP]; rfl
            have o0 : of_r rn_W cx_R S (wd_i S 1 18 0) := ofr_i (by unfold rn_W; omega) ofr_refl
            have hP0 : cg_P b L 96 (pg_P pg) (wd_i S 1 18 0) := fun j hj => by
              obtain ⟨y, y1, y2⟩ := hP j hj
              exact ⟨y, by rw [fr_ne (by omega)]; exact y1, nd_t_g (nd_rows (fun a h1 h2 => funext fun k => fr_ne (by omega))) _ _ _ y2⟩
            have hw := sp_work (k := f) (p := 131) (l := l) (lim := n) hb0 (by rw [pg_P_l]; exact hM) hfP hP0 hlim rfl (by omega) hl4 (fun i hi => by rw [fr_ne (by omega)]; exact hl i hi)
            have hne := hnn f n hpl (by rw [epn]; exact h4)
            have hge := ev_ge (P := pg_P pg) (lim := n) 160 (ev_l l) 0 0 ((pg_P pg).getD f tr_z)
            rw [eP] at hne hge ⊢
            simp only [wd_b]
            rw [en]
            have fin : ∀ S2 (v : Int32) r x y, of_r cx_W cx_R (wd_i S 1 18 0) S2 → S2.1 104 9 = x → S2.1 104 10 = y → ∃ S', fn_Sp_run_135 r 0 v S2 = some (.inl r, S') ∧ S'.1 1 18 = 0 ∧ S'.1 134 0 = v ∧ S'.1 134 1 = x ∧ S'.1 134 2 = y ∧ of_r rn_W cx_R S S' := fun S2 v r x y o2 q9 q10 => by
              obtain ⟨S', f1, f2, f3, f4, f5⟩ := rn_135 (r := r) (v := v) q9 q10
              refine ⟨S', f1, ?_, f2, f3, f4, ofr_trans o0 (ofr_trans ⟨fun a k q => o2.1 a k (fun z => q (Or.inl z)), fun a k q => o2.2.1 a k (fun z => q (Or.inl z)), o2.2.2.1, o2.2.2.2⟩ f5)⟩
              have h18 : S2.1 1 18 = 0 := by rw [o2.1 1 18 (by unfold cx_W; omega), fr_eq]
              have e134 : fn_Sp_run_135 r 0 v S2 = some (.inl r, wd_i (wd_i (wd_i S2 (133 + 1) 0 v) (133 + 1) 1 x) (133 + 1) 2 y) := by
                have t : (tp_t (133 + 1)).2 = 3 := rfl
                unfold fn_Sp_run_135 fn_Runner_steps fn_Runner_deepest
                rw [ro_put_ok, wd_d_s, show (0 : Int32) = Int32.ofNat 0 from rfl, ro_pn t (show 0 < 3 by decide), wd_c_s, ro_put_ok, wd_d_s, fr_ne (by omega), q9, show (1 : Int32) = Int32.ofNat 1 from rfl, ro_pn t (show 1 < 3 by decide), wd_c_s, ro_put_ok, wd_d_s, fr_ne (by omega), fr_ne (by omega), q10, show (2 : Int32) = Int32.ofNat 2 from rfl, ro_pn t (show 2 < 3 by decide)]
              rw [e134] at f1
              cases f1
              rw [fr_ne (by omega), fr_ne (by omega), fr_ne (by omega)]
              exact h18
            cases he : ev (pg_P pg) n 160 (ev_l l) 0 0 (pg_P pg)[f] with
            | ok q =>
              rw [he] at hw
              obtain ⟨S2, w1, w2, w3, w4, w5⟩ := hw
              obtain ⟨S', g1, g2⟩ := fin S2 q.1 1 _ _ w5 w3 w4
              refine ⟨S', ?_, g2⟩
              rw [w1, wd_c_s, if_pos rfl]
              unfold fn_Runner_result
              rw [wd_c_s, w2]
              exact g1
            | error e =>
              cases e with
              | none => exact absurd he hne
              | some e =>
                rw [he] at hw hge
                obtain ⟨S2, w1, -, w3, w4, w5⟩ := hw
                obtain ⟨S', g1, g2⟩ := fin S2 0 e.1 _ _ w5 w3 w4
                refine ⟨S', ?_, g2⟩
                have n1 : ¬e.1 = 1 := by
                  have hge : e.1 = 2 ∨ e.1 = 3 := hge
                  rcases hge with z | z <;> rw [z] <;> decide
                rw [w1, wd_c_s, if_neg n1]
                exact g1
          · rw [if_neg h4, if_neg (fun q => h4 ((im_eq (by omega) (by omega)).mp q).symm)]
end Rn
end
/-! part b43 -/
section
/-! run(): the reference. -/
def rr (x : Except ev_E ev_O) : Int32 × Int32 × Nat × Nat := match x with
  | .ok q => (1, q.1, q.2.2.1, q.2.2.2)
  | .error none => (0, 0, 0, 0)
  | .error (some e) => (e.1, 0, e.2.1, e.2.2)
def mr_W (a b : Nat) : Prop := mgX a b ∨ (a = 135 ∧ (b = 0 ∨ (95 ≤ b ∧ b ≤ 98)))
def mr_c (E : String) : Int32 := if E = "java/lang/IllegalStateException" then 1 else if E = "java/lang/IndexOutOfBoundsException" then 2 else 3
section Rm
variable {X lo hi al ah D0 d Rt R2 x y n h B : Nat} {P : List tr_T} {t : tr_T} {S S' S1 S2 : wd_S} {l : List Int32} {l1 p lim : Int32} {pg ds : pg_T}
theorem mr_167 (hl4 : l.length ≤ 4) (hg : S.1 135 95 = Int32.ofNat l.length) (hl : ∀ i, (hi : i < l.length) → S.1 179 i = l[i]) {l3 l5 : Int32} : ∀ (q i F : Nat) (S1 : wd_S), i + q = l.length → of_f (fun a b => a = 158) S S1 → (∀ j, j < i → (hj : j < l.length) → S1.1 158 j = l[j]) → ∃ S', fn_Mo_run_167 (F + 1 + q) l1 l3 l5 (Int32.ofNat i) S1 = fn_Mo_run_167 (F + 1) l1 l3 l5 (Int32.ofNat l.length) S' ∧ of_f (fun a b => a = 158) S S' ∧ ∀ j, (hj : j < l.length) → S'.1 158 j = l[j] := by
  intro q
  induction q with
  | zero =>
    intro i F S1 hi ho hb
    exact ⟨S1, by rw [show i = l.length by omega], ho, fun j hj => hb j (by omega) hj⟩
  | succ q ih =>
    intro i F S1 hi ho hb
    have e95 : S1.1 135 95 = Int32.ofNat l.length := by rw [ho.1 135 95 (by omega)]; exact hg
    have e179 : S1.1 179 i = l[i] := by rw [ho.1 179 i (by omega)]; exact hl i (by omega)
    obtain ⟨S2, f2, o2, b2⟩ := ih (i + 1) F (wd_i S1 158 i (l[i]'(by omega))) (by omega) (of_i rfl ho) (fun j hj hjl => by
      by_cases e : j = i
      · subst e; rw [fr_eq]
      · rw [fr_ne (by omega)]
        exact hb j (by omega) hjl)
    refine ⟨S2, ?_, o2, b2⟩
    show fn_Mo_run_167 (F + 1 + q + 1) l1 l3 l5 (Int32.ofNat i) S1 = _
    rw [fn_Mo_run_167, e95, if_pos ((im_lt (by omega) (by omega)).mpr (by omega)), if_neg (ms_in (show i < 4 by omega) (by decide)), if_neg (ms_in (show i < 2640 by omega) (by decide)), im_t (show i < 2147483648 by omega), e179, im_s]
    exact f2
theorem mr_run (hl4 : l.length ≤ 4) (hg : S.1 135 95 = Int32.ofNat l.length) (hl : ∀ i, (hi : i < l.length) → S.1 179 i = l[i]) (hx : (l1 = 0 ∧ Rt = 140 ∧ x < 96) ∨ (¬l1 = 0 ∧ Rt = 162 ∧ x < 160)) (hy : S.1 Rt x = Int32.ofNat y) (hR : mg_R lo hi ah Rt R2) (hP : mg_P X lo hi al ah D0 Rt R2 P S) (ht : mj_t S X lo hi al ah d y t) (hn : n ≤ 20000) (hnn : ¬ev P n 160 (ev_l l) 0 0 t = .error none) : ∃ S', fn_Mo_run_152 l1 (Int32.ofNat n) (Int32.ofNat x) 0 S = some ((rr (ev P n 160 (ev_l l) 0 0 t)).1, S') ∧ S'.1 135 0 = 0 ∧ S'.1 135 95 = 0 ∧ S'.1 135 96 = (rr (ev P n 160 (ev_l l) 0 0 t)).2.1 ∧ S'.1 135 97 = Int32.ofNat (rr (ev P n 160 (ev_l l) 0 0 t)).2.2.1 ∧ S'.1 135 98 = Int32.ofNat (rr (ev P n 160 (ev_l l) 0 0 t)).2.2.2 ∧ of_f mr_W S S' := by
  have o0 : of_f (fun a b => a = 135 ∧ b = 0) S (wd_i S 135 0 0) := of_i ⟨rfl, rfl⟩ of_refl
  obtain ⟨S2, f2, o2, b2⟩ := mr_167 (S := wd_i S 135 0 0) (l1 := l1) (l3 := Int32.ofNat n) (l5 := Int32.ofNat x) hl4 (by rw [o0.1 135 95 (by omega)]; exact hg) (fun i hi => by rw [o0.1 179 i (by omega)]; exact hl i hi) l.length 0 (999999 - l.length) (wd_i S 135 0 0) (by omega) of_refl (fun j hj => absurd hj (Nat.not_lt_zero _))
  rw [show 999999 - l.length + 1 + l.length = wd_F by rw [show wd_F = 1000000 from rfl]; omega] at f2
  have e95 : S2.1 135 95 = Int32.ofNat l.length := by rw [o2.1 135 95 (by omega), o0.1 135 95 (by omega)]; exact hg
  generalize hS3 : wd_i S2 135 95 0 = S3
  have o3 : of_f (fun a b => a = 135 ∧ b = 95) S2 S3 := by rw [← hS3]; exact of_i ⟨rfl, rfl⟩ of_refl
  have o : of_f (fun a b => (a = 135 ∧ (b = 0 ∨ b = 95)) ∨ a = 158) S S3 := of_trans (of_mono (fun a b q => by omega) o0) (of_trans (of_mono (fun a b q => by omega) o2) (of_mono (fun a b q => by omega) o3))
  have no : mo_no (fun a b => (a = 135 ∧ (b = 0 ∨ b = 95)) ∨ a = 158) := fun a b q => by omega
  have y3 : S3.1 Rt x = Int32.ofNat y := by rw [o.1 Rt x (by omega)]; exact hy
  have h0 : S3.1 135 0 = 0 := by rw [← hS3, fr_ne (by omega), o2.1 135 0 (by omega), fr_eq]
  have h95 : S3.1 135 95 = 0 := by rw [← hS3, fr_eq]
  have hgo := mo_goes (lim := n) (V := ev_l l) hR (mgP_no hR no o hP) (mj_no no o ht) (fun s v hv => by
    unfold ev_l at hv
    obtain ⟨q1, q2⟩ := List.getElem?_eq_some_iff.mp hv
    refine ⟨by omega, ?_⟩
    rw [show 16 * 0 + s = s by omega, ← hS3, fr_ne (by omega), b2 s q1, q2]) hn
  have ecode : fn_Mo_run_152 l1 (Int32.ofNat n) (Int32.ofNat x) 0 S = fn_Mo_run_223 (Int32.ofNat n) (Int32.ofNat y) S3 := by
    unfold fn_Mo_run_152
    simp only [wd_b]
    rw [fr_eq, if_neg (show ¬(0 : Int32) < 0 by decide)]
    have f2 : fn_Mo_run_167 wd_F l1 (Int32.ofNat n) (Int32.ofNat x) 0 (wd_i S 135 0 0) = _ := f2
    rw [f2, fn_Mo_run_167, e95, if_neg Int32.lt_irrefl]
    simp only [wd_b]
    rw [hS3]
    rcases hx with ⟨x1, x2, x3⟩ | ⟨x1, x2, x3⟩
    · rw [if_pos x1, if_neg (ms_in x3 (by decide)), im_t (show x < 2147483648 by omega), ← x2, y3]
    · rw [if_neg x1, if_neg (ms_in x3 (by decide)), im_t (show x < 2147483648 by omega), ← x2, y3]
  rw [ecode]
  unfold fn_Mo_run_223
  have fin : ∀ S4 (r v : Int32) (u w : Nat), of_f mgX S3 S4 → S4.1 135 48 = Int32.ofNat u → S4.1 135 51 = Int32.ofNat w → ∃ S', fn_Mo_run_244 r v S4 = some (r, S') ∧ S'.1 135 0 = 0 ∧ S'.1 135 95 = 0 ∧ S'.1 135 96 = v ∧ S'.1 135 97 = Int32.ofNat u ∧ S'.1 135 98 = Int32.ofNat w ∧ of_f mr_W S S' := fun S4 r v u w o4 q1 q2 => by
    refine ⟨wd_i (wd_i (wd_i S4 135 96 v) 135 97 (Int32.ofNat u)) 135 98 (Int32.ofNat w), ?_, ?_, ?_, ?_, ?_, fr_eq, ?_⟩
    · unfold fn_Mo_run_244
      simp only [wd_b]
      rw [fr_ne (by omega), q1, fr_ne (by omega), fr_ne (by omega), q2]
    · rw [fr_ne (by omega), fr_ne (by omega), fr_ne (by omega), o4.1 135 0 (by unfold mgX; omega)]; exact h0
    · rw [fr_ne (by omega), fr_ne (by omega), fr_ne (by omega), o4.1 135 95 (by unfold mgX; omega)]; exact h95
    · rw [fr_ne (by omega), fr_ne (by omega), fr_eq]
    · rw [fr_ne (by omega), fr_eq]
    · exact of_i (by unfold mr_W; omega) (of_i (by unfold mr_W; omega) (of_i (by unfold mr_W; omega) (of_trans (of_mono (fun a b q => by unfold mr_W mgX; omega) o) (of_mono (fun a b q => Or.inl q) o4))))
  cases he : ev P n 160 (ev_l l) 0 0 t with
  | ok q =>
    rw [he] at hgo
    obtain ⟨S4, g1, g2, g3, g4, g5⟩ := hgo
    obtain ⟨S', k1, k2⟩ := fin S4 1 q.1 _ _ g5 g3 g4
    refine ⟨S', ?_, k2⟩
    rw [g1, wd_c_s, if_pos rfl, g2]
    exact k1
  | error e =>
    cases e with
    | none => exact absurd he hnn
    | some e =>
      have hge := ev_ge (P := P) (lim := n) 160 (ev_l l) 0 0 t
      rw [he] at hgo hge
      obtain ⟨S4, g1, -, g3, g4, g5⟩ := hgo
      obtain ⟨S', k1, k2⟩ := fin S4 e.1 0 _ _ g5 g3 g4
      refine ⟨S', ?_, k2⟩
      have n1 : ¬e.1 = 1 := by
        have hge : e.1 = 2 ∨ e.1 = 3 := hge
        rcases hge with z | z <;> rw [z] <;> decide
      rw [g1, wd_c_s, if_neg n1]
      exact k1
theorem rn_rr : rn pg l p lim = if pg.length = 0 then .inl "java/lang/IllegalStateException" else if p < 0 ∨ ¬p < Int32.ofNat pg.length then .inl "java/lang/IndexOutOfBoundsException" else if lim < 0 ∨ 20000 < lim then .inl "java/lang/IllegalArgumentException" else if pg_n pg p.toNatClampNeg = l.length then .inr (rr (ev (pg_P pg) lim.toNatClampNeg 160 (ev_l l) 0 0 ((pg_P pg).getD p.toNatClampNeg tr_z))) else .inl "java/lang/IllegalArgumentException" := by
  unfold rn rr
  congr 1
  congr 1
  congr 1
  congr 1
  cases ev (pg_P pg) lim.toNatClampNeg 160 (ev_l l) 0 0 ((pg_P pg).getD p.toNatClampNeg tr_z) with
  | ok q => rfl
  | error e =>
    cases e with
    | none => rfl
    | some e => rfl
/-- the tests behind that of the function -/
theorem mr_117 (hl4 : l.length ≤ 4) (hg : S.1 135 95 = Int32.ofNat l.length) (hl : ∀ i, (hi : i < l.length) → S.1 179 i = l[i]) (hx : (l1 = 0 ∧ Rt = 140 ∧ x < 96) ∨ (¬l1 = 0 ∧ Rt = 162 ∧ x < 160)) (hy : S.1 Rt x = Int32.ofNat y) (hR : mg_R lo hi ah Rt R2) (hP : mg_P X lo hi al ah D0 Rt R2 P S) (ht : mj_t S X lo hi al ah d y t) {np : Nat} (hnp : np ≤ 4) (hnn : np = l.length → ∀ n, ¬ev P n 160 (ev_l l) 0 0 t = .error none) : match (if lim < 0 ∨ 20000 < lim then .inl "java/lang/IllegalArgumentException" else if np = l.length then .inr (rr (ev P lim.toNatClampNeg 160 (ev_l l) 0 0 t)) else .inl "java/lang/IllegalArgumentException" : String ⊕ (Int32 × Int32 × Nat × Nat)) with
    | .inl E => fn_Mo_run_117 l1 lim 1 (Int32.ofNat x) (Int32.ofNat np) S = some (0, wd_i S 135 0 (mr_c E))
    | .inr r => ∃ S', fn_Mo_run_117 l1 lim 1 (Int32.ofNat x) (Int32.ofNat np) S = some (r.1, S') ∧ S'.1 135 0 = 0 ∧ S'.1 135 95 = 0 ∧ S'.1 135 96 = r.2.1 ∧ S'.1 135 97 = Int32.ofNat r.2.2.1 ∧ S'.1 135 98 = Int32.ofNat r.2.2.2 ∧ of_f mr_W S S' := by
  have c3 : mr_c "java/lang/IllegalArgumentException" = 3 := by decide
  have e3 : fn_Mo_run_152 l1 lim (Int32.ofNat x) 3 S = some (0, wd_i S 135 0 3) := by
    unfold fn_Mo_run_152
    simp only [wd_b]
    rw [fr_eq, if_pos (show (0 : Int32) < 3 by decide)]
  have hin := sm_in (p := lim) (S := S) 0 20000
  have hin : fn_Mo_within lim.toInt64 0 20000 S = some (if lim < 0 ∨ 20000 < lim then 0 else 1, S) := hin
  unfold fn_Mo_run_117 fn_Mo_run_147
  rw [if_neg (show ¬(1 : Int32) = 0 by decide), hin, wd_c_s]
  by_cases h1 : lim < 0 ∨ 20000 < lim
  · rw [if_pos h1, if_pos h1, if_pos rfl]
    dsimp only
    rw [c3]
    exact e3
  · rw [if_neg h1, if_neg h1, if_neg (show ¬(1 : Int32) = 0 by decide), hg]
    have h2 : ¬lim < 0 := fun q => h1 (Or.inl q)
    have hlim : lim.toNatClampNeg ≤ 20000 := by
      have : ¬20000 < lim.toNatClampNeg := fun q => h1 (Or.inr (by
        rw [← im_of h2]
        exact (im_lt (m := 20000) (by omega) (im_tl lim)).mpr q))
      omega
    by_cases h4 : np = l.length
    · rw [if_pos h4, if_pos (by rw [h4])]
      obtain ⟨n, hn⟩ : ∃ n, n = lim.toNatClampNeg := ⟨_, rfl⟩
      have en : lim = Int32.ofNat n := by rw [hn]; exact (im_of h2).symm
      rw [← hn] at hlim ⊢
      rw [en]
      exact mr_run hl4 hg hl hx hy hR hP ht hlim (hnn h4 n)
    · rw [if_neg h4, if_neg (fun q => h4 ((im_eq (by omega) (by omega)).mp q).symm)]
      dsimp only
      rw [c3]
      exact e3
end Rm
end
/-! part b44 -/
section
/-! run() of the reference: program, versions. -/
section Rm2
variable {h B : Nat} {S S' : wd_S} {l : List Int32} {l1 p lim : Int32} {pg ds : pg_T}
theorem pg_n_g {f : Nat} (hf : f < pg.length) : pg_n pg f = pg[f].1 := by
  unfold pg_n
  rw [List.getD_eq_getElem?_getD, List.getElem?_eq_getElem hf]
  rfl
theorem pg_P_g {f : Nat} (hf : f < pg.length) : (pg_P pg).getD f tr_z = pg[f].2.1 := by
  unfold pg_P
  rw [List.getD_eq_getElem?_getD, List.getElem?_map, List.getElem?_eq_getElem hf]
  rfl
theorem pg_P_e {f : Nat} (hf : f < (pg_P pg).length) (hf' : f < pg.length) : (pg_P pg)[f] = pg[f].2.1 := List.getElem_map _
def rn_M (l : List Int32) (x : String ⊕ (Int32 × Int32 × Nat × Nat)) (t p lim : Int32) (S : wd_S) : Prop := match x with
    | .inl E => fn_Mo_run t p lim S = some (0, wd_i S 135 0 (mr_c E))
    | .inr r => ∃ S', fn_Mo_run t p lim S = some (r.1, S') ∧ S'.1 135 0 = 0 ∧ S'.1 135 95 = 0 ∧ S'.1 135 96 = r.2.1 ∧ S'.1 135 97 = Int32.ofNat r.2.2.1 ∧ S'.1 135 98 = Int32.ofNat r.2.2.2 ∧ of_f mr_W S S'
theorem mr_152 {l3 l5 c : Int32} (hc : 0 < c) : fn_Mo_run_152 l1 l3 l5 c S = some (0, wd_i S 135 0 c) := by
  unfold fn_Mo_run_152
  simp only [wd_b]
  rw [fr_eq, if_pos hc]
theorem mo_run_p (h41 : S.1 135 41 = 1) (hh : h ≤ 1) (h42 : S.1 135 42 = Int32.ofNat h) (h150 : S.1 150 h = Int32.ofNat pg.length) (hp1 : 1 ≤ pg.length) (hpl : pg.length ≤ 48) (hpn : ∀ f, pg_n pg f ≤ 4) (hP : mo_P h pg S) (hl4 : l.length ≤ 4) (hg : S.1 135 95 = Int32.ofNat l.length) (hl : ∀ i, (hi : i < l.length) → S.1 179 i = l[i]) (hnn : rn_ok pg l) : rn_M l (rn pg l p lim) 0 p lim S := by
  have c2 : mr_c "java/lang/IndexOutOfBoundsException" = 2 := by decide
  unfold rn_M
  rw [rn_rr, if_neg (show ¬pg.length = 0 by omega)]
  unfold fn_Mo_run
  rw [if_pos rfl, mo_isfn h41 hh h42 h150 hp1 (by omega), wd_c_s]
  by_cases h1 : p < 0 ∨ ¬p < Int32.ofNat pg.length
  · rw [if_pos h1, if_pos h1]
    dsimp only
    rw [c2]
    unfold fn_Mo_run_25 fn_Mo_run_61 fn_Mo_run_92 fn_Mo_run_117
    rw [if_pos rfl, if_pos rfl, h41, if_neg (show ¬(1 : Int32) = 0 by decide), if_pos rfl, if_pos rfl]
    exact mr_152 (by decide)
  · rw [if_neg h1, if_neg h1]
    have hp0 : ¬p < 0 := fun q => h1 (Or.inl q)
    have hpl2 : p.toNatClampNeg < pg.length := (im_ltn hp0 (by omega)).mp (Decidable.byContradiction fun q => h1 (Or.inr q))
    obtain ⟨f, hf⟩ : ∃ f, f = p.toNatClampNeg := ⟨_, rfl⟩
    have ep : p = Int32.ofNat f := by rw [hf]; exact (im_of hp0).symm
    rw [← hf] at hpl2 ⊢
    obtain ⟨a1, a2, a3, y, a4, a5⟩ := hP f hpl2
    have e48 : (48 : Int32) * Int32.ofNat h + Int32.ofNat f = Int32.ofNat (48 * h + f) := by rw [show (48 : Int32) = Int32.ofNat 48 from rfl, im_ma]
    have h4 := hpn f
    rw [pg_n_g hpl2] at h4 ⊢
    rw [pg_P_g hpl2]
    have key := mr_117 (l1 := 0) (lim := lim) (Rt := 140) (R2 := 96) (x := 48 * h + f) (y := y) (P := pg_P pg) (t := pg[f].2.1) (X := 48 * h) (lo := 1501 * h) (hi := 1501 * h + 1500) (al := 1501 * h) (ah := 1501 * h + 1500) (D0 := 96) (d := 96) (np := pg[f].1) hl4 hg hl (Or.inl ⟨rfl, rfl, by omega⟩) a4 ⟨Or.inl ⟨rfl, by omega, rfl⟩, by omega⟩ (fun j hj => by
      have hj' : j < pg.length := by rw [pg_P_l] at hj; exact hj
      obtain ⟨-, -, -, z, b4, b5⟩ := hP j hj'
      exact ⟨by omega, z, b4, by rw [pg_P_e hj hj']; exact b5⟩) a5 h4 (fun q n => by
        have := hnn f n hpl2 (by rw [pg_n_g hpl2]; exact q)
        rw [pg_P_g hpl2] at this
        exact this)
    have ecode : fn_Mo_run_25 0 p lim 1 S = fn_Mo_run_117 0 lim 1 (Int32.ofNat (48 * h + f)) (Int32.ofNat pg[f].1) S := by
      unfold fn_Mo_run_25 fn_Mo_run_61 fn_Mo_run_92
      rw [if_neg (show ¬(1 : Int32) = 0 by decide), if_pos rfl, h42, ep, e48, if_neg (show ¬(1 : Int32) = 0 by decide), if_pos rfl, if_neg (ms_in (show 48 * h + f < 96 by omega) (by decide)), im_t (show 48 * h + f < 2147483648 by omega), a1, h41, if_neg (show ¬(1 : Int32) = 0 by decide), if_pos rfl]
    rw [ecode]
    exact key
theorem mo_run_x (h41 : S.1 135 41 = 0) (h59 : S.1 135 59 = 0) : fn_Mo_run l1 p lim S = some (0, wd_i S 135 0 1) := by
  have hin : fn_Mo_within p.toInt64 0 (((0 : Int32) - 1).toInt64) S = some (0, S) := by
    have := sm_in (p := p) (S := S) 0 (0 - 1)
    have e : (if p < 0 ∨ (0 : Int32) - 1 < p then (0 : Int32) else 1) = 0 := by
      refine if_pos ?_
      by_cases q : p < 0
      · exact Or.inl q
      · refine Or.inr ?_
        rw [← im_of q]
        have e1 : (0 : Int32) - 1 = -1 := by decide
        rw [e1, Int32.lt_iff_toInt_lt, im_i (im_tl p)]
        show (-1 : Int) < _
        omega
    rw [e] at this
    exact this
  have e25 : fn_Mo_run_25 l1 p lim 0 S = some (0, wd_i S 135 0 1) := by
    unfold fn_Mo_run_25 fn_Mo_run_61 fn_Mo_run_92 fn_Mo_run_113
    rw [if_pos rfl, if_pos rfl, h41, if_pos rfl]
    exact mr_152 (by decide)
  unfold fn_Mo_run
  split
  · unfold fn_Mo_isFn fn_Mo_isFn_32 fn_Mo_isFn_33
    rw [h41, if_pos rfl, if_pos fo_b0, wd_c_s]
    exact e25
  · rw [h59, hin, wd_c_s]
    exact e25
theorem mo_run_v0 (h41 : S.1 135 41 = 1) (h59 : S.1 135 59 = 0) (hl1 : ¬l1 = 0) : fn_Mo_run l1 p lim S = some (0, wd_i S 135 0 1) := by
  have hin : fn_Mo_within p.toInt64 0 (((0 : Int32) - 1).toInt64) S = some (0, S) := by
    have := sm_in (p := p) (S := S) 0 (0 - 1)
    have e : (if p < 0 ∨ (0 : Int32) - 1 < p then (0 : Int32) else 1) = 0 := by
      refine if_pos ?_
      by_cases q : p < 0
      · exact Or.inl q
      · refine Or.inr ?_
        rw [← im_of q]
        have e1 : (0 : Int32) - 1 = -1 := by decide
        rw [e1, Int32.lt_iff_toInt_lt, im_i (im_tl p)]
        show (-1 : Int) < _
        omega
    rw [e] at this
    exact this
  unfold fn_Mo_run
  rw [if_neg hl1, h59, hin, wd_c_s]
  unfold fn_Mo_run_25 fn_Mo_run_61 fn_Mo_run_92 fn_Mo_run_113
  rw [if_pos rfl, if_pos rfl, h41, if_neg (show ¬(1 : Int32) = 0 by decide), if_neg hl1, h59, if_pos rfl]
  exact mr_152 (by decide)
theorem mo_run_v (h41 : S.1 135 41 = 1) (hd1 : 1 ≤ ds.length) (hP : pw_P B ds S) (hl1 : ¬l1 = 0) (hl4 : l.length ≤ 4) (hg : S.1 135 95 = Int32.ofNat l.length) (hl : ∀ i, (hi : i < l.length) → S.1 179 i = l[i]) (hnn : rn_ok ds l) : rn_M l (rn ds l p lim) l1 p lim S := by
  have c2 : mr_c "java/lang/IndexOutOfBoundsException" = 2 := by decide
  obtain ⟨hB, h63, h59, hd, hv⟩ := hP
  have hin : fn_Mo_within p.toInt64 0 ((Int32.ofNat ds.length - 1).toInt64) S = some (if p < 0 ∨ ¬p < Int32.ofNat ds.length then 0 else 1, S) := by
    have := sm_in (p := p) (S := S) 0 (Int32.ofNat ds.length - 1)
    have e : (p < 0 ∨ Int32.ofNat ds.length - 1 < p) ↔ (p < 0 ∨ ¬p < Int32.ofNat ds.length) := by
      by_cases q : p < 0
      · exact ⟨fun _ => Or.inl q, fun _ => Or.inl q⟩
      · obtain ⟨n, hn⟩ : ∃ n, ds.length = n + 1 := ⟨ds.length - 1, by omega⟩
        rw [hn, im_p, ← im_of q]
        have ht := im_tl p
        constructor
        · intro z
          refine z.elim Or.inl (fun z => Or.inr (fun w => ?_))
          have := (im_lt (by omega) ht).mp z
          have := (im_lt ht (by omega)).mp w
          omega
        · intro z
          refine z.elim Or.inl (fun z => Or.inr ((im_lt (by omega) ht).mpr ?_))
          have : ¬p.toNatClampNeg < n + 1 := fun w => z ((im_lt ht (by omega)).mpr w)
          omega
    have e2 : (if p < 0 ∨ Int32.ofNat ds.length - 1 < p then (0 : Int32) else 1) = if p < 0 ∨ ¬p < Int32.ofNat ds.length then 0 else 1 := by
      by_cases q : p < 0 ∨ ¬p < Int32.ofNat ds.length
      · rw [if_pos q, if_pos (e.mpr q)]
      · rw [if_neg q, if_neg (fun z => q (e.mp z))]
    rw [e2] at this
    exact this
  have n59 : ¬Int32.ofNat ds.length = 0 := fun q => by
    have := (im_eq (m := ds.length) (n := 0) (by omega) (by omega)).mp q
    omega
  unfold rn_M
  rw [rn_rr, if_neg (show ¬ds.length = 0 by omega)]
  unfold fn_Mo_run
  rw [if_neg hl1, h59, hin, wd_c_s]
  by_cases h1 : p < 0 ∨ ¬p < Int32.ofNat ds.length
  · rw [if_pos h1, if_pos h1]
    dsimp only
    rw [c2]
    unfold fn_Mo_run_25 fn_Mo_run_61 fn_Mo_run_92 fn_Mo_run_117
    rw [if_pos rfl, if_pos rfl, h41, if_neg (show ¬(1 : Int32) = 0 by decide), if_neg hl1, h59, if_neg n59, if_pos rfl]
    exact mr_152 (by decide)
  · rw [if_neg h1, if_neg h1]
    have hp0 : ¬p < 0 := fun q => h1 (Or.inl q)
    have hpl2 : p.toNatClampNeg < ds.length := (im_ltn hp0 (by omega)).mp (Decidable.byContradiction fun q => h1 (Or.inr q))
    obtain ⟨f, hf⟩ : ∃ f, f = p.toNatClampNeg := ⟨_, rfl⟩
    have ep : p = Int32.ofNat f := by rw [hf]; exact (im_of hp0).symm
    rw [← hf] at hpl2 ⊢
    obtain ⟨a1, ⟨g, m, np, b1, b2, b3, b4, b5, b6, b7⟩, y, c1, c2⟩ := hv f hpl2
    have e80 : (80 : Int32) * Int32.ofNat B + Int32.ofNat f = Int32.ofNat (80 * B + f) := by rw [show (80 : Int32) = Int32.ofNat 80 from rfl, im_ma]
    rw [pg_n_g hpl2, pg_P_g hpl2]
    have key := mr_117 (l1 := l1) (lim := lim) (Rt := 162) (R2 := 160) (x := 80 * B + f) (y := y) (P := pg_P ds) (t := ds[f].2.1) (X := 80 * B) (lo := 3004 + 6002 * B) (hi := 3004 + 6002 * B + 1000) (al := 3004 + 6002 * B) (ah := 3004 + 6002 * B + 1000) (D0 := 96) (d := 96) (np := ds[f].1) hl4 hg hl (Or.inr ⟨hl1, rfl, by omega⟩) c1 ⟨Or.inr ⟨rfl, by omega, by omega, rfl⟩, by omega⟩ (fun j hj => by
      have hj' : j < ds.length := by rw [pg_P_l] at hj; exact hj
      obtain ⟨-, -, z, d1, d2⟩ := hv j hj'
      exact ⟨by omega, z, d1, by rw [pg_P_e hj hj']; exact d2⟩) c2 a1 (fun q n => by
        have := hnn f n hpl2 (by rw [pg_n_g hpl2]; exact q)
        rw [pg_P_g hpl2] at this
        exact this)
    have ecode : fn_Mo_run_25 l1 p lim 1 S = fn_Mo_run_117 l1 lim 1 (Int32.ofNat (80 * B + f)) (Int32.ofNat ds[f].1) S := by
      unfold fn_Mo_run_25 fn_Mo_run_61 fn_Mo_run_92
      rw [if_neg (show ¬(1 : Int32) = 0 by decide), if_neg hl1, h63, ep, e80, if_neg (show ¬(1 : Int32) = 0 by decide), if_neg hl1, mo_left (show 80 * B + f < 160 by omega) b1 b4 b5 b6 b2 b3, wd_c_s, ← b7, h41, if_neg (show ¬(1 : Int32) = 0 by decide), if_neg hl1, h59, if_neg n59]
    rw [ecode]
    exact key
end Rm2
end
/-! part b45 -/
section
/-! function(), told(): both sides. -/
def fu (pg : pg_T) (p q : Int32) : Option Nat := if p < 0 ∨ ¬p < Int32.ofNat pg.length then none else if q < 0 ∨ 2 < q then none else some (if q = 0 then (pg.getD p.toNatClampNeg (0, tr_z, 0, 0)).1 else if q = 1 then (pg.getD p.toNatClampNeg (0, tr_z, 0, 0)).2.2.1 else (pg.getD p.toNatClampNeg (0, tr_z, 0, 0)).2.2.2)
theorem nd_t_l {t hi : Nat} {S : wd_S} {lo : Nat} : ∀ {d y : Nat} {T : tr_T}, nd_t t S lo hi d y T → y < hi := by
  intro d y T h
  cases d with
  | zero => exact h.elim
  | succ d => exact h.2.1
section Lk
variable {b h : Nat} {pg : pg_T} {S : wd_S} {p q : Int32}
theorem lk_p {n : Nat} (hn : n < 2147483648) (h1 : ¬(p < 0 ∨ ¬p < Int32.ofNat n)) : ∃ f, f < n ∧ p = Int32.ofNat f ∧ p.toNatClampNeg = f := by
  have hp0 : ¬p < 0 := fun q => h1 (Or.inl q)
  exact ⟨p.toNatClampNeg, (im_ltn hp0 hn).mp (Decidable.byContradiction fun q => h1 (Or.inr q)), (im_of hp0).symm, rfl⟩
theorem sp_function (hb : b = 11 ∨ b = 29) (h5 : S.2.2.1 1 5 = b) (hP : cl_P b 1500 pg S) (hpl : pg.length ≤ 48) : fn_Sp_function p q S = match fu pg p q with
    | none => some (.inr "java/lang/IndexOutOfBoundsException", wd_n S)
    | some n => some (.inl (Int32.ofNat n), S) := by
  have t0 : tp_t b = (0, 0) := by rcases hb with z | z <;> rw [z] <;> rfl
  have t17 : (tp_t (b + 16 + 1)).2 = 48 := by rcases hb with z | z <;> rw [z] <;> rfl
  have t15 : (tp_t (b + 14 + 1)).2 = 48 := by rcases hb with z | z <;> rw [z] <;> rfl
  have t11 : (tp_t (b + 1 + 9 + 1)).2 = 1500 := by rcases hb with z | z <;> rw [z] <;> rfl
  have t13 : (tp_t (b + 1 + 11 + 1)).2 = 1500 := by rcases hb with z | z <;> rw [z] <;> rfl
  obtain ⟨c1, c2⟩ := hP
  unfold fu fn_Sp_function fn_Sp_function_20
  rw [h5, if_pos t0, fo_has, wd_c_s, c1]
  by_cases h1 : p < 0 ∨ ¬p < Int32.ofNat pg.length
  · rw [if_pos h1, if_pos h1, if_pos rfl]
  · rw [if_neg h1, if_neg h1, if_neg (show ¬(1 : Int32) = 0 by decide)]
    obtain ⟨f, f1, f2, f3⟩ := lk_p (by omega) h1
    obtain ⟨a1, y, a2, a3, a4, a5⟩ := c2 f f1
    have hy := nd_t_l a3
    by_cases h2 : q < 0
    · rw [if_pos (Or.inl h2), if_pos h2]
    · by_cases h3 : 2 < q
      · rw [if_pos (Or.inr h3), if_neg h2, if_pos h3]
      · rw [if_neg (show ¬(q < 0 ∨ 2 < q) from fun z => z.elim h2 h3), if_neg h2, if_neg h3, f3, List.getD_eq_getElem?_getD, List.getElem?_eq_getElem f1, Option.getD_some]
        by_cases h4 : q = 0
        · rw [if_pos h4, if_pos h4, h5, if_pos t0, fo_params, wd_c_s, f2, ro_an t17 (show f < 48 by omega), show b + 16 + 1 = b + 17 from rfl, a1]
        · rw [if_neg h4, if_neg h4]
          by_cases h6 : q = 1
          · rw [if_pos h6, if_pos h6, h5, if_pos t0]
            unfold fn_Bodies_expressions
            rw [fo_root, wd_c_s, f2, ro_an t15 (show f < 48 by omega), show b + 14 + 1 = b + 15 from rfl, a2, fo_tsize, wd_c_s, ro_an t11 hy, show b + 1 + 9 + 1 = b + 1 + 10 from rfl, a4, wd_c_s]
          · rw [if_neg h6, if_neg h6, h5, if_pos t0]
            unfold fn_Bodies_lets
            rw [fo_root, wd_c_s, f2, ro_an t15 (show f < 48 by omega), show b + 14 + 1 = b + 15 from rfl, a2, fo_tlets, wd_c_s, ro_an t13 hy, show b + 1 + 11 + 1 = b + 1 + 12 from rfl, a5, wd_c_s]
theorem mo_function_x (h41 : S.1 135 41 = 0) : fn_Mo_function p q S = some (0, wd_i S 135 0 1) := by
  unfold fn_Mo_function fn_Mo_isFn fn_Mo_isFn_32 fn_Mo_isFn_33 fn_Mo_function_25 fn_Mo_function_26
  simp only [wd_b]
  rw [h41, if_pos rfl, if_pos fo_b0, wd_c_s, if_pos rfl, fr_eq, if_pos (show (0 : Int32) < 1 by decide)]
theorem mo_function (h41 : S.1 135 41 = 1) (hh : h ≤ 1) (h42 : S.1 135 42 = Int32.ofNat h) (h150 : S.1 150 h = Int32.ofNat pg.length) (hp1 : 1 ≤ pg.length) (hpl : pg.length ≤ 48) (hP : mo_P h pg S) : fn_Mo_function p q S = match fu pg p q with
    | none => some (0, wd_i S 135 0 1)
    | some n => some (Int32.ofNat n, wd_i S 135 0 0) := by
  have e1 : fn_Mo_function_25 p q S = some (0, wd_i S 135 0 1) := by
    unfold fn_Mo_function_25 fn_Mo_function_26
    simp only [wd_b]
    rw [fr_eq, if_pos (show (0 : Int32) < 1 by decide)]
  have hin : fn_Mo_within q.toInt64 0 2 S = some (if q < 0 ∨ 2 < q then 0 else 1, S) := sm_in (p := q) (S := S) 0 2
  unfold fu fn_Mo_function
  rw [mo_isfn h41 hh h42 h150 hp1 (by omega), wd_c_s]
  by_cases h1 : p < 0 ∨ ¬p < Int32.ofNat pg.length
  · rw [if_pos h1, if_pos h1, if_pos rfl]
    exact e1
  · rw [if_neg h1, if_neg h1, if_neg (show ¬(1 : Int32) = 0 by decide), hin, wd_c_s]
    by_cases h2 : q < 0 ∨ 2 < q
    · rw [if_pos h2, if_pos h2, if_pos rfl]
      exact e1
    · rw [if_neg h2, if_neg h2, if_neg (show ¬(1 : Int32) = 0 by decide)]
      obtain ⟨f, f1, f2, f3⟩ := lk_p (by omega) h1
      obtain ⟨a1, a2, a3, -⟩ := hP f f1
      have e48 : (48 : Int32) * Int32.ofNat h + Int32.ofNat f = Int32.ofNat (48 * h + f) := by rw [show (48 : Int32) = Int32.ofNat 48 from rfl, im_ma]
      unfold fn_Mo_function_26 fn_Mo_function_88
      simp only [wd_b]
      rw [fr_eq, if_neg (show ¬(0 : Int32) < 0 by decide), f3, List.getD_eq_getElem?_getD, List.getElem?_eq_getElem f1, Option.getD_some, fr_ne (show ¬(135 = 135 ∧ 42 = 0) by omega), h42, f2, e48, im_t (show 48 * h + f < 2147483648 by omega), fr_ne (show ¬(138 = 135 ∧ _) by omega), a1, fr_ne (show ¬(141 = 135 ∧ _) by omega), a3, fr_ne (show ¬(139 = 135 ∧ _) by omega), a2, if_neg (ms_iy (show 48 * h + f < 96 by omega) (by decide)), im_sb]
      by_cases h4 : q = 0
      · rw [if_pos h4, if_pos h4]
      · rw [if_neg h4, if_neg h4]
        by_cases h6 : q = 1
        · rw [if_pos h6, if_pos h6, if_neg (ms_iy (show 48 * h + f < 96 by omega) (by decide))]
        · rw [if_neg h6, if_neg h6, if_neg (ms_iy (show 48 * h + f < 96 by omega) (by decide)), if_neg (ms_iy (show 48 * h + f < 96 by omega) (by decide))]
/-- told(): goes through; what is told of 5, 6, 7 -/
theorem sp_told {m : Nat} (hm : m < 16) (h12 : S.1 1 12 = Int32.ofNat m) : fn_Sp_told p S = if p < 0 ∨ 7 < p then some (.inr "java/lang/IndexOutOfBoundsException", wd_n S) else some (.inl (if p = 5 then Int32.ofNat (kn_c m) else if p = 6 then S.1 1 18 else if p = 7 then S.1 1 1 else ro_at 124 p S), S) := by
  unfold fn_Sp_told fn_Sp_told_10
  by_cases h1 : p < 0
  · rw [if_pos h1, if_pos (Or.inl h1)]
  · by_cases h2 : 7 < p
    · rw [if_neg h1, if_pos h2, if_pos (Or.inr h2)]
    · rw [if_neg h1, if_neg h2, if_neg (show ¬(p < 0 ∨ 7 < p) from fun z => z.elim h1 h2)]
      by_cases h3 : p = 5
      · rw [if_pos h3, if_pos h3, h12, kn_bits hm, wd_c_s]
      · rw [if_neg h3, if_neg h3]
        by_cases h4 : p = 6
        · rw [if_pos h4, if_pos h4]
        · rw [if_neg h4, if_neg h4]
          by_cases h5 : p = 7
          · rw [if_pos h5, if_pos h5]
          · rw [if_neg h5, if_neg h5, ro_at_ok, wd_c_s]
theorem mo_told {m : Nat} (hk : kn_is m S) : fn_Mo_told p S = if p < 0 ∨ 7 < p then some (0, wd_i S 135 0 1) else some (if p = 0 then S.1 135 59 else if p = 1 then S.1 135 60 else if p = 2 then S.1 135 61 else if p = 3 then S.1 135 62 else if p = 4 then S.1 135 72 else if p = 5 then Int32.ofNat (kn_c m) else if p = 6 then S.1 135 95 else S.1 135 2, wd_i S 135 0 0) := by
  have hin : fn_Mo_within p.toInt64 0 7 S = some (if p < 0 ∨ 7 < p then 0 else 1, S) := sm_in (p := p) (S := S) 0 7
  have hk0 : kn_is m (wd_i S 135 0 0) := fun i hi => by rw [fr_ne (by omega)]; exact hk i hi
  unfold fn_Mo_told fn_Mo_told_18 fn_Mo_told_118
  simp only [wd_b]
  rw [hin, wd_c_s]
  by_cases h1 : p < 0 ∨ 7 < p
  · rw [if_pos h1, if_pos h1, if_pos rfl, fr_eq, if_pos (show (0 : Int32) < 1 by decide)]
  · rw [if_neg h1, if_neg h1, if_neg (show ¬(1 : Int32) = 0 by decide), fr_eq, if_neg (show ¬(0 : Int32) < 0 by decide), fr_ne (by omega), fr_ne (by omega), fr_ne (by omega), fr_ne (by omega), fr_ne (by omega), kn_many hk0, wd_c_s, fr_ne (by omega), fr_ne (by omega)]
    split
    · rfl
    · split
      · rfl
      · split
        · rfl
        · split
          · rfl
          · split
            · rfl
            · split
              · rfl
              · split
                · rfl
                · rfl
end Lk
end
/-! part b46 -/
section
/-! version(): both sides. -/
def ve (ds : pg_T) (vs : List mk_V) (p q : Int32) : Option Int32 := if p < 0 ∨ ¬p < Int32.ofNat ds.length then none else if q < 0 ∨ 9 < q then none else some (if q = 0 then Int32.ofNat (vs.getD p.toNatClampNeg (0, 0, fun _ => 0)).1 else if q = 1 then Int32.ofNat (vs.getD p.toNatClampNeg (0, 0, fun _ => 0)).2.1 else if q = 2 then Int32.ofNat (ds.getD p.toNatClampNeg (0, tr_z, 0, 0)).1 else if q = 3 then Int32.ofNat (ds.getD p.toNatClampNeg (0, tr_z, 0, 0)).2.2.1 else if q = 4 then Int32.ofNat (ds.getD p.toNatClampNeg (0, tr_z, 0, 0)).2.2.2 else if q = 5 then (if tr_k (ds.getD p.toNatClampNeg (0, tr_z, 0, 0)).2.1 = 1 then 1 else 0) else (vs.getD p.toNatClampNeg (0, 0, fun _ => 0)).2.2 (q - 6).toNatClampNeg)
def vc_P (v : Nat) (pg ds : pg_T) (vs : List mk_V) (S : wd_S) : Prop := (v = 54 ∨ v = 79) ∧ ds.length = vs.length ∧ vs.length ≤ 78 ∧ cm_v v pg vs S ∧ cf_D v 1000 ds S ∧ ∀ j, (hj : j < ds.length) → ds[j].1 = mk_ar pg vs j
def vm_P (h B : Nat) (pg ds : pg_T) (vs : List mk_V) (S : wd_S) : Prop := B ≤ 1 ∧ h ≤ 1 ∧ S.1 135 63 = Int32.ofNat B ∧ S.1 135 59 = Int32.ofNat ds.length ∧ ds.length = vs.length ∧ vs.length ≤ 78 ∧ (∀ j, (hj : j < vs.length) → vs[j].1 < 48 ∧ S.1 159 (80 * B + j) = Int32.ofNat (48 * h + vs[j].1) ∧ S.1 160 (80 * B + j) = Int32.ofNat vs[j].2.1 ∧ ∀ i, i < 4 → S.1 161 (4 * (80 * B + j) + i) = vs[j].2.2 i) ∧ md_D B 1000 1000 ds S ∧ pw_P B ds S
section Vr
variable {v h B : Nat} {pg ds : pg_T} {vs : List mk_V} {S : wd_S} {p q : Int32}
theorem mk_ar_g {j : Nat} (hj : j < vs.length) : mk_ar pg vs j = mk_lf vs[j].2.1 (pg_n pg vs[j].1) := by
  unfold mk_ar
  rw [List.getElem?_eq_getElem hj]
theorem vr_q (h1 : ¬q < 0) (h2 : ¬9 < q) (n0 : ¬q = 0) (n1 : ¬q = 1) (n2 : ¬q = 2) (n3 : ¬q = 3) (n4 : ¬q = 4) (n5 : ¬q = 5) : ∃ i, i < 4 ∧ q = Int32.ofNat (i + 6) ∧ q - 6 = Int32.ofNat i := by
  have e := im_of h1
  have hl := im_tl q
  have h9 : q.toNatClampNeg ≤ 9 := by
    have : ¬9 < q.toNatClampNeg := fun z => h2 (by
      rw [← e]
      exact (im_lt (m := 9) (by omega) hl).mpr z)
    omega
  have ne : ∀ k, ¬q = Int32.ofNat k → ¬q.toNatClampNeg = k := fun k z w => z (by rw [← e, w])
  have := ne 0 n0
  have := ne 1 n1
  have := ne 2 n2
  have := ne 3 n3
  have := ne 4 n4
  have := ne 5 n5
  obtain ⟨i, hi⟩ : ∃ i, q.toNatClampNeg = i + 6 := ⟨q.toNatClampNeg - 6, by omega⟩
  refine ⟨i, by omega, by rw [← hi, e], ?_⟩
  rw [← e, hi, show (6 : Int32) = Int32.ofNat 6 from rfl, im_sb]
theorem sp_version (h7 : S.2.2.1 1 7 = v) (hP : vc_P v pg ds vs S) : fn_Sp_version p q S = match ve ds vs p q with
    | none => some (.inr "java/lang/IndexOutOfBoundsException", wd_n S)
    | some x => some (.inl x, S) := by
  obtain ⟨hv, hl, h78, hc, hD, har⟩ := hP
  obtain ⟨c1, -, c3⟩ := hc
  have t9 : tp_t v = (0, 9) := by rcases hv with z | z <;> rw [z] <;> rfl
  have t0 : tp_t (v + 1) = (0, 0) := by rcases hv with z | z <;> rw [z] <;> rfl
  have t8 : tp_t (v + 1 + 1) = (0, 8) := by rcases hv with z | z <;> rw [z] <;> rfl
  have t18 : (tp_t (v + 1 + 16 + 1)).2 = 78 := by rcases hv with z | z <;> rw [z] <;> rfl
  have t16 : (tp_t (v + 1 + 14 + 1)).2 = 78 := by rcases hv with z | z <;> rw [z] <;> rfl
  have t20 : (tp_t (v + 19 + 1)).2 = 78 := by rcases hv with z | z <;> rw [z] <;> rfl
  have t22 : (tp_t (v + 21 + 1)).2 = 78 := by rcases hv with z | z <;> rw [z] <;> rfl
  have t24 : (tp_t (v + 23 + 1)).2 = 312 := by rcases hv with z | z <;> rw [z] <;> rfl
  have k2 : (tp_t (v + 1 + 1 + 1 + 1)).2 = 1000 := by rcases hv with z | z <;> rw [z] <;> rfl
  have k10 : (tp_t (v + 1 + 1 + 9 + 1)).2 = 1000 := by rcases hv with z | z <;> rw [z] <;> rfl
  have k12 : (tp_t (v + 1 + 1 + 11 + 1)).2 = 1000 := by rcases hv with z | z <;> rw [z] <;> rfl
  unfold ve fn_Sp_version fn_Versions_bodies fn_Sp_version_24
  rw [h7, if_pos t9, wd_c_s, if_pos t0, fo_has, wd_c_s, c1, ← hl]
  by_cases h1 : p < 0 ∨ ¬p < Int32.ofNat ds.length
  · rw [if_pos h1, if_pos h1, if_pos rfl]
  · rw [if_neg h1, if_neg h1, if_neg (show ¬(1 : Int32) = 0 by decide)]
    obtain ⟨f, f1, f2, f3⟩ := lk_p (by omega) h1
    have fv : f < vs.length := by omega
    obtain ⟨a1, a2, a3, a4⟩ := c3 f fv
    obtain ⟨y, d1, d2, d3, d4⟩ := hD f f1
    have hy := nd_t_l d2
    have ekd : S.1 (v + 2 + 2) y = tr_k ds[f].2.1 := d2.2.2.1
    by_cases h2 : q < 0
    · rw [if_pos (Or.inl h2), if_pos h2]
    · by_cases h3 : 9 < q
      · rw [if_pos (Or.inr h3), if_neg h2, if_pos h3]
      · rw [if_neg (show ¬(q < 0 ∨ 9 < q) from fun z => z.elim h2 h3), if_neg h2, if_neg h3, f3, List.getD_eq_getElem?_getD, List.getElem?_eq_getElem fv, Option.getD_some, List.getD_eq_getElem?_getD, List.getElem?_eq_getElem f1, Option.getD_some]
        by_cases n0 : q = 0
        · rw [if_pos n0, if_pos n0, h7, if_pos t9]
          unfold fn_Versions_functionOf
          rw [ro_at_ok, wd_c_s, wd_c_s, f2, ro_an t20 (show f < 78 by omega), show v + 19 + 1 = v + 20 from rfl, a1]
        · rw [if_neg n0, if_neg n0]
          by_cases n1 : q = 1
          · rw [if_pos n1, if_pos n1, h7, if_pos t9]
            unfold fn_Versions_mask
            rw [ro_at_ok, wd_c_s, wd_c_s, f2, ro_an t22 (show f < 78 by omega), show v + 21 + 1 = v + 22 from rfl, a2]
          · rw [if_neg n1, if_neg n1]
            by_cases n2 : q = 2
            · rw [if_pos n2, if_pos n2, h7, if_pos t9, wd_c_s, if_pos t0, fo_params, wd_c_s, f2, ro_an t18 (show f < 78 by omega), show v + 1 + 16 + 1 = v + 18 from rfl, a3, har f f1, mk_ar_g fv]
            · rw [if_neg n2, if_neg n2]
              by_cases n3 : q = 3
              · rw [if_pos n3, if_pos n3, h7, if_pos t9, wd_c_s, if_pos t0]
                unfold fn_Bodies_expressions
                rw [fo_root, wd_c_s, f2, ro_an t16 (show f < 78 by omega), show v + 1 + 14 + 1 = v + 16 from rfl, d1, fo_tsize, wd_c_s, ro_an k10 hy, show v + 1 + 1 + 9 + 1 = v + 2 + 10 from rfl, d3, wd_c_s]
              · rw [if_neg n3, if_neg n3]
                by_cases n4 : q = 4
                · rw [if_pos n4, if_pos n4, h7, if_pos t9, wd_c_s, if_pos t0]
                  unfold fn_Bodies_lets
                  rw [fo_root, wd_c_s, f2, ro_an t16 (show f < 78 by omega), show v + 1 + 14 + 1 = v + 16 from rfl, d1, fo_tlets, wd_c_s, ro_an k12 hy, show v + 1 + 1 + 11 + 1 = v + 2 + 12 from rfl, d4, wd_c_s]
                · rw [if_neg n4, if_neg n4]
                  by_cases n5 : q = 5
                  · rw [if_pos n5, if_pos n5, h7, if_pos t9]
                    unfold fn_Versions_isNumber fn_Bodies_trees fn_Versions_isNumber_27 fn_Sp_version_142
                    rw [wd_c_s, if_pos t8, fo_root, wd_c_s, f2, ro_an t16 (show f < 78 by omega), show v + 1 + 14 + 1 = v + 16 from rfl, d1, fo_tkind, wd_c_s, ro_an k2 hy, show v + 1 + 1 + 1 + 1 = v + 2 + 2 from rfl, ekd]
                    by_cases hk : tr_k ds[f].2.1 = 1
                    · rw [if_pos hk, if_pos hk, if_pos fo_b1, wd_c_s, if_neg (show ¬(1 : Int32) = 0 by decide)]
                    · rw [if_neg hk, if_neg hk, if_pos fo_b0, wd_c_s, if_pos rfl]
                  · rw [if_neg n5, if_neg n5, h7, if_pos t9]
                    obtain ⟨i, i1, i2, i3⟩ := vr_q h2 h3 n0 n1 n2 n3 n4 n5
                    unfold fn_Versions_number
                    have e4 : p * 4 + (q - 6) = Int32.ofNat (4 * f + i) := by
                      rw [f2, i3, show (4 : Int32) = Int32.ofNat 4 from rfl, im_ma, Nat.mul_comm]
                    rw [e4, ro_at_ok, wd_c_s, wd_c_s, ro_an t24 (show 4 * f + i < 312 by omega), show v + 23 + 1 = v + 24 from rfl, a4 i i1, i3, im_t (show i < 2147483648 by omega)]
theorem mo_version (hP : vm_P h B pg ds vs S) : fn_Mo_version p q S = match ve ds vs p q with
    | none => some (0, wd_i S 135 0 1)
    | some x => some (x, wd_i S 135 0 0) := by
  obtain ⟨hB, hh, h63, h59, hl, h78, hv, hD, hw⟩ := hP
  have e1 : fn_Mo_version_33 p q S = some (0, wd_i S 135 0 1) := by
    unfold fn_Mo_version_33 fn_Mo_version_34
    simp only [wd_b]
    rw [fr_eq, if_pos (show (0 : Int32) < 1 by decide)]
  have hin : fn_Mo_within p.toInt64 0 ((Int32.ofNat ds.length - 1).toInt64) S = some (if p < 0 ∨ ¬p < Int32.ofNat ds.length then 0 else 1, S) := by
    have := sm_in (p := p) (S := S) 0 (Int32.ofNat ds.length - 1)
    have e : (p < 0 ∨ Int32.ofNat ds.length - 1 < p) ↔ (p < 0 ∨ ¬p < Int32.ofNat ds.length) := by
      by_cases w : p < 0
      · exact ⟨fun _ => Or.inl w, fun _ => Or.inl w⟩
      · have ht := im_tl p
        by_cases hz : ds.length = 0
        · refine ⟨fun _ => Or.inr (fun z => ?_), fun _ => Or.inr ?_⟩
          · rw [hz] at z
            exact w z
          · rw [hz, ← im_of w]
            have e1 : Int32.ofNat 0 - 1 = -1 := by decide
            rw [e1, Int32.lt_iff_toInt_lt, im_i ht]
            show (-1 : Int) < _
            omega
        · obtain ⟨n, hn⟩ : ∃ n, ds.length = n + 1 := ⟨ds.length - 1, by omega⟩
          rw [hn, im_p, ← im_of w]
          constructor
          · intro z
            refine z.elim Or.inl (fun z => Or.inr (fun w => ?_))
            have := (im_lt (by omega) ht).mp z
            have := (im_lt ht (by omega)).mp w
            omega
          · intro z
            refine z.elim Or.inl (fun z => Or.inr ((im_lt (by omega) ht).mpr ?_))
            have : ¬p.toNatClampNeg < n + 1 := fun w => z ((im_lt ht (by omega)).mpr w)
            omega
    have e2 : (if p < 0 ∨ Int32.ofNat ds.length - 1 < p then (0 : Int32) else 1) = if p < 0 ∨ ¬p < Int32.ofNat ds.length then 0 else 1 := by
      by_cases w : p < 0 ∨ ¬p < Int32.ofNat ds.length
      · rw [if_pos w, if_pos (e.mpr w)]
      · rw [if_neg w, if_neg (fun z => w (e.mp z))]
    rw [e2] at this
    exact this
  have hin9 : fn_Mo_within q.toInt64 0 9 S = some (if q < 0 ∨ 9 < q then 0 else 1, S) := sm_in (p := q) (S := S) 0 9
  unfold ve fn_Mo_version
  rw [h59, hin, wd_c_s]
  by_cases h1 : p < 0 ∨ ¬p < Int32.ofNat ds.length
  · rw [if_pos h1, if_pos h1, if_pos rfl]
    exact e1
  · rw [if_neg h1, if_neg h1, if_neg (show ¬(1 : Int32) = 0 by decide), hin9, wd_c_s]
    by_cases h2 : q < 0 ∨ 9 < q
    · rw [if_pos h2, if_pos h2, if_pos rfl]
      exact e1
    · rw [if_neg h2, if_neg h2, if_neg (show ¬(1 : Int32) = 0 by decide)]
      obtain ⟨f, f1, f2, f3⟩ := lk_p (by omega) h1
      have fv : f < vs.length := by omega
      obtain ⟨a0, a1, a2, a3⟩ := hv f fv
      obtain ⟨y, d1, d2, d3, d4⟩ := hD f f1
      obtain ⟨-, ⟨g, m, np, b1, b2, b3, b4, b5, b6, b7⟩, -⟩ := hw.2.2.2.2 f f1
      have e80 : (80 : Int32) * Int32.ofNat B + Int32.ofNat f = Int32.ofNat (80 * B + f) := by rw [show (80 : Int32) = Int32.ofNat 80 from rfl, im_ma]
      have hR : ∀ a k, ¬(a = 135 ∧ k = 0) → (wd_i S 135 0 0).1 a k = S.1 a k := fun a k z => fr_ne z
      have hx : 80 * B + f < 160 := by omega
      unfold fn_Mo_version_34 fn_Mo_version_153
      simp only [wd_b]
      rw [fr_eq, if_neg (show ¬(0 : Int32) < 0 by decide), f3, List.getD_eq_getElem?_getD, List.getElem?_eq_getElem fv, Option.getD_some, List.getD_eq_getElem?_getD, List.getElem?_eq_getElem f1, Option.getD_some, hR 135 63 (by omega), h63, f2, e80, im_t (show 80 * B + f < 2147483648 by omega)]
      by_cases n0 : q = 0
      · rw [if_pos n0, if_pos n0, if_neg (ms_iy hx (by decide)), hR 159 _ (by omega), a1]
        have e48 : Int32.ofNat (48 * h + vs[f].1) - Int32.ofNat (48 * h + vs[f].1) / 48 * 48 = Int32.ofNat vs[f].1 := by
          rw [show (48 : Int32) = Int32.ofNat 48 from rfl, im_div (by omega) (by decide), show (48 * h + vs[f].1) / 48 = h by omega, ← Int32.ofNat_mul, show 48 * h + vs[f].1 = vs[f].1 + h * 48 by omega, im_sb]
        rw [e48]
      · rw [if_neg n0, if_neg n0]
        by_cases n1 : q = 1
        · rw [if_pos n1, if_pos n1, if_neg (ms_iy hx (by decide)), hR 160 _ (by omega), a2]
        · rw [if_neg n1, if_neg n1]
          by_cases n2 : q = 2
          · rw [if_pos n2, if_pos n2, mo_left hx b1 (by rw [hR 159 _ (by omega)]; exact b4) (by rw [hR 160 _ (by omega)]; exact b5) (by rw [hR 138 _ (by omega)]; exact b6) b2 b3, wd_c_s, b7]
          · rw [if_neg n2, if_neg n2]
            by_cases n3 : q = 3
            · rw [if_pos n3, if_pos n3, if_neg (ms_iy hx (by decide)), hR 163 _ (by omega), d3]
            · rw [if_neg n3, if_neg n3]
              by_cases n4 : q = 4
              · rw [if_pos n4, if_pos n4, if_neg (ms_iy hx (by decide)), hR 164 _ (by omega), d4]
              · rw [if_neg n4, if_neg n4]
                by_cases n5 : q = 5
                · have hy : y < 15010 := by have := d2.2.1; omega
                  have hk : (S.1 143 y = 5) ↔ tr_k ds[f].2.1 = 1 := by
                    rcases d2.2.2 with ⟨k1, -, w, -⟩ | ⟨k1, -, w, -⟩ | ⟨k1, -, w, -⟩ | ⟨k1, -, w, -⟩ | ⟨k1, w, -⟩ | ⟨k1 | k1 | k1 | k1 | k1, -, w, -⟩ <;> rw [k1, w] <;> decide
                  rw [if_pos n5, if_pos n5, if_neg (ms_iy hx (by decide)), hR 162 _ (by omega), d1, if_neg (ms_in hy (by decide)), im_t (show y < 2147483648 by omega), hR 143 _ (by omega)]
                  by_cases hk1 : tr_k ds[f].2.1 = 1
                  · rw [if_pos hk1, if_pos (hk.mpr hk1)]
                  · rw [if_neg hk1, if_neg (fun z => hk1 (hk.mp z))]
                · rw [if_neg n5, if_neg n5]
                  obtain ⟨i, i1, i2, i3⟩ := vr_q (fun z => h2 (Or.inl z)) (fun z => h2 (Or.inr z)) n0 n1 n2 n3 n4 n5
                  have e4 : (4 : Int32) * Int32.ofNat (80 * B + f) + q - 6 = Int32.ofNat (4 * (80 * B + f) + i) := by
                    rw [i2, show (4 : Int32) = Int32.ofNat 4 from rfl, im_ma, show (6 : Int32) = Int32.ofNat 6 from rfl, show 4 * (80 * B + f) + (i + 6) = 4 * (80 * B + f) + i + 6 by omega, im_sb]
                  rw [e4, if_neg (ms_in (show 4 * (80 * B + f) + i < 640 by omega) (by decide)), im_t (show 4 * (80 * B + f) + i < 2147483648 by omega), hR 161 _ (by omega), a3 i i1, i3, im_t (show i < 2147483648 by omega)]
end Vr
end
/-! part b47 -/
section
/-! The relation of both states, through what both stand for. -/
def rc_P (pg ds : pg_T) (vs : List mk_V) (S : wd_S) : Prop := (∃ b b', ((b = 11 ∧ b' = 29) ∨ (b = 29 ∧ b' = 11)) ∧ S.2.2.1 1 5 = b ∧ S.2.2.1 1 6 = b' ∧ cl_P b 1500 pg S) ∧ ∃ v v', ((v = 54 ∧ v' = 79) ∨ (v = 79 ∧ v' = 54)) ∧ S.2.2.1 1 7 = v ∧ S.2.2.1 1 8 = v' ∧ vc_P v pg ds vs S
def rc_s (T : Nat → Int32) (n : Nat) (pl : Int32) (m : Nat) (kn : Nat → Int32) (lo l : List Int32) (r : Nat → Int32) (S : wd_S) : Prop := S.1 3 = T ∧ S.1 1 1 = Int32.ofNat n ∧ S.1 1 2 = pl ∧ S.1 1 12 = Int32.ofNat m ∧ (∀ i, i < 4 → S.1 123 i = kn i) ∧ S.1 1 15 = Int32.ofNat lo.length ∧ (∀ j, (hj : j < lo.length) → S.1 127 j = lo[j]) ∧ S.1 1 18 = Int32.ofNat l.length ∧ (∀ i, (hi : i < l.length) → S.1 132 i = l[i]) ∧ ∀ i, i < 3 → S.1 134 i = r i
def rm_P (pg ds : pg_T) (vs : List mk_V) (S : wd_S) : Prop := ∃ h B, h ≤ 1 ∧ S.1 135 42 = Int32.ofNat h ∧ ((pg = [] ∧ S.1 135 41 = 0) ∨ (1 ≤ pg.length ∧ S.1 135 41 = 1 ∧ S.1 150 h = Int32.ofNat pg.length ∧ mo_P h pg S)) ∧ vm_P h B pg ds vs S
def rm_s (T : Nat → Int32) (n : Nat) (pl : Int32) (m : Nat) (kn : Nat → Int32) (lo l : List Int32) (r : Nat → Int32) (S : wd_S) : Prop := S.1 136 = T ∧ S.1 135 2 = Int32.ofNat n ∧ S.1 135 10 = pl ∧ kn_is m S ∧ (∀ i, i < 4 → S.1 174 i = kn i) ∧ S.1 135 89 = Int32.ofNat lo.length ∧ (∀ j, (hj : j < lo.length) → S.1 175 j = lo[j]) ∧ S.1 135 95 = Int32.ofNat l.length ∧ (∀ i, (hi : i < l.length) → S.1 179 i = l[i]) ∧ S.1 135 96 = r 0 ∧ S.1 135 97 = r 1 ∧ S.1 135 98 = r 2
def rl_D (pg ds : pg_T) (vs : List mk_V) (n m : Nat) (lo l : List Int32) : Prop := n ≤ 8000 ∧ m < 16 ∧ lo.length ≤ 40000 ∧ l.length ≤ 4 ∧ wf_P pg ∧ ds.length = vs.length ∧ mk_ok pg vs ∧ (pg = [] → ds = []) ∧ ∃ s : mk_S, s.1 = vs ∧ wl_D pg ds s
def RL (S : wd_S) : Prop := ∃ (pg ds : pg_T) (vs : List mk_V) (T : Nat → Int32) (n : Nat) (pl : Int32) (m : Nat) (kn : Nat → Int32) (lo l : List Int32) (r : Nat → Int32), rl_D pg ds vs n m lo l ∧ rc_P pg ds vs S ∧ rc_s T n pl m kn lo l r S ∧ rm_P pg ds vs S ∧ rm_s T n pl m kn lo l r S
section Rl
variable {pg ds : pg_T} {vs : List mk_V} {S S' : wd_S} {T : Nat → Int32} {n m : Nat} {pl : Int32} {kn : Nat → Int32} {lo l : List Int32} {r : Nat → Int32}
theorem cl_P_o {b : Nat} (hb : b = 11 ∨ b = 29) (h1 : ∀ a, 11 ≤ a → a < 47 → S'.1 a = S.1 a) (h : cl_P b 1500 pg S) : cl_P b 1500 pg S' := by
  obtain ⟨c1, c2⟩ := h
  have hr : ∀ a, b ≤ a → a ≤ b + 17 → S'.1 a = S.1 a := fun a q1 q2 => h1 a (by omega) (by omega)
  refine ⟨by rw [hr b (by omega) (by omega)]; exact c1, fun j hj => ?_⟩
  obtain ⟨a1, y, a2, a3, a4, a5⟩ := c2 j hj
  exact ⟨by rw [hr (b + 17) (by omega) (by omega)]; exact a1, y, by rw [hr (b + 15) (by omega) (by omega)]; exact a2, nd_t_g (nd_rows (fun a q1 q2 => hr a (by omega) (by omega))) _ _ _ a3, by rw [hr (b + 1 + 10) (by omega) (by omega)]; exact a4, by rw [hr (b + 1 + 12) (by omega) (by omega)]; exact a5⟩
theorem vc_P_o {v : Nat} (h1 : ∀ a, v + 2 < a → a ≤ v + 24 → S'.1 a = S.1 a) (h3 : S'.1 (v + 1) 3 = S.1 (v + 1) 3) (h : vc_P v pg ds vs S) : vc_P v pg ds vs S' := by
  obtain ⟨hv, hl, h78, ⟨c1, c2, c3⟩, hD, har⟩ := h
  refine ⟨hv, hl, h78, ⟨by rw [h3]; exact c1, c2, fun j hj => ?_⟩, fun j hj => ?_, har⟩
  · obtain ⟨a1, a2, a3, a4⟩ := c3 j hj
    exact ⟨by rw [h1 (v + 20) (by omega) (by omega)]; exact a1, by rw [h1 (v + 22) (by omega) (by omega)]; exact a2, by rw [h1 (v + 18) (by omega) (by omega)]; exact a3, fun i hi => by rw [h1 (v + 24) (by omega) (by omega)]; exact a4 i hi⟩
  · obtain ⟨y, d1, d2, d3, d4⟩ := hD j hj
    exact ⟨y, by rw [h1 (v + 16) (by omega) (by omega)]; exact d1, nd_t_g (fun x _ => ⟨by rw [h1 (v + 2 + 2) (by omega) (by omega)], by rw [h1 (v + 2 + 4) (by omega) (by omega)], by rw [h1 (v + 2 + 6) (by omega) (by omega)], by rw [h1 (v + 2 + 10) (by omega) (by omega)], by rw [h1 (v + 2 + 12) (by omega) (by omega)], fun j _ => by rw [h1 (v + 2 + 8) (by omega) (by omega)]⟩) _ _ _ d2, by rw [h1 (v + 2 + 10) (by omega) (by omega)]; exact d3, by rw [h1 (v + 2 + 12) (by omega) (by omega)]; exact d4⟩
theorem rc_P_o (h1 : ∀ a, 11 ≤ a → a < 104 → S'.1 a = S.1 a) (h2 : ∀ k, 5 ≤ k → k ≤ 8 → S'.2.2.1 1 k = S.2.2.1 1 k) (h : rc_P pg ds vs S) : rc_P pg ds vs S' := by
  obtain ⟨⟨b, b', hb, b5, b6, hP⟩, v, v', hv, v7, v8, hV⟩ := h
  exact ⟨⟨b, b', hb, by rw [h2 5 (by omega) (by omega)]; exact b5, by rw [h2 6 (by omega) (by omega)]; exact b6, cl_P_o (by omega) (fun a q1 q2 => h1 a q1 (by omega)) hP⟩, v, v', hv, by rw [h2 7 (by omega) (by omega)]; exact v7, by rw [h2 8 (by omega) (by omega)]; exact v8, vc_P_o (fun a q1 q2 => h1 a (by omega) (by omega)) (by rw [h1 (v + 1) (by omega) (by omega)]) hV⟩
theorem rc_s_o (h1 : ∀ a, a < 135 → S'.1 a = S.1 a) (h : rc_s T n pl m kn lo l r S) : rc_s T n pl m kn lo l r S' := by
  unfold rc_s at h ⊢
  rw [h1 3 (by omega), h1 1 (by omega), h1 123 (by omega), h1 127 (by omega), h1 132 (by omega), h1 134 (by omega)]
  exact h
/-- what leaves the versions of the reference -/
theorem vm_P_o {h B : Nat} (ho : ∀ a k, (a = 135 ∧ (k = 59 ∨ k = 63)) ∨ (a = 138 ∧ 48 * h ≤ k ∧ k < 48 * h + 48) ∨ (143 ≤ a ∧ a ≤ 149 ∧ 3004 ≤ k) ∨ (159 ≤ a ∧ a ≤ 164) → S'.1 a k = S.1 a k) (hP : vm_P h B pg ds vs S) : vm_P h B pg ds vs S' := by
  obtain ⟨hB, hh, h63, h59, hl, h78, hv, hD, hw⟩ := hP
  have hg : mj_g (3004 + 6002 * B) (3004 + 6002 * B + 1000) (3004 + 6002 * B) (3004 + 6002 * B + 1000) S S' := ⟨fun x x1 x2 => ⟨ho 143 x (by omega), ho 144 x (by omega), ho 145 x (by omega), ho 146 x (by omega)⟩, fun x x1 x2 => ho 149 x (by omega)⟩
  have ht : ∀ y t, mm_t B 1000 1000 96 y t S → mm_t B 1000 1000 96 y t S' := fun y t q => mj_t_m (Nat.le_refl _) (Nat.le_refl _) (Nat.le_refl _) (Nat.le_refl _) hg 96 y t q
  refine ⟨hB, hh, by rw [ho 135 63 (by omega)]; exact h63, by rw [ho 135 59 (by omega)]; exact h59, hl, h78, fun j hj => ?_, fun j hj => ?_, ?_⟩
  · obtain ⟨a0, a1, a2, a3⟩ := hv j hj
    exact ⟨a0, by rw [ho 159 _ (by omega)]; exact a1, by rw [ho 160 _ (by omega)]; exact a2, fun i hi => by rw [ho 161 _ (by omega)]; exact a3 i hi⟩
  · obtain ⟨y, d1, d2, d3, d4⟩ := hD j hj
    exact ⟨y, by rw [ho 162 _ (by omega)]; exact d1, ht _ _ d2, by rw [ho 163 _ (by omega)]; exact d3, by rw [ho 164 _ (by omega)]; exact d4⟩
  · obtain ⟨-, -, -, h4, h5⟩ := hw
    refine ⟨hB, by rw [ho 135 63 (by omega)]; exact h63, by rw [ho 135 59 (by omega)]; exact h59, h4, fun j hj => ?_⟩
    obtain ⟨a1, ⟨g, m, n, b1, b2, b3, b4, b5, b6, b7⟩, y, c1, c2⟩ := h5 j hj
    obtain ⟨a0, a1', -⟩ := hv j (by omega)
    have eg : g = 48 * h + vs[j].1 := by
      rw [a1'] at b4
      exact ((im_eq (by omega) (by omega)).mp b4).symm
    exact ⟨a1, ⟨g, m, n, b1, b2, b3, by rw [ho 159 _ (by omega)]; exact b4, by rw [ho 160 _ (by omega)]; exact b5, by rw [ho 138 g (by omega)]; exact b6, b7⟩, y, by rw [ho 162 _ (by omega)]; exact c1, ht _ _ c2⟩
theorem mo_P_o {h : Nat} (ho : ∀ a k, (138 ≤ a ∧ a ≤ 141 ∧ 48 * h ≤ k ∧ k < 48 * h + 48) ∨ (143 ≤ a ∧ a ≤ 149 ∧ 1501 * h ≤ k ∧ k < 1501 * h + 1500) → S'.1 a k = S.1 a k) (hpl : pg.length ≤ 48) (hP : mo_P h pg S) : mo_P h pg S' := fun j hj => mo_F_o (fun a a1 a2 => ho a (48 * h + j) (by omega)) ⟨fun x x1 x2 => ⟨ho 143 x (by omega), ho 144 x (by omega), ho 145 x (by omega), ho 146 x (by omega)⟩, fun x x1 x2 => ho 149 x (by omega)⟩ (Nat.le_refl _) (Nat.le_refl _) (hP j hj)
def rm_K (a k : Nat) : Prop := (a = 135 ∧ (k = 41 ∨ k = 42 ∨ k = 59 ∨ k = 63)) ∨ (138 ≤ a ∧ a ≤ 141) ∨ (143 ≤ a ∧ a ≤ 150) ∨ (159 ≤ a ∧ a ≤ 164)
theorem rm_P_o (ho : ∀ a k, rm_K a k → S'.1 a k = S.1 a k) (hpl : pg.length ≤ 48) (h : rm_P pg ds vs S) : rm_P pg ds vs S' := by
  obtain ⟨h, B, hh, h42, hp, hV⟩ := h
  refine ⟨h, B, hh, by rw [ho 135 42 (by unfold rm_K; omega)]; exact h42, ?_, vm_P_o (fun a k q => ho a k (by unfold rm_K; omega)) hV⟩
  rcases hp with ⟨p1, p2⟩ | ⟨p1, p2, p3, p4⟩
  · exact Or.inl ⟨p1, by rw [ho 135 41 (by unfold rm_K; omega)]; exact p2⟩
  · exact Or.inr ⟨p1, by rw [ho 135 41 (by unfold rm_K; omega)]; exact p2, by rw [ho 150 h (by unfold rm_K; omega)]; exact p3, mo_P_o (fun a k q => ho a k (by unfold rm_K; omega)) hpl p4⟩
theorem rm_s_o (ho : ∀ a k, (a = 135 ∧ (k = 2 ∨ k = 10 ∨ k = 89 ∨ (95 ≤ k ∧ k ≤ 98))) ∨ a = 136 ∨ a = 173 ∨ a = 174 ∨ a = 175 ∨ a = 179 → S'.1 a k = S.1 a k) (h : rm_s T n pl m kn lo l r S) : rm_s T n pl m kn lo l r S' := by
  obtain ⟨a1, a2, a3, a4, a5, a6, a7, a8, a9, a10, a11, a12⟩ := h
  exact ⟨by rw [← a1]; exact funext fun k => ho 136 k (by omega), by rw [ho 135 2 (by omega)]; exact a2, by rw [ho 135 10 (by omega)]; exact a3, fun i hi => by rw [ho 173 i (by omega)]; exact a4 i hi, fun i hi => by rw [ho 174 i (by omega)]; exact a5 i hi, by rw [ho 135 89 (by omega)]; exact a6, fun j hj => by rw [ho 175 j (by omega)]; exact a7 j hj, by rw [ho 135 95 (by omega)]; exact a8, fun i hi => by rw [ho 179 i (by omega)]; exact a9 i hi, by rw [ho 135 96 (by omega)]; exact a10, by rw [ho 135 97 (by omega)]; exact a11, by rw [ho 135 98 (by omega)]; exact a12⟩
end Rl
end
/-! part b48 -/
section
/-! The calls, one by one: small ones. -/
def LX (x y : Int32) (S S2 : wd_S) : Prop := RL S2 ∧ S2.1 135 0 = x ∧ (x = 0 → S2.2.1 180 0 = y.toInt64) ∧ S2.2.2.2 ≤ S.2.2.2 + 1
theorem la_g : ¬((0 : Int32) < 0 ∨ 1 ≤ (0 : Int32).toNatClampNeg) := by decide
section Op
variable {S : wd_S} {p q : Int32}
theorem rl_e {S' : wd_S} (h1 : ∀ a k, ¬(a = 135 ∧ k = 0) → S'.1 a k = S.1 a k) (h2 : S'.2.2.1 = S.2.2.1) (h : RL S) : RL S' := by
  obtain ⟨pg, ds, vs, T, n, pl, m, kn, lo, l, r, hD, hc, hs, hm, hms⟩ := h
  refine ⟨pg, ds, vs, T, n, pl, m, kn, lo, l, r, hD, rc_P_o (fun a q1 q2 => funext fun k => h1 a k (by omega)) (fun k _ _ => by rw [h2]) hc, rc_s_o (fun a q => funext fun k => h1 a k (by omega)) hs, rm_P_o (fun a k q => h1 a k (by unfold rm_K at q; omega)) hD.2.2.2.2.1.1 hm, rm_s_o (fun a k q => h1 a k (by omega)) hms⟩
theorem ls_x {c : Int32} (h : RL S) (hc : ¬c = 0) : LX c 0 S (wd_i (wd_n S) 135 0 c) := ⟨rl_e (S := S) (fun a k q => (show (wd_i (wd_n S) 135 0 c).1 a k = (wd_n S).1 a k from fr_ne q)) rfl h, fr_eq, fun z => absurd z hc, Nat.le_refl _⟩
theorem ls_v {y : Int32} (h : RL S) : LX 0 y S (wd_i (wd_l S 180 0 y.toInt64) 135 0 0) := ⟨rl_e (S := S) (fun a k q => (show (wd_i (wd_l S 180 0 y.toInt64) 135 0 0).1 a k = (wd_l S 180 0 y.toInt64).1 a k from fr_ne q)) rfl h, fr_eq, fun _ => by show (wd_l S 180 0 y.toInt64).2.1 180 0 = _; rw [fr_l1, if_pos ⟨rfl, rfl⟩], Nat.le_succ _⟩
theorem op_place (h : RL S) : ∃ x y S2, fn_Sp_place S = some (x, S) ∧ fn_Mo_place S = some (y, S2) ∧ RL S2 ∧ x = y ∧ S2.1 135 0 = 0 ∧ S2.2.2.2 = S.2.2.2 := by
  have h0 := h
  obtain ⟨pg, ds, vs, T, n, pl, m, kn, lo, l, r, hD, hc, hs, hm, hms⟩ := h
  exact ⟨_, _, _, rfl, mo_place S, rl_e (fun a k q => fr_ne q) rfl h0, by rw [hs.2.2.1, hms.2.2.1], fr_eq, rfl⟩
theorem op_cut (h : RL S) : ∃ x S1 y S2, fn_La_cut p S = some (x, S1) ∧ fn_Mo_cut p S1 = some (y, S2) ∧ LX x y S S2 := by
  have h0 := h
  obtain ⟨pg, ds, vs, T, n, pl, m, kn, lo, l, r, hD, hc, hs, hm, hms⟩ := h
  have e1 := hs.2.1
  have e2 := hms.2.1
  have h8 := hD.1
  unfold fn_La_cut
  rw [sp_cut, e1]
  by_cases hp : p < 0 ∨ Int32.ofNat n < p
  · rw [if_pos hp]
    refine ⟨1, wd_n S, 0, wd_i (wd_n S) 135 0 1, rfl, ?_, ls_x h0 (by decide)⟩
    rw [mo_cut, show (wd_n S).1 135 2 = Int32.ofNat n from e2, if_pos hp]
  · rw [if_neg hp]
    have hp0 : ¬p < 0 := fun z => hp (Or.inl z)
    have hpn : p.toNatClampNeg ≤ n := by
      have : ¬n < p.toNatClampNeg := fun z => hp (Or.inr (by
        rw [← im_of hp0]
        exact (im_lt (by omega) (im_tl p)).mpr z))
      omega
    have ep := im_of hp0
    refine ⟨0, wd_l (wd_i S 1 1 p) 180 0 (Int32.ofNat n - p).toInt64, Int32.ofNat n - p, wd_i (wd_i (wd_l (wd_i S 1 1 p) 180 0 (Int32.ofNat n - p).toInt64) 135 0 0) 135 2 p, ?_, ?_, ?_, ?_, fun _ => ?_, Nat.le_succ _⟩
    · show wd_c (some (Sum.inl (Int32.ofNat n - p), wd_i S 1 1 p)) _ = _
      rw [wd_c_s]
      show (if (0 : Int32) < 0 ∨ 1 ≤ (0 : Int32).toNatClampNeg then none else _) = _
      rw [if_neg la_g]
      rfl
    · have e3 : (wd_l (wd_i S 1 1 p) 180 0 (Int32.ofNat n - p).toInt64).1 135 2 = Int32.ofNat n := by
        show (wd_i S 1 1 p).1 135 2 = _
        rw [fr_ne (by omega)]
        exact e2
      rw [mo_cut, e3, if_neg hp]
    · generalize hS2 : wd_i (wd_i (wd_l (wd_i S 1 1 p) 180 0 (Int32.ofNat n - p).toInt64) 135 0 0) 135 2 p = S2
      have hf : ∀ a k, ¬(a = 1 ∧ k = 1) → ¬(a = 135 ∧ (k = 0 ∨ k = 2)) → S2.1 a k = S.1 a k := fun a k q1 q2 => by
        rw [← hS2, fr_ne (by omega), fr_ne (by omega)]
        show (wd_i S 1 1 p).1 a k = _
        rw [fr_ne q1]
      have f1 : S2.1 1 1 = p := by
        rw [← hS2, fr_ne (by omega), fr_ne (by omega)]
        show (wd_i S 1 1 p).1 1 1 = _
        rw [fr_eq]
      have f2 : S2.1 135 2 = p := by rw [← hS2, fr_eq]
      obtain ⟨s1, s2, s3, s4, s5, s6, s7, s8, s9, s10⟩ := hs
      obtain ⟨t1, t2, t3, t4, t5, t6, t7, t8, t9, t10, t11, t12⟩ := hms
      obtain ⟨d1, d2⟩ := hD
      refine ⟨pg, ds, vs, T, p.toNatClampNeg, pl, m, kn, lo, l, r, ⟨by omega, d2⟩, rc_P_o (fun a q1 q2 => funext fun k => hf a k (by omega) (by omega)) (fun k _ _ => by rw [← hS2]; rfl) hc, ⟨by rw [← s1]; exact funext fun k => hf 3 k (by omega) (by omega), by rw [f1, ep], by rw [hf 1 2 (by omega) (by omega)]; exact s3, by rw [hf 1 12 (by omega) (by omega)]; exact s4, fun i hi => by rw [hf 123 i (by omega) (by omega)]; exact s5 i hi, by rw [hf 1 15 (by omega) (by omega)]; exact s6, fun i hi => by rw [hf 127 i (by omega) (by omega)]; exact s7 i hi, by rw [hf 1 18 (by omega) (by omega)]; exact s8, fun i hi => by rw [hf 132 i (by omega) (by omega)]; exact s9 i hi, fun i hi => by rw [hf 134 i (by omega) (by omega)]; exact s10 i hi⟩, rm_P_o (fun a k q => hf a k (by unfold rm_K at q; omega) (by unfold rm_K at q; omega)) d2.2.2.2.1.1 hm, ⟨by rw [← t1]; exact funext fun k => hf 136 k (by omega) (by omega), by rw [f2, ep], by rw [hf 135 10 (by omega) (by omega)]; exact t3, fun i hi => by rw [hf 173 i (by omega) (by omega)]; exact t4 i hi, fun i hi => by rw [hf 174 i (by omega) (by omega)]; exact t5 i hi, by rw [hf 135 89 (by omega) (by omega)]; exact t6, fun i hi => by rw [hf 175 i (by omega) (by omega)]; exact t7 i hi, by rw [hf 135 95 (by omega) (by omega)]; exact t8, fun i hi => by rw [hf 179 i (by omega) (by omega)]; exact t9 i hi, by rw [hf 135 96 (by omega) (by omega)]; exact t10, by rw [hf 135 97 (by omega) (by omega)]; exact t11, by rw [hf 135 98 (by omega) (by omega)]; exact t12⟩⟩
    · rw [fr_ne (by omega), fr_eq]
    · show (wd_l (wd_i S 1 1 p) 180 0 (Int32.ofNat n - p).toInt64).2.1 180 0 = _
      rw [fr_l1, if_pos ⟨rfl, rfl⟩]
end Op
end
