/-! What was read is as it should be. -/
abbrev we (V : Nat → Int64) (fs : List ps_F) (d : Nat) (B : Nat → Prop) (t : tr_T) : Prop := wf_t True fs.length (pg_n (ps_out V fs)) d B (tr_g (ld_G V fs) t)
def ws (V : Nat → Int64) (fs : List ps_F) (d : Nat) (sc : List (Int64 × Nat)) (p : Nat → Nat → Except ps_E ps_O) : Prop := ∀ i m q (B : Nat → Prop), p i m = .ok q → (∀ u, u ∈ sc → B u.2) → (∀ s, B s → s < m) → m ≤ 16 → (∀ o, o ∈ q.2.1 → ps_bad V fs o = none) → we V fs d B q.1
def ws_F (fs : List ps_F) : Prop := fs.length ≤ 48 ∧ ∀ q, q ∈ fs → q.2.1 ≤ 4
section Wf5
variable {K : Nat → Int32} {V : Nat → Int64} {self : ps_P} {d : Nat} {fs : List ps_F} {B : Nat → Prop} {sc : List (Int64 × Nat)}
theorem ps_look_m {x : Int64} {s : Nat} : ∀ sc : List (Int64 × Nat), ps_look x sc = some s → ∃ u, u ∈ sc ∧ u.2 = s := by
  intro sc
  induction sc with
  | nil => intro h; cases h
  | cons q r ih =>
    intro h
    unfold ps_look at h
    split at h
    · cases h
      exact ⟨q, List.mem_cons_self, rfl⟩
    · obtain ⟨u, h1, h2⟩ := ih h
      exact ⟨u, List.mem_cons_of_mem _ h1, h2⟩
theorem ps_ix_lt {x : Int64} {f : Nat} : ∀ (l : List ps_F) (j : Nat) (r : Option Nat), ps_ix x l j r = some f → r = some f ∨ f < j + l.length := by
  intro l
  induction l with
  | nil => intro j r h; exact Or.inl h
  | cons q l ih =>
    intro j r h
    unfold ps_ix at h
    have e : (q :: l).length = l.length + 1 := rfl
    rcases ih _ _ h with h1 | h1
    · split at h1
      · cases h1
        exact Or.inr (by omega)
      · exact Or.inl h1
    · exact Or.inr (by omega)
theorem ps_out_n {f : Nat} (hf : f < fs.length) : pg_n (ps_out V fs) f = fs[f].2.1 := by
  have h : f < (ps_out V fs).length := by rw [ps_out_l]; exact hf
  unfold pg_n
  rw [List.getD_eq_getElem?_getD, List.getElem?_eq_getElem h, Option.getD_some, ps_out_g h hf]
/-- a call that isn't bad -/
theorem ps_bad_n {o n : Nat} (h : ps_bad V fs (o, n + 1) = none) (ho : o < 2147483648) : ∃ f, f < fs.length ∧ ld_G V fs (Int32.ofNat o) = Int32.ofNat f ∧ pg_n (ps_out V fs) f = n := by
  unfold ps_bad at h
  rw [if_neg (show ¬(o, n + 1).2 = 0 from Nat.succ_ne_zero n)] at h
  unfold ld_G
  rw [im_t ho]
  cases e : ps_ix (V o) fs 0 none with
  | none => rw [e] at h; cases h
  | some f =>
    rw [e] at h
    have hf : f < fs.length := by
      rcases ps_ix_lt _ _ _ e with q | q
      · cases q
      · omega
    refine ⟨f, hf, rfl, ?_⟩
    dsimp only at h
    split at h
    · next hq =>
      rw [List.getD_eq_getElem?_getD, List.getElem?_eq_getElem hf, Option.getD_some] at hq
      rw [ps_out_n hf]
      exact hq
    · cases h
theorem we_call (hF : ws_F fs) {o n : Nat} {ts : List tr_T} (ho : o < 1500) (hn : ts.length = n) (hb : ps_bad V fs (o, n + 1) = none) (ht : ∀ j, j < n → we V fs d B (tr_ls ts j)) : we V fs (d + 1) B (tr_mk 5 (Int32.ofNat o) o n (tr_ls ts)) := by
  obtain ⟨f, f1, f2, f3⟩ := ps_bad_n hb (by omega)
  have h48 := hF.1
  have h4 := hF.2 fs[f] (List.getElem_mem f1)
  rw [ps_out_n f1] at f3
  have ev : tr_v (tr_g (ld_G V fs) (tr_mk 5 (Int32.ofNat o) o n (tr_ls ts))) = Int32.ofNat f := f2
  have en : tr_n (tr_g (ld_G V fs) (tr_mk 5 (Int32.ofNat o) o n (tr_ls ts))) = f := by
    unfold tr_n
    rw [ev, im_t (by omega)]
  exact Or.inr (Or.inr (Or.inr (Or.inr (Or.inl ⟨rfl, by show n ≤ 4; omega, by rw [ev, en], by rw [en]; exact f1, by rw [en, ps_out_n f1]; exact f3.symm, fun j hj => ht j hj⟩))))
theorem we_args (hs : ∀ sc, ws V fs d sc (self sc)) (hgd : ∀ sc i m q, self sc i m = .ok q → ps_good K d i m q) : ∀ f i m r, ps_args K self sc f i m = .ok r → (∀ u, u ∈ sc → B u.2) → (∀ s, B s → s < m) → m ≤ 16 → (∀ o, o ∈ r.2.1 → ps_bad V fs o = none) → ∀ j, j < r.1.length → we V fs d B (tr_ls r.1 j) := by
  intro f
  induction f with
  | zero => intro i m r h _ _ _ _ j hj; cases h; exact absurd hj (Nat.not_lt_zero _)
  | succ f ih =>
    intro i m r h h1 h2 h3 h4 j hj
    unfold ps_args at h
    split at h
    · obtain ⟨i1, -, g1⟩ := ps_b_ok h
      obtain ⟨q, k2, g2⟩ := ps_b_ok g1
      obtain ⟨s, k3, g3⟩ := ps_b_ok g2
      obtain ⟨-, -, p3, p4, -⟩ := hgd _ _ _ _ k2
      cases g3
      cases j with
      | zero => exact hs sc _ _ _ _ k2 h1 h2 h3 (fun o ho => h4 o (List.mem_append_left _ ho))
      | succ j => exact ih _ _ _ k3 h1 (fun s hs => by have := h2 s hs; omega) (p4 h3) (fun o ho => h4 o (List.mem_append_right _ ho)) j (Nat.lt_of_succ_lt_succ hj)
    · cases h
      exact absurd hj (Nat.not_lt_zero _)
theorem we_atom (hF : ws_F fs) (hs : ∀ sc, ws V fs d sc (self sc)) (hgd : ∀ sc i m q, self sc i m = .ok q → ps_good K d i m q) : ws V fs (d + 1) sc (ps_atom K V self sc) := by
  intro i m q B h h1 h2 h3 h4
  have hnum : ∀ s i q, ps_num K V s i m = .ok q → we V fs (d + 1) B q.1 := fun s i q h => by
    obtain ⟨i2, -, g2⟩ := ps_b_ok h
    cases g2
    exact Or.inl rfl
  unfold ps_atom at h
  split at h
  · obtain ⟨i1, -, g1⟩ := ps_b_ok h
    exact hnum _ _ _ g1
  · split at h
    · exact hnum _ _ _ h
    · split at h
      · obtain ⟨i1, k1, g1⟩ := ps_b_ok h
        obtain ⟨-, hi, -⟩ := ps_take_ok k1
        split at g1
        · obtain ⟨i2, -, g2⟩ := ps_b_ok g1
          split at g2
          · obtain ⟨i3, -, g3⟩ := ps_b_ok g2
            cases g3
            exact we_call hF (ts := []) hi rfl (h4 (i, 1) List.mem_cons_self) (fun j hj => absurd hj (Nat.not_lt_zero _))
          · obtain ⟨p, k2, g3⟩ := ps_b_ok g2
            obtain ⟨r, k3, g4⟩ := ps_b_ok g3
            obtain ⟨i3, -, g5⟩ := ps_b_ok g4
            obtain ⟨-, -, p3, p4, -⟩ := hgd _ _ _ _ k2
            cases g5
            refine we_call hF (ts := p.1 :: r.1) (n := r.1.length + 1) hi rfl (h4 (i, r.1.length + 2) List.mem_cons_self) (fun j hj => ?_)
            cases j with
            | zero => exact hs sc _ _ _ _ k2 h1 h2 h3 (fun o ho => h4 o (List.mem_cons_of_mem _ (List.mem_append_left _ ho)))
            | succ j => exact we_args hs hgd _ _ _ _ k3 h1 (fun s hs => by have := h2 s hs; omega) (p4 h3) (fun o ho => h4 o (List.mem_cons_of_mem _ (List.mem_append_right _ ho))) j (Nat.lt_of_succ_lt_succ hj)
        · cases g1
          unfold ps_name at h4 ⊢
          cases e : ps_look (V i) sc with
          | some s =>
            obtain ⟨u, u1, u2⟩ := ps_look_m _ e
            have hB : B s := by rw [← u2]; exact h1 u u1
            have hm := h2 s hB
            have en : tr_n (tr_g (ld_G V fs) (tr_l 2 (Int32.ofNat s) i)) = s := by
              show (Int32.ofNat s).toNatClampNeg = s
              exact im_t (by omega)
            exact Or.inr (Or.inl ⟨rfl, by show tr_v (tr_g (ld_G V fs) (tr_l 2 (Int32.ofNat s) i)) = Int32.ofNat (tr_n (tr_g (ld_G V fs) (tr_l 2 (Int32.ofNat s) i))); rw [en]; rfl, by show tr_n (tr_g (ld_G V fs) (tr_l 2 (Int32.ofNat s) i)) < 16; rw [en]; omega, by show B (tr_n (tr_g (ld_G V fs) (tr_l 2 (Int32.ofNat s) i))); rw [en]; exact hB⟩)
          | none =>
            rw [e] at h4
            have := h4 (i, 0) List.mem_cons_self
            cases this
      · split at h
        · obtain ⟨i1, -, g1⟩ := ps_b_ok h
          obtain ⟨p, k2, g2⟩ := ps_b_ok g1
          obtain ⟨i2, -, g3⟩ := ps_b_ok g2
          cases g3
          exact wf_t_s _ _ _ (hs sc _ _ p _ k2 h1 h2 h3 h4)
        · cases h
theorem we_two {g : Int32 → Bool} (hg : ∀ k : Int32, g k = true → k = 6 ∨ k = 7 ∨ k = 8 ∨ k = 9 ∨ k = 10) {p : Nat → Nat → Except ps_E ps_O} (hp : ws V fs d sc p) (hgd : ∀ i m q, p i m = .ok q → ps_good K d i m q) : ws V fs (d + 1) sc (ps_two K g p) := by
  intro i m q B h h1 h2 h3 h4
  obtain ⟨l, k1, g1⟩ := ps_b_ok h
  obtain ⟨-, -, p3, p4, -⟩ := hgd _ _ _ k1
  split at g1
  · next hk =>
    obtain ⟨i1, -, g2⟩ := ps_b_ok g1
    obtain ⟨r, k3, g3⟩ := ps_b_ok g2
    cases g3
    have hg := hg _ hk
    generalize K l.2.2.2.1 = k at hg
    have ek : tr_k (tr_g (ld_G V fs) (tr_2 k 0 0 l.1 r.1)) = k := tr_g_k
    have e0 : tr_a (tr_g (ld_G V fs) (tr_2 k 0 0 l.1 r.1)) = 2 := tr_g_a
    exact Or.inr (Or.inr (Or.inr (Or.inr (Or.inr ⟨by rw [ek]; exact hg, e0, hp _ _ _ _ k1 h1 h2 h3 (fun o ho => h4 o (List.mem_append_left _ ho)), hp _ _ _ _ k3 h1 (fun s hs => by have := h2 s hs; omega) (p4 h3) (fun o ho => h4 o (List.mem_append_right _ ho))⟩))))
  · cases g1
    exact wf_t_s _ _ _ (hp _ _ _ _ k1 h1 h2 h3 h4)
theorem we_ex (hF : ws_F fs) : ∀ (r : Nat) (sc : List (Int64 × Nat)), ws V fs (4 * r) sc (ps_ex K V r sc) := by
  intro r
  induction r with
  | zero =>
    intro sc i m q B h
    unfold ps_ex at h
    split at h
    · cases h
    · cases h
  | succ r ih =>
    intro sc i m q B h h1 h2 h3 h4
    have hgd : ∀ sc i m q, ps_ex K V r sc i m = .ok q → ps_good K (4 * r) i m q := fun sc i m q hq => ps_ex_good r sc i m q hq
    unfold ps_ex at h
    split at h
    · obtain ⟨i1, k1, g1⟩ := ps_b_ok h
      obtain ⟨i2, k2, g2⟩ := ps_b_ok g1
      obtain ⟨i3, k3, g3⟩ := ps_b_ok g2
      obtain ⟨p, k4, g4⟩ := ps_b_ok g3
      obtain ⟨i4, k5, g5⟩ := ps_b_ok g4
      obtain ⟨s, k6, g6⟩ := ps_b_ok g5
      obtain ⟨-, -, kb⟩ := ps_new_ok k2
      have kb := of_decide_eq_false kb
      obtain ⟨-, -, p3, p4, -⟩ := hgd _ _ _ _ k4
      have p5 := p4 (by omega)
      cases g6
      have en : tr_n (tr_g (ld_G V fs) (tr_2 3 (Int32.ofNat m) i1 p.1 s.1)) = m := by
        show (Int32.ofNat m).toNatClampNeg = m
        exact im_t (by omega)
      refine wf_t_le (d := 4 * r + 1) (Or.inr (Or.inr (Or.inl ⟨rfl, by rw [en]; rfl, by rw [en]; omega, rfl, fun _ hb => ?_, ih _ _ _ _ _ k4 h1 (fun s hs => by have := h2 s hs; omega) (by omega) (fun o ho => h4 o (List.mem_append_left _ ho)), ?_⟩))) (by omega)
      · rw [en] at hb
        have := h2 _ hb
        omega
      · rw [en]
        refine ih _ _ _ _ _ k6 (fun u hu => ?_) (fun s hs => ?_) p5 (fun o ho => h4 o (List.mem_append_right _ ho))
        · rcases List.mem_cons.mp hu with rfl | hu
          · exact Or.inr rfl
          · exact Or.inl (h1 u hu)
        · rcases hs with hs | hs
          · have := h2 s hs
            omega
          · omega
    · split at h
      · obtain ⟨i1, k1, g1⟩ := ps_b_ok h
        obtain ⟨p, k4, g2⟩ := ps_b_ok g1
        obtain ⟨i2, k2, g3⟩ := ps_b_ok g2
        obtain ⟨s, k5, g4⟩ := ps_b_ok g3
        obtain ⟨i3, k3, g5⟩ := ps_b_ok g4
        obtain ⟨u, k6, g6⟩ := ps_b_ok g5
        obtain ⟨-, -, p3, p4, -⟩ := hgd _ _ _ _ k4
        obtain ⟨-, -, s3, s4, -⟩ := hgd _ _ _ _ k5
        have p5 := p4 h3
        have s5 := s4 p5
        cases g6
        exact wf_t_le (d := 4 * r + 1) (Or.inr (Or.inr (Or.inr (Or.inl ⟨rfl, rfl, ih _ _ _ _ _ k4 h1 h2 h3 (fun o ho => h4 o (List.mem_append_left _ ho)), ih _ _ _ _ _ k5 h1 (fun s hs => by have := h2 s hs; omega) p5 (fun o ho => h4 o (List.mem_append_right _ (List.mem_append_left _ ho))), ih _ _ _ _ _ k6 h1 (fun s hs => by have := h2 s hs; omega) s5 (fun o ho => h4 o (List.mem_append_right _ (List.mem_append_right _ ho)))⟩)))) (by omega)
      · have c1 : ∀ k : Int32, (k == 8) = true → k = 6 ∨ k = 7 ∨ k = 8 ∨ k = 9 ∨ k = 10 := fun k hk => by
          rw [beq_iff_eq] at hk
          exact Or.inr (Or.inr (Or.inl hk))
        have c2 : ∀ k : Int32, (k == 6 || k == 7) = true → k = 6 ∨ k = 7 ∨ k = 8 ∨ k = 9 ∨ k = 10 := fun k hk => by
          rw [Bool.or_eq_true, beq_iff_eq, beq_iff_eq] at hk
          rcases hk with z | z
          · exact Or.inl z
          · exact Or.inr (Or.inl z)
        have c3 : ∀ k : Int32, (k == 9 || k == 10) = true → k = 6 ∨ k = 7 ∨ k = 8 ∨ k = 9 ∨ k = 10 := fun k hk => by
          rw [Bool.or_eq_true, beq_iff_eq, beq_iff_eq] at hk
          rcases hk with z | z
          · exact Or.inr (Or.inr (Or.inr (Or.inl z)))
          · exact Or.inr (Or.inr (Or.inr (Or.inr z)))
        have w1 : ws V fs (4 * r + 1) sc (ps_atom K V (ps_ex K V r) sc) := we_atom hF ih hgd
        have w2 := we_two c1 w1 (fun i m q h => ps_atom_good hgd h)
        have w3 := we_two c2 w2 (fun i m q h => ps_two_good (fun i m q h => ps_atom_good hgd h) h)
        exact we_two c3 w3 (fun i m q h => ps_two_good (fun i m q h => ps_two_good (fun i m q h => ps_atom_good hgd h) h) h) i m q B h h1 h2 h3 h4
/-- a function that was read -/
def ps_src (K : Nat → Int32) (V : Nat → Int64) (q : ps_F) : Prop := ∃ sc i u, ps_ps sc ∧ sc.length ≤ 4 ∧ q.2.1 = sc.length ∧ ps_ex K V 24 sc i sc.length = .ok u ∧ q.2.2.1 = u.1 ∧ q.2.2.2.1 = u.2.1
theorem ps_fun_src {fk : List Int64} {i : Nat} {q : ps_F × Nat} (h : ps_fun K V fk i = .ok q) : ps_src K V q.1 := by
  obtain ⟨w, k1, k2⟩ := ps_b_ok h
  obtain ⟨a1, a2, a3, a4, a5, a6, a7, a8⟩ := ps_head_ok k1
  obtain ⟨i4, k3, k4⟩ := ps_b_ok k2
  obtain ⟨i5, k5, k6⟩ := ps_b_ok k4
  obtain ⟨r, k7, k8⟩ := ps_b_ok k6
  obtain ⟨i6, k9, k10⟩ := ps_b_ok k8
  cases k10
  exact ⟨w.1, i5, r, a5, a6, rfl, k7, rfl, rfl⟩
theorem ps_funs_src : ∀ (f i : Nat) (fs fs' : List ps_F), (∀ q, q ∈ fs → ps_src K V q) → ps_funs K V f fs i = .ok fs' → ∀ q, q ∈ fs' → ps_src K V q := by
  intro f
  induction f with
  | zero => intro i fs fs' h1 h; cases h; exact h1
  | succ f ih =>
    intro i fs fs' h1 h
    unfold ps_funs at h
    split at h
    · cases h; exact h1
    · obtain ⟨q, k1, k2⟩ := ps_b_ok h
      refine ih _ _ _ (fun x hx => ?_) k2
      rcases List.mem_append.mp hx with hx | hx
      · exact h1 x hx
      · rw [List.mem_singleton.mp hx]
        exact ps_fun_src k1
theorem ps_prog_src (h : ps_prog K V = .ok fs) : ∀ q, q ∈ fs → ps_src K V q := by
  unfold ps_prog at h
  split at h
  · cases h
  · obtain ⟨q, k1, k2⟩ := ps_b_ok h
    exact ps_funs_src _ _ _ _ (fun x hx => by rw [List.mem_singleton.mp hx]; exact ps_fun_src k1) k2
theorem ps_ps_lt : ∀ sc : List (Int64 × Nat), ps_ps sc → ∀ u, u ∈ sc → u.2 < sc.length := by
  intro sc
  induction sc with
  | nil => intro _ u hu; exact absurd hu List.not_mem_nil
  | cons q r ih =>
    intro h u hu
    show u.2 < r.length + 1
    rcases List.mem_cons.mp hu with rfl | hu
    · rw [h.1]; exact Nat.lt_succ_self _
    · have := ih h.2 u hu
      omega
theorem ps_first_n : ∀ M : List (Nat × Nat), ps_first V fs M = none → ∀ o, o ∈ M → ps_bad V fs o = none := by
  intro M
  induction M with
  | nil => intro _ o ho; exact absurd ho List.not_mem_nil
  | cons q r ih =>
    intro h o ho
    unfold ps_first at h
    cases e : ps_bad V fs q with
    | some x => rw [e] at h; cases h
    | none =>
      rw [e] at h
      rcases List.mem_cons.mp ho with rfl | ho
      · exact e
      · exact ih h o ho
theorem wf_read (h : ps_read K V = .ok fs) : wf_P (ps_out V fs) := by
  unfold ps_read at h
  obtain ⟨fs', k1, k2⟩ := ps_b_ok h
  cases e : ps_first V fs' (ps_M fs') with
  | some x => rw [e] at k2; cases k2
  | none =>
    rw [e] at k2
    cases k2
    obtain ⟨-, -, -, g4, g5⟩ := ps_prog_gd k1
    have hF : ws_F fs := ⟨g5, fun q hq => (g4 q hq).1⟩
    refine ⟨by rw [ps_out_l]; exact g5, fun f => ?_, fun f hf => ?_⟩
    · by_cases hf : f < fs.length
      · rw [ps_out_n hf]
        exact (g4 _ (List.getElem_mem hf)).1
      · unfold pg_n
        rw [List.getD_eq_getElem?_getD, List.getElem?_eq_none (by rw [ps_out_l]; omega)]
        exact Nat.zero_le _
    · rw [ps_out_l] at hf ⊢
      have hfo : f < (ps_out V fs).length := by rw [ps_out_l]; exact hf
      obtain ⟨sc, i, u, s1, s2, s3, s4, s5, s6⟩ := ps_prog_src k1 fs[f] (List.getElem_mem hf)
      have et : (pg_P (ps_out V fs)).getD f tr_z = tr_g (ld_G V fs) u.1 := by
        unfold pg_P
        rw [List.getD_eq_getElem?_getD, List.getElem?_map, List.getElem?_eq_getElem hfo, ps_out_g hfo hf]
        show tr_g (ld_G V fs) fs[f].2.2.1 = _
        rw [s5]
      rw [et, ps_out_n hf, s3]
      refine we_ex hF 24 sc i sc.length u _ s4 (ps_ps_lt sc s1) (fun s hs => hs) (by omega) (fun o ho => ps_first_n _ e o ?_)
      unfold ps_M
      exact List.mem_flatMap.mpr ⟨fs[f], List.getElem_mem hf, by rw [s6]; exact ho⟩
end Wf5
