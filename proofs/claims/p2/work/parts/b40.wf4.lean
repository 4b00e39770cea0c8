/-! What make() makes: sizes, prints, runs. -/
def wl_s : pg_T → Nat
  | [] => 0
  | q :: r => q.2.2.1 + wl_s r
def wl_D (pg ds : pg_T) (s : mk_S) : Prop := (∀ j, (hj : j < ds.length) → ds[j].1 = mk_ar pg s.1 j ∧ wf_t False s.1.length (mk_ar pg s.1) 96 (fun i => i < mk_ar pg s.1 j) ds[j].2.1 ∧ ∀ d, tr_sz d ds[j].2.1 ≤ ds[j].2.2.1) ∧ wl_s ds ≤ s.2.1 ∧ s.2.1 ≤ 1000
section Wf4
variable {pg ds : pg_T} {f k n m L : Nat} {kn : Nat → Int32} {as : List mk_R} {fr : Prop} {ar : Nat → Nat}
theorem tr_sm_s (g : Nat → Nat) : ∀ n, tr_sm g (n + 1) = g 0 + tr_sm (fun j => g (j + 1)) n := by
  intro n
  induction n with
  | zero => show 0 + g 0 = g 0 + 0; omega
  | succ n ih =>
    show tr_sm g (n + 1) + g (n + 1) = g 0 + (tr_sm (fun j => g (j + 1)) n + g (n + 1))
    rw [ih]
    omega
theorem tr_sm_l {d : Nat} : ∀ as : List mk_R, (∀ a, a ∈ as → tr_sz d a.1 ≤ a.2.1) → tr_sm (fun j => tr_sz d ((as.map (fun a => a.1)).getD j tr_z)) as.length ≤ mk_sz as := by
  intro as
  induction as with
  | nil => intro _; exact Nat.le_refl _
  | cons a r ih =>
    intro h
    show tr_sm _ (r.length + 1) ≤ a.2.1 + mk_sz r
    rw [tr_sm_s]
    have h1 := h a List.mem_cons_self
    have h2 := ih (fun b hb => h b (List.mem_cons_of_mem _ hb))
    exact Nat.add_le_add h1 h2
theorem mk_tz_cl (h : ∀ a, a ∈ as → ∀ d, tr_sz d a.1 ≤ a.2.1) (k : Nat) : ∀ d, tr_sz d (mk_cl k as).1 ≤ (mk_cl k as).2.1 := by
  intro d
  cases d with
  | zero => exact Nat.zero_le _
  | succ d =>
    have := tr_sm_l (d := d) as (fun a ha => h a ha d)
    show 1 + tr_sm (fun j => tr_sz d ((as.map (fun a => a.1)).getD j tr_z)) as.length ≤ 1 + mk_sz as
    omega
theorem mk_ld_in {vs : List mk_V} : ∀ a, a ∈ (mk_ld f m kn as vs).2.1 → a ∈ as := by
  have hkp : ∀ a, a ∈ mk_kp as → a ∈ as := fun a ha => (List.mem_filter.mp ha).1
  unfold mk_ld
  split
  · exact hkp
  · split
    · exact hkp
    · split
      · exact fun a ha => ha
      · exact fun a ha => ha
theorem tz_n (v : Int32) : ∀ d, tr_sz d (mk_n v).1 ≤ (mk_n v).2.1 := by
  intro d
  cases d with
  | zero => exact Nat.zero_le _
  | succ d => exact Nat.le_refl 1
theorem mk_tz_call {P : List tr_T} {s : mk_S} {w : mk_R × mk_S} (ha : ∀ a, a ∈ as → ∀ d, tr_sz d a.1 ≤ a.2.1) (h : mk_call P f as s = .ok w) : ∀ d, tr_sz d w.1.1 ≤ w.1.2.1 := by
  unfold mk_call at h
  split at h
  · split at h
    · cases h; exact tz_n _
    · cases h
    · cases h; exact mk_tz_cl (fun a q => ha a (mk_ld_in a q)) _
  · cases h; exact mk_tz_cl (fun a q => ha a (mk_ld_in a q)) _
theorem mk_args_tz {self : mk_P} (hs : ∀ N s t q, self N s t = .ok q → ∀ d, tr_sz d q.1.1 ≤ q.1.2.1) {t : tr_T} : ∀ (r j : Nat) (N : mk_N) (s : mk_S) (q : List mk_R × mk_N × mk_S), mk_args self t r j N s = .ok q → ∀ a, a ∈ q.1 → ∀ d, tr_sz d a.1 ≤ a.2.1 := by
  intro r
  induction r with
  | zero => intro j N s q h; cases h; exact fun a ha => absurd ha List.not_mem_nil
  | succ r ih =>
    intro j N s q h
    obtain ⟨a, h1, h2⟩ := mk_b_ok h
    obtain ⟨w, h3, h4⟩ := mk_b_ok h2
    cases h4
    intro b hb
    have hb : b ∈ a.1 :: w.1 := hb
    rcases List.mem_cons.mp hb with rfl | hb
    · exact hs _ _ _ _ h1
    · exact ih _ _ _ _ h3 b hb
theorem mk_tz : ∀ (r : Nat) (N : mk_N) (s : mk_S) (t : tr_T) (q : mk_O), mk pg r N s t = .ok q → ∀ d, tr_sz d q.1.1 ≤ q.1.2.1 := by
  intro r
  induction r with
  | zero => intro N s t q h; cases h
  | succ r ih =>
    intro N s t q h
    unfold mk at h
    split at h
    · cases h
    · unfold mk_in at h
      split at h
      · split at h
        · cases h; exact tz_n _
        · split at h
          · split at h
            · next u _ =>
              cases h
              show ∀ d, tr_sz d (mk_name u).1 ≤ (mk_name u).2.1
              unfold mk_name
              split
              · exact tz_n _
              · intro d
                cases d with
                | zero => exact Nat.zero_le _
                | succ d => exact Nat.le_refl 1
            · cases h
          · split at h
            · obtain ⟨a, h1, h2⟩ := mk_b_ok h
              split at h2
              · exact ih _ _ _ _ h2
              · obtain ⟨w, h3, h4⟩ := mk_b_ok h2
                cases h4
                intro d
                cases d with
                | zero => exact Nat.zero_le _
                | succ d =>
                  have x1 := ih _ _ _ _ h1 d
                  have x2 := ih _ _ _ _ h3 d
                  show 1 + (0 + tr_sz d a.1.1 + tr_sz d w.1.1) ≤ 1 + a.1.2.1 + w.1.2.1
                  omega
            · split at h
              · obtain ⟨a, h1, h2⟩ := mk_b_ok h
                split at h2
                · exact ih _ _ _ _ h2
                · obtain ⟨w, h3, h4⟩ := mk_b_ok h2
                  obtain ⟨u, h5, h6⟩ := mk_b_ok h4
                  cases h6
                  intro d
                  cases d with
                  | zero => exact Nat.zero_le _
                  | succ d =>
                    have x1 := ih _ _ _ _ h1 d
                    have x2 := ih _ _ _ _ h3 d
                    have x3 := ih _ _ _ _ h5 d
                    show 1 + (0 + tr_sz d a.1.1 + tr_sz d w.1.1 + tr_sz d u.1.1) ≤ 1 + a.1.2.1 + w.1.2.1 + u.1.2.1
                    omega
              · split at h
                · split at h
                  · obtain ⟨a, h1, h2⟩ := mk_b_ok h
                    obtain ⟨w, h3, h4⟩ := mk_b_ok h2
                    cases h4
                    exact mk_tz_call (mk_args_tz ih _ _ _ _ _ h1) h3
                  · cases h
                · obtain ⟨a, h1, h2⟩ := mk_b_ok h
                  obtain ⟨w, h3, h4⟩ := mk_b_ok h2
                  split at h4
                  · cases h4
                    exact tz_n _
                  · cases h4
                    intro d
                    cases d with
                    | zero => exact Nat.zero_le _
                    | succ d =>
                      have x1 := ih _ _ _ _ h1 d
                      have x2 := ih _ _ _ _ h3 d
                      show 1 + (0 + tr_sz d a.1.1 + tr_sz d w.1.1) ≤ 1 + a.1.2.1 + w.1.2.1
                      omega
      · cases h
theorem wl_s_a (x : Nat × tr_T × Nat × Nat) : ∀ ds : pg_T, wl_s (ds ++ [x]) = wl_s ds + x.2.2.1 := by
  intro ds
  induction ds with
  | nil => show x.2.2.1 + 0 = 0 + x.2.2.1; omega
  | cons q r ih =>
    show q.2.2.1 + wl_s (r ++ [x]) = q.2.2.1 + wl_s r + x.2.2.1
    rw [ih]
    omega
theorem mk_lp_nn (hP : wf_P pg) : ∀ (F k : Nat) (ds : pg_T) (s : mk_S), F + k = 79 → ds.length = k → k ≤ s.1.length → mk_ok pg s.1 → wl_D pg ds s → gd (fun q => q.1.length = q.2.1.length ∧ mk_ok pg q.2.1 ∧ wl_D pg q.1 q.2) (mk_lp pg F k ds s) := by
  intro F
  induction F with
  | zero =>
    intro k ds s hF hk hks hok _
    have := mk_ok_len hok
    have := hP.1
    omega
  | succ F ih =>
    intro k ds s hF hk hks hok hD
    unfold mk_lp
    cases e : s.1[k]? with
    | none =>
      have := List.getElem?_eq_none_iff.mp e
      exact ⟨by show ds.length = s.1.length; omega, hok, hD⟩
    | some v =>
      obtain ⟨hkl, hv⟩ := List.getElem?_eq_some_iff.mp e
      have hvm := hok.1 v (by rw [← hv]; exact List.getElem_mem hkl)
      have ear : mk_ar pg s.1 k = mk_lf v.2.1 (pg_n pg v.1) := by
        unfold mk_ar
        rw [e]
      have hn := mk_nn_t hP 96 (mk_e (pg_n pg v.1) v) s _ _ (fun i => i < mk_ar pg s.1 k) (hP.2.2 v.1 hvm.1) (fun i hi => by
        have hi : i < pg_n pg v.1 := hi
        have h4 := hP.2.1 v.1
        unfold mk_e
        rw [if_pos hi]
        refine ⟨_, rfl, fun z => ?_⟩
        cases hb : mk_bt v.2.1 i with
        | true => rw [hb] at z; cases z
        | false =>
          refine ⟨mk_lf v.2.1 i, by have := mk_lf_le v.2.1 i; omega, rfl, ?_⟩
          have := mk_lf_mono v.2.1 (i + 1) (pg_n pg v.1) (by omega)
          have e1 : mk_lf v.2.1 (i + 1) = mk_lf v.2.1 i + 1 := by
            show mk_lf v.2.1 i + (if mk_bt v.2.1 i = true then 0 else 1) = _
            rw [hb]
            rfl
          rw [ear]
          omega) hok
      dsimp only
      cases e2 : mk pg 96 (mk_e (pg_n pg v.1) v) s ((pg_P pg).getD v.1 tr_z) with
      | error u =>
        rw [e2] at hn
        cases u with
        | none => exact hn.elim
        | some u => trivial
      | ok q =>
        rw [e2] at hn
        obtain ⟨-, n2, n3, n4⟩ := hn
        obtain ⟨g1, g2, -⟩ := mk_gs _ _ _ _ _ e2
        have tz := mk_tz _ _ _ _ _ e2
        obtain ⟨d1, d2, d3⟩ := hD
        have hpl := n2.length_le
        refine ih (k + 1) _ q.2.2 (by omega) (by rw [List.length_append]; show ds.length + 1 = k + 1; omega) (by omega) n3 ⟨fun j hj => ?_, by rw [wl_s_a]; show wl_s ds + q.1.2.1 ≤ _; omega, g2 d3⟩
        rw [List.length_append] at hj
        have hj : j < ds.length + 1 := hj
        by_cases ej : j < ds.length
        · rw [List.getElem_append_left ej]
          obtain ⟨x1, x2, x3⟩ := d1 j ej
          refine ⟨by rw [x1, mk_ar_pre n2 (by omega)], ?_, x3⟩
          rw [mk_ar_pre n2 (show j < s.1.length by omega)]
          exact wf_pre n2 x2
        · have ej : j = k := by omega
          subst ej
          rw [List.getElem_append_right (by omega)]
          have e3 : ∀ (w : Nat × tr_T × Nat × Nat) (h : j - ds.length < [w].length), [w][j - ds.length] = w := fun w h => by
            have : j - ds.length = 0 := by omega
            simp only [this, List.getElem_cons_zero]
          rw [e3]
          refine ⟨by rw [mk_ar_pre n2 hkl, ear], ?_, tz⟩
          rw [mk_ar_pre n2 hkl]
          exact n4
theorem mk_all_nn (hP : wf_P pg) (hf : f < pg.length) (hm : m < 2 ^ pg_n pg f) : gd (fun q => q.1.length = q.2.1.length ∧ mk_ok pg q.2.1 ∧ wl_D pg q.1 q.2) (mk_all pg f m kn) := by
  refine mk_lp_nn hP 79 0 [] _ rfl rfl (Nat.zero_le _) ?_ ⟨fun j hj => absurd hj (Nat.not_lt_zero _), Nat.le_refl _, Nat.zero_le _⟩
  exact mk_ok_add (vs := []) ⟨fun q hq => absurd hq List.not_mem_nil, fun q hq => absurd hq List.not_mem_nil, List.nodup_nil⟩ hf hm (Or.inl (by decide))
theorem pr_ps_l : ∀ q i, (pr_ps q i).length ≤ 3 * q := by
  intro q
  induction q with
  | zero => intro i; exact Nat.le_refl _
  | succ q ih =>
    intro i
    have e17 : (pr_x 17).length = 2 := by decide +kernel
    have := ih (i + 1)
    show ((if i = 0 then [] else pr_x 17) ++ (97 + Int32.ofNat i) :: pr_ps q (i + 1)).length ≤ _
    rw [List.length_append, List.length_cons]
    split
    · show 0 + _ ≤ _
      omega
    · omega
theorem pr_vs_nn (hl : L ≤ 78) : ∀ (ds : pg_T) (c : Nat), (∀ d, d ∈ ds → d.1 ≤ 4 ∧ wf_t fr L ar 96 (fun i => i < d.1) d.2.1 ∧ tr_sz 96 d.2.1 ≤ d.2.2.1) → ∃ l, pr_vs c ds = some l ∧ l.length ≤ 30 * ds.length + 24 * wl_s ds := by
  intro ds
  induction ds with
  | nil => intro c _; exact ⟨[], rfl, Nat.zero_le _⟩
  | cons q r ih =>
    intro c h
    obtain ⟨l2, e2, h2⟩ := ih (c + 1) (fun d hd => h d (List.mem_cons_of_mem _ hd))
    obtain ⟨a1, a2, a3⟩ := h q List.mem_cons_self
    obtain ⟨l1, s1, e1, -, h1⟩ := pr_nn (pn := q.1) hl 96 (0, fun _ => none) q.2.1 _ a2 (fun i hi => Or.inl hi)
    have ev : pr_v c q.1 q.2.1 = some (118 :: pr_n c ++ 40 :: pr_ps q.1 0 ++ pr_x 18 ++ l1 ++ pr_x 19) := by
      unfold pr_v
      rw [e1]
    have l18 : (pr_x 18).length = 4 := by decide +kernel
    have l19 : (pr_x 19).length = 2 := by decide +kernel
    refine ⟨_, by unfold pr_vs; rw [ev, e2], ?_⟩
    rw [List.length_append, List.length_append, List.length_append, List.length_append, List.length_append, List.length_cons, List.length_cons, l18, l19]
    have x1 := pr_n_l c
    have x2 := pr_ps_l q.1 0
    show _ ≤ 30 * (r.length + 1) + 24 * (q.2.2.1 + wl_s r)
    omega
end Wf4
