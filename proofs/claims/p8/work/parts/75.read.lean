/-! read() of the class. -/
def tr_g (G : Int32 → Int32) (T : tr_T) : tr_T := fun p => if (T p).1 = 5 then (5, G (T p).2.1, (T p).2.2) else T p
theorem tr_g_k {G : Int32 → Int32} {T : tr_T} : tr_k (tr_g G T) = tr_k T := by
  unfold tr_k tr_g
  split
  · next h => exact h.symm
  · rfl
theorem tr_g_a {G : Int32 → Int32} {T : tr_T} : tr_a (tr_g G T) = tr_a T := by
  unfold tr_a tr_g
  split
  · rfl
  · rfl
theorem tr_g_v {G : Int32 → Int32} {T : tr_T} : tr_v (tr_g G T) = if tr_k T = 5 then G (tr_v T) else tr_v T := by
  unfold tr_v tr_k tr_g
  split
  · rfl
  · rfl
theorem tr_g_fit {G : Int32 → Int32} : ∀ (d : Nat) (T : tr_T), tr_fit d T → tr_fit d (tr_g G T) := by
  intro d
  induction d with
  | zero => intro T h; exact h
  | succ d ih =>
    intro T h j hj
    rw [tr_g_a] at hj
    exact ih _ (h j hj)
theorem nd_t_led {t lo hi : Nat} {S S' : wd_S} {G : Int32 → Int32} (h : ∀ x, lo ≤ x → x < hi → S'.1 (t + 2) x = S.1 (t + 2) x ∧ S'.1 (t + 6) x = S.1 (t + 6) x ∧ (∀ j, j < 4 → S'.1 (t + 8) (4 * x + j) = S.1 (t + 8) (4 * x + j)) ∧ S'.1 (t + 4) x = if S.1 (t + 2) x = 5 then G (S.1 (t + 4) x) else S.1 (t + 4) x) : ∀ (d y : Nat) (T : tr_T), nd_t t S lo hi d y T → nd_t t S' lo hi d y (tr_g G T) := by
  intro d
  induction d with
  | zero => intro y T h; exact h
  | succ d ih =>
    intro y T hT
    obtain ⟨h1, h2, h3, h4, h5, h6⟩ := hT
    obtain ⟨a1, a2, a3, a4⟩ := h y h1 h2
    refine ⟨h1, h2, ?_, ?_, ?_, fun j hj hja => ?_⟩
    · rw [a1, tr_g_k]; exact h3
    · rw [a4, tr_g_v, h3, h4]
    · rw [a2, tr_g_a]; exact h5
    · rw [tr_g_a] at hja
      obtain ⟨z, e, hz⟩ := h6 j hj hja
      exact ⟨z, (a3 j hj).trans e, ih z _ hz⟩
/-- a program: of each function its params, its tree, its size, its lets -/
abbrev pg_T : Type := List (Nat × tr_T × Nat × Nat)
def ps_out (V : Nat → Int64) (fs : List ps_F) : pg_T := fs.map (fun q => (q.2.1, tr_g (ld_G V fs) q.2.2.1, q.2.2.2.2.1, q.2.2.2.2.2 - q.2.1))
theorem ps_out_l (V : Nat → Int64) (fs : List ps_F) : (ps_out V fs).length = fs.length := List.length_map _
theorem ps_out_g {V : Nat → Int64} {fs : List ps_F} {j : Nat} (hj : j < (ps_out V fs).length) (hj' : j < fs.length) : (ps_out V fs)[j] = (fs[j].2.1, tr_g (ld_G V fs) fs[j].2.2.1, fs[j].2.2.2.2.1, fs[j].2.2.2.2.2 - fs[j].2.1) := List.getElem_map _
def cl_P (b L : Nat) (ps : pg_T) (S : wd_S) : Prop := S.1 b 3 = Int32.ofNat ps.length ∧ ∀ j, (hj : j < ps.length) → S.1 (b + 17) j = Int32.ofNat ps[j].1 ∧ ∃ y, S.1 (b + 15) j = Int32.ofNat y ∧ nd_t (b + 1) S 0 L 96 y ps[j].2.1 ∧ S.1 (b + 1 + 10) y = Int32.ofNat ps[j].2.2.1 ∧ S.1 (b + 1 + 12) y = Int32.ofNat ps[j].2.2.2
def ps_read (K : Nat → Int32) (V : Nat → Int64) : Except ps_E (List ps_F) := ps_b (ps_prog K V) fun fs => match ps_first V fs (ps_M fs) with
  | some e => .error e
  | none => .ok fs
theorem ps_cl_f (M : List (Nat × Nat)) : ps_cl M = (M.filter (fun q => decide (¬q.2 = 0))).map (fun q => (Int32.ofNat q.1, Int32.ofNat (q.2 - 1))) := by
  induction M with
  | nil => rfl
  | cons q r ih =>
    by_cases h : q.2 = 0
    · rw [List.filter_cons_of_neg (by rw [decide_eq_true_iff]; exact fun z => z h), ← ih]
      exact List.filterMap_cons_none (if_pos h)
    · rw [List.filter_cons_of_pos (by rw [decide_eq_true_iff]; exact h), List.map_cons, ← ih]
      exact List.filterMap_cons_some (if_neg h)
theorem ps_fl_f {V : Nat → Int64} {fs : List ps_F} {last : Nat} : ∀ M : List (Nat × Nat), ps_fl V fs last (M.filter (fun q => decide (¬q.2 = 0))) = ps_fl V fs last M := by
  intro M
  induction M with
  | nil => rfl
  | cons q r ih =>
    by_cases h : q.2 = 0
    · rw [List.filter_cons_of_neg (by rw [decide_eq_true_iff]; exact fun z => z h), ih]
      exact (if_pos h).symm
    · rw [List.filter_cons_of_pos (by rw [decide_eq_true_iff]; exact h)]
      unfold ps_fl
      rw [ih]
section Re
variable {K : Nat → Int32} {V : Nat → Int64} {b : Nat} {S S' S1 : wd_S} {fs : List ps_F} {c x o a last : Nat}
theorem ld_all (hX : rd_X K V b S) (hg : ps_gd K 1500 fs) (h5 : S.1 47 5 = 0) (h12 : S.1 47 12 = rd_ms (-1) (ps_M fs)) (hc : c ≤ 1500) (hP : rd_P b fs c S) : ∃ x S', fn_Reader_take_79 S = some (x, S') ∧ of_f (rf_W b) S S' ∧ match ps_first V fs (ps_M fs) with
    | some e => ¬e.1 = 0 ∧ x = e.1 ∧ S'.1 47 5 = e.1 ∧ S'.1 47 6 = Int32.ofNat e.2
    | none => x = 0 ∧ S'.1 47 5 = 0 ∧ cl_P b 1500 (ps_out V fs) S' := by
  have hb := hX.1
  obtain ⟨g1, g2, g3, g4, g5⟩ := hg
  obtain ⟨p1, p2, p3, p4, p5⟩ := hP
  have hst : ld_st K V b fs S := ⟨hX, p1, p2, fun j hj => ⟨(p4 j hj).1, (p4 j hj).2.1, (g4 _ (List.getElem_mem hj)).1⟩⟩
  have hC : ∀ q, q ∈ (ps_M fs).filter (fun q => decide (¬q.2 = 0)) → K q.1 = 2 ∧ q.1 < 1500 ∧ 1 ≤ q.2 ∧ q.2 ≤ 2000 := fun q hq => by
    obtain ⟨q1, q2⟩ := List.mem_filter.mp hq
    have q2 := of_decide_eq_true q2
    obtain ⟨q3, q4⟩ := g1 q q1
    exact ⟨q3, g2 q q1, by omega, by omega⟩
  have hrun : ∀ last, last ≤ 1500 → ∃ S', fn_Reader_leadCalls_18 (Int32.ofNat last) S = fn_Reader_leadCalls_82 S' ∧ of_f (ld_W b) S S' ∧ match ps_fl V fs last (ps_M fs) with
      | some e => ¬e.1 = 0 ∧ S'.1 47 5 = e.1 ∧ S'.1 47 6 = Int32.ofNat e.2
      | none => S'.1 47 5 = 0 ∧ ∀ y, S'.1 (b + 1 + 4) y = if 0 ≤ y ∧ y < c ∧ S.1 (b + 1 + 2) y = 5 ∧ S.1 (b + 1 + 4) y < Int32.ofNat last then ld_G V fs (S.1 (b + 1 + 4) y) else S.1 (b + 1 + 4) y := by
    intro last hl
    obtain ⟨S', e1, e2, e3⟩ := ld_loop (b := b) (K := K) (V := V) (fs := fs) hl hc c wd_F 0 _ S (Nat.zero_add _) (by rw [show wd_F = 1000000 from rfl]; omega) p3 hst h5 (by rw [p5]; exact ps_cl_f _) hC
    rw [ps_fl_f] at e3
    exact ⟨S', e1, e2, e3⟩
  have hWf : ∀ S', of_f (ld_W b) S S' → of_f (rf_W b) S S' := fun S' h => of_mono (fun a k q => by unfold ld_W at q; unfold rf_W; omega) h
  rw [ps_first_eq _ g2 g3]
  rw [rd_ms_mi _ g2] at h12
  unfold fn_Reader_take_79 fn_Reader_leadCalls fn_Reader_take_90
  rw [if_pos h5, h12]
  cases hm : ps_mi (ps_M fs) with
  | none =>
    simp only []
    rw [if_pos trivial]
    obtain ⟨S2, e1, e2, e3⟩ := hrun 1500 (Nat.le_refl _)
    have e1 : fn_Reader_leadCalls_18 1500 S = fn_Reader_leadCalls_82 S2 := e1
    rw [e1]
    unfold fn_Reader_leadCalls_82 fn_Reader_leadCalls_99
    have e12 : S2.1 47 12 = -1 := by
      rw [e2.1 47 12 (by unfold ld_W; omega), h12, hm]
    rw [if_pos e12, wd_d_s]
    refine ⟨_, _, rfl, hWf _ e2, ?_⟩
    cases hfl : ps_fl V fs 1500 (ps_M fs) with
    | some e =>
      rw [hfl] at e3
      exact ⟨e3.1, e3.2.1, e3.2⟩
    | none =>
      rw [hfl] at e3
      have hv : ∀ y, y < c → S2.1 (b + 1 + 4) y = if S.1 (b + 1 + 2) y = 5 then ld_G V fs (S.1 (b + 1 + 4) y) else S.1 (b + 1 + 4) y := by
        intro y hy
        rw [e3.2 y]
        by_cases k5 : S.1 (b + 1 + 2) y = 5
        · rw [if_pos k5, if_pos]
          refine ⟨Nat.zero_le _, hy, k5, ?_⟩
          have hmem : (S.1 (b + 1 + 4) y, S.1 (b + 1 + 6) y) ∈ nd_c (b + 1) S c 0 := by
            have : ∀ (k x : Nat), x ≤ y → y < x + k → (S.1 (b + 1 + 4) y, S.1 (b + 1 + 6) y) ∈ nd_c (b + 1) S k x := by
              intro k
              induction k with
              | zero => intro x h1 h2; omega
              | succ k ih =>
                intro x h1 h2
                rw [nd_c_s]
                by_cases hxy : x = y
                · rw [hxy, if_pos k5]
                  exact List.mem_cons_self
                · split
                  · exact List.mem_cons_of_mem _ (ih (x + 1) (by omega) (by omega))
                  · exact ih (x + 1) (by omega) (by omega)
            exact this c 0 (Nat.zero_le _) (by omega)
          rw [p5, ps_cl_f] at hmem
          obtain ⟨q, hq, eq⟩ := List.mem_map.mp hmem
          have eq : Int32.ofNat q.1 = S.1 (b + 1 + 4) y := congrArg Prod.fst eq
          obtain ⟨-, q2, -⟩ := hC q hq
          rw [← eq]
          exact (im_lt (by omega) (by omega)).mpr q2
        · rw [if_neg k5, if_neg (fun z => k5 z.2.2.1)]
      refine ⟨e3.1, e3.1, ?_, fun j hj => ?_⟩
      · rw [e2.1 b 3 (by unfold ld_W; omega), p1, ps_out_l]
      · have hj' : j < fs.length := by
          rw [ps_out_l] at hj
          exact hj
        have ej := ps_out_g hj hj'
        obtain ⟨-, r2, y, r3, r4, r5, r6⟩ := p4 j hj'
        rw [ej]
        refine ⟨?_, y, ?_, ?_, ?_, ?_⟩
        · rw [e2.1 (b + 17) j (by unfold ld_W; omega)]; exact r2
        · rw [e2.1 (b + 15) j (by unfold ld_W; omega)]; exact r3
        · refine nd_t_r (Nat.le_refl _) hc _ _ _ (nd_t_led (S := S) (fun x _ hx => ⟨?_, ?_, fun j _ => ?_, hv x hx⟩) _ _ _ r4)
          · exact e2.1 (b + 1 + 2) x (by unfold ld_W; omega)
          · exact e2.1 (b + 1 + 6) x (by unfold ld_W; omega)
          · exact e2.1 (b + 1 + 8) _ (by unfold ld_W; omega)
        · rw [e2.1 (b + 1 + 10) y (by unfold ld_W; omega)]; exact r5
        · rw [e2.1 (b + 1 + 12) y (by unfold ld_W; omega)]; exact r6
  | some o =>
    have ho := g2 _ (ps_mi_in _ _ hm)
    have ho : o < 1500 := ho
    simp only []
    have hne : ¬Int32.ofNat o = -1 := fun z => by
      have := congrArg Int32.toInt z
      rw [im_i (by omega)] at this
      exact absurd this (by show ¬(o : Int) = -1; omega)
    rw [if_neg hne]
    obtain ⟨S2, e1, e2, e3⟩ := hrun o (by omega)
    rw [e1]
    unfold fn_Reader_leadCalls_82 fn_Reader_leadCalls_99
    have e12 : S2.1 47 12 = Int32.ofNat o := by
      rw [e2.1 47 12 (by unfold ld_W; omega), h12, hm]
    rw [e12, if_neg hne, fo_faultAt, wd_d_s, wd_d_s]
    have o3 : of_f (ld_W b) S2 (fo_fa 4 (Int32.ofNat o) S2) := by
      unfold fo_fa
      split
      · exact of_i (by unfold ld_W; omega) (of_i (by unfold ld_W; omega) (of_i (by unfold ld_W; omega) of_refl))
      · exact of_refl
    refine ⟨_, _, rfl, hWf _ (of_trans e2 o3), ?_⟩
    cases hfl : ps_fl V fs o (ps_M fs) with
    | some e =>
      rw [hfl] at e3
      rw [rd_fa1 (by rw [e3.2.1]; exact e3.1)]
      exact ⟨e3.1, e3.2.1, e3.2⟩
    | none =>
      rw [hfl] at e3
      rw [rd_fa0 e3.1]
      refine ⟨(show ¬(4 : Int32) = 0 by decide), ?_, ?_, ?_⟩
      · rw [fr_ne (by omega), fr_ne (by omega), fr_eq]
      · rw [fr_ne (by omega), fr_ne (by omega), fr_eq]
      · rw [fr_ne (by omega), fr_eq]
end Re
