/-! The reference: a whole function. -/
section Mo1
variable {T : Nat → Int32} {n i c l B : Nat} {S S' : wd_S} {fs : List ps_F}
theorem mo_111b (h9 : ¬S.1 135 9 = 0) : fn_Mo_definition_85 S = some S := by
  unfold fn_Mo_definition_85 fn_Mo_definition_111
  rw [if_neg h9, if_neg h9]
theorem mo_33b {F : Nat} {x : Int32} (h9 : ¬S.1 135 9 = 0) : fn_Mo_definition_33 (F + 1) x S = some S := by
  rw [fn_Mo_definition_33, if_neg h9, ite_self, mo_111b h9]
theorem mo_33 (hm : mt_g T n i S) (hk : tk_K T n i = 2) (hB : B ≤ 1) (h25 : S.1 135 25 = Int32.ofNat B) {p : Nat} (h26 : S.1 135 26 = Int32.ofNat p) (hp : p ≤ 48) : ∀ (q j F : Nat), j + q = p → q + 1 < F → ((∀ b, j ≤ b → b < p → ¬S.2.1 137 (48 * B + b) = tk_V T n i) ∧ fn_Mo_definition_33 F (Int32.ofNat (48 * B + j)) S = fn_Mo_definition_85 S) ∨ ((∃ b, b < p ∧ S.2.1 137 (48 * B + b) = tk_V T n i) ∧ ∃ S', fn_Mo_definition_33 F (Int32.ofNat (48 * B + j)) S = some S' ∧ of_f nx_W S S' ∧ mt_e T n (3, i) S') := by
  have es : (48 : Int32) * Int32.ofNat B + Int32.ofNat p = Int32.ofNat (48 * B + p) := by
    rw [show (48 : Int32) = Int32.ofNat 48 from rfl, ← Int32.ofNat_mul, ← Int32.ofNat_add]
  intro q
  induction q with
  | zero =>
    intro j F hj hF
    obtain ⟨F, rfl⟩ : ∃ g, F = g + 1 := ⟨F - 1, by omega⟩
    refine Or.inl ⟨fun b h1 h2 => by omega, ?_⟩
    rw [fn_Mo_definition_33, h25, h26, es, if_neg (fun z => by have := (im_lt (by omega) (by omega)).mp z; omega)]
  | succ q ih =>
    intro j F hj hF
    obtain ⟨F, rfl⟩ : ∃ g, F = g + 1 := ⟨F - 1, by omega⟩
    have ekey : S.2.1 135 7 = tk_V T n i := hm.2.2.2.2.2.2.2.2.2.2.1 hk
    rw [fn_Mo_definition_33, h25, h26, es, if_pos ((im_lt (by omega) (by omega)).mpr (by omega)), if_pos hm.2.2.1, if_neg (ms_in (show 48 * B + j < 96 by omega) (by decide)), im_t (by omega), ekey]
    unfold fn_Mo_definition_79
    rw [im_s]
    by_cases he : S.2.1 137 (48 * B + j) = tk_V T n i
    · rw [if_pos (sm_eq.mpr he)]
      obtain ⟨S2, e2, o2, r2⟩ := mt_stop (x := 3) (by decide) hm
      obtain ⟨F, rfl⟩ : ∃ g, F = g + 1 := ⟨F - 1, by omega⟩
      rw [e2, wd_d_s, mo_33b (by rw [r2.2.1]; exact (show ¬(3 : Int32) = 0 by decide))]
      exact Or.inr ⟨⟨j, by omega, he⟩, S2, rfl, o2, r2⟩
    · rw [if_neg (fun z => he (sm_eq.mp z))]
      rcases ih (j + 1) F (by omega) (by omega) with ⟨h1, h2⟩ | h
      · refine Or.inl ⟨fun b b1 b2 => ?_, h2⟩
        by_cases hb : b = j
        · rw [hb]; exact he
        · exact h1 b (by omega) b2
      · exact Or.inr h
theorem mn_nx : ∀ a b, nx_W a b → mn_W B a b := fun a b h => Or.inl ⟨h.1, Or.inl h.2⟩
theorem mn_md {f : Nat} (hf1 : 48 * B ≤ f) (hf2 : f < 48 * B + 48) (hc : 1501 * B ≤ c) (hl : 1501 * B ≤ l) : ∀ a b, md_W f c l (1501 * B + 1501) a b → mn_W B a b := by
  rintro a b (h | h | h | h | h | h | h | h | h)
  · exact Or.inl ⟨h.1, by omega⟩
  · exact Or.inr (Or.inl ⟨by omega, by omega, by omega, by omega⟩)
  · exact Or.inr (Or.inr (Or.inl ⟨h.1, by omega, by omega⟩))
  · exact Or.inr (Or.inr (Or.inr (Or.inl ⟨h.1, by omega, by omega, h.2.2.2⟩)))
  · exact Or.inr (Or.inr (Or.inr (Or.inl ⟨by omega, by omega, by omega, h.2.2⟩)))
  · exact Or.inr (Or.inr (Or.inr (Or.inr (Or.inl h))))
  · exact Or.inr (Or.inr (Or.inr (Or.inr (Or.inr (Or.inl h)))))
  · exact Or.inr (Or.inr (Or.inr (Or.inr (Or.inr (Or.inr (Or.inl h))))))
  · exact Or.inr (Or.inr (Or.inr (Or.inr (Or.inr (Or.inr (Or.inr h))))))
theorem mn_def (h8 : n ≤ 8000) (hB : B ≤ 1) (hm : mt_g T n i S) (hP : mn_P T n B fs c l S) (hc : c ≤ 1501 * B + i) (hl : l ≤ 1501 * B + i) : ∃ S', fn_Mo_definition S = some S' ∧ of_f (mn_W B) S S' ∧ match ps_fun (tk_K T n) (tk_V T n) (fs.map (fun q => q.1)) i with
    | .error e => mt_e T n e S'
    | .ok q => mt_g T n q.2 S' ∧ ∃ l', l' ≤ 1501 * B + q.2 ∧ mn_P T n B (fs ++ [q.1]) (c + q.1.2.2.2.2.1) l' S' := by
  obtain ⟨h25, h26, h48, h27, h28, h30, hcE, hlB, hF⟩ := hP
  have hcB : 1501 * B ≤ c := by omega
  have hi15 := hm.2.2.2.2.1
  have k2 : S.1 135 4 = 10 ↔ tk_K T n i = 2 := ma_tok (kk := 2) hm (by decide)
  have e48 : (48 : Int32) * Int32.ofNat B = Int32.ofNat (48 * B) := by
    rw [show (48 : Int32) = Int32.ofNat 48 from rfl, ← Int32.ofNat_mul]
  unfold fn_Mo_definition fn_Mo_definition_25 ps_fun ps_head
  rw [if_pos hm.2.2.1]
  by_cases hk : tk_K T n i = 2
  · rw [if_pos (k2.mpr hk), h25, e48]
    have hmem : tk_V T n i ∈ fs.map (fun q => q.1) ↔ ∃ b, b < fs.length ∧ S.2.1 137 (48 * B + b) = tk_V T n i := by
      constructor
      · intro z
        obtain ⟨q, hq, e⟩ := List.mem_map.mp z
        obtain ⟨j, hj, rfl⟩ := List.getElem_of_mem hq
        exact ⟨j, hj, (hF j hj).1.trans e⟩
      · rintro ⟨j, hj, e⟩
        exact List.mem_map.mpr ⟨fs[j], List.getElem_mem hj, (hF j hj).1.symm.trans e⟩
    rcases mo_33 hm hk hB h25 h26 h48 fs.length 0 wd_F (Nat.zero_add _) (by rw [show wd_F = 1000000 from rfl]; omega) with ⟨h1, h2⟩ | ⟨h1, S2, h2, h3, h4⟩
    · have h2 : fn_Mo_definition_33 wd_F (Int32.ofNat (48 * B)) S = fn_Mo_definition_85 S := h2
      have hnot : ¬tk_V T n i ∈ fs.map (fun q => q.1) := fun z => by
        obtain ⟨b, hb, e⟩ := hmem.mp z
        exact h1 b (Nat.zero_le _) hb e
      rw [h2]
      unfold fn_Mo_definition_85 ps_new
      rw [if_pos hm.2.2.1, h26, if_neg (show ¬(tk_K T n i = 2 ∧ decide (tk_V T n i ∈ fs.map (fun q => q.1)) = true) from fun z => hnot (of_decide_eq_true z.2)), List.length_map]
      by_cases h48' : 48 ≤ fs.length
      · have e4 : fs.length = 48 := by omega
        rw [if_pos (by rw [e4]; rfl), if_pos ⟨hk, decide_eq_true h48'⟩]
        obtain ⟨S2, e2, o2, r2⟩ := mt_stop (x := 6) (by decide) hm
        unfold fn_Mo_definition_111
        rw [e2, wd_d_s, if_neg (by rw [r2.2.1]; exact (show ¬(6 : Int32) = 0 by decide))]
        exact ⟨S2, rfl, of_mono mn_nx o2, r2⟩
      · rw [if_neg (fun z => h48' (by have := (im_eq (m := fs.length) (n := 48) (by omega) (by omega)).mp z; omega)), if_neg (fun z => h48' (of_decide_eq_true z.2))]
        unfold fn_Mo_definition_111
        have es : Int32.ofNat (48 * B) + Int32.ofNat fs.length = Int32.ofNat (48 * B + fs.length) := (Int32.ofNat_add _ _).symm
        have hin := ms_in (show 48 * B + fs.length < 96 by omega) (show 96 < 2147483648 by decide)
        rw [if_pos hm.2.2.1, h25, e48, h26, es]
        simp only [wd_b]
        generalize hf : 48 * B + fs.length = f at hin
        rw [fr_eq, if_neg hin, im_t (by omega)]
        have e31a : (wd_l (wd_i S 135 31 (Int32.ofNat f)) 137 f ((wd_i S 135 31 (Int32.ofNat f)).2.1 135 7)).1 135 31 = Int32.ofNat f := by rw [fr_l2, fr_eq]
        rw [e31a, if_neg hin, im_t (by omega)]
        have e31b : ∀ v, (wd_i (wd_l (wd_i S 135 31 (Int32.ofNat f)) 137 f ((wd_i S 135 31 (Int32.ofNat f)).2.1 135 7)) 138 f v).1 135 31 = Int32.ofNat f := fun v => by rw [fr_ne (by omega)]; exact e31a
        rw [e31b, if_neg hin, im_t (by omega)]
        have e26 : ∀ v w, (wd_i (wd_i (wd_l (wd_i S 135 31 (Int32.ofNat f)) 137 f ((wd_i S 135 31 (Int32.ofNat f)).2.1 135 7)) 138 f v) 139 f w).1 135 26 = Int32.ofNat fs.length := fun v w => by
          rw [fr_ne (by omega), fr_ne (by omega), fr_l2, fr_ne (by omega)]; exact h26
        rw [e26, im_s]
        generalize hS2 : wd_i (wd_i (wd_i (wd_l (wd_i S 135 31 (Int32.ofNat f)) 137 f ((wd_i S 135 31 (Int32.ofNat f)).2.1 135 7)) 138 f 0) 139 f 0) 135 26 (Int32.ofNat (fs.length + 1)) = S2
        have o2 : of_f (fun a b => (a = 135 ∧ (b = 26 ∨ b = 31)) ∨ ((a = 137 ∨ a = 138 ∨ a = 139) ∧ b = f)) S S2 := by
          rw [← hS2]
          exact of_i (by omega) (of_i (by omega) (of_i (by omega) (of_l (by omega) (of_i (by omega) of_refl))))
        have v26 : S2.1 135 26 = Int32.ofNat (fs.length + 1) := by rw [← hS2, fr_eq]
        have v31 : S2.1 135 31 = Int32.ofNat f := by rw [← hS2, fr_ne (by omega), fr_ne (by omega)]; exact e31b 0
        have v138 : S2.1 138 f = Int32.ofNat 0 := by rw [← hS2, fr_ne (by omega), fr_ne (by omega), fr_eq]; rfl
        have v139 : S2.1 139 f = Int32.ofNat 0 := by rw [← hS2, fr_ne (by omega), fr_eq]; rfl
        have v137 : S2.2.1 137 f = tk_V T n i := by
          rw [← hS2]
          show (wd_l (wd_i S 135 31 (Int32.ofNat f)) 137 f ((wd_i S 135 31 (Int32.ofNat f)).2.1 135 7)).2.1 137 f = _
          rw [fr_l1, if_pos ⟨rfl, rfl⟩]
          exact hm.2.2.2.2.2.2.2.2.2.2.1 hk
        have t2 : mt_g T n i S2 := mt_g_o hm (fun a ha => by rw [ha]; exact funext (fun b => o2.1 _ _ (by omega))) (fun b hb => o2.1 _ _ (by omega)) (o2.2.1 _ _ (by omega))
        clear hS2 e31a e31b e26
        have O2 : of_f (mn_W B) S S2 := of_mono (fun a b z => by
          rcases z with z | z
          · exact Or.inl ⟨z.1, by omega⟩
          · exact Or.inr (Or.inl ⟨by omega, by omega, by omega, by omega⟩)) o2
        have hfin : ∀ (S5 : wd_S) (w : List (Int64 × Nat) × Nat) (F' : Nat), i ≤ w.2 → of_f (fun a b => mq_W f a b) S2 S5 → mq_h T n f w.1.length w.2 S5 → w.1.length ≤ 4 → mq_n f w.1 S5 → ps_ps w.1 → ∃ S', fn_Mo_definition_210 (F' + 1) 0 S5 = some S' ∧ of_f (mn_W B) S S' ∧ match ps_body (tk_K T n) (tk_V T n) i w with
            | .error e => mt_e T n e S'
            | .ok q => mt_g T n q.2 S' ∧ ∃ l', l' ≤ 1501 * B + q.2 ∧ mn_P T n B (fs ++ [q.1]) (c + q.1.2.2.2.2.1) l' S' := by
          intro S5 w F' hiw o5 m5 w4 n5 p5
          obtain ⟨w1, w2⟩ := w
          have e27 : ∀ b, b = 25 ∨ b = 27 ∨ b = 28 ∨ b = 30 → S5.1 135 b = S.1 135 b := fun b hb => by
            rw [o5.1 135 b (by unfold mq_W nx_W; omega), o2.1 135 b (by omega)]
          have hiw : i ≤ w2 := hiw
          obtain ⟨S6, f6, o6, k6, r6⟩ := md_tail (H := 1501 * B + 1501) (o := i) (F := F') h8 m5 w4 ((e27 27 (by omega)).trans h27) ((e27 28 (by omega)).trans h28) ((e27 30 (by omega)).trans h30) (by omega) (by omega) (by omega)
          have O6 : of_f (mn_W B) S S6 := of_trans O2 (of_trans (of_mono (fun a b z => mn_md (by omega) (by omega) hcB hlB a b (md_W_mq a b z)) o5) (of_mono (mn_md (by omega) (by omega) hcB hlB) o6))
          refine ⟨S6, f6, O6, ?_⟩
          cases q1 : ps_body (tk_K T n) (tk_V T n) i (w1, w2) with
          | error e => rw [q1] at r6; exact r6
          | ok q =>
            rw [q1] at r6
            obtain ⟨g1, g138, g139, g141, g27, g30, l', y, L1, L2, g28, g140, D6⟩ := r6
            obtain ⟨i4, k3, k4⟩ := ps_b_ok q1
            obtain ⟨i5, k5, k6'⟩ := ps_b_ok k4
            obtain ⟨r, k7, k8⟩ := ps_b_ok k6'
            obtain ⟨i6, k9, k10⟩ := ps_b_ok k8
            obtain ⟨-, b2, rfl, -⟩ := ps_take_ok k3
            obtain ⟨-, c2, rfl, -⟩ := ps_take_ok k5
            obtain ⟨-, e2, rfl, -⟩ := ps_take_ok k9
            obtain ⟨d1, d2, d3, d4, d5, d6, -⟩ := ps_ex_good _ _ _ _ _ k7
            have hrs := rs_ex _ _ _ _ _ (Nat.le_refl _) k7
            have hq2 : q.2 = r.2.2.2.1 + 1 := by cases k10; rfl
            have hqn : q.1.2.2.2.2.1 = r.2.2.1 := by cases k10; rfl
            refine ⟨g1, l', by omega, ?_, ?_, ?_, g27, g28, g30, by rw [ps_c_a]; omega, by omega, fun j hj => ?_⟩
            · rw [o6.1 135 25 (by unfold md_W; omega), e27 25 (by omega)]; exact h25
            · rw [o6.1 135 26 (by unfold md_W; omega), o5.1 135 26 (by unfold mq_W nx_W; omega), v26, List.length_append]
              rfl
            · rw [List.length_append]
              show fs.length + 1 ≤ 48
              omega
            · have hj' : j < fs.length + 1 := by rw [List.length_append] at hj; exact hj
              by_cases hj2 : j < fs.length
              · rw [List.getElem_append_left hj2]
                have x1 : ∀ a b, b ≠ f → 137 ≤ a → a ≤ 141 → S6.1 a b = S.1 a b ∧ S6.2.1 a b = S.2.1 a b := fun a b y1 y2 y3 => by
                  rw [o6.1 a b (by unfold md_W; omega), o5.1 a b (by unfold mq_W nx_W; omega), o2.1 a b (by omega), o6.2.1 a b (by unfold md_W; omega), o5.2.1 a b (by unfold mq_W nx_W; omega), o2.2.1 a b (by omega)]
                  exact ⟨rfl, rfl⟩
                rw [List.take_append_of_le_length (Nat.le_of_lt hj2)]
                have ht := ps_c_t fs j hj2
                have ht2 := ps_c_f fs (j + 1)
                refine mn_F_o L1 (x1 137 _ (by omega) (by omega) (by omega)).2 (fun a y1 y2 => (x1 a _ (by omega) (by omega) y2).1) ?_ (hF j hj2)
                refine mr_g_t (mr_g_o o2 (fun a x y1 y2 y3 y4 => by omega) (fun x y1 y2 => by omega) (fun x y1 y2 => by omega)) (mr_g_t (mr_g_o o5 (fun a x y1 y2 y3 y4 => by unfold mq_W nx_W; omega) (fun x y1 y2 => by unfold mq_W nx_W; omega) (fun x y1 y2 => by unfold mq_W nx_W; omega)) (mr_g_o o6 (fun a x y1 y2 y3 y4 => by unfold md_W; omega) (fun x y1 y2 => by unfold md_W; omega) (fun x y1 y2 => by unfold md_W; omega)))
              · have ej : j = fs.length := by omega
                subst ej
                rw [List.getElem_append_right (Nat.le_refl _)]
                simp only [Nat.sub_self, List.getElem_cons_zero]
                rw [hf, List.take_append_of_le_length (Nat.le_refl _), List.take_length, ← hcE]
                have hq1 : q.1 = (tk_V T n i, w1.length, r.1, r.2.1, r.2.2.1, r.2.2.2.2) := by cases k10; rfl
                refine ⟨?_, ?_, g139, g141, ⟨y, g140, mr_t_m (Nat.le_refl _) (Nat.le_refl _) hlB (Nat.le_refl _) (Nat.zero_le _) (Nat.le_refl _) ⟨fun _ _ _ => ⟨rfl, rfl, rfl, rfl, rfl, rfl⟩, fun _ _ _ => rfl, fun _ _ _ => rfl⟩ _ _ _ D6⟩, w1, p5, ?_, w4, ?_, ?_⟩
                · rw [o6.2.1 137 f (by unfold md_W; omega), o5.2.1 137 f (by unfold mq_W nx_W; omega), v137, hq1]
                · rw [g138, hq1]
                · rw [hq1]
                · exact mq_n_o w1 (fun b hb => k6 b hb) n5
                · rw [hq1]; exact hrs
        obtain ⟨S3, f3, o3, r3⟩ := mt_pass h8 t2 (by rw [hk]; decide)
        rw [hk] at r3
        rw [f3, wd_d_s]
        have e31' : ∀ S4, of_f nx_W S2 S4 → S4.1 135 31 = Int32.ofNat f := fun S4 o => by rw [o.1 135 31 (by unfold nx_W; omega)]; exact v31
        have hbadT : ∀ (S4 : wd_S) (e : ps_E), of_f nx_W S2 S4 → mt_e T n e S4 → ∃ S', fn_Mo_definition_208 S4 = some S' ∧ of_f (mn_W B) S S' ∧ mt_e T n e S' := by
          intro S4 e o4 r4
          unfold fn_Mo_definition_208 fn_Mo_definition_209
          obtain ⟨S5, f5, o5⟩ := md_210b (F := 999999) (f := f) (by rw [r4.2.1]; exact r4.1) (e31' S4 o4) (by omega)
          refine ⟨S5, f5, of_trans O2 (of_trans (of_mono mn_nx o4) (of_mono (fun a b z => Or.inr (Or.inl ⟨by omega, by omega, by omega, by omega⟩)) o5)), mt_e_o r4 (o5.1 135 9 (by omega)) (o5.1 135 10 (by omega))⟩
        cases q1 : ps_take (tk_K T n) 2 i with
        | error e =>
          rw [q1] at r3
          have h9 : ¬S3.1 135 9 = 0 := by rw [r3.2.1]; exact r3.1
          rw [mt_want_e h9, wd_d_s, if_neg h9]
          exact hbadT S3 e o3 r3
        | ok i1 =>
          rw [q1] at r3
          obtain ⟨-, t5, rfl, -⟩ := ps_take_ok q1
          have r3 : mt_g T n (i + 1) S3 := r3
          obtain ⟨S4, f4, o4, r4⟩ := mt_want (k := 15) h8 r3 (by decide) (by decide)
          have f4 : fn_Mo_want 14 S3 = some S4 := f4
          rw [f4, wd_d_s]
          have o34 := of_trans o3 o4
          show ∃ S', _ ∧ _ ∧ (match ps_b (ps_b (ps_take (tk_K T n) 15 (i + 1)) fun i2 => if tk_K T n i2 = 16 then .ok ([], i2) else ps_b (ps_par (tk_K T n) (tk_V T n) [] i2) fun q => ps_pars (tk_K T n) (tk_V T n) 1500 q.1 q.2) (ps_body (tk_K T n) (tk_V T n) i) with
            | .error e => mt_e T n e S'
            | .ok q => _)
          cases q2 : ps_take (tk_K T n) 15 (i + 1) with
          | error e =>
            rw [q2] at r4
            have h9 : ¬S4.1 135 9 = 0 := by rw [r4.2.1]; exact r4.1
            rw [if_neg h9]
            exact hbadT S4 e o34 r4
          | ok i2 =>
            rw [q2] at r4
            obtain ⟨-, t6, rfl, -⟩ := ps_take_ok q2
            have r4 : mt_g T n (i + 1 + 1) S4 := r4
            rw [if_pos r4.2.2.1]
            have k16 : S4.1 135 4 = 15 ↔ tk_K T n (i + 1 + 1) = 16 := ma_tok (kk := 16) r4 (by decide)
            have m4 : mq_h T n f ([] : List (Int64 × Nat)).length (i + 1 + 1) S4 := ⟨r4, e31' S4 o34, by omega, by rw [o34.1 138 f (by unfold nx_W; omega)]; exact v138, by rw [o34.1 139 f (by unfold nx_W; omega)]; exact v139⟩
            show ∃ S', _ ∧ _ ∧ (match ps_b (if tk_K T n (i + 1 + 1) = 16 then .ok ([], i + 1 + 1) else ps_b (ps_par (tk_K T n) (tk_V T n) [] (i + 1 + 1)) fun q => ps_pars (tk_K T n) (tk_V T n) 1500 q.1 q.2) (ps_body (tk_K T n) (tk_V T n) i) with
              | .error e => mt_e T n e S'
              | .ok q => _)
            by_cases c16 : tk_K T n (i + 1 + 1) = 16
            · rw [if_pos (k16.mpr c16), if_pos c16]
              unfold fn_Mo_definition_208 fn_Mo_definition_209
              exact hfin S4 ([], i + 1 + 1) 999999 (by show i ≤ i + 1 + 1; omega) (of_mono (fun a b z => Or.inl z) o34) m4 (by show 0 ≤ 4; omega) trivial trivial
            · rw [if_neg (fun z => c16 (k16.mp z)), if_neg c16]
              unfold fn_Mo_definition_209
              obtain ⟨F', S5, f5, o5, e5, r5⟩ := mn_pars (f := f) h8 1500 wd_F (i + 1 + 1) [] S4 (by show 6 ≤ 1500 + 0; omega) (by show 10 ≤ 1000000 + 0; omega) m4 (by show 0 ≤ 4; omega) trivial trivial
              rw [f5]
              have o45 : of_f (fun a b => mq_W f a b) S2 S5 := of_trans (of_mono (fun a b z => Or.inl z) o34) o5
              cases q3 : ps_b (ps_par (tk_K T n) (tk_V T n) [] (i + 1 + 1)) (fun w => ps_pars (tk_K T n) (tk_V T n) 1500 w.1 w.2) with
              | error e =>
                rw [q3] at r5
                obtain ⟨S6, f6, o6⟩ := md_210b (F := F') (f := f) (by rw [r5.2.1]; exact r5.1) e5 (by omega)
                refine ⟨S6, f6, of_trans O2 (of_trans (of_mono (fun a b z => mn_md (by omega) (by omega) hcB hlB a b (md_W_mq a b z)) o45) (of_mono (fun a b z => Or.inr (Or.inl ⟨by omega, by omega, by omega, by omega⟩)) o6)), mt_e_o r5 (o6.1 135 9 (by omega)) (o6.1 135 10 (by omega))⟩
              | ok w =>
                rw [q3] at r5
                obtain ⟨z1, z2, z3, z4, z5⟩ := r5
                exact hfin S5 w F' (by omega) o45 z1 z4 z2 z3
    · have h2 : fn_Mo_definition_33 wd_F (Int32.ofNat (48 * B)) S = some S2 := h2
      rw [h2]
      unfold ps_new
      rw [if_pos (show tk_K T n i = 2 ∧ decide (tk_V T n i ∈ fs.map (fun q => q.1)) = true from ⟨hk, decide_eq_true (hmem.mpr h1)⟩)]
      exact ⟨S2, rfl, of_mono mn_nx h3, h4⟩
  · rw [if_neg (fun z => hk (k2.mp z))]
    obtain ⟨S2, e2, o2, r2⟩ := mt_stop (x := 2) (by decide) hm
    have h9 : ¬S2.1 135 9 = 0 := by rw [r2.2.1]; exact (show ¬(2 : Int32) = 0 by decide)
    rw [e2, wd_d_s, show wd_F = 999999 + 1 from rfl, mo_33b h9]
    refine ⟨S2, rfl, of_mono mn_nx o2, ?_⟩
    unfold ps_new ps_take
    rw [if_neg (fun z => hk z.1), if_neg (fun z => hk z.1), if_neg hk]
    exact r2
end Mo1
