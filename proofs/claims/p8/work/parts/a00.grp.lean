/-! part a00 -/
section
/-! The reference's judge: a function. -/
section Jf
variable {T : Nat → Int32} {n f B k y lo hi l p : Nat} {S S' S1 : wd_S} {fs : List ps_F} {sc : List (Int64 × Nat)} {e : ps_E}
theorem jf_7 (hf : f < 96) (hp : p ≤ 4) : ∀ (r j F : Nat) (S : wd_S), j + r = p → S.1 138 f = Int32.ofNat p → S.1 135 31 = Int32.ofNat f → S.1 135 40 = Int32.ofNat j → (∀ b, b < j → S.1 156 b = Int32.ofNat b) → ∃ S1, fn_Mo_judge_7 (F + r) (Int32.ofNat j) S = fn_Mo_judge_7 F (Int32.ofNat p) S1 ∧ S1.1 135 40 = Int32.ofNat p ∧ (∀ b, b < p → S1.1 156 b = Int32.ofNat b) ∧ of_f (fun a b => (a = 135 ∧ b = 40) ∨ a = 156) S S1 := by
  intro r
  induction r with
  | zero =>
    intro j F S hj h1 h2 h3 h4
    have hj : j = p := hj
    subst hj
    exact ⟨S, rfl, h3, h4, of_refl⟩
  | succ r ih =>
    intro j F S hj h1 h2 h3 h4
    show ∃ S1, fn_Mo_judge_7 (F + r + 1) (Int32.ofNat j) S = _ ∧ _
    rw [fn_Mo_judge_7, h2, if_neg (ms_in hf (by decide)), im_t (show f < 2147483648 by omega), h1, if_pos ((im_lt (by omega) (by omega)).mpr (by omega)), if_neg (ms_in (show j < 16 by omega) (by decide)), im_t (show j < 2147483648 by omega)]
    simp only [wd_b]
    rw [fr_ne (show ¬(135 = 156 ∧ 40 = j) by omega), h3, im_s]
    generalize hS2 : wd_i (wd_i S 156 j (Int32.ofNat j)) 135 40 (Int32.ofNat (j + 1)) = S2
    have o2 : of_f (fun a b => (a = 135 ∧ b = 40) ∨ (a = 156 ∧ b = j)) S S2 := by rw [← hS2]; exact of_i (by omega) (of_i (by omega) of_refl)
    obtain ⟨S3, f3, e3, c3, o3⟩ := ih (j + 1) F S2 (by omega) (by rw [o2.1 138 f (by omega)]; exact h1) (by rw [o2.1 135 31 (by omega)]; exact h2) (by rw [← hS2, fr_eq]) (fun b hb => by
      by_cases e : b = j
      · rw [← hS2, fr_ne (by omega), e, fr_eq]
      · rw [o2.1 156 b (by omega)]; exact h4 b (by omega))
    exact ⟨S3, f3, e3, c3, of_trans (of_mono (fun a b z => by omega) o2) o3⟩
theorem js_ps : ∀ (sc : List (Int64 × Nat)) (S : wd_S), ps_ps sc → sc.length ≤ 16 → mq_n f sc S → (∀ b, b < sc.length → S.1 156 b = Int32.ofNat b) → js_s f sc S := by
  intro sc
  induction sc with
  | nil => intro S _ _ _ _; trivial
  | cons q r ih =>
    intro S h1 h2 h3 h4
    have h2 : r.length + 1 ≤ 16 := h2
    obtain ⟨a1, a2⟩ := h1
    obtain ⟨b1, b2⟩ := h3
    refine ⟨?_, by omega, ?_, ih S a2 (by omega) b2 (fun b hb => h4 b (Nat.lt_succ_of_lt hb))⟩
    · rw [a1]; exact h4 r.length (Nat.lt_succ_self _)
    · rw [a1]; exact b1
/-- the judge's loop has come to its end -/
theorem jf_end {F : Nat} (h : S.1 135 35 = 0 ∨ ¬S.1 135 9 = 0) : fn_Mo_judge_62 (F + 1) S = some S := by
  rw [fn_Mo_judge_62]
  unfold fn_Mo_judge_171
  by_cases c : (0 : Int32) < S.1 135 35
  · rw [if_pos c]
    rcases h with h | h
    · rw [h] at c; exact absurd c (by decide)
    · rw [if_neg h]
  · rw [if_neg c]
theorem mo_judge {q : ps_F} (hB : B ≤ 1) (h9 : S.1 135 9 = 0) (h31 : S.1 135 31 = Int32.ofNat f) (hf : f < 96) (h25 : S.1 135 25 = Int32.ofNat B) (h26 : S.1 135 26 = Int32.ofNat fs.length) (h48 : fs.length ≤ 48) (hfs : ∀ j, (hj : j < fs.length) → S.2.1 137 (48 * B + j) = fs[j].1 ∧ S.1 138 (48 * B + j) = Int32.ofNat fs[j].2.1 ∧ fs[j].2.1 ≤ 4) (hl : l ≤ 3002) (hc : lo + q.2.2.2.2.1 ≤ 3002) (hM : ∀ o, o ∈ q.2.2.2.1 → o.1 < 2147483648) (hF : mn_F T n B f q lo l S) : ∃ S', fn_Mo_judge S = some S' ∧ of_f (jW 0 0 lo (lo + q.2.2.2.2.1)) S S' ∧ match ps_first (tk_V T n) fs q.2.2.2.1 with
    | some e => mt_e T n e S'
    | none => S'.1 135 10 = S.1 135 10 ∧ S'.1 135 9 = 0 ∧ ∃ y, S'.1 140 f = Int32.ofNat y ∧ mj_t S' (48 * B) lo (lo + q.2.2.2.2.1) (1501 * B) l 96 y (tr_g (ld_G (tk_V T n) fs) q.2.2.1) := by
  obtain ⟨a1, a2, a3, a4, ⟨y, a5, a6⟩, sc, b1, b2, b3, b4, b5⟩ := hF
  unfold fn_Mo_judge
  simp only [wd_b]
  generalize hS1 : wd_i S 135 40 0 = S1
  have o1 : of_f (fun a b => a = 135 ∧ b = 40) S S1 := by rw [← hS1]; exact of_i ⟨rfl, rfl⟩ of_refl
  obtain ⟨S2, f2, e2, c2, o2⟩ := jf_7 (f := f) (p := sc.length) hf b3 sc.length 0 (wd_F - sc.length) S1 (by omega) (by rw [o1.1 138 f (by omega), b2]; exact a2) (by rw [o1.1 135 31 (by omega)]; exact h31) (by rw [← hS1, fr_eq]; rfl) (fun b hb => absurd hb (Nat.not_lt_zero _))
  rw [show wd_F - sc.length + sc.length = wd_F by rw [show wd_F = 1000000 from rfl]; omega] at f2
  have f2 : fn_Mo_judge_7 wd_F 0 S1 = _ := f2
  have o12 : of_f (fun a b => (a = 135 ∧ b = 40) ∨ a = 156) S S2 := of_trans (of_mono (fun a b z => Or.inl z) o1) o2
  obtain ⟨F, hF⟩ : ∃ F, wd_F - sc.length = F + 1 := ⟨wd_F - sc.length - 1, by rw [show wd_F = 1000000 from rfl]; omega⟩
  have r31 : S2.1 135 31 = Int32.ofNat f := by rw [o12.1 135 31 (by omega)]; exact h31
  have r138 : S2.1 138 f = Int32.ofNat sc.length := by rw [o12.1 138 f (by omega), b2]; exact a2
  rw [f2, hF, fn_Mo_judge_7, r31, if_neg (ms_in hf (by decide)), im_t (show f < 2147483648 by omega), r138, if_neg (fun z => by have := (im_lt (by omega) (by omega)).mp z; omega)]
  simp only [wd_b]
  have e31 : (wd_i S2 135 35 0).1 135 31 = Int32.ofNat f := by rw [fr_ne (by omega)]; exact r31
  have e140 : (wd_i S2 135 35 0).1 140 f = Int32.ofNat y := by rw [fr_ne (by omega), o12.1 140 f (by omega)]; exact a5
  rw [e31, if_neg (ms_in hf (by decide)), im_t (show f < 2147483648 by omega), e140, ms_push (t := 0) (by rw [fr_eq]; rfl) (by decide), wd_d_s]
  generalize hS3 : ms_p 0 1 (Int32.ofNat y) (wd_i S2 135 35 0) = S3
  have o23 : of_f (fun a b => (a = 135 ∧ b = 35) ∨ (a = 152 ∧ b = 0) ∨ (a = 153 ∧ b = 0)) S2 S3 := by
    rw [← hS3]
    exact of_trans (of_i (by omega) of_refl) (of_mono (fun a b z => by unfold mw_p at z; omega) ms_o)
  have o3 : of_f (fun a b => (a = 135 ∧ (b = 35 ∨ b = 40)) ∨ (a = 152 ∧ 0 ≤ b) ∨ (a = 153 ∧ 0 ≤ b) ∨ (a = 156 ∧ 0 ≤ b)) S S3 := of_trans (of_mono (fun a b z => by omega) o12) (of_mono (fun a b z => by omega) o23)
  have g3 : jh_g f B fs sc (0 + 1) S3 := by
    refine ⟨by rw [o3.1 135 9 (by omega)]; exact h9, by rw [o3.1 135 31 (by omega)]; exact h31, hf, by rw [← hS3]; exact ms_35, by rw [o23.1 135 40 (by omega)]; exact e2, by omega, js_ps sc S3 b1 (by omega) (mq_n_o sc (fun b hb => o3.2.1 142 _ (by omega)) b4) (fun b hb => by rw [o23.1 156 b (by omega)]; exact c2 b hb), hB, by rw [o3.1 135 25 (by omega)]; exact h25, by rw [o3.1 135 26 (by omega)]; exact h26, h48, fun j hj => ?_⟩
    rw [o3.1 138 _ (by omega), o3.2.1 137 _ (by omega)]
    exact hfs j hj
  obtain ⟨g, S4, v1, v2, v3, v4⟩ := jt_all (T := T) (n := n) (f := f) (B := B) (al := 1501 * B) (ah := l) (fs := fs) hl 96 lo (lo + q.2.2.2.2.1) y q.2.2.1 q.2.2.2.1 sc 0 S3 (mr_u_m (Nat.le_refl _) (Nat.le_refl _) (Nat.le_refl _) (Nat.le_refl _) 96 _ _ _ _ _ _ (Nat.le_refl _) (Nat.le_refl _) (jr_p (k := 0) (t := 0) o3) a6) b5 hM g3 (by rw [← hS3, ms_152, if_pos rfl]) (by rw [← hS3, ms_153, if_pos rfl]) (by omega) (by omega)
  obtain ⟨F', hF'⟩ : ∃ F', wd_F = F' + 1 + g := ⟨wd_F - g - 1, by rw [show wd_F = 1000000 from rfl]; omega⟩
  rw [hF', v1]
  have O4 : of_f (jW 0 0 lo (lo + q.2.2.2.2.1)) S S4 := of_trans (of_mono (fun a b z => by unfold jW; omega) o3) (of_mono (jW_le (Nat.le_refl _) (Nat.zero_le _) (Nat.le_refl _) (Nat.le_refl _)) v3)
  cases hq : ps_first (tk_V T n) fs q.2.2.2.1 with
  | some e =>
    rw [hq] at v4
    exact ⟨S4, jf_end (Or.inr (by rw [v4.2.1]; exact v4.1)), O4, v4⟩
  | none =>
    rw [hq] at v4
    obtain ⟨⟨v4, v5⟩, v6⟩ := v4
    exact ⟨S4, jf_end (Or.inl v4.2.2.2.1), O4, v6.trans (o3.1 135 10 (by omega)), v4.1, y, by rw [O4.1 140 f (by unfold jW; omega)]; exact a5, v5⟩
end Jf
end
/-! part a01 -/
section
/-! The reference reads a program. -/
section Mrd
variable {T : Nat → Int32} {n f B k y lo hi l c p : Nat} {S S' S1 : wd_S} {fs : List ps_F} {sc : List (Int64 × Nat)} {e : ps_E}
theorem mt_first (h8 : n ≤ 8000) (a1 : S.1 136 = T) (a2 : S.1 135 2 = Int32.ofNat n) (h3 : S.1 135 3 = Int32.ofNat 0) (h6 : S.1 135 6 = Int32.ofNat 0) (a3 : S.1 135 9 = 0) (a4 : S.1 135 10 = -1) : ∃ S', fn_Mo_next S = some S' ∧ of_f nx_W S S' ∧ (tk_K T n 0 = 19 → mt_e T n (1, 0) S') ∧ (¬tk_K T n 0 = 19 → mt_g T n 0 S') := by
  obtain ⟨S', e1, o1, b1, b2, b3⟩ := nx_next (S := S) a2 h3 (Nat.zero_le _) h8 a3
  rw [a1] at b1 b2 b3
  have ep : tk_n T n 0 = tk_p T n 0 := rfl
  rw [ep] at b1 b2 b3
  refine ⟨S', e1, o1, ?_⟩
  have c1 : S'.1 136 = T := by
    funext m
    rw [o1.1 136 m (by unfold nx_W; omega), a1]
  have c2 : S'.1 135 2 = Int32.ofNat n := by rw [o1.1 135 2 (by unfold nx_W; omega)]; exact a2
  have hple := tk_p_le T n 0
  rcases Nat.lt_or_ge (tk_p T n 0) n with hlt | hge
  · obtain ⟨d1, d2, d3, d4, d5, d6, d7⟩ := b3 hlt
    have eK : tk_K T n 0 = tk_k T n (tk_p T n 0) := if_pos hlt
    refine ⟨fun h19 => ?_, fun h19 => ?_⟩
    · rw [eK] at h19
      exact ⟨(show ¬(1 : Int32) = 0 by decide), (d6 h19).1, (d6 h19).2⟩
    · rw [eK] at h19
      refine ⟨c1, c2, (d7 h19).1, (d7 h19).2.trans a4, by omega, by rw [eK]; exact h19, by rw [eK]; exact d1, b1, fun _ => ?_, ⟨_, (tk_z_ok hlt).2, d2, fun _ => (tk_p_s hlt).symm⟩, fun z => ?_, fun z => ?_⟩
      · rw [d3, h6, im_s]
      · rw [eK] at z; exact d4 z
      · rw [eK] at z; exact d5 z
  · have he : tk_p T n 0 = n := by omega
    obtain ⟨d1, d2, d3, d4, d5⟩ := b2 he
    have eK : tk_K T n 0 = 20 := if_neg (by omega)
    rw [eK]
    refine ⟨fun z => absurd z (by decide), fun _ => ?_⟩
    refine ⟨c1, c2, d4, d5.trans a4, by omega, by rw [eK]; decide, by rw [eK]; exact d1, b1, fun z => absurd eK z, ⟨n, Nat.le_refl _, d2, fun z => by omega⟩, fun z => ?_, fun z => ?_⟩
    · rw [eK] at z; exact absurd z (by decide)
    · rw [eK] at z; exact absurd z (by decide)
theorem mo_def_b (h9 : ¬S.1 135 9 = 0) : fn_Mo_definition S = some S := by
  unfold fn_Mo_definition
  rw [if_neg h9]
  unfold fn_Mo_definition_25
  rw [show wd_F = 999999 + 1 from rfl, mo_33b h9]
theorem mr_91b {F : Nat} (h9 : ¬S.1 135 9 = 0) : fn_Mo_read_91 (F + 1) S = fn_Mo_read_114 S := by
  rw [fn_Mo_read_91, if_neg h9]
/-- the rest of the functions -/
theorem mr_91 (h8 : n ≤ 8000) (hB : B ≤ 1) : ∀ (f F i c l : Nat) (fs : List ps_F) (S : wd_S), f + 1 < F → 1501 ≤ f + i → mt_g T n i S → mn_P T n B fs c l S → c ≤ 1501 * B + i → l ≤ 1501 * B + i → ∃ S', fn_Mo_read_91 F S = fn_Mo_read_114 S' ∧ of_f (mn_W B) S S' ∧ match ps_funs (tk_K T n) (tk_V T n) f fs i with
    | .error e => mt_e T n e S'
    | .ok fs' => S'.1 135 9 = 0 ∧ S'.1 135 10 = -1 ∧ ∃ c' l', c' ≤ 1501 * B + 1500 ∧ l' ≤ 1501 * B + 1500 ∧ mn_P T n B fs' c' l' S' := by
  intro f
  induction f with
  | zero => intro F i c l fs S hF h1 hm; have := hm.2.2.2.2.1; omega
  | succ f ih =>
    intro F i c l fs S hF h1 hm hP hc hl
    obtain ⟨F, rfl⟩ : ∃ g, F = g + 1 := ⟨F - 1, by omega⟩
    have k20 : S.1 135 4 = 23 ↔ tk_K T n i = 20 := ma_tok (kk := 20) hm (by decide)
    have hi := hm.2.2.2.2.1
    rw [fn_Mo_read_91, if_pos hm.2.2.1]
    unfold ps_funs
    by_cases hk : tk_K T n i = 20
    · rw [if_pos (k20.mpr hk), if_pos hk]
      exact ⟨S, rfl, of_refl, hm.2.2.1, hm.2.2.2.1, c, l, by omega, by omega, hP⟩
    · rw [if_neg (fun z => hk (k20.mp z)), if_neg hk]
      obtain ⟨S2, f2, o2, r2⟩ := mn_def h8 hB hm hP hc hl
      rw [f2, wd_d_s]
      cases q1 : ps_fun (tk_K T n) (tk_V T n) (fs.map (fun q => q.1)) i with
      | error e =>
        rw [q1] at r2
        obtain ⟨F, rfl⟩ : ∃ g, F = g + 1 := ⟨F - 1, by omega⟩
        rw [mr_91b (by rw [r2.2.1]; exact r2.1)]
        exact ⟨S2, rfl, o2, r2⟩
      | ok q =>
        rw [q1] at r2
        obtain ⟨m2, l', hl', P2⟩ := r2
        obtain ⟨⟨w1, w2, w3, w4, w5, w6, w7, w8, w9, w10, w11⟩, -, -, -, v5⟩ := ps_fun_ok q1
        obtain ⟨S3, f3, o3, r3⟩ := ih F q.2 (c + q.1.2.2.2.2.1) l' (fs ++ [q.1]) S2 (by omega) (by omega) m2 P2 (by omega) hl'
        exact ⟨S3, f3, of_trans o2 o3, r3⟩
/-- a function of the reference's program, ready to be run -/
def mo_F (B lo hi : Nat) (f : Nat) (q : Nat × tr_T × Nat × Nat) (S : wd_S) : Prop := S.1 138 f = Int32.ofNat q.1 ∧ S.1 139 f = Int32.ofNat (q.2.2.2 + q.1) ∧ S.1 141 f = Int32.ofNat q.2.2.1 ∧ ∃ y, S.1 140 f = Int32.ofNat y ∧ mj_t S (48 * B) lo hi (1501 * B) (1501 * B + 1500) 96 y q.2.1
theorem mo_F_o {q : Nat × tr_T × Nat × Nat} (h2 : ∀ a, 138 ≤ a → a ≤ 141 → S'.1 a f = S.1 a f) (h3 : mj_g lo hi (1501 * B) (1501 * B + 1500) S S') {lo' hi' : Nat} (hlo : lo' ≤ lo) (hhi : hi ≤ hi') (h : mo_F B lo hi f q S) : mo_F B lo' hi' f q S' := by
  obtain ⟨a1, a2, a3, y, a4, a5⟩ := h
  exact ⟨(h2 138 (by omega) (by omega)).trans a1, (h2 139 (by omega) (by omega)).trans a2, (h2 141 (by omega) (by omega)).trans a3, y, (h2 140 (by omega) (by omega)).trans a4, mj_t_m hlo hhi (Nat.le_refl _) (Nat.le_refl _) h3 96 y _ a5⟩
def mo_P (B : Nat) (ps : pg_T) (S : wd_S) : Prop := ∀ j, (hj : j < ps.length) → mo_F B (1501 * B) (1501 * B + 1500) (48 * B + j) ps[j] S
/-- what judging a program may write -/
def mu_W (B a b : Nat) : Prop := (a = 135 ∧ (b = 9 ∨ b = 10 ∨ b = 31 ∨ b = 35 ∨ b = 40)) ∨ ((a = 144 ∨ a = 146) ∧ 1501 * B ≤ b ∧ b < 1501 * B + 1500) ∨ a = 152 ∨ a = 153 ∨ a = 156
theorem mr_125 (hB : B ≤ 1) (h48 : fs.length ≤ 48) (hl : l ≤ 1501 * B + 1500) (hc : 1501 * B + ps_c fs ≤ 1501 * B + 1500) (hM : ∀ o, o ∈ ps_M fs → o.1 < 2147483648) (h4 : ∀ q, q ∈ fs → q.2.1 ≤ 4 ∧ q.2.1 ≤ q.2.2.2.2.2) : ∀ (r j F : Nat) (S : wd_S), j + r = fs.length → r + 1 < F → S.1 135 9 = 0 → S.1 135 31 = Int32.ofNat (48 * B + j) → S.1 135 25 = Int32.ofNat B → S.1 135 26 = Int32.ofNat fs.length → (∀ i, (hi : i < fs.length) → S.2.1 137 (48 * B + i) = fs[i].1 ∧ S.1 138 (48 * B + i) = Int32.ofNat fs[i].2.1) → (∀ i, j ≤ i → (hi : i < fs.length) → mn_F T n B (48 * B + i) fs[i] (1501 * B + ps_c (fs.take i)) l S) → (∀ i, i < j → (hi : i < fs.length) → mo_F B (1501 * B + ps_c (fs.take i)) (1501 * B + ps_c (fs.take (i + 1))) (48 * B + i) (fs[i].2.1, tr_g (ld_G (tk_V T n) fs) fs[i].2.2.1, fs[i].2.2.2.2.1, fs[i].2.2.2.2.2 - fs[i].2.1) S) → ∃ S', fn_Mo_read_125 F S = fn_Mo_read_168 S' ∧ of_f (mu_W B) S S' ∧ match ps_first (tk_V T n) fs (ps_M (fs.drop j)) with
    | some e => mt_e T n e S'
    | none => S'.1 135 9 = 0 ∧ S'.1 135 10 = S.1 135 10 ∧ ∀ i, (hi : i < fs.length) → mo_F B (1501 * B + ps_c (fs.take i)) (1501 * B + ps_c (fs.take (i + 1))) (48 * B + i) (fs[i].2.1, tr_g (ld_G (tk_V T n) fs) fs[i].2.2.1, fs[i].2.2.2.2.1, fs[i].2.2.2.2.2 - fs[i].2.1) S' := by
  have es : (48 : Int32) * Int32.ofNat B + Int32.ofNat fs.length = Int32.ofNat (48 * B + fs.length) := by
    rw [show (48 : Int32) = Int32.ofNat 48 from rfl, ← Int32.ofNat_mul, ← Int32.ofNat_add]
  intro r
  induction r with
  | zero =>
    intro j F S hj hF h9 h31 h25 h26 hfs hr hd
    have hj : j = fs.length := hj
    obtain ⟨F, rfl⟩ : ∃ g, F = g + 1 := ⟨F - 1, by omega⟩
    rw [fn_Mo_read_125, h31, h25, h26, es, if_neg (fun z => by have := (im_lt (by omega) (by omega)).mp z; omega), hj, List.drop_length]
    exact ⟨S, rfl, of_refl, h9, rfl, fun i hi => hd i (by omega) hi⟩
  | succ r ih =>
    intro j F S hj hF h9 h31 h25 h26 hfs hr hd
    obtain ⟨F, rfl⟩ : ∃ g, F = g + 1 := ⟨F - 1, by omega⟩
    have hjl : j < fs.length := by omega
    rw [fn_Mo_read_125, h31, h25, h26, es, if_pos ((im_lt (by omega) (by omega)).mpr (by omega)), if_pos h9]
    have ct := ps_c_t fs j hjl
    have cf := ps_c_f fs (j + 1)
    have hqm : fs[j] ∈ fs := List.getElem_mem hjl
    obtain ⟨S2, f2, o2, r2⟩ := mo_judge (f := 48 * B + j) (lo := 1501 * B + ps_c (fs.take j)) (l := l) (q := fs[j]) (fs := fs) (T := T) (n := n) hB h9 h31 (by omega) h25 h26 h48 (fun i hi => ⟨(hfs i hi).1, (hfs i hi).2, (h4 _ (List.getElem_mem hi)).1⟩) (by omega) (by omega) (fun o ho => hM o (List.mem_flatMap.mpr ⟨_, hqm, ho⟩)) (hr j (Nat.le_refl _) hjl)
    have O2 : of_f (mu_W B) S S2 := of_mono (fun a b z => by unfold jW at z; unfold mu_W; omega) o2
    rw [f2, wd_d_s]
    simp only [wd_b]
    have e31 : S2.1 135 31 = Int32.ofNat (48 * B + j) := by rw [o2.1 135 31 (by unfold jW; omega)]; exact h31
    rw [e31, im_s]
    generalize hS3 : wd_i S2 135 31 (Int32.ofNat (48 * B + j + 1)) = S3
    have o3 : of_f (fun a b => a = 135 ∧ b = 31) S2 S3 := by rw [← hS3]; exact of_i ⟨rfl, rfl⟩ of_refl
    have O3 : of_f (mu_W B) S S3 := of_trans O2 (of_mono (fun a b z => by unfold mu_W; omega) o3)
    rw [List.drop_eq_getElem_cons hjl]
    show ∃ S', _ ∧ _ ∧ (match ps_first (tk_V T n) fs (ps_M (fs[j] :: fs.drop (j + 1))) with
      | some e => _
      | none => _)
    have eM : ps_M (fs[j] :: fs.drop (j + 1)) = fs[j].2.2.2.1 ++ ps_M (fs.drop (j + 1)) := List.flatMap_cons
    rw [eM, ps_first_b]
    cases hq : ps_first (tk_V T n) fs fs[j].2.2.2.1 with
    | some e =>
      rw [hq] at r2
      obtain ⟨F, rfl⟩ : ∃ g, F = g + 1 := ⟨F - 1, by omega⟩
      have h9' : ¬S3.1 135 9 = 0 := by rw [o3.1 135 9 (by omega), r2.2.1]; exact r2.1
      rw [fn_Mo_read_125, if_neg h9', ite_self]
      exact ⟨S3, rfl, O3, r2.1, (o3.1 135 9 (by omega)).trans r2.2.1, (o3.1 135 10 (by omega)).trans r2.2.2⟩
    | none =>
      rw [hq] at r2
      obtain ⟨r10, r9, y, r140, rj⟩ := r2
      have x3 : ∀ a b, 137 ≤ a → a ≤ 141 → S3.1 a b = S.1 a b ∧ S3.2.1 a b = S.2.1 a b := fun a b x1 x2 => ⟨by rw [o3.1 a b (by omega), o2.1 a b (by unfold jW; omega)], by rw [o3.2.1 a b (by omega), o2.2.1 a b (by unfold jW; omega)]⟩
      obtain ⟨S4, f4, o4, r4⟩ := ih (j + 1) F S3 (by omega) (by omega) (by rw [o3.1 135 9 (by omega)]; exact r9) (by rw [← hS3, fr_eq]; rfl) (by rw [o3.1 135 25 (by omega), o2.1 135 25 (by unfold jW; omega)]; exact h25) (by rw [o3.1 135 26 (by omega), o2.1 135 26 (by unfold jW; omega)]; exact h26) (fun i hi => by rw [(x3 137 _ (by omega) (by omega)).2, (x3 138 _ (by omega) (by omega)).1]; exact hfs i hi) (fun i i1 i2 => by
        have cl := ps_c_le fs (j + 1) i i1
        refine mn_F_o (Nat.le_refl _) (x3 137 _ (by omega) (by omega)).2 (fun a y1 y2 => (x3 a _ (by omega) y2).1) ?_ (hr i (by omega) i2)
        exact mr_g_t (jr_o o2 (Or.inr (by omega))) (mr_g_o o3 (fun a x y1 y2 y3 y4 => by omega) (fun x y1 y2 => by omega) (fun x y1 y2 => by omega))) (fun i i1 i2 => by
        have j3 : ∀ lo' hi', mj_g lo' hi' (1501 * B) (1501 * B + 1500) S2 S3 := fun lo' hi' => mj_g_o o3 (fun a x _ _ _ _ => by omega) (fun x _ _ => by omega)
        by_cases ei : i = j
        · subst ei
          obtain ⟨a1, a2, a3, a4, -⟩ := hr i (Nat.le_refl _) i2
          have hle := (h4 _ hqm).2
          refine ⟨by rw [(x3 138 _ (by omega) (by omega)).1]; exact a2, by rw [(x3 139 _ (by omega) (by omega)).1, show fs[i].2.2.2.2.2 - fs[i].2.1 + fs[i].2.1 = fs[i].2.2.2.2.2 by omega]; exact a3, by rw [(x3 141 _ (by omega) (by omega)).1]; exact a4, y, by rw [o3.1 140 _ (by omega)]; exact r140, ?_⟩
          exact mj_t_m (Nat.le_refl _) (by omega) (Nat.le_refl _) hl ⟨(j3 _ _).1, fun x x1 x2 => (j3 0 0).2 x x1 (by omega)⟩ 96 y _ rj
        · have cl := ps_c_le fs (i + 1) j (by omega)
          refine mo_F_o (fun a y1 y2 => (x3 a _ (by omega) y2).1) ?_ (Nat.le_refl _) (Nat.le_refl _) (hd i (by omega) i2)
          have g2 : mj_g (1501 * B + ps_c (fs.take i)) (1501 * B + ps_c (fs.take (i + 1))) (1501 * B) (1501 * B + 1500) S S2 := jm_o o2 (Or.inl (by omega))
          exact ⟨fun x x1 x2 => by
            obtain ⟨u1, u2, u3, u4⟩ := g2.1 x x1 x2
            obtain ⟨w1, w2, w3, w4⟩ := (j3 _ _).1 x x1 x2
            exact ⟨w1.trans u1, w2.trans u2, w3.trans u3, w4.trans u4⟩, fun x x1 x2 => ((j3 0 0).2 x x1 x2).trans (g2.2 x x1 x2)⟩)
      refine ⟨S4, f4, of_trans O3 o4, ?_⟩
      show (match ps_first (tk_V T n) fs (ps_M (fs.drop (j + 1))) with
        | some e => _
        | none => _)
      cases hq2 : ps_first (tk_V T n) fs (ps_M (fs.drop (j + 1))) with
      | some e => rw [hq2] at r4; exact r4
      | none =>
        rw [hq2] at r4
        obtain ⟨u1, u2, u3⟩ := r4
        exact ⟨u1, by rw [u2, o3.1 135 10 (by omega), r10], u3⟩
end Mrd
end
