/-! The reference's judge: a function. -/
section Jf
variable {T : Nat → Int32} {n f B k y lo hi l p : Nat} {S S' S1 : wd_S} {fs : List ps_F} {sc : List (Int64 × Nat)} {e : ps_E}
theorem jf_7 (hf : f < 96) (hp : p ≤ 4) : ∀ (r j F : Nat) (S : wd_S), j + r = p → S.1 138 f = Int32.ofNat p → S.1 135 31 = Int32.ofNat f → S.1 135 40 = Int32.ofNat j → (∀ b, b < j → S.1 156 b = Int32.ofNat b) → ∃ S1, fn_Mo_judge_7 (F + r) (Int32.ofNat j) S = fn_Mo_judge_7 F (Int32.ofNat p) S1 ∧ S1.1 135 40 = Int32.ofNat p ∧ (∀ b, b < p → S1.1 156 b = Int32.ofNat b) ∧ of_f (fun a b => (a = 135 ∧ b = 40) ∨ a = 156) S S1 := by
  intro r
  induction r with
  | zero =>
    intro j F S hj h1 h2 h3 h4
    have hj : j = p := hj
    subst hj
    exact ⟨S, rfl, h3, h4, of_refl⟩
  | succ r ih =>
    intro j F S hj h1 h2 h3 h4
    show ∃ S1, fn_Mo_judge_7 (F + r + 1) (Int32.ofNat j) S = _ ∧ _
    rw [fn_Mo_judge_7, h2, if_neg (ms_in hf (by decide)), im_t (show f < 2147483648 by omega), h1, if_pos ((im_lt (by omega) (by omega)).mpr (by omega)), if_neg (ms_in (show j < 16 by omega) (by decide)), im_t (show j < 2147483648 by omega)]
    simp only [wd_b]
    rw [fr_ne (show ¬(135 = 156 ∧ 40 = j) by omega), h3, im_s]
    generalize hS2 : wd_i (wd_i S 156 j (Int32.ofNat j)) 135 40 (Int32.ofNat (j + 1)) = S2
    have o2 : of_f (fun a b => (a = 135 ∧ b = 40) ∨ (a = 156 ∧ b = j)) S S2 := by rw [← hS2]; exact of_i (by omega) (of_i (by omega) of_refl)
    obtain ⟨S3, f3, e3, c3, o3⟩ := ih (j + 1) F S2 (by omega) (by rw [o2.1 138 f (by omega)]; exact h1) (by rw [o2.1 135 31 (by omega)]; exact h2) (by rw [← hS2, fr_eq]) (fun b hb => by
      by_cases e : b = j
      · rw [← hS2, fr_ne (by omega), e, fr_eq]
      · rw [o2.1 156 b (by omega)]; exact h4 b (by omega))
    exact ⟨S3, f3, e3, c3, of_trans (of_mono (fun a b z => by omega) o2) o3⟩
theorem js_ps : ∀ (sc : List (Int64 × Nat)) (S : wd_S), ps_ps sc → sc.length ≤ 16 → mq_n f sc S → (∀ b, b < sc.length → S.1 156 b = Int32.ofNat b) → js_s f sc S := by
  intro sc
  induction sc with
  | nil => intro S _ _ _ _; trivial
  | cons q r ih =>
    intro S h1 h2 h3 h4
    have h2 : r.length + 1 ≤ 16 := h2
    obtain ⟨a1, a2⟩ := h1
    obtain ⟨b1, b2⟩ := h3
    refine ⟨?_, by omega, ?_, ih S a2 (by omega) b2 (fun b hb => h4 b (Nat.lt_succ_of_lt hb))⟩
    · rw [a1]; exact h4 r.length (Nat.lt_succ_self _)
    · rw [a1]; exact b1
/-- the judge's loop has come to its end -/
theorem jf_end {F : Nat} (h : S.1 135 35 = 0 ∨ ¬S.1 135 9 = 0) : fn_Mo_judge_62 (F + 1) S = some S := by
  rw [fn_Mo_judge_62]
  unfold fn_Mo_judge_171
  by_cases c : (0 : Int32) < S.1 135 35
  · rw [if_pos c]
    rcases h with h | h
    · rw [h] at c; exact absurd c (by decide)
    · rw [if_neg h]
  · rw [if_neg c]
theorem mo_judge {q : ps_F} (hB : B ≤ 1) (h9 : S.1 135 9 = 0) (h31 : S.1 135 31 = Int32.ofNat f) (hf : f < 96) (h25 : S.1 135 25 = Int32.ofNat B) (h26 : S.1 135 26 = Int32.ofNat fs.length) (h48 : fs.length ≤ 48) (hfs : ∀ j, (hj : j < fs.length) → S.2.1 137 (48 * B + j) = fs[j].1 ∧ S.1 138 (48 * B + j) = Int32.ofNat fs[j].2.1 ∧ fs[j].2.1 ≤ 4) (hl : l ≤ 3002) (hc : lo + q.2.2.2.2.1 ≤ 3002) (hM : ∀ o, o ∈ q.2.2.2.1 → o.1 < 2147483648) (hF : mn_F T n B f q lo l S) : ∃ S', fn_Mo_judge S = some S' ∧ of_f (jW 0 0 lo (lo + q.2.2.2.2.1)) S S' ∧ match ps_first (tk_V T n) fs q.2.2.2.1 with
    | some e => mt_e T n e S'
    | none => S'.1 135 10 = S.1 135 10 ∧ S'.1 135 9 = 0 ∧ ∃ y, S'.1 140 f = Int32.ofNat y ∧ mj_t S' (48 * B) lo (lo + q.2.2.2.2.1) (1501 * B) l 96 y (tr_g (ld_G (tk_V T n) fs) q.2.2.1) := by
  obtain ⟨a1, a2, a3, a4, ⟨y, a5, a6⟩, sc, b1, b2, b3, b4, b5⟩ := hF
  unfold fn_Mo_judge
  simp only [wd_b]
  generalize hS1 : wd_i S 135 40 0 = S1
  have o1 : of_f (fun a b => a = 135 ∧ b = 40) S S1 := by rw [← hS1]; exact of_i ⟨rfl, rfl⟩ of_refl
  obtain ⟨S2, f2, e2, c2, o2⟩ := jf_7 (f := f) (p := sc.length) hf b3 sc.length 0 (wd_F - sc.length) S1 (by omega) (by rw [o1.1 138 f (by omega), b2]; exact a2) (by rw [o1.1 135 31 (by omega)]; exact h31) (by rw [← hS1, fr_eq]; rfl) (fun b hb => absurd hb (Nat.not_lt_zero _))
  rw [show wd_F - sc.length + sc.length = wd_F by rw [show wd_F = 1000000 from rfl]; omega] at f2
  have f2 : fn_Mo_judge_7 wd_F 0 S1 = _ := f2
  have o12 : of_f (fun a b => (a = 135 ∧ b = 40) ∨ a = 156) S S2 := of_trans (of_mono (fun a b z => Or.inl z) o1) o2
  obtain ⟨F, hF⟩ : ∃ F, wd_F - sc.length = F + 1 := ⟨wd_F - sc.length - 1, by rw [show wd_F = 1000000 from rfl]; omega⟩
  have r31 : S2.1 135 31 = Int32.ofNat f := by rw [o12.1 135 31 (by omega)]; exact h31
  have r138 : S2.1 138 f = Int32.ofNat sc.length := by rw [o12.1 138 f (by omega), b2]; exact a2
  rw [f2, hF, fn_Mo_judge_7, r31, if_neg (ms_in hf (by decide)), im_t (show f < 2147483648 by omega), r138, if_neg (fun z => by have := (im_lt (by omega) (by omega)).mp z; omega)]
  simp only [wd_b]
  have e31 : (wd_i S2 135 35 0).1 135 31 = Int32.ofNat f := by rw [fr_ne (by omega)]; exact r31
  have e140 : (wd_i S2 135 35 0).1 140 f = Int32.ofNat y := by rw [fr_ne (by omega), o12.1 140 f (by omega)]; exact a5
  rw [e31, if_neg (ms_in hf (by decide)), im_t (show f < 2147483648 by omega), e140, ms_push (t := 0) (by rw [fr_eq]; rfl) (by decide), wd_d_s]
  generalize hS3 : ms_p 0 1 (Int32.ofNat y) (wd_i S2 135 35 0) = S3
  have o23 : of_f (fun a b => (a = 135 ∧ b = 35) ∨ (a = 152 ∧ b = 0) ∨ (a = 153 ∧ b = 0)) S2 S3 := by
    rw [← hS3]
    exact of_trans (of_i (by omega) of_refl) (of_mono (fun a b z => by unfold mw_p at z; omega) ms_o)
  have o3 : of_f (fun a b => (a = 135 ∧ (b = 35 ∨ b = 40)) ∨ (a = 152 ∧ 0 ≤ b) ∨ (a = 153 ∧ 0 ≤ b) ∨ (a = 156 ∧ 0 ≤ b)) S S3 := of_trans (of_mono (fun a b z => by omega) o12) (of_mono (fun a b z => by omega) o23)
  have g3 : jh_g f B fs sc (0 + 1) S3 := by
    refine ⟨by rw [o3.1 135 9 (by omega)]; exact h9, by rw [o3.1 135 31 (by omega)]; exact h31, hf, by rw [← hS3]; exact ms_35, by rw [o23.1 135 40 (by omega)]; exact e2, by omega, js_ps sc S3 b1 (by omega) (mq_n_o sc (fun b hb => o3.2.1 142 _ (by omega)) b4) (fun b hb => by rw [o23.1 156 b (by omega)]; exact c2 b hb), hB, by rw [o3.1 135 25 (by omega)]; exact h25, by rw [o3.1 135 26 (by omega)]; exact h26, h48, fun j hj => ?_⟩
    rw [o3.1 138 _ (by omega), o3.2.1 137 _ (by omega)]
    exact hfs j hj
  obtain ⟨g, S4, v1, v2, v3, v4⟩ := jt_all (T := T) (n := n) (f := f) (B := B) (al := 1501 * B) (ah := l) (fs := fs) hl 96 lo (lo + q.2.2.2.2.1) y q.2.2.1 q.2.2.2.1 sc 0 S3 (mr_u_m (Nat.le_refl _) (Nat.le_refl _) (Nat.le_refl _) (Nat.le_refl _) 96 _ _ _ _ _ _ (Nat.le_refl _) (Nat.le_refl _) (jr_p (k := 0) (t := 0) o3) a6) b5 hM g3 (by rw [← hS3, ms_152, if_pos rfl]) (by rw [← hS3, ms_153, if_pos rfl]) (by omega) (by omega)
  obtain ⟨F', hF'⟩ : ∃ F', wd_F = F' + 1 + g := ⟨wd_F - g - 1, by rw [show wd_F = 1000000 from rfl]; omega⟩
  rw [hF', v1]
  have O4 : of_f (jW 0 0 lo (lo + q.2.2.2.2.1)) S S4 := of_trans (of_mono (fun a b z => by unfold jW; omega) o3) (of_mono (jW_le (Nat.le_refl _) (Nat.zero_le _) (Nat.le_refl _) (Nat.le_refl _)) v3)
  cases hq : ps_first (tk_V T n) fs q.2.2.2.1 with
  | some e =>
    rw [hq] at v4
    exact ⟨S4, jf_end (Or.inr (by rw [v4.2.1]; exact v4.1)), O4, v4⟩
  | none =>
    rw [hq] at v4
    obtain ⟨⟨v4, v5⟩, v6⟩ := v4
    exact ⟨S4, jf_end (Or.inl v4.2.2.2.1), O4, v6.trans (o3.1 135 10 (by omega)), v4.1, y, by rw [O4.1 140 f (by unfold jW; omega)]; exact a5, v5⟩
end Jf
