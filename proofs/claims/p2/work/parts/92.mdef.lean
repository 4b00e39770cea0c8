/-! The reference: a function's params and its E. -/
section Mdd
variable {T : Nat → Int32} {H n f p i c l : Nat} {S S' : wd_S} {sc : List (Int64 × Nat)} {e : ps_E}
theorem md_301b {x : Int32} (h9 : ¬S.1 135 9 = 0) (h31 : S.1 135 31 = Int32.ofNat f) (hf : f < 96) : ∃ S', fn_Mo_definition_301 x S = some S' ∧ of_f (fun a b => (a = 140 ∨ a = 141) ∧ b = f) S S' := by
  have hin := ms_in hf (show 96 < 2147483648 by decide)
  unfold fn_Mo_definition_301
  simp only [wd_b]
  rw [if_neg (by decide), h31, if_neg hin, im_t (by omega)]
  have e31 : ∀ v, (wd_i S 140 f v).1 135 31 = Int32.ofNat f := fun v => by rw [fr_ne (by omega)]; exact h31
  rw [e31, if_neg hin, im_t (by omega), mt_want_e (by rw [fr_ne (by omega), fr_ne (by omega)]; exact h9), wd_d_s]
  exact ⟨_, rfl, of_i (by omega) (of_i (by omega) of_refl)⟩
theorem md_210b {F : Nat} (h9 : ¬S.1 135 9 = 0) (h31 : S.1 135 31 = Int32.ofNat f) (hf : f < 96) : ∃ S', fn_Mo_definition_210 (F + 1) 0 S = some S' ∧ of_f (fun a b => (a = 140 ∨ a = 141) ∧ b = f) S S' := by
  rw [fn_Mo_definition_210, if_pos rfl, mt_want_e h9, wd_d_s, mt_want_e h9, wd_d_s, if_neg h9]
  exact md_301b h9 h31 hf
def md_W (f c l H a b : Nat) : Prop := (a = 135 ∧ ((3 ≤ b ∧ b ≤ 10) ∨ b = 27 ∨ b = 28 ∨ b = 30 ∨ b = 35 ∨ b = 37 ∨ b = 38)) ∨ ((a = 138 ∨ a = 139 ∨ a = 140 ∨ a = 141) ∧ b = f) ∨ (a = 142 ∧ 16 * f ≤ b ∧ b < 16 * f + 16) ∨ (143 ≤ a ∧ a ≤ 148 ∧ c ≤ b ∧ b < H) ∨ (a = 149 ∧ l ≤ b ∧ b < H) ∨ a = 151 ∨ a = 152 ∨ a = 153 ∨ a = 155
theorem md_W_nx : ∀ a b, nx_W a b → md_W f c l H a b := fun a b h => Or.inl ⟨h.1, Or.inl h.2⟩
theorem md_W_mp {m t k u : Nat} : ∀ a b, mp_W f m t k u c l H a b → md_W f c l H a b := by
  rintro a b (h | h | h | h | h | h | h | h | h)
  · exact Or.inl h
  · exact Or.inr (Or.inl ⟨by omega, h.2⟩)
  · exact Or.inr (Or.inr (Or.inl ⟨h.1, by omega, h.2.2⟩))
  · exact Or.inr (Or.inr (Or.inr (Or.inl h)))
  · exact Or.inr (Or.inr (Or.inr (Or.inr (Or.inl h))))
  · exact Or.inr (Or.inr (Or.inr (Or.inr (Or.inr (Or.inl h.1)))))
  · exact Or.inr (Or.inr (Or.inr (Or.inr (Or.inr (Or.inr (Or.inl h.1))))))
  · exact Or.inr (Or.inr (Or.inr (Or.inr (Or.inr (Or.inr (Or.inr (Or.inl h.1)))))))
  · exact Or.inr (Or.inr (Or.inr (Or.inr (Or.inr (Or.inr (Or.inr (Or.inr h.1)))))))
theorem md_W_mq : ∀ a b, mq_W f a b → md_W f c l H a b := by
  rintro a b (h | h | h | h)
  · exact md_W_nx a b h
  · exact Or.inr (Or.inl ⟨by omega, h.2⟩)
  · exact Or.inr (Or.inl ⟨by omega, h.2⟩)
  · exact Or.inr (Or.inr (Or.inl h))
theorem md_W_0 : ∀ a b, (a = 140 ∨ a = 141) ∧ b = f → md_W f c l H a b := fun a b h => Or.inr (Or.inl ⟨by omega, h.2⟩)
theorem md_run (g : Nat) (hg : g + 1 ≤ 1000000) (hgo : mp_go g S S') (hend : ¬S'.1 135 9 = 0 ∨ S'.1 135 35 = Int32.ofNat 0) : fn_Mo_parse_21 wd_F S = some S' := by
  rw [show wd_F = (999999 - g + 1) + g by rw [show wd_F = 1000000 from rfl]; omega, hgo, fn_Mo_parse_21]
  unfold fn_Mo_parse_114
  rcases hend with h | h
  · rw [if_neg h, ite_self]
  · rw [h, if_neg (by decide)]
theorem md_tail (h8 : n ≤ 8000) (hm : mq_h T n f sc.length i S) (hp : sc.length ≤ 4) {o F : Nat} (h27 : S.1 135 27 = Int32.ofNat c) (h28 : S.1 135 28 = Int32.ofNat l) (h30 : S.1 135 30 = Int32.ofNat 0) (hc : c + 1501 ≤ H + i) (hl : l + 1501 ≤ H + i) (hH : H ≤ 3002) : ∃ S', fn_Mo_definition_210 (F + 1) 0 S = some S' ∧ of_f (md_W f c l H) S S' ∧ (∀ b, b < sc.length → S'.2.1 142 (16 * f + b) = S.2.1 142 (16 * f + b)) ∧ match ps_body (tk_K T n) (tk_V T n) o (sc, i) with
    | .error e => mt_e T n e S'
    | .ok q => mt_g T n q.2 S' ∧ S'.1 138 f = Int32.ofNat sc.length ∧ S'.1 139 f = Int32.ofNat q.1.2.2.2.2.2 ∧ S'.1 141 f = Int32.ofNat q.1.2.2.2.2.1 ∧ S'.1 135 27 = Int32.ofNat (c + q.1.2.2.2.2.1) ∧ S'.1 135 30 = Int32.ofNat 0 ∧ ∃ l' y, l ≤ l' ∧ l' + i ≤ l + q.2 ∧ S'.1 135 28 = Int32.ofNat l' ∧ S'.1 140 f = Int32.ofNat y ∧ mr_t T n f S' c (c + q.1.2.2.2.2.1) l l' sc.length 16 96 y q.1.2.2.1 := by
  have hf := hm.2.2.1
  have hin := ms_in hf (show 96 < 2147483648 by decide)
  rw [fn_Mo_definition_210, if_pos rfl]
  unfold ps_body
  have hbad : ∀ (S1 : wd_S) (e : ps_E) (x : Int32), of_f (md_W f c l H) S S1 → (∀ b, b < sc.length → S1.2.1 142 (16 * f + b) = S.2.1 142 (16 * f + b)) → mt_e T n e S1 → S1.1 135 31 = Int32.ofNat f → ∃ S', fn_Mo_definition_301 x S1 = some S' ∧ of_f (md_W f c l H) S S' ∧ (∀ b, b < sc.length → S'.2.1 142 (16 * f + b) = S.2.1 142 (16 * f + b)) ∧ mt_e T n e S' := by
    intro S1 e x o1 k1 r1 h31
    have h9 : ¬S1.1 135 9 = 0 := by rw [r1.2.1]; exact r1.1
    obtain ⟨S2, e2, o2⟩ := md_301b (x := x) h9 h31 hf
    exact ⟨S2, e2, of_trans o1 (of_mono md_W_0 o2), fun b hb => by rw [o2.2.1 142 _ (by omega)]; exact k1 b hb, mt_e_o r1 (o2.1 135 9 (by omega)) (o2.1 135 10 (by omega))⟩
  obtain ⟨S1, f1, o1, r1⟩ := mt_want (k := 16) h8 hm.1 (by decide) (by decide)
  have f1 : fn_Mo_want 15 S = some S1 := f1
  rw [f1, wd_d_s]
  show ∃ S', _ ∧ _ ∧ _ ∧ (match ps_b (ps_take (tk_K T n) 16 i) (fun i4 => ps_b (ps_take (tk_K T n) 14 i4) fun i5 => ps_b (ps_ex (tk_K T n) (tk_V T n) 24 sc i5 sc.length) fun q => ps_b (ps_take (tk_K T n) 18 q.2.2.2.1) fun i6 => (.ok ((tk_V T n o, sc.length, q.1, q.2.1, q.2.2.1, q.2.2.2.2), i6) : Except ps_E (ps_F × Nat))) with
    | .error e => mt_e T n e S'
    | .ok q => _)
  cases q1 : ps_take (tk_K T n) 16 i with
  | error e =>
    rw [q1] at r1
    have h9 : ¬S1.1 135 9 = 0 := by rw [r1.2.1]; exact r1.1
    rw [mt_want_e h9, wd_d_s, if_neg h9]
    exact hbad S1 e _ (of_mono md_W_nx o1) (fun b _ => o1.2.1 142 _ (by unfold nx_W; omega)) r1 (by rw [o1.1 135 31 (by unfold nx_W; omega)]; exact hm.2.1)
  | ok i4 =>
    rw [q1] at r1
    obtain ⟨-, t2, rfl, -⟩ := ps_take_ok q1
    have r1 : mt_g T n (i + 1) S1 := r1
    obtain ⟨S2, f2, o2, r2⟩ := mt_want (k := 14) h8 r1 (by decide) (by decide)
    have f2 : fn_Mo_want 13 S1 = some S2 := f2
    rw [f2, wd_d_s]
    have o12 := of_trans o1 o2
    show ∃ S', _ ∧ _ ∧ _ ∧ (match ps_b (ps_take (tk_K T n) 14 (i + 1)) (fun i5 => ps_b (ps_ex (tk_K T n) (tk_V T n) 24 sc i5 sc.length) fun q => ps_b (ps_take (tk_K T n) 18 q.2.2.2.1) fun i6 => (.ok ((tk_V T n o, sc.length, q.1, q.2.1, q.2.2.1, q.2.2.2.2), i6) : Except ps_E (ps_F × Nat))) with
      | .error e => mt_e T n e S'
      | .ok q => _)
    cases q2 : ps_take (tk_K T n) 14 (i + 1) with
    | error e =>
      rw [q2] at r2
      have h9 : ¬S2.1 135 9 = 0 := by rw [r2.2.1]; exact r2.1
      rw [if_neg h9]
      exact hbad S2 e _ (of_mono md_W_nx o12) (fun b _ => o12.2.1 142 _ (by unfold nx_W; omega)) r2 (by rw [o12.1 135 31 (by unfold nx_W; omega)]; exact hm.2.1)
    | ok i5 =>
      rw [q2] at r2
      obtain ⟨-, t5, rfl, -⟩ := ps_take_ok q2
      have r2 : mt_g T n (i + 1 + 1) S2 := r2
      have e27 : S2.1 135 27 = Int32.ofNat c := by rw [o12.1 135 27 (by unfold nx_W; omega)]; exact h27
      rw [if_pos r2.2.2.1, e27]
      unfold fn_Mo_parse
      simp only [wd_b]
      generalize hS3 : wd_i (wd_i (wd_i S2 135 35 0) 135 37 0) 135 38 0 = S3
      have o3 : of_f (fun a b => a = 135 ∧ (b = 35 ∨ b = 37 ∨ b = 38)) S2 S3 := by
        rw [← hS3]
        exact of_i (by omega) (of_i (by omega) (of_i (by omega) of_refl))
      have hne : ∀ b, b ≠ 35 → b ≠ 37 → b ≠ 38 → S3.1 135 b = S2.1 135 b := fun b h1 h2 h3 => o3.1 _ _ (by omega)
      have m3 : mh_g T n f sc.length (0 + ([] : List (Int32 × Int32)).length) 0 0 c l 0 (i + 1 + 1) S3 := by
        refine ⟨mt_g_o r2 (fun a ha => by rw [ha]; exact funext (fun b => o3.1 _ _ (by omega))) (fun b hb => hne b (by omega) (by omega) (by omega)) (o3.2.1 _ _ (by omega)), ?_, hf, ?_, by omega, ?_, ?_, ?_, ?_, ?_, ?_⟩
        · rw [hne 31 (by decide) (by decide) (by decide), o12.1 135 31 (by unfold nx_W; omega)]; exact hm.2.1
        · rw [o3.1 139 f (by omega), o12.1 139 f (by unfold nx_W; omega)]; exact hm.2.2.2.2
        · rw [← hS3, fr_ne (by omega), fr_ne (by omega), fr_eq]; rfl
        · rw [← hS3, fr_ne (by omega), fr_eq]; rfl
        · rw [hne 30 (by decide) (by decide) (by decide), o12.1 135 30 (by unfold nx_W; omega)]; exact h30
        · rw [hne 27 (by decide) (by decide) (by decide)]; exact e27
        · rw [hne 28 (by decide) (by decide) (by decide), o12.1 135 28 (by unfold nx_W; omega)]; exact h28
        · rw [← hS3, fr_eq]; rfl
      obtain ⟨S4, f4, m4, x4, o4⟩ := mh_push (xs := []) (x := 4) (y := 0) m3 (by decide) (fun j hj => absurd hj (Nat.not_lt_zero _))
      rw [f4, wd_d_s]
      have v4 : S4.1 152 0 = 4 := (x4 0 (show 0 < 1 by decide)).1
      obtain ⟨g, S5, G5, O5, R5⟩ := mx_ex (f := f) (H := H) h8 24 sc (i + 1 + 1) sc.length 0 0 0 c l 0 S4 m4 v4 (by decide) (by decide) (Nat.zero_le _) (by omega) (by omega) ⟨rfl, hH⟩
      have OO5 : of_f (md_W f c l H) S S5 := of_trans (of_mono md_W_nx o12) (of_trans (of_mono (fun a b z => Or.inl ⟨z.1, by omega⟩) o3) (of_trans (of_mono (fun a b z => md_W_mp a b (mw_p_le (m := 0) (k := 0) (u := 0) (Nat.zero_le 0) a b z)) o4) (of_mono md_W_mp O5)))
      have k5 : ∀ b, b < sc.length → S5.2.1 142 (16 * f + b) = S.2.1 142 (16 * f + b) := fun b hb => by
        rw [O5.2.1 142 _ (mp_W_n (by omega)), o4.2.1 142 _ (by unfold mw_p; omega), o3.2.1 142 _ (by omega), o12.2.1 142 _ (by unfold nx_W; omega)]
      have e31 : S5.1 135 31 = Int32.ofNat f := by
        rw [O5.1 135 31 (mp_W_n (by omega)), o4.1 135 31 (by unfold mw_p; omega), hne 31 (by decide) (by decide) (by decide), o12.1 135 31 (by unfold nx_W; omega)]; exact hm.2.1
      show ∃ S', _ ∧ _ ∧ _ ∧ (match ps_b (ps_ex (tk_K T n) (tk_V T n) 24 sc (i + 1 + 1) sc.length) (fun q => ps_b (ps_take (tk_K T n) 18 q.2.2.2.1) fun i6 => (.ok ((tk_V T n o, sc.length, q.1, q.2.1, q.2.2.1, q.2.2.2.2), i6) : Except ps_E (ps_F × Nat))) with
        | .error e => mt_e T n e S'
        | .ok q => _)
      cases q3 : ps_ex (tk_K T n) (tk_V T n) 24 sc (i + 1 + 1) sc.length with
      | error e =>
        rw [q3] at R5
        obtain ⟨r5, g5⟩ := R5
        rw [md_run g (by omega) G5 (Or.inl (by rw [r5.2.1]; exact r5.1)), wd_d_s]
        exact hbad S5 e _ OO5 k5 r5 e31
      | ok q =>
        rw [q3] at R5
        obtain ⟨g5, l', L1, L2, M5, y, Y5, D5⟩ := R5
        obtain ⟨p1, p2, p3, p4, p5, p6, p7, -⟩ := ps_ex_good _ _ _ _ _ q3
        rw [md_run g (by omega) G5 (Or.inr M5.2.2.2.2.2.1), wd_d_s]
        unfold fn_Mo_definition_301
        simp only [wd_b]
        rw [if_neg (by decide), e31, if_neg hin, im_t (by omega), show (0 : Int32).toNatClampNeg = 0 from rfl, Y5]
        have e31' : (wd_i S5 140 f (Int32.ofNat y)).1 135 31 = Int32.ofNat f := by rw [fr_ne (by omega)]; exact e31
        have e27' : (wd_i S5 140 f (Int32.ofNat y)).1 135 27 = Int32.ofNat (c + q.2.2.1) := by rw [fr_ne (by omega)]; exact M5.2.2.2.2.2.2.2.2.1
        rw [e31', if_neg hin, im_t (by omega), e27', ← Int32.ofNat_sub _ _ (Nat.le_add_right c q.2.2.1), Nat.add_sub_cancel_left]
        generalize hS6 : wd_i (wd_i S5 140 f (Int32.ofNat y)) 141 f (Int32.ofNat q.2.2.1) = S6
        have o6 : of_f (fun a b => (a = 140 ∨ a = 141) ∧ b = f) S5 S6 := by
          rw [← hS6]
          exact of_i (by omega) (of_i (by omega) of_refl)
        have t6 : mt_g T n q.2.2.2.1 S6 := mt_g_o M5.1 (fun a ha => by rw [ha]; exact funext (fun b => o6.1 _ _ (by omega))) (fun b hb => o6.1 _ _ (by omega)) (o6.2.1 _ _ (by omega))
        obtain ⟨S7, f7, o7, r7⟩ := mt_want (k := 18) h8 t6 (by decide) (by decide)
        have f7 : fn_Mo_want 17 S6 = some S7 := f7
        rw [f7, wd_d_s]
        have OO7 : of_f (md_W f c l H) S S7 := of_trans OO5 (of_trans (of_mono md_W_0 o6) (of_mono md_W_nx o7))
        have k7 : ∀ b, b < sc.length → S7.2.1 142 (16 * f + b) = S.2.1 142 (16 * f + b) := fun b hb => by
          rw [o7.2.1 142 _ (by unfold nx_W; omega), o6.2.1 142 _ (by omega)]
          exact k5 b hb
        refine ⟨S7, rfl, OO7, k7, ?_⟩
        show (match ps_b (ps_take (tk_K T n) 18 q.2.2.2.1) (fun i6 => (.ok ((tk_V T n o, sc.length, q.1, q.2.1, q.2.2.1, q.2.2.2.2), i6) : Except ps_E (ps_F × Nat))) with
          | .error e => mt_e T n e S7
          | .ok q => mt_g T n q.2 S7 ∧ S7.1 138 f = Int32.ofNat sc.length ∧ S7.1 139 f = Int32.ofNat q.1.2.2.2.2.2 ∧ S7.1 141 f = Int32.ofNat q.1.2.2.2.2.1 ∧ S7.1 135 27 = Int32.ofNat (c + q.1.2.2.2.2.1) ∧ S7.1 135 30 = Int32.ofNat 0 ∧ ∃ l' y, l ≤ l' ∧ l' + i ≤ l + q.2 ∧ S7.1 135 28 = Int32.ofNat l' ∧ S7.1 140 f = Int32.ofNat y ∧ mr_t T n f S7 c (c + q.1.2.2.2.2.1) l l' sc.length 16 96 y q.1.2.2.1)
        cases q4 : ps_take (tk_K T n) 18 q.2.2.2.1 with
        | error e => rw [q4] at r7; exact r7
        | ok i6 =>
          rw [q4] at r7
          obtain ⟨-, t9, rfl, -⟩ := ps_take_ok q4
          have hk : ∀ b, b = 27 ∨ b = 28 ∨ b = 30 → S7.1 135 b = S5.1 135 b := fun b hb => by rw [o7.1 135 b (by unfold nx_W; omega), o6.1 135 b (by omega)]
          refine ⟨r7, ?_, ?_, ?_, ?_, ?_, l', y, L1, ?_, ?_, ?_, ?_⟩
          · rw [o7.1 138 f (by unfold nx_W; omega), o6.1 138 f (by omega), O5.1 138 f (mp_W_n (by omega)), o4.1 138 f (by unfold mw_p; omega), o3.1 138 f (by omega), o12.1 138 f (by unfold nx_W; omega)]
            exact hm.2.2.2.1
          · rw [o7.1 139 f (by unfold nx_W; omega), o6.1 139 f (by omega)]
            exact M5.2.2.2.1
          · rw [o7.1 141 f (by unfold nx_W; omega), ← hS6, fr_eq]
          · rw [hk 27 (by omega)]; exact M5.2.2.2.2.2.2.2.2.1
          · rw [hk 30 (by omega)]; exact M5.2.2.2.2.2.2.2.1
          · show l' + i ≤ l + (q.2.2.2.1 + 1)
            omega
          · rw [hk 28 (by omega)]; exact M5.2.2.2.2.2.2.2.2.2.1
          · rw [o7.1 140 f (by unfold nx_W; omega), ← hS6, fr_ne (by omega), fr_eq]
          · exact mr_t_m (Nat.le_refl _) (Nat.le_refl _) (Nat.le_refl _) (Nat.le_refl _) (Nat.le_refl _) (p4 (by omega)) (mr_g_t (mr_g_o o6 (fun a x y1 y2 y3 y4 => by omega) (fun x y1 y2 => by omega) (fun x y1 y2 => by omega)) (mr_g_o o7 (fun a x y1 y2 y3 y4 => by unfold nx_W; omega) (fun x y1 y2 => by unfold nx_W; omega) (fun x y1 y2 => by unfold nx_W; omega))) _ _ _ D5
end Mdd
