/-! The reference: sums, products, numbers, names alone. -/
section Ma
variable {T : Nat → Int32} {H n f r bt bk d β m t k u c l w i : Nat} {S S' S1 : wd_S} {X Y : Int32} {e : ps_E} {p : Nat → Nat → Except ps_E ps_O} {h : Int32 → Bool}
theorem ma_tok {kk : Int32} (h : mt_g T n i S) (hk : ¬lx_cv kk = 0) : S.1 135 4 = lx_cv kk ↔ tk_K T n i = kk := by
  rw [h.2.2.2.2.2.2.1]
  exact ⟨fun z => lx_ij hk z, fun z => by rw [z]⟩
theorem ma_Y9 : mp_Y T n 10 9 (fun k => k == 8) := by
  refine ⟨by decide, by decide, by decide, fun k hk => ?_, fun i v S hm => ?_⟩
  · rw [beq_iff_eq] at hk
    exact Or.inr (Or.inr (Or.inl hk))
  · have t8 := ma_tok (kk := 8) hm (by decide)
    have t8 : S.1 135 4 = 21 ↔ tk_K T n i = 8 := t8
    unfold fn_Mo_onSum fn_Mo_onSum_248
    rw [if_neg (by decide), if_neg (by decide), if_neg (by decide), if_neg (by decide), if_neg (by decide), if_neg (by decide), if_neg (by decide)]
    by_cases h : tk_K T n i = 8
    · rw [if_pos (t8.mpr h), if_pos (by rw [h]; decide), h]
      unfold fn_Mo_onSum_205 fn_Mo_onSum_240 fn_Mo_onSum_248
      rw [t8.mpr h]
      simp only [show ¬(9 : Int32) = 11 by decide, show ¬(9 : Int32) = 7 by decide, if_false]
      rfl
    · rw [if_neg (fun z => h (t8.mp z)), if_neg (by rw [beq_iff_eq]; exact h)]
theorem ma_Y7 : mp_Y T n 8 7 (fun k => k == 6 || k == 7) := by
  refine ⟨by decide, by decide, by decide, fun k hk => ?_, fun i v S hm => ?_⟩
  · rw [Bool.or_eq_true, beq_iff_eq, beq_iff_eq] at hk
    rcases hk with z | z
    · exact Or.inl z
    · exact Or.inr (Or.inl z)
  · have t6 : S.1 135 4 = 19 ↔ tk_K T n i = 6 := ma_tok (kk := 6) hm (by decide)
    have t7 : S.1 135 4 = 20 ↔ tk_K T n i = 7 := ma_tok (kk := 7) hm (by decide)
    unfold fn_Mo_onSum fn_Mo_onSum_248
    rw [if_neg (by decide), if_neg (by decide), if_neg (by decide), if_neg (by decide), if_neg (by decide), if_neg (by decide), if_pos rfl]
    have hgo : ∀ kk : Int32, tk_K T n i = kk → fn_Mo_onSum_205 7 S = wd_d (fn_Mo_push 12 (lx_cv kk) S) fun S9 => wd_d (fn_Mo_push 8 0 S9) fun S14 => wd_d (fn_Mo_pass S14) fun S17 => some S17 := fun kk hk => by
      unfold fn_Mo_onSum_205 fn_Mo_onSum_240 fn_Mo_onSum_248
      rw [hm.2.2.2.2.2.2.1, hk]
      simp only [show ¬(7 : Int32) = 11 by decide, if_false, if_true]
    by_cases h : tk_K T n i = 6
    · rw [if_pos (t6.mpr h), if_pos (by rw [h]; decide), hgo 6 h, h]
    · rw [if_neg (fun z => h (t6.mp z))]
      by_cases h2 : tk_K T n i = 7
      · rw [if_pos (t7.mpr h2), if_pos (by rw [h2]; decide), hgo 7 h2, h2]
      · rw [if_neg (fun z => h2 (t7.mp z)), if_neg (by rw [Bool.or_eq_true, beq_iff_eq, beq_iff_eq]; rintro (q | q); exact h q; exact h2 q)]
theorem ma_Y11 : mp_Y T n 6 11 (fun k => k == 9 || k == 10) := by
  refine ⟨by decide, by decide, by decide, fun k hk => ?_, fun i v S hm => ?_⟩
  · rw [Bool.or_eq_true, beq_iff_eq, beq_iff_eq] at hk
    rcases hk with z | z
    · exact Or.inr (Or.inr (Or.inr (Or.inl z)))
    · exact Or.inr (Or.inr (Or.inr (Or.inr z)))
  · have t6 : S.1 135 4 = 22 ↔ tk_K T n i = 9 := ma_tok (kk := 9) hm (by decide)
    have t7 : S.1 135 4 = 12 ↔ tk_K T n i = 10 := ma_tok (kk := 10) hm (by decide)
    unfold fn_Mo_onSum fn_Mo_onSum_248
    rw [if_neg (by decide), if_neg (by decide), if_neg (by decide), if_neg (by decide), if_neg (by decide), if_pos rfl]
    have hgo : ∀ kk : Int32, tk_K T n i = kk → fn_Mo_onSum_205 11 S = wd_d (fn_Mo_push 12 (lx_cv kk) S) fun S9 => wd_d (fn_Mo_push 6 0 S9) fun S14 => wd_d (fn_Mo_pass S14) fun S17 => some S17 := fun kk hk => by
      unfold fn_Mo_onSum_205 fn_Mo_onSum_240 fn_Mo_onSum_248
      rw [hm.2.2.2.2.2.2.1, hk]
      simp only [if_true]
    by_cases h : tk_K T n i = 9
    · rw [if_pos (t6.mpr h), if_pos (by rw [h]; decide), hgo 9 h, h]
    · rw [if_neg (fun z => h (t6.mp z))]
      by_cases h2 : tk_K T n i = 10
      · rw [if_pos (t7.mpr h2), if_pos (by rw [h2]; decide), hgo 10 h2, h2]
      · rw [if_neg (fun z => h2 (t7.mp z)), if_neg (by rw [Bool.or_eq_true, beq_iff_eq, beq_iff_eq]; rintro (q | q); exact h q; exact h2 q)]
/-- a task that lays two others -/
theorem ma_lay {Z : Int32} (hZ : ¬Z = 1 ∧ ¬Z = 4 ∧ ¬12 < Z) (hc : ∀ v S, fn_Mo_onSum Z v S = wd_d (fn_Mo_push Y 0 S) fun S1 => wd_d (fn_Mo_push X 0 S1) fun S2 => some S2) (h8 : n ≤ 8000) (hY : mp_Y T n X Y h) (hX : ¬X = 12) (hp : mp_C T n f H r bt bk d β X p) (hgd : ∀ i m q, p i m = .ok q → ps_good (tk_K T n) d i m q) (hβ : 2 ≤ β) (hbt : bt ≤ 20) : mp_C T n f H r (bt + 1) (bk + 1) (d + 1) (β - 2) Z (ps_two (tk_K T n) h p) := by
  intro i m t k u c l w S hm hs b1 b2 b3 b4 b5 b6
  have hpop := mh_pop hm
  obtain ⟨S3, f3, m3, x3, o3⟩ := mh_push (xs := []) (x := Y) (y := 0) hpop (by show t + 0 < 4000; omega) (fun j hj => absurd hj (Nat.not_lt_zero _))
  obtain ⟨S4, f4, m4, x4, o4⟩ := mh_push (x := X) (y := 0) m3 (by show t + 1 < 4000; omega) x3
  have G1 : mp_go 1 S S4 := mp_g1 (o := fn_Mo_onSum Z (S.1 153 t) (wd_i S 135 35 (Int32.ofNat t))) (fun F => by rw [mp_pop hm (by omega) F, hs, if_neg hZ.1, if_neg hZ.2.1, if_neg hZ.2.2]) (by rw [hc, f3, wd_d_s, f4, wd_d_s])
  obtain ⟨g, S', G2, O2, R2⟩ := mp_two h8 hY hX hp hgd hβ m4 x4 (by omega) (by omega) b3 b4 b5 b6
  have oP : of_f mw_35 S (wd_i S 135 35 (Int32.ofNat t)) := of_i ⟨rfl, rfl⟩ of_refl
  have O4 : of_f (mp_W f m t k u c l H) S S4 := mp_of_f2 (fun a b z => mp_le (Nat.le_refl _) (Nat.le_succ _) (Nat.le_refl _) (Nat.le_refl _) (Nat.le_refl _) (Nat.le_refl _) a b (mw_p_W a b z)) (mp_of_f2 mw_p_W (of_mono mw_35_W oP) o3) o4
  refine ⟨1 + g, S', mp_got G1 G2, of_trans O4 O2, ?_⟩
  cases eq : ps_two (tk_K T n) h p i m with
  | error e =>
    rw [eq] at R2
    exact ⟨R2.1, by have := R2.2; omega⟩
  | ok q =>
    rw [eq] at R2
    exact ⟨by have := R2.1; omega, R2.2⟩
theorem ma_sum (h8 : n ≤ 8000) (hp : mp_C T n f H r bt bk d β 8 p) (hgd : ∀ i m q, p i m = .ok q → ps_good (tk_K T n) d i m q) (hβ : 2 ≤ β) (hbt : bt ≤ 20) : mp_C T n f H r (bt + 1) (bk + 1) (d + 1) (β - 2) 6 (ps_two (tk_K T n) (fun k => k == 6 || k == 7) p) := ma_lay (Y := 7) (by decide) (fun v S => by
    unfold fn_Mo_onSum fn_Mo_onSum_248
    rw [if_neg (by decide), if_pos rfl]) h8 ma_Y7 (by decide) hp hgd hβ hbt
theorem ma_product (h8 : n ≤ 8000) (hp : mp_C T n f H r bt bk d β 10 p) (hgd : ∀ i m q, p i m = .ok q → ps_good (tk_K T n) d i m q) (hβ : 2 ≤ β) (hbt : bt ≤ 20) : mp_C T n f H r (bt + 1) (bk + 1) (d + 1) (β - 2) 8 (ps_two (tk_K T n) (fun k => k == 8) p) := ma_lay (Y := 9) (by decide) (fun v S => by
    unfold fn_Mo_onSum fn_Mo_onSum_248
    rw [if_neg (by decide), if_neg (by decide), if_pos rfl]) h8 ma_Y9 (by decide) hp hgd hβ hbt
/-- a node that is kept at once -/
theorem ma_num (h8 : n ≤ 8000) {s pl : Int32} (hs : s = 1 ∨ s = -1) (hm : mh_g T n f m t k u c l w i S) (hk : k < 1600) (hc : c < 3003) (hcH : c < H) : ∃ S', fn_Mo_onAtom_46 pl (if s = 1 then 0 else 1) S = some S' ∧ of_f (mp_W f m t k u c l H) S S' ∧ match ps_num (tk_K T n) (tk_V T n) s i m with
    | .error e => mt_e T n e S'
    | .ok q => mh_g T n f q.2.2.2.2 t (k + 1) u (c + q.2.2.1) l w q.2.2.2.1 S' ∧ ∃ y, S'.1 155 k = Int32.ofNat y ∧ mr_t T n f S' c (c + q.2.2.1) l l m q.2.2.2.2 1 y q.1 := by
  unfold fn_Mo_onAtom_46 ps_num
  rw [if_pos hm.1.2.2.1]
  have t1 : S.1 135 4 = 11 ↔ tk_K T n i = 1 := ma_tok (kk := 1) hm.1 (by decide)
  by_cases h1 : tk_K T n i = 1
  · rw [if_pos (t1.mpr h1)]
    unfold fn_Mo_onAtom_71
    obtain ⟨S2, f2, m2, a2, b2, o2⟩ := mh_node (x := 5) (y := pl) hm hc
    rw [if_pos hm.1.2.2.1, f2, wd_c_s]
    have ea : S2.1 135 8 = (tk_V T n i).toInt32 := by
      rw [o2.1 135 8 (by unfold mw_n; omega)]
      exact hm.1.2.2.2.2.2.2.2.2.2.2.2 h1
    have hgo : ∀ v : Int32, v = s * (tk_V T n i).toInt32 → ∃ S', fn_Mo_onAtom_106 (Int32.ofNat c) (Int32.ofNat c) v S2 = some S' ∧ of_f (mp_W f m t k u c l H) S S' ∧ match ps_b (ps_take (tk_K T n) 1 i) (fun i1 => (.ok (tr_l 1 (s * (tk_V T n i).toInt32) 0, [], 1, i1, m) : Except ps_E ps_O)) with
        | .error e => mt_e T n e S'
        | .ok q => mh_g T n f q.2.2.2.2 t (k + 1) u (c + q.2.2.1) l w q.2.2.2.1 S' ∧ ∃ y, S'.1 155 k = Int32.ofNat y ∧ mr_t T n f S' c (c + q.2.2.1) l l m q.2.2.2.2 1 y q.1 := by
      intro v hv
      unfold fn_Mo_onAtom_106 fn_Mo_onAtom_116 fn_Mo_onAtom_283
      simp only [wd_b]
      rw [if_neg (ms_in (show c < 15010 by omega) (by decide)), im_t (by omega)]
      generalize hS3 : wd_i S2 144 c v = S3
      have o3 : of_f (fun a b => a = 144 ∧ b = c) S2 S3 := by rw [← hS3]; exact of_i ⟨rfl, rfl⟩ of_refl
      have m3 : mh_g T n f m t k u (c + 1) l w i S3 := mh_w o3 (fun a b z => by omega) m2
      obtain ⟨S4, f4, m4, a4, o4⟩ := mh_keep (x := Int32.ofNat c) m3 hk
      obtain ⟨S5, f5, o5, r5⟩ := mt_pass h8 m4.1 (by rw [h1]; decide)
      rw [f4, wd_d_s, f5, wd_d_s]
      rw [h1] at r5
      have O5 : of_f (mp_W f m t k u c l H) S S5 := mp_of_f2 nx_W_W (mp_of_f2 mw_k_W (mp_of_f2 (fun a b z => Or.inr (Or.inr (Or.inr (Or.inl ⟨by omega, by omega, by omega⟩)))) (of_mono (fun a b z => by
        rcases z with z | z | z
        · exact Or.inr (Or.inr (Or.inr (Or.inl ⟨by omega, by omega, by omega⟩)))
        · exact Or.inr (Or.inr (Or.inr (Or.inl ⟨by omega, by omega, by omega⟩)))
        · exact Or.inl ⟨z.1, by omega⟩) o2) o3) o4) o5
      refine ⟨S5, rfl, O5, ?_⟩
      cases q : ps_take (tk_K T n) 1 i with
      | error e => rw [q] at r5; exact r5
      | ok j =>
        rw [q] at r5
        refine ⟨mh_nx o5 m4 r5, c, ?_, ?_⟩
        · rw [o5.1 155 k (by unfold nx_W; omega)]; exact a4
        · refine ⟨Nat.le_refl _, by show c < c + 1; omega, Or.inl ⟨rfl, rfl, ?_, ?_⟩⟩
          · rw [o5.1 143 c (by unfold nx_W; omega), o4.1 143 c (by unfold mw_k; omega), o3.1 143 c (by omega)]; exact a2
          · rw [o5.1 144 c (by unfold nx_W; omega), o4.1 144 c (by unfold mw_k; omega), ← hS3, fr_eq]; exact hv
    rcases hs with rfl | rfl
    · rw [if_pos rfl, if_pos rfl]
      exact hgo _ (by rw [ea, Int32.one_mul])
    · rw [if_neg (show ¬(-1 : Int32) = 1 by decide), if_neg (by decide)]
      exact hgo _ (by rw [ea, Int32.neg_eq_neg_one_mul])
  · rw [if_neg (fun z => h1 (t1.mp z))]
    obtain ⟨S2, e2, o2, r2⟩ := mt_stop (x := 2) (by decide) hm.1
    unfold fn_Mo_onAtom_71 fn_Mo_onAtom_116 fn_Mo_onAtom_283
    rw [e2, wd_d_s, if_neg (by rw [r2.2.1]; exact (show ¬(2 : Int32) = 0 by decide))]
    refine ⟨S2, rfl, of_mono nx_W_W o2, ?_⟩
    unfold ps_take
    rw [if_neg h1]
    exact r2
end Ma
