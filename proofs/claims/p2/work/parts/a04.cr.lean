/-! The class's runner: its state, a round, begin and finish. -/
/-- bodies at b: room for L nodes, for M functions -/
def cb_ok (b L M : Nat) : Prop := b ≤ 80 ∧ tp_t b = (0, 0) ∧ tp_t (b + 1) = (0, 8) ∧ nd_L (b + 1) L ∧ (tp_t (b + 15)).2 = M ∧ L ≤ 1500 ∧ M ≤ 1000
def cg_P (b L D : Nat) (P : List tr_T) (S : wd_S) : Prop := ∀ j, (hj : j < P.length) → ∃ y, S.1 (b + 15) j = Int32.ofNat y ∧ nd_t (b + 1) S 0 L D y P[j]
def cr_h (b lim D s m : Nat) (S : wd_S) : Prop := S.2.2.1 104 5 = b ∧ S.2.2.1 104 6 = b + 1 ∧ S.1 104 7 = Int32.ofNat lim ∧ S.1 104 8 = Int32.ofNat D ∧ S.1 104 9 = Int32.ofNat s ∧ S.1 104 10 = Int32.ofNat m ∧ lim ≤ 20000 ∧ s ≤ lim ∧ m ≤ 160 ∧ D ≤ 160 ∧ D ≤ s
def cw_W (D fr a k : Nat) : Prop := (a = 104 ∧ 8 ≤ k ∧ k ≤ 12) ∨ ((a = 106 ∨ a = 108 ∨ a = 110 ∨ a = 112) ∧ D ≤ k) ∨ (a = 114 ∧ ((16 * fr ≤ k ∧ k < 16 * fr + 16) ∨ 16 * D ≤ k))
def cv_e (fr : Nat) (V : ev_V) (S : wd_S) : Prop := ∀ s v, V s = some v → s < 16 ∧ S.1 114 (16 * fr + s) = v
def cr_go (g s D s' D' : Nat) (S S' : wd_S) : Prop := ∀ F, fn_Runner_work_82 (F + g) (Int32.ofNat (2 * s - 1 - D)) S = fn_Runner_work_82 F (Int32.ofNat (2 * s' - 1 - D')) S'
section Cr
variable {b L M D0 lim D s m y z fr d g : Nat} {P : List tr_T} {S S' S1 : wd_S} {V : ev_V} {t : tr_T} {v : Int32}
theorem cr_106 : (tp_t (105 + 1)).2 = 161 := rfl
theorem cr_108 : (tp_t (107 + 1)).2 = 161 := rfl
theorem cr_110 : (tp_t (109 + 1)).2 = 161 := rfl
theorem cr_112 : (tp_t (111 + 1)).2 = 161 := rfl
theorem cr_114 : (tp_t (113 + 1)).2 = 2576 := rfl
theorem cr_rows {W : Nat → Nat → Prop} (hb : cb_ok b L M) (ho : of_f W S S') (hW : ∀ a k, a ≤ 103 → ¬W a k) : ∀ a, b ≤ a → a ≤ b + 20 → S'.1 a = S.1 a := fun a h1 h2 => funext fun k => ho.1 a k (hW a k (by have := hb.1; omega))
theorem cg_o {W : Nat → Nat → Prop} (hb : cb_ok b L M) (ho : of_f W S S') (hW : ∀ a k, a ≤ 103 → ¬W a k) (h : cg_P b L D0 P S) : cg_P b L D0 P S' := fun j hj => by
  obtain ⟨y, h1, h2⟩ := h j hj
  have hr := cr_rows hb ho hW
  exact ⟨y, by rw [hr (b + 15) (by omega) (by omega)]; exact h1, nd_t_g (nd_rows (fun a h1 h2 => hr a (by omega) (by omega))) _ _ _ h2⟩
theorem ct_o {W : Nat → Nat → Prop} (hb : cb_ok b L M) (ho : of_f W S S') (hW : ∀ a k, a ≤ 103 → ¬W a k) (h : nd_t (b + 1) S 0 L d y t) : nd_t (b + 1) S' 0 L d y t := nd_t_g (nd_rows (fun a h1 h2 => cr_rows hb ho hW a (by omega) (by omega))) _ _ _ h
theorem cw_103 : ∀ a k, a ≤ 103 → ¬cw_W D fr a k := fun a k h => by unfold cw_W; omega
theorem cw_le {D' fr' : Nat} (h : D ≤ D') (hf : fr' = fr ∨ D ≤ fr') : ∀ a k, cw_W D' fr' a k → cw_W D fr a k := fun a k h => by
  unfold cw_W at h ⊢
  rcases h with h | h | h
  · exact Or.inl h
  · exact Or.inr (Or.inl ⟨h.1, by omega⟩)
  · refine Or.inr (Or.inr ⟨h.1, ?_⟩)
    rcases hf with e | e
    · rw [e] at h; omega
    · omega
/-- a round begins -/
theorem cr_round (hb : cb_ok b L M) (h : cr_h b lim D s m S) (h12 : S.1 104 12 = 0) (hD : 1 ≤ D) (h106 : S.1 106 D = Int32.ofNat y) {τ : Nat} (h108 : S.1 108 D = Int32.ofNat τ) (hy : y < L) (F : Nat) : fn_Runner_work_82 (F + 1) (Int32.ofNat (2 * s - 1 - D)) S = wd_d (if S.1 (b + 3) y = 1 then fn_Runner_finish (S.1 (b + 5) y) (wd_i S 108 D (Int32.ofNat (τ + 1))) else if S.1 (b + 3) y = 2 then fn_Runner_finish (ro_at 113 (S.1 112 D * 16 + S.1 (b + 5) y) S) (wd_i S 108 D (Int32.ofNat (τ + 1))) else if S.1 (b + 3) y = 3 then fn_Runner_goOnLet (Int32.ofNat y) (Int32.ofNat τ) (wd_i S 108 D (Int32.ofNat (τ + 1))) else if S.1 (b + 3) y = 4 then fn_Runner_goOnIf (Int32.ofNat y) (Int32.ofNat τ) (wd_i S 108 D (Int32.ofNat (τ + 1))) else if S.1 (b + 3) y = 5 then fn_Runner_goOnCall (Int32.ofNat y) (Int32.ofNat τ) (wd_i S 108 D (Int32.ofNat (τ + 1))) else fn_Runner_goOnSign (Int32.ofNat y) (Int32.ofNat τ) (wd_i S 108 D (Int32.ofNat (τ + 1)))) (fn_Runner_work_82 F (Int32.ofNat (2 * s - 1 - D + 1))) := by
  obtain ⟨hb1, hb2, hb3, ⟨g2, g4, g6, g8, g10, g12⟩, hb5, hb6, hb7⟩ := hb
  obtain ⟨a1, a2, a3, a4, a5, a6, a7, a8, a9, a10, a11⟩ := h
  rw [fn_Runner_work_82, if_pos (show Int32.ofNat (2 * s - 1 - D) < 40000 from (im_lt (n := 40000) (by omega) (by omega)).mpr (by omega)), if_pos h12, a4, ro_at_ok, wd_c_s, a4, ro_at_ok, wd_c_s, a4, ro_put_ok, wd_d_s, ro_an cr_106 (show D < 161 by omega), ro_an cr_108 (show D < 161 by omega), ro_pn cr_108 (show D < 161 by omega), h106, h108, im_s]
  have e6 : (wd_i S 108 D (Int32.ofNat (τ + 1))).2.2.1 104 6 = b + 1 := by rw [fr_i2]; exact a2
  have e8 : (wd_i S 108 D (Int32.ofNat (τ + 1))).1 104 8 = Int32.ofNat D := by rw [fr_ne (by omega)]; exact a4
  have r3 : ro_at (b + 1 + 1) (Int32.ofNat y) (wd_i S 108 D (Int32.ofNat (τ + 1))) = S.1 (b + 3) y := by rw [ro_an (r := b + 1 + 1) g2 hy, fr_ne (by omega)]
  have r5 : ro_at (b + 1 + 3) (Int32.ofNat y) (wd_i S 108 D (Int32.ofNat (τ + 1))) = S.1 (b + 5) y := by rw [ro_an (r := b + 1 + 3) g4 hy, fr_ne (by omega)]
  have r112 : ro_at 111 (Int32.ofNat D) (wd_i S 108 D (Int32.ofNat (τ + 1))) = S.1 112 D := by rw [ro_an cr_112 (show D < 161 by omega), fr_ne (by omega)]
  have r114 : ∀ i, ro_at 113 i (wd_i S 108 D (Int32.ofNat (τ + 1))) = ro_at 113 i S := fun i => fr_at _ _ (fr_row _ (by decide))
  have hk : ∀ (o : Option wd_S), wd_d o (fun S => fn_Runner_work_264 (fn_Runner_work_82 F) (Int32.ofNat (2 * s - 1 - D)) S) = wd_d o (fn_Runner_work_82 F (Int32.ofNat (2 * s - 1 - D + 1))) := fun o => by
    unfold fn_Runner_work_264
    rw [im_s]
  rw [e6, if_pos hb3, fo_tkind, wd_c_s, r3]
  by_cases c1 : S.1 (b + 3) y = 1
  · rw [if_pos c1, if_pos c1, e6, if_pos hb3, fo_tvalue, wd_c_s, r5, hk]
  · rw [if_neg c1, if_neg c1]
    by_cases c2 : S.1 (b + 3) y = 2
    · rw [if_pos c2, if_pos c2, e6, if_pos hb3, fo_tvalue, wd_c_s, r5]
      unfold fn_Runner_slot
      rw [e8, ro_at_ok, wd_c_s, r112, wd_c_s, ro_at_ok, wd_c_s, r114, hk]
    · rw [if_neg c2, if_neg c2]
      by_cases c3 : S.1 (b + 3) y = 3
      · rw [if_pos c3, if_pos c3, hk]
      · rw [if_neg c3, if_neg c3]
        by_cases c4 : S.1 (b + 3) y = 4
        · rw [if_pos c4, if_pos c4, hk]
        · rw [if_neg c4, if_neg c4]
          by_cases c5 : S.1 (b + 3) y = 5
          · rw [if_pos c5, if_pos c5, hk]
          · rw [if_neg c5, if_neg c5, hk]
/-- the runner has ended -/
theorem cr_end {F : Nat} {i : Int32} (h : ¬S.1 104 12 = 0) : fn_Runner_work_82 (F + 1) i S = some (S.1 104 12, S) := by
  rw [fn_Runner_work_82, if_neg h, ite_self]
  rfl
theorem cr_fin (h : cr_h b lim D s m S) (h12 : S.1 104 12 = 0) (hD : 1 ≤ D) : ∃ S', fn_Runner_finish v S = some S' ∧ cr_h b lim (D - 1) s m S' ∧ S'.1 104 11 = v ∧ S'.1 104 12 = (if D - 1 = 0 then 1 else 0) ∧ of_f (fun a k => a = 104 ∧ (k = 8 ∨ k = 11 ∨ k = 12)) S S' := by
  obtain ⟨a1, a2, a3, a4, a5, a6, a7, a8, a9, a10, a11⟩ := h
  unfold fn_Runner_finish fn_Runner_finish_27
  simp only [wd_b]
  have e8 : (wd_i S 104 11 v).1 104 8 = Int32.ofNat D := by rw [fr_ne (by omega)]; exact a4
  obtain ⟨D, rfl⟩ : ∃ q, D = q + 1 := ⟨D - 1, by omega⟩
  rw [e8, im_p, fr_eq]
  generalize hS2 : wd_i (wd_i S 104 11 v) 104 8 (Int32.ofNat D) = S2
  have o2 : of_f (fun a k => a = 104 ∧ (k = 8 ∨ k = 11)) S S2 := by rw [← hS2]; exact of_i (by omega) (of_i (by omega) of_refl)
  have v8 : S2.1 104 8 = Int32.ofNat D := by rw [← hS2, fr_eq]
  have v11 : S2.1 104 11 = v := by rw [← hS2, fr_ne (by omega), fr_eq]
  have cr : ∀ S3, of_f (fun a k => a = 104 ∧ k = 12) S2 S3 → cr_h b lim (D + 1 - 1) s m S3 ∧ S3.1 104 11 = v := fun S3 o3 => by
    have e : ∀ k, k ≠ 12 → k ≠ 8 → k ≠ 11 → S3.1 104 k = S.1 104 k := fun k h1 h2 h3 => by rw [o3.1 104 k (by omega), o2.1 104 k (by omega)]
    have er : S3.2.2 = S.2.2 := o3.2.2.trans o2.2.2
    exact ⟨⟨by rw [er]; exact a1, by rw [er]; exact a2, (e 7 (by decide) (by decide) (by decide)).trans a3, by rw [o3.1 104 8 (by omega)]; exact v8, (e 9 (by decide) (by decide) (by decide)).trans a5, (e 10 (by decide) (by decide) (by decide)).trans a6, a7, a8, a9, by omega, by omega⟩, by rw [o3.1 104 11 (by omega)]; exact v11⟩
  by_cases hz : D = 0
  · rw [if_pos (show Int32.ofNat D = 0 by rw [hz]; rfl)]
    have o3 : of_f (fun a k => a = 104 ∧ k = 12) S2 (wd_i S2 104 12 1) := of_i ⟨rfl, rfl⟩ of_refl
    obtain ⟨c1, c2⟩ := cr _ o3
    refine ⟨_, rfl, c1, c2, ?_, of_trans (of_mono (fun a b z => by omega) o2) (of_mono (fun a b z => by omega) o3)⟩
    rw [fr_eq, if_pos (by omega)]
  · rw [if_neg (show ¬Int32.ofNat D = 0 from fun q => hz ((im_eq (m := D) (n := 0) (by omega) (by omega)).mp q))]
    obtain ⟨c1, c2⟩ := cr S2 of_refl
    refine ⟨_, rfl, c1, c2, ?_, of_mono (fun a b z => by omega) o2⟩
    rw [if_neg (by omega), o2.1 104 12 (by omega)]
    exact h12
def cr_bg (b lim D s m z fr : Nat) (S' : wd_S) : Prop := if lim ≤ s then S'.1 104 12 = 2 ∧ S'.1 104 9 = Int32.ofNat s ∧ S'.1 104 10 = Int32.ofNat m else if D = 160 then S'.1 104 12 = 3 ∧ S'.1 104 9 = Int32.ofNat s ∧ S'.1 104 10 = Int32.ofNat m else cr_h b lim (D + 1) (s + 1) (max m (D + 1)) S' ∧ S'.1 104 12 = 0 ∧ S'.1 106 (D + 1) = Int32.ofNat z ∧ S'.1 108 (D + 1) = Int32.ofNat 0 ∧ S'.1 112 (D + 1) = Int32.ofNat fr
/-- an EXPRESSION is begun, or the run ends -/
theorem cr_beg (h : cr_h b lim D s m S) (h12 : S.1 104 12 = 0) : ∃ S', fn_Runner_begin (Int32.ofNat z) (Int32.ofNat fr) S = some S' ∧ of_f (fun a k => (a = 104 ∧ (k = 8 ∨ k = 9 ∨ k = 10 ∨ k = 12)) ∨ ((a = 106 ∨ a = 108 ∨ a = 112) ∧ k = D + 1)) S S' ∧ cr_bg b lim D s m z fr S' := by
  obtain ⟨a1, a2, a3, a4, a5, a6, a7, a8, a9, a10, a11⟩ := h
  unfold fn_Runner_begin
  simp only [wd_b]
  rw [a5, a3, a4]
  by_cases c1 : lim ≤ s
  · rw [if_neg (fun q => by have := (im_lt (by omega) (by omega)).mp q; omega)]
    refine ⟨_, rfl, of_i (by omega) of_refl, ?_⟩
    unfold cr_bg
    rw [if_pos c1]
    exact ⟨fr_eq, by rw [fr_ne (by omega)]; exact a5, by rw [fr_ne (by omega)]; exact a6⟩
  · rw [if_pos ((im_lt (by omega) (by omega)).mpr (by omega))]
    by_cases c2 : D = 160
    · rw [if_neg (fun q => by have := (im_lt (m := D) (n := 160) (by omega) (by omega)).mp q; omega)]
      refine ⟨_, rfl, of_i (by omega) of_refl, ?_⟩
      unfold cr_bg
      rw [if_neg c1, if_pos c2]
      exact ⟨fr_eq, by rw [fr_ne (by omega)]; exact a5, by rw [fr_ne (by omega)]; exact a6⟩
    · rw [if_pos (show Int32.ofNat D < 160 from (im_lt (m := D) (n := 160) (by omega) (by omega)).mpr (by omega)), im_s, show (wd_i S 104 9 (Int32.ofNat (s + 1))).1 104 8 = Int32.ofNat D by rw [fr_ne (by omega)]; exact a4, im_s]
      generalize hS2 : wd_i (wd_i S 104 9 (Int32.ofNat (s + 1))) 104 8 (Int32.ofNat (D + 1)) = S2
      have o2 : of_f (fun a k => a = 104 ∧ (k = 8 ∨ k = 9)) S S2 := by rw [← hS2]; exact of_i (by omega) (of_i (by omega) of_refl)
      have v8 : S2.1 104 8 = Int32.ofNat (D + 1) := by rw [← hS2, fr_eq]
      have v9 : S2.1 104 9 = Int32.ofNat (s + 1) := by rw [← hS2, fr_ne (by omega), fr_eq]
      have emax : fn_Math_max (Int32.ofNat m) (Int32.ofNat (D + 1)) S2 = some (Int32.ofNat (max m (D + 1)), S2) := by
        unfold fn_Math_max fn_Math_max_10
        by_cases c : m < D + 1
        · rw [if_pos ((im_lt (by omega) (by omega)).mpr c), show max m (D + 1) = D + 1 by omega]
        · rw [if_neg (fun q => c ((im_lt (by omega) (by omega)).mp q)), show max m (D + 1) = m by omega]
      rw [v8, o2.1 104 10 (by omega), a6, emax, wd_c_s]
      have w8 : ∀ x, (wd_i S2 104 10 x).1 104 8 = Int32.ofNat (D + 1) := fun x => by rw [fr_ne (by omega)]; exact v8
      rw [w8, ro_put_ok, wd_d_s, ro_pn cr_106 (show D + 1 < 161 by omega)]
      have w8' : ∀ x x', (wd_i (wd_i S2 104 10 x) (105 + 1) (D + 1) x').1 104 8 = Int32.ofNat (D + 1) := fun x x' => by rw [fr_ne (by omega)]; exact w8 x
      rw [w8', ro_put_ok, wd_d_s, ro_pn cr_108 (show D + 1 < 161 by omega)]
      have w8'' : ∀ x x' x'', (wd_i (wd_i (wd_i S2 104 10 x) (105 + 1) (D + 1) x') (107 + 1) (D + 1) x'').1 104 8 = Int32.ofNat (D + 1) := fun x x' x'' => by rw [fr_ne (by omega)]; exact w8' x x'
      rw [w8'', ro_put_ok, wd_d_s, ro_pn cr_112 (show D + 1 < 161 by omega)]
      generalize hS3 : wd_i (wd_i (wd_i (wd_i S2 104 10 (Int32.ofNat (max m (D + 1)))) (105 + 1) (D + 1) (Int32.ofNat z)) (107 + 1) (D + 1) 0) (111 + 1) (D + 1) (Int32.ofNat fr) = S3
      have o3 : of_f (fun a k => (a = 104 ∧ k = 10) ∨ ((a = 106 ∨ a = 108 ∨ a = 112) ∧ k = D + 1)) S2 S3 := by
        rw [← hS3]
        exact of_i (by omega) (of_i (by omega) (of_i (by omega) (of_i (by omega) of_refl)))
      have er : S3.2.2 = S.2.2 := o3.2.2.trans o2.2.2
      refine ⟨S3, rfl, of_trans (of_mono (fun a b z => by omega) o2) (of_mono (fun a b z => by omega) o3), ?_⟩
      unfold cr_bg
      rw [if_neg c1, if_neg c2]
      refine ⟨⟨by rw [er]; exact a1, by rw [er]; exact a2, by rw [o3.1 104 7 (by omega), o2.1 104 7 (by omega)]; exact a3, by rw [o3.1 104 8 (by omega)]; exact v8, by rw [o3.1 104 9 (by omega)]; exact v9, ?_, a7, by omega, by omega, by omega, by omega⟩, by rw [o3.1 104 12 (by omega), o2.1 104 12 (by omega)]; exact h12, ?_, ?_, ?_⟩
      · rw [← hS3, fr_ne (by omega), fr_ne (by omega), fr_ne (by omega), fr_eq]
      · rw [← hS3, fr_ne (by omega), fr_ne (by omega), fr_e (by omega)]
      · rw [← hS3, fr_ne (by omega), fr_e (by omega)]; rfl
      · rw [← hS3, fr_e (by omega)]
end Cr
