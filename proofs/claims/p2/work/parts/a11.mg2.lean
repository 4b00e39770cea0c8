/-! The reference's runner: what each task does. -/
section Mg2
variable {lim D s m E vl k s0 a D' E' vl' k' a' y n : Nat} {P : List tr_T} {S S' S1 S2 : wd_S} {V V' : ev_V} {t : tr_T} {v x τ kd : Int32} {W W1 W2 : Nat → Nat → Prop}
theorem gt_up (h : mv_h lim (D + 1) s m E vl (k + 1) S) (hk : k < 4000) (h1 : S.1 152 k = 2) : ∃ S', gq_go 1 S S' ∧ mv_h lim D s m E vl k S' ∧ of_f (fun a b => a = 135 ∧ (b = 35 ∨ b = 50)) S S' := by
  refine ⟨wd_i (wd_i S 135 35 (Int32.ofNat k)) 135 50 (Int32.ofNat D), fun F => ?_, ?_, of_i (by omega) (of_i (by omega) of_refl)⟩
  · rw [gq_pop h hk, if_neg (by rw [h1]; decide), if_pos h1, im_p]
  · obtain ⟨a1, a2, a3, a4, a5, a6, a7, a8, a9, a10, a11, a12, a13⟩ := h
    have e : ∀ b, b ≠ 35 → b ≠ 50 → (wd_i (wd_i S 135 35 (Int32.ofNat k)) 135 50 (Int32.ofNat D)).1 135 b = S.1 135 b := fun b z1 z2 => by rw [fr_ne (by omega), fr_ne (by omega)]
    exact ⟨by rw [fr_ne (by omega), fr_eq], (e 44 (by decide) (by decide)).trans a2, (e 46 (by decide) (by decide)).trans a3, (e 48 (by decide) (by decide)).trans a4, (e 49 (by decide) (by decide)).trans a5, fr_eq, (e 51 (by decide) (by decide)).trans a7, (e 52 (by decide) (by decide)).trans a8, a9, a10, by omega, a12, a13⟩
theorem gt_leave (h : mv_h lim D s m (E + 1) vl (k + 1) S) (hk : k < 4000) (h1 : S.1 152 k = 9) : ∃ S', gq_go 1 S S' ∧ mv_h lim D s m E vl k S' ∧ of_f (fun a b => a = 135 ∧ (b = 35 ∨ b = 46)) S S' := by
  refine ⟨wd_i (wd_i S 135 35 (Int32.ofNat k)) 135 46 (Int32.ofNat E), fun F => ?_, ?_, of_i (by omega) (of_i (by omega) of_refl)⟩
  · rw [gq_pop h hk, if_neg (by rw [h1]; decide), if_neg (by rw [h1]; decide), if_neg (by rw [h1]; decide), if_neg (by rw [h1]; decide), if_neg (by rw [h1]; decide), if_neg (by rw [h1]; decide), if_neg (by rw [h1]; decide), if_neg (by rw [h1]; decide), im_p]
  · obtain ⟨a1, a2, a3, a4, a5, a6, a7, a8, a9, a10, a11, a12, a13⟩ := h
    have e : ∀ b, b ≠ 35 → b ≠ 46 → (wd_i (wd_i S 135 35 (Int32.ofNat k)) 135 46 (Int32.ofNat E)).1 135 b = S.1 135 b := fun b z1 z2 => by rw [fr_ne (by omega), fr_ne (by omega)]
    exact ⟨by rw [fr_ne (by omega), fr_eq], (e 44 (by decide) (by decide)).trans a2, fr_eq, (e 48 (by decide) (by decide)).trans a4, (e 49 (by decide) (by decide)).trans a5, (e 50 (by decide) (by decide)).trans a6, (e 51 (by decide) (by decide)).trans a7, (e 52 (by decide) (by decide)).trans a8, a9, a10, a11, a12, by omega⟩
theorem gt_keep (h : mv_h lim D s m E vl (k + 1) S) (hk : k < 4000) (hv : vl < 4000) (h1 : S.1 152 k = 4) : ∃ S', gq_go 1 S S' ∧ mv_h lim D s m E (vl + 1) k S' ∧ S'.1 157 vl = S.1 135 47 ∧ of_f (fun a b => (a = 135 ∧ (b = 35 ∨ b = 44)) ∨ (a = 157 ∧ b = vl)) S S' := by
  refine ⟨wd_i (wd_i (wd_i S 135 35 (Int32.ofNat k)) 157 vl (S.1 135 47)) 135 44 (Int32.ofNat (vl + 1)), fun F => ?_, ?_, ?_, of_i (by omega) (of_i (by omega) (of_i (by omega) of_refl))⟩
  · rw [gq_pop h hk, if_neg (by rw [h1]; decide), if_neg (by rw [h1]; decide), if_neg (by rw [h1]; decide), if_pos h1, if_neg (ms_in hv (by decide)), im_t (show vl < 2147483648 by omega)]
  · obtain ⟨a1, a2, a3, a4, a5, a6, a7, a8, a9, a10, a11, a12, a13⟩ := h
    have e : ∀ b, b ≠ 35 → b ≠ 44 → (wd_i (wd_i (wd_i S 135 35 (Int32.ofNat k)) 157 vl (S.1 135 47)) 135 44 (Int32.ofNat (vl + 1))).1 135 b = S.1 135 b := fun b z1 z2 => by rw [fr_ne (by omega), fr_ne (by omega), fr_ne (by omega)]
    exact ⟨by rw [fr_ne (by omega), fr_ne (by omega), fr_eq], fr_eq, (e 46 (by decide) (by decide)).trans a3, (e 48 (by decide) (by decide)).trans a4, (e 49 (by decide) (by decide)).trans a5, (e 50 (by decide) (by decide)).trans a6, (e 51 (by decide) (by decide)).trans a7, (e 52 (by decide) (by decide)).trans a8, a9, a10, a11, a12, a13⟩
  · rw [fr_ne (by omega), fr_eq]
theorem mo_appl {c : Int32} (hk : kd = 6 ∨ kd = 7 ∨ kd = 8 ∨ kd = 9 ∨ kd = 10) : fn_Mo_applied (lx_cv kd) v c S = some (ev_sg kd v c, S) := by
  unfold fn_Mo_applied fn_Mo_applied_65 ev_sg
  rcases hk with h | h | h | h | h <;> rw [h]
  · rw [if_pos (show lx_cv 6 = 19 by decide), if_pos rfl]
  · rw [if_neg (show ¬lx_cv 7 = 19 by decide), if_pos (show lx_cv 7 = 20 by decide), if_neg (by decide), if_pos rfl]
  · rw [if_neg (show ¬lx_cv 8 = 19 by decide), if_neg (show ¬lx_cv 8 = 20 by decide), if_pos (show lx_cv 8 = 21 by decide), if_neg (by decide), if_neg (by decide), if_pos rfl]
  · rw [if_neg (show ¬lx_cv 9 = 19 by decide), if_neg (show ¬lx_cv 9 = 20 by decide), if_neg (show ¬lx_cv 9 = 21 by decide), if_pos (show lx_cv 9 = 22 by decide), if_neg (show ¬(9 : Int32) = 6 by decide), if_neg (show ¬(9 : Int32) = 7 by decide), if_neg (show ¬(9 : Int32) = 8 by decide), if_pos (show (9 : Int32) = 9 from rfl)]
    split <;> rfl
  · rw [if_neg (show ¬lx_cv 10 = 19 by decide), if_neg (show ¬lx_cv 10 = 20 by decide), if_neg (show ¬lx_cv 10 = 21 by decide), if_neg (show ¬lx_cv 10 = 22 by decide), if_neg (show ¬(10 : Int32) = 6 by decide), if_neg (show ¬(10 : Int32) = 7 by decide), if_neg (show ¬(10 : Int32) = 8 by decide), if_neg (show ¬(10 : Int32) = 9 by decide)]
    split <;> rfl
theorem gt_apply (hkd : kd = 6 ∨ kd = 7 ∨ kd = 8 ∨ kd = 9 ∨ kd = 10) (h : mv_h lim D s m E (vl + 1) (k + 1) S) (hk : k < 4000) (hv : vl < 4000) (h1 : S.1 152 k = 5) (h2 : S.1 153 k = lx_cv kd) : ∃ S', gq_go 1 S S' ∧ mv_h lim D s m E vl k S' ∧ S'.1 135 47 = ev_sg kd (S.1 157 vl) (S.1 135 47) ∧ of_f (fun a b => a = 135 ∧ (b = 35 ∨ b = 44 ∨ b = 47)) S S' := by
  refine ⟨wd_i (wd_i (wd_i S 135 35 (Int32.ofNat k)) 135 44 (Int32.ofNat vl)) 135 47 (ev_sg kd (S.1 157 vl) (S.1 135 47)), fun F => ?_, ?_, fr_eq, of_i (by omega) (of_i (by omega) (of_i (by omega) of_refl))⟩
  · rw [gq_pop h hk, if_neg (by rw [h1]; decide), if_neg (by rw [h1]; decide), if_neg (by rw [h1]; decide), if_neg (by rw [h1]; decide), if_pos h1, im_p, if_neg (ms_in hv (by decide)), im_t (show vl < 2147483648 by omega), h2, mo_appl hkd, wd_c_s]
  · obtain ⟨a1, a2, a3, a4, a5, a6, a7, a8, a9, a10, a11, a12, a13⟩ := h
    have e : ∀ b, b ≠ 35 → b ≠ 44 → b ≠ 47 → (wd_i (wd_i (wd_i S 135 35 (Int32.ofNat k)) 135 44 (Int32.ofNat vl)) 135 47 (ev_sg kd (S.1 157 vl) (S.1 135 47))).1 135 b = S.1 135 b := fun b z1 z2 z3 => by rw [fr_ne (by omega), fr_ne (by omega), fr_ne (by omega)]
    exact ⟨by rw [fr_ne (by omega), fr_ne (by omega), fr_eq], by rw [fr_ne (by omega), fr_eq], (e 46 (by decide) (by decide) (by decide)).trans a3, (e 48 (by decide) (by decide) (by decide)).trans a4, (e 49 (by decide) (by decide) (by decide)).trans a5, (e 50 (by decide) (by decide) (by decide)).trans a6, (e 51 (by decide) (by decide) (by decide)).trans a7, (e 52 (by decide) (by decide) (by decide)).trans a8, a9, a10, a11, a12, a13⟩
/-- a push onto the tasks of a run -/
theorem mv_push (h : mv_h lim D s m E vl k S) : mv_h lim D s m E vl (k + 1) (ms_p k x v S) := by
  obtain ⟨a1, a2, a3, a4, a5, a6, a7, a8, a9⟩ := h
  have e : ∀ b, b ≠ 35 → (ms_p k x v S).1 135 b = S.1 135 b := fun b z => ms_o.1 135 b (by unfold mw_p; omega)
  exact ⟨ms_35, (e 44 (by decide)).trans a2, (e 46 (by decide)).trans a3, (e 48 (by decide)).trans a4, (e 49 (by decide)).trans a5, (e 50 (by decide)).trans a6, (e 51 (by decide)).trans a7, (e 52 (by decide)).trans a8, a9⟩
theorem mv_o (h : mv_h lim D s m E vl k S) (ho : of_f W S S') (hW : ∀ b, b = 44 ∨ b = 46 ∨ (48 ≤ b ∧ b ≤ 52) → ¬W 135 b) (e35 : S'.1 135 35 = Int32.ofNat k') : mv_h lim D s m E vl k' S' := by
  obtain ⟨a1, a2, a3, a4, a5, a6, a7, a8, a9⟩ := h
  exact ⟨e35, (ho.1 135 44 (hW 44 (by omega))).trans a2, (ho.1 135 46 (hW 46 (by omega))).trans a3, (ho.1 135 48 (hW 48 (by omega))).trans a4, (ho.1 135 49 (hW 49 (by omega))).trans a5, (ho.1 135 50 (hW 50 (by omega))).trans a6, (ho.1 135 51 (hW 51 (by omega))).trans a7, (ho.1 135 52 (hW 52 (by omega))).trans a8, a9⟩
theorem gt_choose {z : Int32} (h : mv_h lim D s m E vl (k + 1) S) (hk : k < 4000) (hy : y < 15010) (h1 : S.1 152 k = 6) (h2 : S.1 153 k = Int32.ofNat y) (hz : (if S.1 135 47 = 0 then S.1 146 y else S.1 145 y) = z) : ∃ S', gq_go 1 S S' ∧ mv_h lim D s m E vl (k + 1) S' ∧ S'.1 152 k = 1 ∧ S'.1 153 k = z ∧ of_f (fun a b => (a = 135 ∧ b = 35) ∨ ((a = 152 ∨ a = 153) ∧ b = k)) S S' := by
  have o1 : of_f (fun a b => (a = 135 ∧ b = 35) ∨ ((a = 152 ∨ a = 153) ∧ b = k)) S (ms_p k 1 z (wd_i S 135 35 (Int32.ofNat k))) := of_trans (of_i (by omega) of_refl) (of_mono (fun a b z => by unfold mw_p at z; omega) ms_o)
  refine ⟨ms_p k 1 z (wd_i S 135 35 (Int32.ofNat k)), fun F => ?_, mv_o h o1 (fun b hb => by omega) ms_35, by rw [ms_152, if_pos rfl], by rw [ms_153, if_pos rfl], o1⟩
  rw [gq_pop h hk, if_neg (by rw [h1]; decide), if_neg (by rw [h1]; decide), if_neg (by rw [h1]; decide), if_neg (by rw [h1]; decide), if_neg (by rw [h1]; decide), if_pos h1, h2, if_neg (ms_in hy (by decide)), im_t (show y < 2147483648 by omega)]
  by_cases c : S.1 135 47 = 0
  · rw [if_pos c] at hz ⊢
    rw [hz, ms_push (t := k) fr_eq hk, wd_d_s]
  · rw [if_neg c] at hz ⊢
    rw [if_neg (by rintro (z | z); exact im_neg (by omega) z; omega), hz, ms_push (t := k) fr_eq hk, wd_d_s]
theorem gt_bind {z : Int32} (h : mv_h lim D s m E vl (k + 1) S) (hk : k < 4000) (hy : y < 15010) (hE : E ≤ 160) (h1 : S.1 152 k = 7) (h2 : S.1 153 k = Int32.ofNat y) (hn : S.1 146 y = Int32.ofNat n) (hn2 : n < 16) (hz : S.1 145 y = z) : ∃ S', gq_go 1 S S' ∧ mv_h lim D s m E vl (k + 1) S' ∧ S'.1 152 k = 1 ∧ S'.1 153 k = z ∧ S'.1 158 (16 * E + n) = S.1 135 47 ∧ of_f (fun a b => (a = 135 ∧ b = 35) ∨ ((a = 152 ∨ a = 153) ∧ b = k) ∨ (a = 158 ∧ b = 16 * E + n)) S S' := by
  have o1 : of_f (fun a b => (a = 135 ∧ b = 35) ∨ ((a = 152 ∨ a = 153) ∧ b = k) ∨ (a = 158 ∧ b = 16 * E + n)) S (ms_p k 1 z (wd_i (wd_i S 135 35 (Int32.ofNat k)) 158 (16 * E + n) (S.1 135 47))) := of_trans (of_i (by omega) (of_i (by omega) of_refl)) (of_mono (fun a b z => by unfold mw_p at z; omega) ms_o)
  have e1 : (16 : Int32) * Int32.ofNat E + Int32.ofNat n = Int32.ofNat (16 * E + n) := by
    rw [show (16 : Int32) = Int32.ofNat 16 from rfl, im_ma]
  refine ⟨ms_p k 1 z (wd_i (wd_i S 135 35 (Int32.ofNat k)) 158 (16 * E + n) (S.1 135 47)), fun F => ?_, mv_o h o1 (fun b hb => by omega) ms_35, by rw [ms_152, if_pos rfl], by rw [ms_153, if_pos rfl], ?_, o1⟩
  · rw [gq_pop h hk, if_neg (by rw [h1]; decide), if_neg (by rw [h1]; decide), if_neg (by rw [h1]; decide), if_neg (by rw [h1]; decide), if_neg (by rw [h1]; decide), if_neg (by rw [h1]; decide), if_pos h1, h2, if_neg (ms_in hy (by decide)), im_t (show y < 2147483648 by omega), hn, e1, if_neg (ms_in (show 16 * E + n < 2640 by omega) (by decide)), im_t (show 16 * E + n < 2147483648 by omega), if_neg (by rintro (z | z); exact im_neg (by omega) z; omega), hz, ms_push (t := k) (by rw [fr_ne (by omega), fr_eq]) hk, wd_d_s]
  · rw [ms_o.1 158 _ (by unfold mw_p; omega), fr_eq]
end Mg2
