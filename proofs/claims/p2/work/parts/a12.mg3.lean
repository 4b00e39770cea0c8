/-! The reference's runner: entering a function; begin. -/
section Mg3
variable {lim D s m E vl k s0 a D' E' vl' k' a' y n lo hi X Rt R2 : Nat} {P : List tr_T} {S S' S1 S2 : wd_S} {V V' : ev_V} {t : tr_T} {v x τ kd root : Int32} {W W1 W2 : Nat → Nat → Prop}
/-- where a call's body is found: of the program, or of versions -/
def mg_r (y Rt R2 : Nat) : Prop := (Rt = 140 ∧ y < 3004 ∧ R2 = 96) ∨ (Rt = 162 ∧ 3004 ≤ y ∧ y < 15010 ∧ R2 = 160)
theorem gt_312 (hy : mg_r y Rt R2) (ha : a ≤ 4) (hv : vl + a ≤ 4000) (hE : E ≤ 161) (hn : n < R2) : ∀ (r j F : Nat) (S : wd_S), j + r = a → S.1 135 35 = Int32.ofNat k → k + 2 ≤ 4000 → S.1 135 44 = Int32.ofNat vl → S.1 135 46 = Int32.ofNat E → S.1 145 y = Int32.ofNat a → S.1 146 y = Int32.ofNat n → S.1 Rt n = root → (∀ i, i < j → S.1 158 (16 * E + i) = S.1 157 (vl + i)) → ∃ S', (∀ kk, fn_Mo_goes_312 kk (F + 1 + r) (Int32.ofNat y) (Int32.ofNat j) S = kk S') ∧ (∀ i, i < a → S'.1 158 (16 * E + i) = S.1 157 (vl + i)) ∧ S'.1 135 35 = Int32.ofNat (k + 2) ∧ S'.1 152 k = 9 ∧ S'.1 152 (k + 1) = 1 ∧ S'.1 153 (k + 1) = root ∧ of_f (fun a' b => (a' = 135 ∧ b = 35) ∨ ((a' = 152 ∨ a' = 153) ∧ k ≤ b) ∨ (a' = 158 ∧ 16 * E ≤ b ∧ b < 16 * E + a)) S S' := by
  have hy2 : y < 15010 := by rcases hy with h | h <;> omega
  intro r
  induction r with
  | zero =>
    intro j F S hj h35 hk h44 h46 h145 h146 hR hc
    have hj : j = a := hj
    subst hj
    have hin : ¬(Int32.ofNat y < 0 ∨ 15010 ≤ y) := by rintro (z | z); exact im_neg (by omega) z; omega
    have q1 : ∀ a, a = 140 ∨ a = 146 ∨ a = 162 → ∀ b, (ms_p k 9 (Int32.ofNat y) S).1 a b = S.1 a b := fun a ha b => ms_o.1 a b (by unfold mw_p; omega)
    have o1 : of_f (fun a' b => (a' = 135 ∧ b = 35) ∨ ((a' = 152 ∨ a' = 153) ∧ k ≤ b) ∨ (a' = 158 ∧ 16 * E ≤ b ∧ b < 16 * E + j)) S (ms_p (k + 1) 1 root (ms_p k 9 (Int32.ofNat y) S)) := of_trans (of_mono (fun a b z => by unfold mw_p at z; omega) ms_o) (of_mono (fun a b z => by unfold mw_p at z; omega) ms_o)
    refine ⟨ms_p (k + 1) 1 root (ms_p k 9 (Int32.ofNat y) S), ?_, ?_, ms_35, ?_, ?_, ?_, o1⟩
    · intro kk
      show fn_Mo_goes_312 kk (F + 1) (Int32.ofNat y) (Int32.ofNat j) S = _
      rw [fn_Mo_goes_312, if_neg (ms_in hy2 (by decide)), im_t (show y < 2147483648 by omega), h145, if_neg (fun q => by have := (im_lt (by omega) (by omega)).mp q; omega), ms_push h35 (by omega), wd_d_s]
      unfold fn_Mo_goes_397 fn_Mo_goes_413
      rcases hy with ⟨e1, e2, e3⟩ | ⟨e1, e2, e3, e4⟩
      · subst e1
        subst e3
        rw [if_pos (show Int32.ofNat y < 3004 from (im_lt (m := y) (n := 3004) (by omega) (by omega)).mpr e2), if_neg hin, q1 146 (by omega), h146, if_neg (ms_in hn (by decide)), im_t (show n < 2147483648 by omega), q1 140 (by omega), hR, ms_push (t := k + 1) ms_35 (by omega), wd_d_s]
      · subst e1
        subst e4
        rw [if_neg (show ¬Int32.ofNat y < 3004 from fun q => by have := (im_lt (m := y) (n := 3004) (by omega) (by omega)).mp q; omega), if_neg hin, q1 146 (by omega), h146, if_neg (ms_in hn (by decide)), im_t (show n < 2147483648 by omega), q1 162 (by omega), hR, ms_push (t := k + 1) ms_35 (by omega), wd_d_s]
    · intro i hi
      rw [ms_o.1 158 _ (by unfold mw_p; omega), ms_o.1 158 _ (by unfold mw_p; omega)]
      exact hc i hi
    · rw [ms_152, if_neg (by omega), ms_152, if_pos rfl]
    · rw [ms_152, if_pos rfl]
    · rw [ms_153, if_pos rfl]
  | succ r ih =>
    intro j F S hj h35 hk h44 h46 h145 h146 hR hc
    have e1 : Int32.ofNat vl + Int32.ofNat j = Int32.ofNat (vl + j) := (Int32.ofNat_add _ _).symm
    have e2 : (16 : Int32) * Int32.ofNat E + Int32.ofNat j = Int32.ofNat (16 * E + j) := by rw [show (16 : Int32) = Int32.ofNat 16 from rfl, im_ma]
    have hst : ∀ kk, fn_Mo_goes_312 kk (F + 1 + (r + 1)) (Int32.ofNat y) (Int32.ofNat j) S = fn_Mo_goes_312 kk (F + 1 + r) (Int32.ofNat y) (Int32.ofNat (j + 1)) (wd_i S 158 (16 * E + j) (S.1 157 (vl + j))) := fun kk => by
      show fn_Mo_goes_312 kk (F + 1 + r + 1) (Int32.ofNat y) (Int32.ofNat j) S = _
      rw [fn_Mo_goes_312, if_neg (ms_in hy2 (by decide)), im_t (show y < 2147483648 by omega), h145, if_pos ((im_lt (by omega) (by omega)).mpr (by omega)), h44, e1, if_neg (ms_in (show vl + j < 4000 by omega) (by decide)), h46, e2, if_neg (ms_in (show 16 * E + j < 2640 by omega) (by decide)), im_t (show vl + j < 2147483648 by omega), im_t (show 16 * E + j < 2147483648 by omega), im_s]
      simp only [wd_b]
    generalize hS2 : wd_i S 158 (16 * E + j) (S.1 157 (vl + j)) = S2 at hst
    have o2 : of_f (fun a b => a = 158 ∧ b = 16 * E + j) S S2 := by rw [← hS2]; exact of_i ⟨rfl, rfl⟩ of_refl
    have hRt : Rt ≠ 158 := by rcases hy with h | h <;> omega
    obtain ⟨S3, f3, c3, k3, t1, t2, t3, o3⟩ := ih (j + 1) F S2 (by omega) (by rw [o2.1 135 35 (by omega)]; exact h35) hk (by rw [o2.1 135 44 (by omega)]; exact h44) (by rw [o2.1 135 46 (by omega)]; exact h46) (by rw [o2.1 145 y (by omega)]; exact h145) (by rw [o2.1 146 y (by omega)]; exact h146) (by rw [o2.1 Rt n (by omega)]; exact hR) (fun i hi => by
      by_cases c : i = j
      · rw [c, ← hS2, fr_eq, fr_ne (by omega)]
      · rw [o2.1 158 _ (by omega), o2.1 157 _ (by omega)]
        exact hc i (by omega))
    exact ⟨S3, fun kk => by rw [hst, f3], fun i hi => by rw [c3 i hi, o2.1 157 _ (by omega)], k3, t1, t2, t3, of_trans (of_mono (fun a b z => by omega) o2) o3⟩
theorem gt_enter (hy : mg_r y Rt R2) (ha : a ≤ 4) (hv : vl + a ≤ 4000) (hn : n < R2) (h : mv_h lim D s m E (vl + a) (k + 1) S) (hk : k + 2 ≤ 4000) (hE : E ≤ 160) (h1 : S.1 152 k = 8) (h2 : S.1 153 k = Int32.ofNat y) (h145 : S.1 145 y = Int32.ofNat a) (h146 : S.1 146 y = Int32.ofNat n) (hR : S.1 Rt n = root) : ∃ S', gq_go 1 S S' ∧ mv_h lim D s m (E + 1) vl (k + 2) S' ∧ (∀ i, i < a → S'.1 158 (16 * (E + 1) + i) = S.1 157 (vl + i)) ∧ S'.1 152 k = 9 ∧ S'.1 152 (k + 1) = 1 ∧ S'.1 153 (k + 1) = root ∧ of_f (fun a' b => (a' = 135 ∧ (b = 35 ∨ b = 44 ∨ b = 46)) ∨ ((a' = 152 ∨ a' = 153) ∧ k ≤ b) ∨ (a' = 158 ∧ 16 * (E + 1) ≤ b)) S S' := by
  have hy2 : y < 15010 := by rcases hy with h | h <;> omega
  have hRt : Rt = 140 ∨ Rt = 162 := by rcases hy with h | h <;> omega
  have es : Int32.ofNat (vl + a) - Int32.ofNat a = Int32.ofNat vl := by
    rw [Int32.ofNat_add, Int32.add_sub_cancel]
  generalize hS1 : wd_i (wd_i (wd_i S 135 35 (Int32.ofNat k)) 135 46 (Int32.ofNat (E + 1))) 135 44 (Int32.ofNat vl) = S1
  have o1 : of_f (fun a b => a = 135 ∧ (b = 35 ∨ b = 44 ∨ b = 46)) S S1 := by rw [← hS1]; exact of_i (by omega) (of_i (by omega) (of_i (by omega) of_refl))
  have v44 : S1.1 135 44 = Int32.ofNat vl := by rw [← hS1, fr_eq]
  have v46 : S1.1 135 46 = Int32.ofNat (E + 1) := by rw [← hS1, fr_ne (by omega), fr_eq]
  have v35 : S1.1 135 35 = Int32.ofNat k := by rw [← hS1, fr_ne (by omega), fr_ne (by omega), fr_eq]
  obtain ⟨S2, f2, c2, k2, t1, t2, t3, o2⟩ := gt_312 (E := E + 1) (k := k) (root := root) hy ha hv (by omega) hn a 0 (wd_F - a - 1) S1 (by omega) v35 hk v44 v46 (by rw [o1.1 145 y (by omega)]; exact h145) (by rw [o1.1 146 y (by omega)]; exact h146) (by rw [o1.1 Rt n (by omega)]; exact hR) (fun i hi => absurd hi (Nat.not_lt_zero _))
  rw [show wd_F - a - 1 + 1 + a = wd_F by rw [show wd_F = 1000000 from rfl]; omega] at f2
  have f2 : ∀ kk, fn_Mo_goes_312 kk wd_F (Int32.ofNat y) 0 S1 = kk S2 := f2
  refine ⟨S2, fun F => ?_, ?_, fun i hi => by rw [c2 i hi, o1.1 157 _ (by omega)], t1, t2, t3, of_trans (of_mono (fun a b z => by omega) o1) (of_mono (fun a b z => by omega) o2)⟩
  · rw [gq_pop h (by omega), if_neg (by rw [h1]; decide), if_neg (by rw [h1]; decide), if_neg (by rw [h1]; decide), if_neg (by rw [h1]; decide), if_neg (by rw [h1]; decide), if_neg (by rw [h1]; decide), if_neg (by rw [h1]; decide), if_pos h1, h2, if_neg (ms_in hy2 (by decide)), im_t (show y < 2147483648 by omega), h145, es, hS1, f2]
  · obtain ⟨a1, a2, a3, a4, a5, a6, a7, a8, a9, a10, a11, a12, a13⟩ := h
    have e : ∀ b, b ≠ 35 → b ≠ 44 → b ≠ 46 → S2.1 135 b = S.1 135 b := fun b z1 z2 z3 => by rw [o2.1 135 b (by omega), o1.1 135 b (by omega)]
    exact ⟨k2, by rw [o2.1 135 44 (by omega)]; exact v44, by rw [o2.1 135 46 (by omega)]; exact v46, (e 48 (by decide) (by decide) (by decide)).trans a4, (e 49 (by decide) (by decide) (by decide)).trans a5, (e 50 (by decide) (by decide) (by decide)).trans a6, (e 51 (by decide) (by decide) (by decide)).trans a7, (e 52 (by decide) (by decide) (by decide)).trans a8, a9, a10, a11, a12, by omega⟩
/-- WORK: the run ends, or an EXPRESSION is begun and its way back is laid -/
theorem gt_work (h : mv_h lim D s m E vl (k + 1) S) (hk : k < 4000) (h1 : S.1 152 k = 1) (h2 : S.1 153 k = Int32.ofNat y) : (lim ≤ s → ∃ S', gq_go 1 S S' ∧ S'.1 135 52 = 2 ∧ S'.1 135 48 = Int32.ofNat s ∧ S'.1 135 51 = Int32.ofNat m ∧ of_f (fun a b => a = 135 ∧ (b = 35 ∨ b = 52)) S S') ∧ (¬lim ≤ s → D = 160 → ∃ S', gq_go 1 S S' ∧ S'.1 135 52 = 3 ∧ S'.1 135 48 = Int32.ofNat s ∧ S'.1 135 51 = Int32.ofNat m ∧ of_f (fun a b => a = 135 ∧ (b = 35 ∨ b = 52)) S S') ∧ (¬lim ≤ s → ¬D = 160 → ∃ S1, (∀ S', fn_Mo_work_85 (Int32.ofNat y) (Int32.ofNat (max m (D + 1))) S1 = some S' → gq_go 1 S S') ∧ mv_h lim (D + 1) (s + 1) m E vl k S1 ∧ of_f (fun a b => a = 135 ∧ (b = 35 ∨ b = 48 ∨ b = 50 ∨ b = 52)) S S1) := by
  have hp := gq_pop h hk
  obtain ⟨a1, a2, a3, a4, a5, a6, a7, a8, a9, a10, a11, a12, a13⟩ := h
  generalize hS0 : wd_i S 135 35 (Int32.ofNat k) = S0 at hp
  have o0 : of_f (fun a b => a = 135 ∧ b = 35) S S0 := by rw [← hS0]; exact of_i ⟨rfl, rfl⟩ of_refl
  have hp : ∀ F, fn_Mo_goes_46 (F + 1) S = wd_d (fn_Mo_work (Int32.ofNat y) S0) (fn_Mo_goes_46 F) := fun F => by rw [hp F, if_pos h1, h2]
  have e48 : S0.1 135 48 = Int32.ofNat s := by rw [o0.1 135 48 (by omega)]; exact a4
  have e49 : S0.1 135 49 = Int32.ofNat lim := by rw [o0.1 135 49 (by omega)]; exact a5
  have e50 : S0.1 135 50 = Int32.ofNat D := by rw [o0.1 135 50 (by omega)]; exact a6
  have e51 : S0.1 135 51 = Int32.ofNat m := by rw [o0.1 135 51 (by omega)]; exact a7
  have hend : ∀ c : Int32, ¬c = 0 → fn_Mo_work_31 (Int32.ofNat y) c S0 = some (wd_i S0 135 52 c) := fun c hc => by
    unfold fn_Mo_work_31
    simp only [wd_b]
    rw [fr_eq, if_neg hc]
  have hres : ∀ c : Int32, ¬c = 0 → fn_Mo_work (Int32.ofNat y) S0 = fn_Mo_work_31 (Int32.ofNat y) c S0 → ∃ S', gq_go 1 S S' ∧ S'.1 135 52 = c ∧ S'.1 135 48 = Int32.ofNat s ∧ S'.1 135 51 = Int32.ofNat m ∧ of_f (fun a b => a = 135 ∧ (b = 35 ∨ b = 52)) S S' := fun c hc hw => ⟨wd_i S0 135 52 c, fun F => by rw [hp, hw, hend c hc, wd_d_s], fr_eq, by rw [fr_ne (by omega)]; exact e48, by rw [fr_ne (by omega)]; exact e51, of_i (by omega) (of_mono (fun a b z => by omega) o0)⟩
  refine ⟨fun q1 => hres 2 (by decide) ?_, fun q1 q2 => hres 3 (by decide) ?_, fun q1 q2 => ?_⟩
  · unfold fn_Mo_work
    rw [e48, e49, if_pos (by rw [show s = lim by omega])]
  · unfold fn_Mo_work
    rw [e48, e49, if_neg (fun z => q1 (by have := (im_eq (by omega) (by omega)).mp z; omega)), e50, q2, if_pos (show Int32.ofNat 160 = 160 from rfl)]
  · generalize hS1 : wd_i (wd_i (wd_i S0 135 52 0) 135 48 (Int32.ofNat (s + 1))) 135 50 (Int32.ofNat (D + 1)) = S1
    have o1 : of_f (fun a b => a = 135 ∧ (b = 48 ∨ b = 50 ∨ b = 52)) S0 S1 := by rw [← hS1]; exact of_i (by omega) (of_i (by omega) (of_i (by omega) of_refl))
    have O1 : of_f (fun a b => a = 135 ∧ (b = 35 ∨ b = 48 ∨ b = 50 ∨ b = 52)) S S1 := of_trans (of_mono (fun a b z => by omega) o0) (of_mono (fun a b z => by omega) o1)
    have v50 : S1.1 135 50 = Int32.ofNat (D + 1) := by rw [← hS1, fr_eq]
    have v51 : S1.1 135 51 = Int32.ofNat m := by rw [o1.1 135 51 (by omega)]; exact e51
    have e : ∀ b, b ≠ 35 → b ≠ 48 → b ≠ 50 → b ≠ 52 → S1.1 135 b = S.1 135 b := fun b z1 z2 z3 z4 => O1.1 135 b (by omega)
    refine ⟨S1, fun S' hS' F => ?_, ⟨by rw [o1.1 135 35 (by omega), ← hS0, fr_eq], (e 44 (by decide) (by decide) (by decide) (by decide)).trans a2, (e 46 (by decide) (by decide) (by decide) (by decide)).trans a3, by rw [← hS1, fr_ne (by omega), fr_eq], (e 49 (by decide) (by decide) (by decide) (by decide)).trans a5, v50, v51, by rw [← hS1, fr_ne (by omega), fr_ne (by omega), fr_eq], a9, by omega, by omega, a12, a13⟩, O1⟩
    have hw : fn_Mo_work (Int32.ofNat y) S0 = fn_Mo_work_85 (Int32.ofNat y) (Int32.ofNat (max m (D + 1))) S1 := by
      unfold fn_Mo_work
      rw [e48, e49, if_neg (fun z => q1 (by have := (im_eq (by omega) (by omega)).mp z; omega)), e50, if_neg (show ¬Int32.ofNat D = 160 from fun z => q2 ((im_eq (m := D) (n := 160) (by omega) (by omega)).mp z))]
      unfold fn_Mo_work_31
      simp only [wd_b]
      have x48 : (wd_i S0 135 52 0).1 135 48 = Int32.ofNat s := by rw [fr_ne (by omega)]; exact e48
      have x50 : (wd_i (wd_i S0 135 52 0) 135 48 (Int32.ofNat (s + 1))).1 135 50 = Int32.ofNat D := by rw [fr_ne (by omega), fr_ne (by omega)]; exact e50
      rw [fr_eq, if_pos rfl, x48, im_s, x50, im_s, hS1, v50, v51]
      by_cases c : m < D + 1
      · rw [if_pos ((im_lt (by omega) (by omega)).mpr c), show max m (D + 1) = D + 1 by omega]
      · rw [if_neg (fun q => c ((im_lt (by omega) (by omega)).mp q)), show max m (D + 1) = m by omega]
    rw [hp, hw, hS', wd_d_s]
end Mg3
