/-! The class's print(), whole. -/
def pv_P (v : Nat) (ds : pg_T) (S : wd_S) : Prop := S.1 (v + 1) 3 = Int32.ofNat ds.length ∧ ds.length ≤ 78 ∧ ∀ j, (hj : j < ds.length) → S.1 (v + 18) j = Int32.ofNat ds[j].1 ∧ ds[j].1 ≤ 4 ∧ ∃ y, S.1 (v + 16) j = Int32.ofNat y ∧ nd_t (v + 2) S 0 1000 96 y ds[j].2.1
section Pc5
variable {w : Bool} {v n m k pn y z d r j c : Nat} {l l1 l2 : List Int32} {S0 S S' S1 S2 : wd_S} {t : tr_T} {ds : pg_T}
theorem pv_o (hv : v = 54 ∨ v = 79) (hr : ∀ a, a < 127 → S'.1 a = S.1 a) (h : pv_P v ds S) : pv_P v ds S' := by
  obtain ⟨h1, h2, h3⟩ := h
  refine ⟨by rw [hr (v + 1) (by omega)]; exact h1, h2, fun j hj => ?_⟩
  obtain ⟨a1, a2, y, a3, a4⟩ := h3 j hj
  exact ⟨by rw [hr (v + 18) (by omega)]; exact a1, a2, y, by rw [hr (v + 16) (by omega)]; exact a3, nd_t_g (nd_rows (fun a q1 q2 => hr a (by omega))) _ _ _ a4⟩
theorem pr_vs_c {k : Nat} {q : Nat × tr_T × Nat × Nat} {r : pg_T} (h : pr_vs k (q :: r) = some l) : ∃ l1 l2, pr_v k q.1 q.2.1 = some l1 ∧ pr_vs (k + 1) r = some l2 ∧ l = l1 ++ l2 := by
  unfold pr_vs at h
  cases h1 : pr_v k q.1 q.2.1 with
  | none => rw [h1] at h; cases h
  | some l1 =>
    cases h2 : pr_vs (k + 1) r with
    | none => rw [h1, h2] at h; cases h
    | some l2 => rw [h1, h2] at h; cases h; exact ⟨l1, l2, rfl, rfl, rfl⟩
theorem pc_28 : ∀ (r : pg_T) (k F n : Nat) (S : wd_S) (l : List Int32), ds.drop k = r → k ≤ ds.length → pc_X v w S → pv_P v ds S → S.1 128 5 = Int32.ofNat n → pr_vs k r = some l → n + l.length ≤ 40000 → ∃ S', fn_Printer_showAll_28 (F + 1 + r.length) (Int32.ofNat k) S = some (Int32.ofNat (n + l.length), S') ∧ of_f (pv_W n (n + l.length)) S S' ∧ (w = true → ∀ j, (hj : j < l.length) → S'.1 127 (n + j) = l[j]) := by
  intro r
  induction r with
  | nil =>
    intro k F n S l hd hk hX hP h5 he hn
    have hk2 : k = ds.length := Nat.le_antisymm hk (List.drop_eq_nil_iff.mp hd)
    cases he
    obtain ⟨t9, -⟩ := pc_vv hX
    refine ⟨S, ?_, of_refl, fun _ j hj => absurd hj (Nat.not_lt_zero _)⟩
    rw [show F + 1 + ([] : pg_T).length = F + 1 from rfl, fn_Printer_showAll_28, hX.2.1, if_pos t9]
    unfold fn_Versions_count fn_Bodies_count
    rw [wd_c_s, wd_c_s, hP.1, hk2, if_neg Int32.lt_irrefl, h5]
    rfl
  | cons q r ih =>
    intro k F n S l hd hk hX hP h5 he hn
    have hlt : k < ds.length := by
      rcases Nat.lt_or_ge k ds.length with z | z
      · exact z
      · rw [List.drop_eq_nil_of_le z] at hd; cases hd
    rw [List.drop_eq_getElem_cons hlt] at hd
    injection hd with hq hd2
    obtain ⟨l1, l2, e1, e2, rfl⟩ := pr_vs_c he
    have h78 := hP.2.1
    obtain ⟨a1, a2, y, a3, a4⟩ := hP.2.2 k hlt
    rw [hq] at a1 a2 a4
    have hv := hX.1
    obtain ⟨t9, -⟩ := pc_vv hX
    rw [List.length_append] at hn
    obtain ⟨S1, f1, o1, c1, b1⟩ := pc_ver hX (show k < 78 by omega) a2 a1 a3 a4 h5 e1 (by omega)
    have hX1 : pc_X v w S1 := ⟨hv, by rw [o1.2.2]; exact hX.2.1, by rw [o1.2.2]; exact hX.2.2.1, by rw [o1.1 128 4 (by unfold pv_W; omega)]; exact hX.2.2.2⟩
    have hP1 : pv_P v ds S1 := pv_o hv (fun a ha => funext fun b => o1.1 a b (by unfold pv_W; omega)) hP
    obtain ⟨S2, f2, o2, b2⟩ := ih (k + 1) F (n + l1.length) S1 l2 hd2 hlt hX1 hP1 c1 e2 (by omega)
    have hlen : (l1 ++ l2).length = l1.length + l2.length := List.length_append
    refine ⟨S2, ?_, ?_, fun hw j hj => ?_⟩
    · show fn_Printer_showAll_28 (F + 1 + r.length + 1) (Int32.ofNat k) S = _
      rw [fn_Printer_showAll_28, hX.2.1, if_pos t9]
      unfold fn_Versions_count fn_Bodies_count
      rw [wd_c_s, wd_c_s, hP.1, if_pos ((im_lt (by omega) (by omega)).mpr hlt), f1, wd_d_s, im_s, f2, hlen, Nat.add_assoc]
    · rw [hlen]
      exact of_trans (of_mono (fun a b q => by unfold pv_W at *; omega) o1) (of_mono (fun a b q => by unfold pv_W at *; omega) o2)
    · rw [hlen] at hj
      by_cases e : j < l1.length
      · rw [List.getElem_append_left e, o2.1 127 (n + j) (by unfold pv_W; omega)]
        exact b1 hw j e
      · rw [List.getElem_append_right (by omega)]
        have := b2 hw (j - l1.length) (by omega)
        rw [show n + l1.length + (j - l1.length) = n + j by omega] at this
        exact this
theorem pc_showAll (hv : v = 54 ∨ v = 79) (hP : pv_P v ds S) (he : pr_vs 0 ds = some l) (hn : l.length ≤ 40000) : ∃ S', fn_Printer_showAll v (if w = true then 1 else 0) S = some (Int32.ofNat l.length, S') ∧ of_r (fun a b => a = 127 ∨ a = 128 ∨ a = 130) (fun a k => a = 128 ∧ (k = 2 ∨ k = 3)) S S' ∧ (w = true → ∀ j, (hj : j < l.length) → S'.1 127 j = l[j]) := by
  have t0 : tp_t (v + 1) = (0, 0) := by rcases hv with h | h <;> rw [h] <;> rfl
  have t8 : tp_t (v + 1 + 1) = (0, 8) := by rcases hv with h | h <;> rw [h] <;> rfl
  have hfit : mi_fit .boolean (.int (if w = true then 1 else 0)) = true := by cases w <;> rfl
  generalize hS1 : wd_i (wd_i (wd_r (wd_r S 128 2 v) 128 3 (v + 1 + 1)) 128 4 (if w = true then 1 else 0)) 128 5 0 = S1
  have o1 : of_r (fun a b => a = 128 ∧ (b = 4 ∨ b = 5)) (fun a k => a = 128 ∧ (k = 2 ∨ k = 3)) S S1 := by
    rw [← hS1]
    exact ofr_i (by omega) (ofr_i (by omega) (ofr_r (by omega) (ofr_r (by omega) ofr_refl)))
  have hX1 : pc_X v w S1 := by
    rw [← hS1]
    exact ⟨hv, rfl, rfl, by rw [fr_ne (by omega), fr_eq]⟩
  have c5 : S1.1 128 5 = Int32.ofNat 0 := by rw [← hS1, fr_eq]; rfl
  have hP1 : pv_P v ds S1 := pv_o hv (fun a ha => funext fun b => o1.1 a b (by omega)) hP
  have h78 := hP.2.1
  obtain ⟨S2, f2, o2, b2⟩ := pc_28 (w := w) ds 0 (999999 - ds.length) 0 S1 l rfl (Nat.zero_le _) hX1 hP1 c5 he (by omega)
  rw [show 999999 - ds.length + 1 + ds.length = wd_F by rw [show wd_F = 1000000 from rfl]; omega, Nat.zero_add] at f2
  refine ⟨S2, ?_, ofr_trans ⟨fun a b q => o1.1 a b (by omega), fun a b q => o1.2.1 a b (by omega), o1.2.2.1, o1.2.2.2⟩ (ofr_of (fun a b q => by unfold pv_W at q; omega) o2), fun hw j hj => ?_⟩
  · unfold fn_Printer_showAll fn_Versions_bodies fn_Bodies_trees
    simp only [wd_b]
    rw [wd_c_s, if_pos t0, wd_c_s, if_pos t8, if_pos hfit, hS1]
    exact f2
  · have := b2 hw j hj
    rw [Nat.zero_add] at this
    exact this
/-- what print() may write -/
def pq_W (a b : Nat) : Prop := a = 127 ∨ a = 128 ∨ a = 130 ∨ (a = 1 ∧ b = 15)
def pq_R (a k : Nat) : Prop := a = 128 ∧ (k = 2 ∨ k = 3)
theorem sp_print_x (hv : v = 54 ∨ v = 79) (h7 : S.2.2.1 1 7 = v) (h3 : S.1 (v + 1) 3 = 0) : fn_Sp_print S = some (.inr "java/lang/IllegalStateException", wd_n S) := by
  have t9 : tp_t v = (0, 9) := by rcases hv with h | h <;> rw [h] <;> rfl
  unfold fn_Sp_print fn_Versions_count fn_Bodies_count
  rw [h7, if_pos t9, wd_c_s, wd_c_s, if_pos h3]
theorem sp_print (hv : v = 54 ∨ v = 79) (h7 : S.2.2.1 1 7 = v) (hP : pv_P v ds S) (hd : 1 ≤ ds.length) (he : pr_vs 0 ds = some l) (hn : l.length ≤ 40000) : ∃ S', fn_Sp_print S = some (.inl (Int32.ofNat l.length), S') ∧ S'.1 1 15 = Int32.ofNat l.length ∧ (∀ j, (hj : j < l.length) → S'.1 127 j = l[j]) ∧ of_r pq_W pq_R S S' := by
  have t9 : tp_t v = (0, 9) := by rcases hv with h | h <;> rw [h] <;> rfl
  have h78 := hP.2.1
  obtain ⟨S1, f1, o1, -⟩ := pc_showAll (w := false) hv hP he hn
  rw [if_neg (show ¬false = true by decide)] at f1
  have r7 : S1.2.2.1 1 7 = v := by rw [o1.2.2.1 1 7 (by omega)]; exact h7
  have hP1 : pv_P v ds S1 := pv_o hv (fun a ha => funext fun b => o1.1 a b (by omega)) hP
  obtain ⟨S2, f2, o2, b2⟩ := pc_showAll (w := true) hv hP1 he hn
  rw [if_pos (rfl : true = true)] at f2
  refine ⟨wd_i S2 1 15 (Int32.ofNat l.length), ?_, fr_eq, fun j hj => by rw [fr_ne (by omega)]; exact b2 rfl j hj, ?_⟩
  · unfold fn_Sp_print fn_Versions_count fn_Bodies_count
    simp only [wd_b]
    rw [h7, if_pos t9, wd_c_s, wd_c_s, hP.1, if_neg (show ¬Int32.ofNat ds.length = 0 from fun q => by have := (im_eq (m := ds.length) (n := 0) (by omega) (by omega)).mp q; omega), h7, if_pos t9, f1, wd_c_s, if_neg (show ¬(40000 : Int32) < Int32.ofNat l.length from fun q => by have := (im_lt (m := 40000) (n := l.length) (by omega) (by omega)).mp q; omega), r7, if_pos t9, f2, wd_c_s, fr_eq]
  · refine ofr_i (by unfold pq_W; omega) (ofr_trans ⟨fun a b q => o1.1 a b (fun z => q (by unfold pq_W; omega)), fun a b q => o1.2.1 a b (fun z => q (by unfold pq_W; omega)), fun a k q => o1.2.2.1 a k q, o1.2.2.2⟩ ⟨fun a b q => o2.1 a b (fun z => q (by unfold pq_W; omega)), fun a b q => o2.2.1 a b (fun z => q (by unfold pq_W; omega)), fun a k q => o2.2.2.1 a k q, o2.2.2.2⟩)
end Pc5
