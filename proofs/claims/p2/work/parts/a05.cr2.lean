/-! The class's runner: what comes of an EXPRESSION. -/
def cr_O (b lim D fr : Nat) (W : Nat → Nat → Prop) (x : Except ev_E ev_O) (i : Nat) (S0 S1 : wd_S) : Prop := match x with
  | .error none => True
  | .error (some e) => ∃ g j S', (∀ F, fn_Runner_work_82 (F + g) (Int32.ofNat i) S1 = fn_Runner_work_82 F (Int32.ofNat j) S') ∧ i + g ≤ 2 * e.2.1 ∧ e.2.1 ≤ lim ∧ ¬e.1 = 0 ∧ S'.1 104 12 = e.1 ∧ S'.1 104 9 = Int32.ofNat e.2.1 ∧ S'.1 104 10 = Int32.ofNat e.2.2 ∧ of_f W S0 S'
  | .ok q => ∃ g S', (∀ F, fn_Runner_work_82 (F + g) (Int32.ofNat i) S1 = fn_Runner_work_82 F (Int32.ofNat (2 * q.2.2.1 - 1 - D)) S') ∧ i + g = 2 * q.2.2.1 - 1 - D ∧ cr_h b lim D q.2.2.1 q.2.2.2 S' ∧ S'.1 104 11 = q.1 ∧ S'.1 104 12 = (if D = 0 then 1 else 0) ∧ of_f W S0 S' ∧ cv_e fr q.2.1 S'
def cr_S (b lim L D0 : Nat) (P : List tr_T) (r : Nat) : Prop := ∀ (D fr : Nat) (V : ev_V) (s m z : Nat) (t : tr_T) (d : Nat) (S : wd_S), D + r = 160 → cr_h b lim D s m S → S.1 104 12 = 0 → fr ≤ D → cv_e fr V S → cg_P b L D0 P S → nd_t (b + 1) S 0 L d z t → ∃ S1, fn_Runner_begin (Int32.ofNat z) (Int32.ofNat fr) S = some S1 ∧ cr_O b lim D fr (cw_W (D + 1) fr) (ev P lim r V s m t) (2 * s - D) S S1
theorem ev_b_a {α β γ : Type} (x : Except ev_E α) (f : α → Except ev_E β) (g : β → Except ev_E γ) : ev_b (ev_b x f) g = ev_b x (fun a => ev_b (f a) g) := by cases x <;> rfl
section Cr2
variable {b L M D0 lim D s m y z fr fr' d g i D' τ r : Nat} {P : List tr_T} {S S' S0 S1 S2 : wd_S} {V V' : ev_V} {t : tr_T} {v x : Int32} {W W1 W2 : Nat → Nat → Prop}
theorem cr_bind {y : Except ev_E ev_O} {f : ev_O → Except ev_E ev_O} (h : cr_O b lim D fr W1 y i S0 S1) (hf : ∀ (q : ev_O) (S' : wd_S), cr_h b lim D q.2.2.1 q.2.2.2 S' → S'.1 104 11 = q.1 → S'.1 104 12 = (if D = 0 then 1 else 0) → of_f W1 S0 S' → cv_e fr q.2.1 S' → cr_O b lim D' fr' W2 (f q) (2 * q.2.2.1 - 1 - D) S' S') (w1 : ∀ a k, W1 a k → W a k) (w2 : ∀ a k, W2 a k → W a k) : cr_O b lim D' fr' W (ev_b y f) i S0 S1 := by
  cases y with
  | error e =>
    cases e with
    | none => trivial
    | some e =>
      obtain ⟨g, j, S', h1, h2, h3, h4, h5, h6, h7, h8⟩ := h
      exact ⟨g, j, S', h1, h2, h3, h4, h5, h6, h7, of_mono w1 h8⟩
  | ok q =>
    obtain ⟨g, S', h1, h2, h3, h4, h5, h6, h7⟩ := h
    have hq := hf q S' h3 h4 h5 h6 h7
    show cr_O b lim D' fr' W (f q) i S0 S1
    unfold cr_O at hq ⊢
    split at hq
    · trivial
    · obtain ⟨g', j, S'', k1, k2, k3, k4, k5, k6, k7, k8⟩ := hq
      exact ⟨g + g', j, S'', fun F => by rw [show F + (g + g') = F + g' + g by omega, h1, k1], by omega, k3, k4, k5, k6, k7, of_trans (of_mono w1 h6) (of_mono w2 k8)⟩
    · obtain ⟨g', S'', k1, k2, k3, k4, k5, k6, k7⟩ := hq
      exact ⟨g + g', S'', fun F => by rw [show F + (g + g') = F + g' + g by omega, h1, k1], by omega, k3, k4, k5, of_trans (of_mono w1 h6) (of_mono w2 k6), k7⟩
theorem cv_o (ho : of_f W S S') (hW : ∀ k, 16 * fr ≤ k → k < 16 * fr + 16 → ¬W 114 k) (h : cv_e fr V S) : cv_e fr V S' := fun s v hs => by
  obtain ⟨h1, h2⟩ := h s v hs
  exact ⟨h1, by rw [ho.1 114 _ (hW _ (by omega) (by omega))]; exact h2⟩
theorem cr_h_o (h : cr_h b lim D s m S) (ho : of_f W S S') (hW : ∀ k, 7 ≤ k → k ≤ 10 → ¬W 104 k) : cr_h b lim D s m S' := by
  obtain ⟨a1, a2, a3, a4, a5, a6, a7⟩ := h
  exact ⟨by rw [ho.2.2]; exact a1, by rw [ho.2.2]; exact a2, (ho.1 104 7 (hW 7 (by omega) (by omega))).trans a3, (ho.1 104 8 (hW 8 (by omega) (by omega))).trans a4, (ho.1 104 9 (hW 9 (by omega) (by omega))).trans a5, (ho.1 104 10 (hW 10 (by omega) (by omega))).trans a6, a7⟩
/-- a round that finishes -/
theorem cr_fin1 (h : cr_h b lim D s m S) (h12 : S.1 104 12 = 0) (hD : 1 ≤ D) (hfr : fr < D) (hr : ∀ F, fn_Runner_work_82 (F + 1) (Int32.ofNat (2 * s - 1 - D)) S = wd_d (fn_Runner_finish v (wd_i S 108 D x)) (fn_Runner_work_82 F (Int32.ofNat (2 * s - 1 - D + 1)))) (hv : cv_e fr V S) : cr_O b lim (D - 1) fr (cw_W D fr) (.ok (v, V, s, m)) (2 * s - 1 - D) S S := by
  have o1 : of_f (fun a k => a = 108 ∧ k = D) S (wd_i S 108 D x) := of_i ⟨rfl, rfl⟩ of_refl
  have h1 := cr_h_o h o1 (fun k _ _ => by omega)
  obtain ⟨S2, f2, c2, v2, e2, o2⟩ := cr_fin (v := v) h1 (by rw [o1.1 104 12 (by omega)]; exact h12) hD
  have hs := h.2.2.2.2.2.2.2.2.2.2
  refine ⟨1, S2, fun F => ?_, ?_, c2, v2, e2, of_trans (of_mono (fun a k z => by unfold cw_W; omega) o1) (of_mono (fun a k z => by unfold cw_W; omega) o2), cv_o (of_trans (of_mono (fun a k z => Or.inl z) o1) (of_mono (fun a k z => Or.inr z) o2)) (fun k _ _ => by omega) hv⟩
  · rw [hr, f2, wd_d_s]
    show fn_Runner_work_82 F (Int32.ofNat (2 * s - 1 - D + 1)) S2 = fn_Runner_work_82 F (Int32.ofNat (2 * s - 1 - (D - 1))) S2
    rw [show 2 * s - 1 - D + 1 = 2 * s - 1 - (D - 1) by omega]
  · show 2 * s - 1 - D + 1 = 2 * s - 1 - (D - 1)
    omega
/-- a round that begins a part -/
theorem cr_sub1 (hS : cr_S b lim L D0 P r) (hDr : D + r = 160) (h : cr_h b lim D s m S) (hD : 1 ≤ D) (o2 : of_f W1 S S2) (hW1 : ∀ k, 7 ≤ k → k ≤ 12 → ¬W1 104 k) (h12 : S.1 104 12 = 0) (hr : ∀ F, fn_Runner_work_82 (F + 1) (Int32.ofNat (2 * s - 1 - D)) S = wd_d (fn_Runner_begin (Int32.ofNat z) (Int32.ofNat fr) S2) (fn_Runner_work_82 F (Int32.ofNat (2 * s - 1 - D + 1)))) (hfr : fr ≤ D) (hv : cv_e fr V S2) (hP : cg_P b L D0 P S2) (ht : nd_t (b + 1) S2 0 L d z t) (w1 : ∀ a k, W1 a k → W a k) (w2 : ∀ a k, cw_W (D + 1) fr a k → W a k) : cr_O b lim D fr W (ev P lim r V s m t) (2 * s - 1 - D) S S := by
  obtain ⟨S3, f3, c3⟩ := hS D fr V s m z t d S2 hDr (cr_h_o h o2 (fun k _ _ => hW1 k (by omega) (by omega))) (by rw [o2.1 104 12 (hW1 12 (by omega) (by omega))]; exact h12) hfr hv hP ht
  have hs := h.2.2.2.2.2.2.2.2.2.2
  have e : ∀ F, fn_Runner_work_82 (F + 1) (Int32.ofNat (2 * s - 1 - D)) S = fn_Runner_work_82 F (Int32.ofNat (2 * s - D)) S3 := fun F => by
    rw [hr, f3, wd_d_s, show 2 * s - 1 - D + 1 = 2 * s - D by omega]
  unfold cr_O at c3 ⊢
  split at c3
  · trivial
  · obtain ⟨g', j, S'', k1, k2, k3, k4, k5, k6, k7, k8⟩ := c3
    exact ⟨g' + 1, j, S'', fun F => by rw [← Nat.add_assoc, e, k1], by omega, k3, k4, k5, k6, k7, of_trans (of_mono w1 o2) (of_mono w2 k8)⟩
  · obtain ⟨g', S'', k1, k2, k3, k4, k5, k6, k7⟩ := c3
    exact ⟨g' + 1, S'', fun F => by rw [← Nat.add_assoc, e, k1], by omega, k3, k4, k5, of_trans (of_mono w1 o2) (of_mono w2 k6), k7⟩
/-- begun with room below -/
theorem cr_S_s (hI : ∀ (D fr : Nat) (V : ev_V) (s m y : Nat) (t : tr_T) (d : Nat) (S : wd_S), D + r = 160 → 1 ≤ D → cr_h b lim D s m S → S.1 104 12 = 0 → S.1 106 D = Int32.ofNat y → S.1 108 D = Int32.ofNat 0 → S.1 112 D = Int32.ofNat fr → fr < D → cv_e fr V S → cg_P b L D0 P S → nd_t (b + 1) S 0 L d y t → cr_O b lim (D - 1) fr (cw_W D fr) (ev_in P (ev P lim r) V s m t) (2 * s - 1 - D) S S) (hb : cb_ok b L M) : cr_S b lim L D0 P (r + 1) := by
  intro D fr V s m z t d S hD h h12 hfr hv hP ht
  obtain ⟨S1, f1, o1, c1⟩ := cr_beg (z := z) (fr := fr) h h12
  refine ⟨S1, f1, ?_⟩
  have hs := h.2.2.2.2.2.2.2.2.2.2
  have O1 : of_f (cw_W (D + 1) fr) S S1 := of_mono (fun a k z => by unfold cw_W; omega) o1
  show cr_O b lim D fr (cw_W (D + 1) fr) (if lim ≤ s then .error (some (2, s, m)) else ev_in P (ev P lim r) V (s + 1) (max m (160 - r)) t) (2 * s - D) S S1
  unfold cr_bg at c1
  by_cases q1 : lim ≤ s
  · rw [if_pos q1] at c1 ⊢
    exact ⟨0, 2 * s - D, S1, fun F => rfl, by show 2 * s - D + 0 ≤ 2 * s; omega, h.2.2.2.2.2.2.2.1, (show ¬(2 : Int32) = 0 by decide), c1.1, c1.2.1, c1.2.2, O1⟩
  · rw [if_neg q1, if_neg (by omega)] at c1
    rw [if_neg q1]
    obtain ⟨c1, c2, c3, c4, c5⟩ := c1
    have hi := hI (D + 1) fr V (s + 1) (max m (D + 1)) z t d S1 (by omega) (by omega) c1 c2 c3 c4 c5 (by omega) (cv_o o1 (fun k _ _ => by omega) hv) (cg_o hb o1 (fun a k h => by omega) hP) (ct_o hb o1 (fun a k h => by omega) ht)
    rw [show 160 - r = D + 1 by omega]
    rw [show D + 1 - 1 = D by omega, show 2 * (s + 1) - 1 - (D + 1) = 2 * s - D by omega] at hi
    unfold cr_O at hi ⊢
    split at hi
    · trivial
    · obtain ⟨g', j, S'', k1, k2, k3, k4, k5, k6, k7, k8⟩ := hi
      exact ⟨g', j, S'', k1, k2, k3, k4, k5, k6, k7, of_trans O1 k8⟩
    · obtain ⟨g', S'', k1, k2, k3, k4, k5, k6, k7⟩ := hi
      exact ⟨g', S'', k1, k2, k3, k4, k5, of_trans O1 k6, k7⟩
theorem cr_S_0 : cr_S b lim L D0 P 0 := by
  intro D fr V s m z t d S hD h h12 hfr hv hP ht
  obtain ⟨S1, f1, o1, c1⟩ := cr_beg (z := z) (fr := fr) h h12
  refine ⟨S1, f1, ?_⟩
  have O1 : of_f (cw_W (D + 1) fr) S S1 := of_mono (fun a k z => by unfold cw_W; omega) o1
  show cr_O b lim D fr (cw_W (D + 1) fr) (if lim ≤ s then .error (some (2, s, m)) else .error (some (3, s, m))) (2 * s - D) S S1
  unfold cr_bg at c1
  by_cases q1 : lim ≤ s
  · rw [if_pos q1] at c1 ⊢
    exact ⟨0, 2 * s - D, S1, fun F => rfl, by show 2 * s - D + 0 ≤ 2 * s; omega, h.2.2.2.2.2.2.2.1, (show ¬(2 : Int32) = 0 by decide), c1.1, c1.2.1, c1.2.2, O1⟩
  · rw [if_neg q1, if_pos (by omega)] at c1
    rw [if_neg q1]
    exact ⟨0, 2 * s - D, S1, fun F => rfl, by show 2 * s - D + 0 ≤ 2 * s; omega, h.2.2.2.2.2.2.2.1, (show ¬(3 : Int32) = 0 by decide), c1.1, c1.2.1, c1.2.2, O1⟩
end Cr2
