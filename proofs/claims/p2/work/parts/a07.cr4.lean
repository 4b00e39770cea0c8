/-! The class's runner: an EXPRESSION that is begun comes to what it should. -/
section Cr4
variable {b L M D0 lim D s m y z fr d g i D' τ r n j : Nat} {P : List tr_T} {S S' S0 S1 S2 : wd_S} {V V' : ev_V} {t : tr_T} {v x : Int32}
/-- what a round finds -/
def cz_h (b lim L M D0 D fr s m y τ d : Nat) (P : List tr_T) (V : ev_V) (t : tr_T) (S : wd_S) : Prop := cb_ok b L M ∧ cr_h b lim D s m S ∧ S.1 104 12 = 0 ∧ 1 ≤ D ∧ S.1 106 D = Int32.ofNat y ∧ S.1 108 D = Int32.ofNat τ ∧ S.1 112 D = Int32.ofNat fr ∧ fr < D ∧ cv_e fr V S ∧ cg_P b L D0 P S ∧ nd_t (b + 1) S 0 L d y t
theorem cz_k (h : cz_h b lim L M D0 D fr s m y τ d P V t S) (x : Int32) : ck_h b L M D fr y (wd_i S 108 D x) := by
  obtain ⟨hb, h, -, -, -, -, h6, h7, -, -, h10⟩ := h
  cases d with
  | zero => exact absurd h10 id
  | succ d =>
    obtain ⟨a1, a2, a3, a4, a5, a6, a7, a8, a9, a10, a11⟩ := h
    exact ⟨hb, by rw [fr_i2]; exact a1, by rw [fr_i2]; exact a2, by rw [fr_ne (by omega)]; exact a4, by omega, by rw [fr_ne (by omega)]; exact h6, by omega, h10.2.1⟩
theorem cz_t (h : cz_h b lim L M D0 D fr s m y τ (d + 1) P V t S) (x : Int32) : (wd_i S 108 D x).1 (b + 3) y = tr_k t ∧ (wd_i S 108 D x).1 (b + 5) y = tr_v t ∧ (wd_i S 108 D x).1 (b + 7) y = Int32.ofNat (tr_a t) ∧ ∀ j, j < 4 → j < tr_a t → ∃ z, (wd_i S 108 D x).1 (b + 9) (4 * y + j) = Int32.ofNat z ∧ nd_t (b + 1) (wd_i S 108 D x) 0 L d z (tr_sub t j) := by
  obtain ⟨hb, -, -, -, -, -, -, -, -, -, h10⟩ := h
  have hb1 := hb.1
  obtain ⟨-, -, t2, t4, t6, t8⟩ := h10
  refine ⟨by rw [fr_ne (by omega)]; exact t2, by rw [fr_ne (by omega)]; exact t4, by rw [fr_ne (by omega)]; exact t6, fun j h1 h2 => ?_⟩
  obtain ⟨z, k1, k2⟩ := t8 j h1 h2
  have o1 : of_f (fun a k => a = 108 ∧ k = D) S (wd_i S 108 D x) := of_i ⟨rfl, rfl⟩ of_refl
  exact ⟨z, by rw [fr_ne (by omega)]; exact k1, ct_o hb o1 (fun a k h => by omega) k2⟩
theorem cz_round (h : cz_h b lim L M D0 D fr s m y τ (d + 1) P V t S) (F : Nat) : fn_Runner_work_82 (F + 1) (Int32.ofNat (2 * s - 1 - D)) S = wd_d (if tr_k t = 1 then fn_Runner_finish (tr_v t) (wd_i S 108 D (Int32.ofNat (τ + 1))) else if tr_k t = 2 then fn_Runner_finish (ro_at 113 (Int32.ofNat fr * 16 + tr_v t) S) (wd_i S 108 D (Int32.ofNat (τ + 1))) else if tr_k t = 3 then fn_Runner_goOnLet (Int32.ofNat y) (Int32.ofNat τ) (wd_i S 108 D (Int32.ofNat (τ + 1))) else if tr_k t = 4 then fn_Runner_goOnIf (Int32.ofNat y) (Int32.ofNat τ) (wd_i S 108 D (Int32.ofNat (τ + 1))) else if tr_k t = 5 then fn_Runner_goOnCall (Int32.ofNat y) (Int32.ofNat τ) (wd_i S 108 D (Int32.ofNat (τ + 1))) else fn_Runner_goOnSign (Int32.ofNat y) (Int32.ofNat τ) (wd_i S 108 D (Int32.ofNat (τ + 1)))) (fn_Runner_work_82 F (Int32.ofNat (2 * s - 1 - D + 1))) := by
  obtain ⟨hb, h1, h2, h3, h4, h5, h6, h7, h8, h9, h10⟩ := h
  obtain ⟨-, k1, t2, t4, t6, t8⟩ := h10
  have e := cr_round hb h1 h2 h3 h4 h5 k1 F
  have t2 : S.1 (b + 3) y = tr_k t := t2
  have t4 : S.1 (b + 5) y = tr_v t := t4
  rw [t2, t4, h6] at e
  exact e
/-- after a part: the next round's state -/
theorem cz_next {W : Nat → Nat → Prop} {q : ev_O} (h : cz_h b lim L M D0 D fr s m y τ d P V t S) (hr : cr_h b lim D q.2.2.1 q.2.2.2 S') (h12 : S'.1 104 12 = if D = 0 then 1 else 0) (ho : of_f W S S') (hW : ∀ a k, a ≤ 103 → ¬W a k) (hW1 : ¬W 106 D ∧ ¬W 112 D) (hτ : S'.1 108 D = Int32.ofNat (τ + 1)) (hv : cv_e fr V' S') : cz_h b lim L M D0 D fr q.2.2.1 q.2.2.2 y (τ + 1) d P V' t S' := by
  obtain ⟨hb, h1, h2, h3, h4, h5, h6, h7, h8, h9, h10⟩ := h
  exact ⟨hb, hr, by rw [h12, if_neg (by omega)], h3, (ho.1 106 D hW1.1).trans h4, hτ, (ho.1 112 D hW1.2).trans h6, h7, hv, cg_o hb ho hW h9, ct_o hb ho hW h10⟩
/-- a round of τ that begins a part in the same frame, nothing put away but what W tells -/
theorem cz_sub {W1 : Nat → Nat → Prop} (hS : cr_S b lim L D0 P r) (hDr : D + r = 160) (h : cz_h b lim L M D0 D fr s m y τ (d + 1) P V t S) (o2 : of_f (fun a k => (a = 108 ∧ k = D) ∨ W1 a k) S S2) (hW1 : ∀ a k, W1 a k → (a = 110 ∧ k = D) ∨ a = 114 ∧ ((16 * fr ≤ k ∧ k < 16 * fr + 16) ∨ 16 * D ≤ k)) (hτ : S2.1 108 D = Int32.ofNat (τ + 1)) (hr : ∀ F, fn_Runner_work_82 (F + 1) (Int32.ofNat (2 * s - 1 - D)) S = wd_d (fn_Runner_begin (Int32.ofNat z) (Int32.ofNat fr) S2) (fn_Runner_work_82 F (Int32.ofNat (2 * s - 1 - D + 1)))) (hv : cv_e fr V' S2) {u : tr_T} {e : Nat} (hu : nd_t (b + 1) S 0 L e z u) {D' : Nat} {f : ev_O → Except ev_E ev_O} (hf : ∀ (q : ev_O) (S' : wd_S), cz_h b lim L M D0 D fr q.2.2.1 q.2.2.2 y (τ + 1) (d + 1) P q.2.1 t S' → S'.1 104 11 = q.1 → of_f (cw_W (D + 1) fr) S2 S' → cr_O b lim D' fr (cw_W D fr) (f q) (2 * q.2.2.1 - 1 - D) S' S') : cr_O b lim D' fr (cw_W D fr) (ev_b (ev P lim r V' s m u) f) (2 * s - 1 - D) S S := by
  obtain ⟨hb, h1, h2, h3, h4, h5, h6, h7, h8, h9, h10⟩ := h
  have hW103 : ∀ a k, a ≤ 103 → ¬((a = 108 ∧ k = D) ∨ W1 a k) := fun a k hk hz => by
    rcases hz with z | z
    · omega
    · have := hW1 a k z; omega
  have hDs := h1.2.2.2.2.2.2.2.2.2.2
  obtain ⟨S3, f3, c3⟩ := hS D fr V' s m z u e S2 hDr (cr_h_o h1 o2 (fun k _ _ hz => by rcases hz with z | z; omega; have := hW1 _ k z; omega)) (by rw [o2.1 104 12 (fun hz => by rcases hz with z | z; omega; have := hW1 _ _ z; omega)]; exact h2) (by omega) hv (cg_o hb o2 hW103 h9) (ct_o hb o2 hW103 hu)
  have e1 : ∀ F, fn_Runner_work_82 (F + 1) (Int32.ofNat (2 * s - 1 - D)) S = fn_Runner_work_82 F (Int32.ofNat (2 * s - D)) S3 := fun F => by
    rw [hr, f3, wd_d_s, show 2 * s - 1 - D + 1 = 2 * s - D by omega]
  have O2 : of_f (cw_W D fr) S S2 := of_mono (fun a k hz => by
    unfold cw_W
    rcases hz with z | z
    · omega
    · have := hW1 a k z; omega) o2
  have c4 := cr_bind (W := cw_W D fr) (W1 := cw_W (D + 1) fr) (W2 := cw_W D fr) (f := f) (D' := D') (fr' := fr) c3 (fun q S' k1 k2 k3 k4 k5 => by
    have oo : of_f (fun a k => ((a = 108 ∧ k = D) ∨ W1 a k) ∨ cw_W (D + 1) fr a k) S S' := of_trans (of_mono (fun a k z => Or.inl z) o2) (of_mono (fun a k z => Or.inr z) k4)
    refine hf q S' (cz_next ⟨hb, h1, h2, h3, h4, h5, h6, h7, h8, h9, h10⟩ k1 k3 oo (fun a k hk hz => ?_) ⟨fun hz => ?_, fun hz => ?_⟩ ?_ k5) k2 k4
    · rcases hz with z | z
      · exact hW103 a k hk z
      · exact cw_103 a k hk z
    · rcases hz with (z | z) | z
      · omega
      · have := hW1 _ _ z; omega
      · unfold cw_W at z; omega
    · rcases hz with (z | z) | z
      · omega
      · have := hW1 _ _ z; omega
      · unfold cw_W at z; omega
    · rw [k4.1 108 D (by unfold cw_W; omega)]; exact hτ) (cw_le (by omega) (Or.inl rfl)) (fun _ _ z => z)
  unfold cr_O at c4 ⊢
  split at c4
  · trivial
  · obtain ⟨g', j, S'', k1, k2, k3, k4, k5, k6, k7, k8⟩ := c4
    exact ⟨g' + 1, j, S'', fun F => by rw [← Nat.add_assoc, e1, k1], by omega, k3, k4, k5, k6, k7, of_trans O2 k8⟩
  · obtain ⟨g', S'', k1, k2, k3, k4, k5, k6, k7⟩ := c4
    exact ⟨g' + 1, S'', fun F => by rw [← Nat.add_assoc, e1, k1], by omega, k3, k4, k5, of_trans O2 k6, k7⟩
theorem ev_b_r (x : Except ev_E ev_O) : ev_b x (fun q => .ok q) = x := by cases x <;> rfl
theorem cz_fin (h : cz_h b lim L M D0 D fr s m y τ (d + 1) P V t S) (hr : ∀ F, fn_Runner_work_82 (F + 1) (Int32.ofNat (2 * s - 1 - D)) S = wd_d (fn_Runner_finish v (wd_i S 108 D x)) (fn_Runner_work_82 F (Int32.ofNat (2 * s - 1 - D + 1)))) : cr_O b lim (D - 1) fr (cw_W D fr) (.ok (v, V, s, m)) (2 * s - 1 - D) S S := by
  obtain ⟨hb, h1, h2, h3, h4, h5, h6, h7, h8, h9, h10⟩ := h
  exact cr_fin1 h1 h2 h3 h7 hr h8
theorem cz_leaf1 (h : cz_h b lim L M D0 D fr s m y 0 (d + 1) P V t S) (hk : tr_k t = 1) : cr_O b lim (D - 1) fr (cw_W D fr) (.ok (tr_v t, V, s, m)) (2 * s - 1 - D) S S := cz_fin h (fun F => by rw [cz_round h, if_pos hk])
theorem cz_leaf2 (h : cz_h b lim L M D0 D fr s m y 0 (d + 1) P V t S) (hk : tr_k t = 2) (hn : tr_v t = Int32.ofNat (tr_n t)) (hv : V (tr_n t) = some v) : cr_O b lim (D - 1) fr (cw_W D fr) (.ok (v, V, s, m)) (2 * s - 1 - D) S S := cz_fin (x := Int32.ofNat 1) h (fun F => by
  obtain ⟨hb, h1, h2, h3, h4, h5, h6, h7, h8, h9, h10⟩ := id h
  obtain ⟨c1, c2⟩ := h8 _ _ hv
  have hD := h1.2.2.2.2.2.2.2.2.2.1
  rw [cz_round h, if_neg (by rw [hk]; decide), if_pos hk, hn, show Int32.ofNat fr * 16 + Int32.ofNat (tr_n t) = Int32.ofNat (16 * fr + tr_n t) by rw [show (16 : Int32) = Int32.ofNat 16 from rfl, im_ma, Nat.mul_comm], ro_an cr_114 (show 16 * fr + tr_n t < 2576 by omega)]
  show wd_d (fn_Runner_finish (S.1 114 (16 * fr + tr_n t)) _) _ = _
  rw [c2])
theorem cz_108 (S : wd_S) (D : Nat) (x : Int32) : of_f (fun a k => (a = 108 ∧ k = D) ∨ False) S (wd_i S 108 D x) := of_i (Or.inl ⟨rfl, rfl⟩) of_refl
theorem cz_v (h : cz_h b lim L M D0 D fr s m y τ (d + 1) P V t S) (x : Int32) : cv_e fr V (wd_i S 108 D x) := cv_o (cz_108 S D x) (fun k _ _ hz => by rcases hz with z | z; omega; exact z) h.2.2.2.2.2.2.2.2.1
theorem cz_sub0 (h : cz_h b lim L M D0 D fr s m y τ (d + 1) P V t S) (hj : j < 4) (hja : j < tr_a t) : ∃ z, (∀ x, (wd_i S 108 D x).1 (b + 9) (4 * y + j) = Int32.ofNat z) ∧ nd_t (b + 1) S 0 L d z (tr_sub t j) := by
  have hb1 := h.1.1
  obtain ⟨-, -, -, -, -, -, -, -, -, -, -, -, t2, t4, t6, t8⟩ := h
  obtain ⟨z, k1, k2⟩ := t8 j hj hja
  exact ⟨z, fun x => by rw [fr_ne (by omega)]; exact k1, k2⟩
theorem cz_let (hS : cr_S b lim L D0 P r) (hDr : D + r = 160) (h : cz_h b lim L M D0 D fr s m y 0 (d + 1) P V t S) (hk : tr_k t = 3) (hn : tr_v t = Int32.ofNat (tr_n t)) (hn2 : tr_n t < 16) (ha : tr_a t = 2) : cr_O b lim (D - 1) fr (cw_W D fr) (ev_b (ev P lim r V s m (tr_sub t 0)) fun q => ev P lim r (ev_u q.2.1 (tr_n t) q.1) q.2.2.1 q.2.2.2 (tr_sub t 1)) (2 * s - 1 - D) S S := by
  obtain ⟨z0, k1, k2⟩ := cz_sub0 (j := 0) h (by decide) (by omega)
  refine cz_sub (z := z0) hS hDr h (W1 := fun _ _ => False) (cz_108 S D (Int32.ofNat (0 + 1))) (fun _ _ z => z.elim) fr_eq (fun F => ?_) (cz_v h _) k2 (fun q S' h' e11 _ => ?_)
  · rw [cz_round h, if_neg (by rw [hk]; decide), if_neg (by rw [hk]; decide), if_pos hk, cl_0 (cz_k h _) (k1 _)]
  · obtain ⟨z1, l1, l2⟩ := cz_sub0 (j := 1) h' (by decide) (by omega)
    rw [← ev_b_r (ev P lim r (ev_u q.2.1 (tr_n t) q.1) q.2.2.1 q.2.2.2 (tr_sub t 1))]
    have e11' : (wd_i S' 108 D (Int32.ofNat (1 + 1))).1 104 11 = q.1 := by rw [fr_ne (by omega)]; exact e11
    have tt := cz_t h' (Int32.ofNat (1 + 1))
    refine cz_sub (z := z1) hS hDr h' (W1 := fun a k => a = 114 ∧ k = 16 * fr + tr_n t) (S2 := wd_i (wd_i S' 108 D (Int32.ofNat (1 + 1))) 114 (16 * fr + tr_n t) q.1) (of_i (Or.inr ⟨rfl, rfl⟩) (of_i (Or.inl ⟨rfl, rfl⟩) of_refl)) (fun a k z => Or.inr ⟨z.1, by omega⟩) (by rw [fr_ne (by omega), fr_eq]) (fun F => ?_) (fun i v hi => ?_) l2 (fun q2 S'' h'' e12 _ => ?_)
    · rw [cz_round h', if_neg (by rw [hk]; decide), if_neg (by rw [hk]; decide), if_pos hk, cl_1 (n := tr_n t) (cz_k h' _) (by rw [tt.2.1, hn]) hn2 (l1 _), e11']
    · unfold ev_u at hi
      by_cases c : i = tr_n t
      · rw [if_pos c] at hi
        cases hi
        rw [c]
        exact ⟨hn2, fr_eq⟩
      · rw [if_neg c] at hi
        obtain ⟨u1, u2⟩ := h'.2.2.2.2.2.2.2.2.1 i v hi
        exact ⟨u1, by rw [fr_ne (by omega), fr_ne (by omega)]; exact u2⟩
    · have := cz_fin (x := Int32.ofNat (2 + 1)) h'' (v := q2.1) (fun F => by
        rw [cz_round h'', if_neg (by rw [hk]; decide), if_neg (by rw [hk]; decide), if_pos hk, cl_2, fr_ne (by omega), e12])
      exact this
theorem cz_if (hS : cr_S b lim L D0 P r) (hDr : D + r = 160) (h : cz_h b lim L M D0 D fr s m y 0 (d + 1) P V t S) (hk : tr_k t = 4) (ha : tr_a t = 3) : cr_O b lim (D - 1) fr (cw_W D fr) (ev_b (ev P lim r V s m (tr_sub t 0)) fun q => ev P lim r q.2.1 q.2.2.1 q.2.2.2 (tr_sub t (if q.1 = 0 then 2 else 1))) (2 * s - 1 - D) S S := by
  obtain ⟨z0, k1, k2⟩ := cz_sub0 (j := 0) h (by decide) (by omega)
  refine cz_sub (z := z0) hS hDr h (W1 := fun _ _ => False) (cz_108 S D (Int32.ofNat (0 + 1))) (fun _ _ z => z.elim) fr_eq (fun F => ?_) (cz_v h _) k2 (fun q S' h' e11 _ => ?_)
  · rw [cz_round h, if_neg (by rw [hk]; decide), if_neg (by rw [hk]; decide), if_neg (by rw [hk]; decide), if_pos hk, ci_0 (cz_k h _) (k1 _)]
  · obtain ⟨z1, l1, l2⟩ := cz_sub0 (j := if q.1 = 0 then 2 else 1) h' (by split <;> decide) (by split <;> omega)
    rw [← ev_b_r (ev P lim r q.2.1 q.2.2.1 q.2.2.2 (tr_sub t (if q.1 = 0 then 2 else 1)))]
    have e11' : (wd_i S' 108 D (Int32.ofNat (1 + 1))).1 104 11 = q.1 := by rw [fr_ne (by omega)]; exact e11
    refine cz_sub (z := z1) hS hDr h' (W1 := fun _ _ => False) (cz_108 S' D (Int32.ofNat (1 + 1))) (fun _ _ z => z.elim) fr_eq (fun F => ?_) (cz_v h' _) l2 (fun q2 S'' h'' e12 _ => ?_)
    · rw [cz_round h', if_neg (by rw [hk]; decide), if_neg (by rw [hk]; decide), if_neg (by rw [hk]; decide), if_pos hk, ci_1 (cz_k h' _) (by rw [e11']; exact l1 _)]
    · have := cz_fin (x := Int32.ofNat (2 + 1)) h'' (v := q2.1) (fun F => by
        rw [cz_round h'', if_neg (by rw [hk]; decide), if_neg (by rw [hk]; decide), if_neg (by rw [hk]; decide), if_pos hk, ci_2, fr_ne (by omega), e12])
      exact this
theorem cz_sign (hS : cr_S b lim L D0 P r) (hDr : D + r = 160) (h : cz_h b lim L M D0 D fr s m y 0 (d + 1) P V t S) (hk : tr_k t = 6 ∨ tr_k t = 7 ∨ tr_k t = 8 ∨ tr_k t = 9 ∨ tr_k t = 10) (ha : tr_a t = 2) : cr_O b lim (D - 1) fr (cw_W D fr) (ev_b (ev P lim r V s m (tr_sub t 0)) fun q => ev_b (ev P lim r q.2.1 q.2.2.1 q.2.2.2 (tr_sub t 1)) fun w => .ok (ev_sg (tr_k t) q.1 w.1, w.2)) (2 * s - 1 - D) S S := by
  have n1 : ¬tr_k t = 1 := fun q => by rw [q] at hk; exact absurd hk (by decide)
  have n2 : ¬tr_k t = 2 := fun q => by rw [q] at hk; exact absurd hk (by decide)
  have n3 : ¬tr_k t = 3 := fun q => by rw [q] at hk; exact absurd hk (by decide)
  have n4 : ¬tr_k t = 4 := fun q => by rw [q] at hk; exact absurd hk (by decide)
  have n5 : ¬tr_k t = 5 := fun q => by rw [q] at hk; exact absurd hk (by decide)
  obtain ⟨z0, k1, k2⟩ := cz_sub0 (j := 0) h (by decide) (by omega)
  refine cz_sub (z := z0) hS hDr h (W1 := fun _ _ => False) (cz_108 S D (Int32.ofNat (0 + 1))) (fun _ _ z => z.elim) fr_eq (fun F => ?_) (cz_v h _) k2 (fun q S' h' e11 _ => ?_)
  · rw [cz_round h, if_neg n1, if_neg n2, if_neg n3, if_neg n4, if_neg n5, cs_0 (cz_k h _) (k1 _)]
  · obtain ⟨z1, l1, l2⟩ := cz_sub0 (j := 1) h' (by decide) (by omega)
    have e11' : (wd_i S' 108 D (Int32.ofNat (1 + 1))).1 104 11 = q.1 := by rw [fr_ne (by omega)]; exact e11
    refine cz_sub (z := z1) hS hDr h' (W1 := fun a k => a = 110 ∧ k = D) (S2 := wd_i (wd_i S' 108 D (Int32.ofNat (1 + 1))) 110 D q.1) (of_i (Or.inr ⟨rfl, rfl⟩) (of_i (Or.inl ⟨rfl, rfl⟩) of_refl)) (fun a k z => Or.inl z) (by rw [fr_ne (by omega), fr_eq]) (fun F => ?_) (cv_o (of_i (W := fun a k => a = 110 ∧ k = D) ⟨rfl, rfl⟩ of_refl) (fun k _ _ => by omega) (cz_v h' _)) l2 (fun q2 S'' h'' e12 o'' => ?_)
    · rw [cz_round h', if_neg n1, if_neg n2, if_neg n3, if_neg n4, if_neg n5, cs_1 (cz_k h' _) (l1 _), e11']
    · have tt := cz_t h'' (Int32.ofNat (2 + 1))
      have e110 : (wd_i S'' 108 D (Int32.ofNat (2 + 1))).1 110 D = q.1 := by rw [fr_ne (by omega), o''.1 110 D (by unfold cw_W; omega), fr_eq]
      have := cz_fin (x := Int32.ofNat (2 + 1)) h'' (v := ev_sg (tr_k t) q.1 q2.1) (fun F => by
        rw [cz_round h'', if_neg n1, if_neg n2, if_neg n3, if_neg n4, if_neg n5, cs_2 (cz_k h'' _), tt.1, e110, fr_ne (by omega), e12])
      exact this
end Cr4
