/-! The class's runner: calls; a whole run. -/
section Cr5
variable {b L M D0 lim D s m y z fr d g i D' τ r n j : Nat} {P : List tr_T} {S S' S0 S1 S2 : wd_S} {V V' : ev_V} {t : tr_T} {v x : Int32}
/-- what is put away so far -/
def cy_l (D : Nat) (l : List Int32) (S : wd_S) : Prop := ∀ i, i + 1 < l.length → (hi : i < l.length) → S.1 114 (16 * D + i) = l[i]
theorem cy_p {l : List Int32} (h : cy_l D l S) (hl : l.length = τ) (h11 : ∀ hi : τ - 1 < l.length, S.1 104 11 = l[τ - 1]) : ∀ i, (hi : i < l.length) → (cc_p D τ S).1 114 (16 * D + i) = l[i] := by
  intro i hi
  unfold cc_p
  rw [if_neg (by omega)]
  by_cases c : i = τ - 1
  · subst c
    rw [fr_eq]
    exact h11 hi
  · rw [fr_ne (by omega)]
    exact h i (by omega) hi
/-- a round that begins a body: frame D -/
theorem cz_subD (hS : cr_S b lim L D0 P r) (hDr : D + r = 160) (h : cz_h b lim L M D0 D fr s m y τ (d + 1) P V t S) (o2 : of_f (fun a k => (a = 108 ∧ k = D) ∨ (a = 114 ∧ 16 * D ≤ k)) S S2) (hτ : S2.1 108 D = Int32.ofNat (τ + 1)) (hr : ∀ F, fn_Runner_work_82 (F + 1) (Int32.ofNat (2 * s - 1 - D)) S = wd_d (fn_Runner_begin (Int32.ofNat z) (Int32.ofNat D) S2) (fn_Runner_work_82 F (Int32.ofNat (2 * s - 1 - D + 1)))) (hv : cv_e D V' S2) {u : tr_T} {e : Nat} (hu : nd_t (b + 1) S 0 L e z u) {D' : Nat} {f : ev_O → Except ev_E ev_O} (hf : ∀ (q : ev_O) (S' : wd_S), cz_h b lim L M D0 D fr q.2.2.1 q.2.2.2 y (τ + 1) (d + 1) P V t S' → S'.1 104 11 = q.1 → cr_O b lim D' fr (cw_W D fr) (f q) (2 * q.2.2.1 - 1 - D) S' S') : cr_O b lim D' fr (cw_W D fr) (ev_b (ev P lim r V' s m u) f) (2 * s - 1 - D) S S := by
  obtain ⟨hb, h1, h2, h3, h4, h5, h6, h7, h8, h9, h10⟩ := h
  have hDs := h1.2.2.2.2.2.2.2.2.2.2
  obtain ⟨S3, f3, c3⟩ := hS D D V' s m z u e S2 hDr (cr_h_o h1 o2 (fun k _ _ => by omega)) (by rw [o2.1 104 12 (by omega)]; exact h2) (Nat.le_refl _) hv (cg_o hb o2 (fun a k h => by omega) h9) (ct_o hb o2 (fun a k h => by omega) hu)
  have e1 : ∀ F, fn_Runner_work_82 (F + 1) (Int32.ofNat (2 * s - 1 - D)) S = fn_Runner_work_82 F (Int32.ofNat (2 * s - D)) S3 := fun F => by
    rw [hr, f3, wd_d_s, show 2 * s - 1 - D + 1 = 2 * s - D by omega]
  have O2 : of_f (cw_W D fr) S S2 := of_mono (fun a k hz => by unfold cw_W; omega) o2
  have c4 := cr_bind (W := cw_W D fr) (W1 := cw_W (D + 1) D) (W2 := cw_W D fr) (f := f) (D' := D') (fr' := fr) c3 (fun q S' k1 k2 k3 k4 k5 => by
    have oo : of_f (fun a k => ((a = 108 ∧ k = D) ∨ (a = 114 ∧ 16 * D ≤ k)) ∨ cw_W (D + 1) D a k) S S' := of_trans (of_mono (fun a k z => Or.inl z) o2) (of_mono (fun a k z => Or.inr z) k4)
    refine hf q S' (cz_next ⟨hb, h1, h2, h3, h4, h5, h6, h7, h8, h9, h10⟩ k1 k3 oo (fun a k hk => ?_) ⟨?_, ?_⟩ ?_ (cv_o oo (fun k _ _ => ?_) h8)) k2
    · unfold cw_W; omega
    · unfold cw_W; omega
    · unfold cw_W; omega
    · rw [k4.1 108 D (by unfold cw_W; omega)]; exact hτ
    · unfold cw_W; omega) (fun a k z => by unfold cw_W at z ⊢; omega) (fun _ _ z => z)
  unfold cr_O at c4 ⊢
  split at c4
  · trivial
  · obtain ⟨g', j, S'', k1, k2, k3, k4, k5, k6, k7, k8⟩ := c4
    exact ⟨g' + 1, j, S'', fun F => by rw [← Nat.add_assoc, e1, k1], by omega, k3, k4, k5, k6, k7, of_trans O2 k8⟩
  · obtain ⟨g', S'', k1, k2, k3, k4, k5, k6, k7⟩ := c4
    exact ⟨g' + 1, S'', fun F => by rw [← Nat.add_assoc, e1, k1], by omega, k3, k4, k5, of_trans O2 k6, k7⟩
theorem cz_call (hS : cr_S b lim L D0 P r) (hDr : D + r = 160) (hM : P.length ≤ M) (hk : tr_k t = 5) (ha : tr_a t ≤ 4) (hn : tr_v t = Int32.ofNat (tr_n t)) (hn2 : tr_n t < P.length) : ∀ (r' j : Nat) (l : List Int32) (V : ev_V) (s m : Nat) (S : wd_S), r' + j = tr_a t → l.length = j → cz_h b lim L M D0 D fr s m y j (d + 1) P V t S → cy_l D l S → (∀ hi : j - 1 < l.length, S.1 104 11 = l[j - 1]) → cr_O b lim (D - 1) fr (cw_W D fr) (ev_b (ev_args (ev P lim r) t r' j V s m) fun q => ev_b (ev P lim r (ev_l (l ++ q.1)) q.2.2.1 q.2.2.2 (P.getD (tr_n t) tr_z)) fun w => .ok (w.1, q.2.1, w.2.2)) (2 * s - 1 - D) S S := by
  have n1 : ¬tr_k t = 1 := by rw [hk]; decide
  have n2 : ¬tr_k t = 2 := by rw [hk]; decide
  have n3 : ¬tr_k t = 3 := by rw [hk]; decide
  have n4 : ¬tr_k t = 4 := by rw [hk]; decide
  have hget : P.getD (tr_n t) tr_z = P[tr_n t] := by rw [List.getD_eq_getElem?_getD, List.getElem?_eq_getElem hn2]; rfl
  intro r'
  induction r' with
  | zero =>
    intro j l V s m S hj hl h hy h11
    have hja : j = tr_a t := by omega
    show cr_O b lim (D - 1) fr (cw_W D fr) (ev_b (ev P lim r (ev_l (l ++ [])) s m (P.getD (tr_n t) tr_z)) fun w => .ok (w.1, V, w.2.2)) (2 * s - 1 - D) S S
    rw [List.append_nil, hget]
    obtain ⟨hb, h1, h2, h3, h4, h5, h6, h7, h8, h9, h10⟩ := id h
    have hb1 := hb.1
    obtain ⟨z, p1, p2⟩ := h9 (tr_n t) hn2
    have tt := cz_t h (Int32.ofNat (j + 1))
    have o27 : of_f (fun a k => a = 108 ∧ k = D) S (wd_i S 108 D (Int32.ofNat (j + 1))) := of_i ⟨rfl, rfl⟩ of_refl
    generalize hS27 : wd_i S 108 D (Int32.ofNat (j + 1)) = S27 at tt o27
    have hτ : S27.1 108 D = Int32.ofNat (j + 1) := by rw [← hS27, fr_eq]
    have hround : ∀ F, fn_Runner_work_82 (F + 1) (Int32.ofNat (2 * s - 1 - D)) S = wd_d (fn_Runner_begin (Int32.ofNat z) (Int32.ofNat D) (cc_p D j S27)) (fn_Runner_work_82 F (Int32.ofNat (2 * s - 1 - D + 1))) := fun F => by
      have hck := cz_k h (Int32.ofNat (j + 1))
      rw [cz_round h, if_neg n1, if_neg n2, if_neg n3, if_neg n4, if_pos hk, hS27]
      rw [hS27] at hck
      have e := cc_body (n := tr_n t) (z := z) hck tt.2.2.1 ha (by rw [tt.2.1, hn]) (by omega) (by rw [o27.1 (b + 15) _ (by omega)]; exact p1)
      rw [hja, e]
    have ho : of_f (fun a k => (a = 108 ∧ k = D) ∨ (a = 114 ∧ 16 * D ≤ k ∧ k < 16 * D + j)) S (cc_p D j S27) := of_trans (of_mono (fun a k z => Or.inl z) o27) (of_mono (fun a k z => Or.inr z) cc_o)
    have hyl := cy_p (D := D) (τ := j) (S := S27) (l := l) (fun i i1 i2 => by rw [o27.1 114 _ (by omega)]; exact hy i i1 i2) hl (fun hi => by rw [o27.1 104 11 (by omega)]; exact h11 hi)
    refine cz_subD (z := z) hS hDr h (of_mono (fun a k z => by omega) ho) (by rw [cc_o.1 108 D (by omega)]; exact hτ) hround (fun i v hi => ?_) p2 (fun q S' h' e11 => ?_)
    · unfold ev_l at hi
      obtain ⟨q1, q2⟩ := List.getElem?_eq_some_iff.mp hi
      exact ⟨by omega, by rw [hyl i q1, q2]⟩
    · have tt' := cz_t h' (Int32.ofNat (j + 1 + 1))
      have := cz_fin (x := Int32.ofNat (j + 1 + 1)) h' (v := q.1) (fun F => by
        have e := cc_end (cz_k h' (Int32.ofNat (j + 1 + 1))) tt'.2.2.1 ha
        rw [← hja] at e
        rw [cz_round h', if_neg n1, if_neg n2, if_neg n3, if_neg n4, if_pos hk, e, fr_ne (by omega), e11])
      exact this
  | succ r' ih =>
    intro j l V s m S hj hl h hy h11
    have hlen : j < tr_a t := by omega
    show cr_O b lim (D - 1) fr (cw_W D fr) (ev_b (ev_b (ev P lim r V s m (tr_sub t j)) fun q => ev_b (ev_args (ev P lim r) t r' (j + 1) q.2.1 q.2.2.1 q.2.2.2) fun w => .ok (q.1 :: w.1, w.2)) _) (2 * s - 1 - D) S S
    rw [ev_b_a]
    obtain ⟨z, k1, k2⟩ := cz_sub0 (j := j) h (by omega) hlen
    have tt := cz_t h (Int32.ofNat (j + 1))
    have o27 : of_f (fun a k => a = 108 ∧ k = D) S (wd_i S 108 D (Int32.ofNat (j + 1))) := of_i ⟨rfl, rfl⟩ of_refl
    have hck := cz_k h (Int32.ofNat (j + 1))
    have k1 := k1 (Int32.ofNat (j + 1))
    have hrd : ∀ F, _ := fun F => cz_round h F
    generalize hS27 : wd_i S 108 D (Int32.ofNat (j + 1)) = S27 at tt o27 hck k1 hrd
    have hτ : S27.1 108 D = Int32.ofNat (j + 1) := by rw [← hS27, fr_eq]
    have hyl := cy_p (D := D) (τ := j) (S := S27) (l := l) (fun i i1 i2 => by rw [o27.1 114 _ (by omega)]; exact hy i i1 i2) hl (fun hi => by rw [o27.1 104 11 (by omega)]; exact h11 hi)
    have h7 := h.2.2.2.2.2.2.2.1
    refine cz_sub (z := z) hS hDr h (W1 := fun a k => a = 114 ∧ 16 * D ≤ k ∧ k < 16 * D + j) (S2 := cc_p D j S27) (of_trans (of_mono (fun a k z => Or.inl z) o27) (of_mono (fun a k z => Or.inr z) cc_o)) (fun a k z => Or.inr ⟨z.1, Or.inr z.2.1⟩) (by rw [cc_o.1 108 D (by omega)]; exact hτ) (fun F => ?_) (cv_o (of_trans (of_mono (fun a k z => Or.inl z) o27) (of_mono (fun a k z => Or.inr z) cc_o)) (fun k _ _ => by omega) h.2.2.2.2.2.2.2.2.1) k2 (fun q S' h' e11 o' => ?_)
    · rw [hrd, if_neg n1, if_neg n2, if_neg n3, if_neg n4, if_pos hk, cc_arg hck tt.2.2.1 ha hlen k1]
    · have e : (ev_b (ev_b (ev_args (ev P lim r) t r' (j + 1) q.2.1 q.2.2.1 q.2.2.2) fun w => (.ok (q.1 :: w.1, w.2) : Except ev_E (List Int32 × ev_V × Nat × Nat))) fun q => ev_b (ev P lim r (ev_l (l ++ q.1)) q.2.2.1 q.2.2.2 (P.getD (tr_n t) tr_z)) fun w => (.ok (w.1, q.2.1, w.2.2) : Except ev_E ev_O)) = ev_b (ev_args (ev P lim r) t r' (j + 1) q.2.1 q.2.2.1 q.2.2.2) fun w => ev_b (ev P lim r (ev_l ((l ++ [q.1]) ++ w.1)) w.2.2.1 w.2.2.2 (P.getD (tr_n t) tr_z)) fun u => .ok (u.1, w.2.1, u.2.2) := by
        rw [ev_b_a]
        congr 1
        funext w
        show ev_b (ev P lim r (ev_l (l ++ q.1 :: w.1)) w.2.2.1 w.2.2.2 (P.getD (tr_n t) tr_z)) _ = _
        rw [show l ++ q.1 :: w.1 = (l ++ [q.1]) ++ w.1 by rw [List.append_assoc]; rfl]
      rw [e]
      refine ih (j + 1) (l ++ [q.1]) q.2.1 q.2.2.1 q.2.2.2 S' (by omega) (by rw [List.length_append, hl]; rfl) h' (fun i i1 i2 => ?_) (fun hi => ?_)
      · have i1 : i + 1 < j + 1 := by rw [List.length_append, hl] at i1; exact i1
        rw [List.getElem_append_left (by omega), o'.1 114 _ (by unfold cw_W; omega)]
        exact hyl i (by omega)
      · rw [e11]
        have : (l ++ [q.1])[j + 1 - 1]'hi = q.1 := by
          have e2 : j + 1 - 1 = l.length := by omega
          simp only [e2, List.getElem_concat_length]
        exact this.symm
/-- an EXPRESSION that is begun -/
theorem cr_I (hS : cr_S b lim L D0 P r) (hb : cb_ok b L M) (hM : P.length ≤ M) (hDr : D + r = 160) (hD : 1 ≤ D) (h : cr_h b lim D s m S) (h12 : S.1 104 12 = 0) (h106 : S.1 106 D = Int32.ofNat y) (h108 : S.1 108 D = Int32.ofNat 0) (h112 : S.1 112 D = Int32.ofNat fr) (hfr : fr < D) (hv : cv_e fr V S) (hP : cg_P b L D0 P S) (ht : nd_t (b + 1) S 0 L d y t) : cr_O b lim (D - 1) fr (cw_W D fr) (ev_in P (ev P lim r) V s m t) (2 * s - 1 - D) S S := by
  cases d with
  | zero => exact absurd ht id
  | succ d =>
    have hz : cz_h b lim L M D0 D fr s m y 0 (d + 1) P V t S := ⟨hb, h, h12, hD, h106, h108, h112, hfr, hv, hP, ht⟩
    unfold ev_in
    by_cases ok : ev_ok P.length t
    · rw [if_pos ok]
      rcases ok with k | ⟨k, k1, k2⟩ | ⟨k, k1, k2, k3⟩ | ⟨k, k1⟩ | ⟨k, k1, k2, k3⟩ | ⟨k, k1⟩
      · rw [if_pos k]
        exact cz_leaf1 hz k
      · rw [if_neg (by rw [k]; decide), if_pos k]
        cases hq : V (tr_n t) with
        | none => trivial
        | some v => exact cz_leaf2 hz k k1 hq
      · rw [if_neg (by rw [k]; decide), if_neg (by rw [k]; decide), if_pos k]
        exact cz_let hS hDr hz k k1 k2 k3
      · rw [if_neg (by rw [k]; decide), if_neg (by rw [k]; decide), if_neg (by rw [k]; decide), if_pos k]
        exact cz_if hS hDr hz k k1
      · rw [if_neg (by rw [k]; decide), if_neg (by rw [k]; decide), if_neg (by rw [k]; decide), if_neg (by rw [k]; decide), if_pos k]
        exact cz_call hS hDr hM k k1 k2 k3 (tr_a t) 0 [] V s m S (by omega) rfl hz (fun i i1 => absurd i1 (Nat.not_lt_zero _)) (fun hi => absurd hi (Nat.not_lt_zero _))
      · rw [if_neg (fun q => by rw [q] at k; exact absurd k (by decide)), if_neg (fun q => by rw [q] at k; exact absurd k (by decide)), if_neg (fun q => by rw [q] at k; exact absurd k (by decide)), if_neg (fun q => by rw [q] at k; exact absurd k (by decide)), if_neg (fun q => by rw [q] at k; exact absurd k (by decide))]
        exact cz_sign hS hDr hz k k1
    · rw [if_neg ok]
      trivial
theorem cr_all (hb : cb_ok b L M) (hM : P.length ≤ M) : ∀ r, cr_S b lim L D0 P r := by
  intro r
  induction r with
  | zero => exact cr_S_0
  | succ r ih => exact cr_S_s (M := M) (fun D fr V s m y t d S h1 h2 h3 h4 h5 h6 h7 h8 h9 h10 h11 => cr_I ih hb hM h1 h2 h3 h4 h5 h6 h7 h8 h9 h10 h11) hb
end Cr5
