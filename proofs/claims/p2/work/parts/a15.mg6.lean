/-! The reference's runner: calls; a whole run. -/
section Mg6
variable {lim D s m E vl k s0 a D' E' vl' k' a' y n lo hi X Rt R2 al ah D0 d r j z0 z1 z2 M g : Nat} {P : List tr_T} {S S' S1 S2 : wd_S} {V V' : ev_V} {t u w : tr_T} {v x τ kd root : Int32} {W W1 W2 : Nat → Nat → Prop}
theorem gw_283 (hy : y < 15010) (hg : g + a ≤ 15010) : ∀ (q F : Nat) (S1 : wd_S) (k1 : Nat), q ≤ a → q < F → k1 + 2 * q ≤ 4000 → S1.1 135 35 = Int32.ofNat k1 → S1.1 144 y = Int32.ofNat g → ∃ S', fn_Mo_work_283 F (Int32.ofNat y) (Int32.ofNat q - 1) S1 = some S' ∧ S'.1 135 35 = Int32.ofNat (k1 + 2 * q) ∧ (∀ j, j < q → S'.1 152 (k1 + 2 * (q - 1 - j)) = 4 ∧ S'.1 152 (k1 + 2 * (q - 1 - j) + 1) = 1 ∧ S'.1 153 (k1 + 2 * (q - 1 - j) + 1) = S1.1 149 (g + j)) ∧ of_f (fun a' b => (a' = 135 ∧ b = 35) ∨ ((a' = 152 ∨ a' = 153) ∧ k1 ≤ b)) S1 S' := by
  intro q
  induction q with
  | zero =>
    intro F S1 k1 h1 h2 h3 h4 h5
    obtain ⟨F, rfl⟩ : ∃ z, F = z + 1 := ⟨F - 1, by omega⟩
    rw [fn_Mo_work_283]
    unfold fn_Mo_work_317
    rw [if_pos (by decide)]
    exact ⟨S1, rfl, h4, fun j hj => absurd hj (Nat.not_lt_zero _), of_refl⟩
  | succ q ih =>
    intro F S1 k1 h1 h2 h3 h4 h5
    obtain ⟨F, rfl⟩ : ∃ z, F = z + 1 := ⟨F - 1, by omega⟩
    have es : Int32.ofNat g + Int32.ofNat q = Int32.ofNat (g + q) := (Int32.ofNat_add _ _).symm
    have hq1 : ∀ a, 143 ≤ a → a ≤ 149 → ∀ b, (ms_p k1 4 0 S1).1 a b = S1.1 a b := fun a z1 z2 b => ms_o.1 a b (by unfold mw_p; omega)
    rw [im_p, fn_Mo_work_283, if_neg (im_neg (show q < 2147483648 by omega)), ms_push h4 (by omega), wd_d_s, if_neg (ms_in hy (by decide)), im_t (show y < 2147483648 by omega), hq1 144 (by omega) (by omega), h5, es, if_neg (ms_in (show g + q < 15010 by omega) (by decide)), im_t (show g + q < 2147483648 by omega), hq1 149 (by omega) (by omega), ms_push (t := k1 + 1) ms_35 (by omega), wd_d_s]
    generalize hS2 : ms_p (k1 + 1) 1 (S1.1 149 (g + q)) (ms_p k1 4 0 S1) = S2
    have o2 : of_f (fun a' b => (a' = 135 ∧ b = 35) ∨ ((a' = 152 ∨ a' = 153) ∧ k1 ≤ b)) S1 S2 := by
      rw [← hS2]
      exact of_trans (of_mono (fun a b z => by unfold mw_p at z; omega) ms_o) (of_mono (fun a b z => by unfold mw_p at z; omega) ms_o)
    have e35 : S2.1 135 35 = Int32.ofNat (k1 + 1 + 1) := by rw [← hS2]; exact ms_35
    have e1 : S2.1 152 k1 = 4 := by rw [← hS2, ms_152, if_neg (by omega), ms_152, if_pos rfl]
    have e2 : S2.1 152 (k1 + 1) = 1 := by rw [← hS2, ms_152, if_pos rfl]
    have e3 : S2.1 153 (k1 + 1) = S1.1 149 (g + q) := by rw [← hS2, ms_153, if_pos rfl]
    clear hS2
    obtain ⟨S3, f3, k3, c3, o3⟩ := ih F S2 (k1 + 1 + 1) (by omega) (by omega) (by omega) e35 (by rw [o2.1 144 y (by omega)]; exact h5)
    have em : Int32.ofNat q + -1 = Int32.ofNat q - 1 := by rw [Int32.sub_eq_add_neg]
    rw [em]
    refine ⟨S3, f3, by rw [k3, show k1 + 1 + 1 + 2 * q = k1 + 2 * (q + 1) by omega], fun j hj => ?_, of_trans o2 (of_mono (fun a b z => by omega) o3)⟩
    by_cases c : j = q
    · subst c
      rw [show k1 + 2 * (j + 1 - 1 - j) = k1 by omega, o3.1 152 k1 (by omega), o3.1 152 (k1 + 1) (by omega), o3.1 153 (k1 + 1) (by omega)]
      exact ⟨e1, e2, e3⟩
    · have := c3 j (by omega)
      rw [show k1 + 1 + 1 + 2 * (q - 1 - j) = k1 + 2 * (q + 1 - 1 - j) by omega, o2.1 149 _ (by omega)] at this
      exact this
theorem gw_args (hS : mg_S lim X lo hi al ah D0 Rt R2 P r) (hR : mg_R lo hi ah Rt R2) (hDr : D + 1 + r = 160) (hk : k + 10 * (r + 1) ≤ 3900) (hvl : vl + 4 * (r + 1) ≤ 3900) (hyr : mg_r y Rt R2) (hE : E ≤ D) (ha : tr_a t ≤ 4) (hn : n < P.length) : ∀ (r' j : Nat) (l : List Int32) (V : ev_V) (s m : Nat) (S : wd_S), r' + j = tr_a t → l.length = j → mv_h lim (D + 1) s m E (vl + j) (k + 2 + 2 * r') S → (∀ i, j ≤ i → i < tr_a t → S.1 152 (k + 2 + 2 * (tr_a t - 1 - i)) = 4 ∧ S.1 152 (k + 2 + 2 * (tr_a t - 1 - i) + 1) = 1 ∧ S.1 153 (k + 2 + 2 * (tr_a t - 1 - i) + 1) = S.1 149 (g + i)) → S.1 152 (k + 1) = 8 → S.1 153 (k + 1) = Int32.ofNat y → S.1 152 k = 2 → (∀ i, (hi : i < l.length) → S.1 157 (vl + i) = l[i]) → me_e E V S → (∀ i, i < tr_a t → ∃ z, S.1 149 (g + i) = Int32.ofNat z ∧ mj_t S X lo hi al ah d z (tr_sub t i)) → S.1 145 y = Int32.ofNat (tr_a t) → S.1 146 y = Int32.ofNat (X + n) → mg_P X lo hi al ah D0 Rt R2 P S → mg_O lim D E vl k (mgW k vl E) s (r' + 3) (ev_b (ev_args (ev P lim r) t r' j V s m) fun q => ev_b (ev P lim r (ev_l (l ++ q.1)) q.2.2.1 q.2.2.2 (P.getD n tr_z)) fun w => .ok (w.1, q.2.1, w.2.2)) S := by
  have hget : P.getD n tr_z = P[n] := by rw [List.getD_eq_getElem?_getD, List.getElem?_eq_getElem hn]; rfl
  intro r'
  induction r' with
  | zero =>
    intro j l V s m S hj hl h ht h8 hy8 h2 hvals hv hta h145 h146 hP
    have hja : j = tr_a t := by omega
    show mg_O lim D E vl k (mgW k vl E) s 3 (ev_b (ev P lim r (ev_l (l ++ [])) s m (P.getD n tr_z)) fun w => .ok (w.1, V, w.2.2)) S
    rw [List.append_nil, hget]
    obtain ⟨hX, yr, p1, p2⟩ := hP n hn
    rw [hja] at h
    obtain ⟨S2, g2, m2, c2, w1, w2, w3, o2⟩ := gt_enter (k := k + 1) hyr ha (by omega) hX h (by omega) (by omega) h8 hy8 h145 h146 p1
    have n2 : mo_no (fun a' b => (a' = 135 ∧ (b = 35 ∨ b = 44 ∨ b = 46)) ∨ ((a' = 152 ∨ a' = 153) ∧ k + 1 ≤ b) ∨ (a' = 158 ∧ 16 * (E + 1) ≤ b)) := fun a b z => by omega
    refine mg_step (W2 := mgW k vl E) g2 (of_mono (fun a b z => by unfold mgW; omega) o2) ?_ (fun _ _ z => z)
    refine mg_sub (k := k + 2) hS hR hDr m2 w2 w3 (by omega) (by omega) (by omega) (fun i v' hi => ?_) (mgP_no hR n2 o2 hP) (mj_no n2 o2 p2) (fun q S3 h3 e3 v3 o3 => ?_) (mgW_le (by omega) (by omega) (by omega))
    · unfold ev_l at hi
      obtain ⟨q1, q2⟩ := List.getElem?_eq_some_iff.mp hi
      exact ⟨by omega, by rw [c2 i (by omega), hvals i q1, q2]⟩
    · obtain ⟨S4, g4, h4, o4⟩ := gt_leave h3 (by omega) (by rw [o3.1 152 _ (by unfold mgW; omega)]; exact w1)
      refine mg_step (W2 := mgW k vl E) g4 (of_mono (fun a b z => by unfold mgW; omega) o4) ?_ (fun _ _ z => z)
      refine mg_up h4 (by omega) (by rw [o4.1 152 k (by omega), o3.1 152 k (by unfold mgW; omega), o2.1 152 k (by omega)]; exact h2) (by rw [o4.1 135 47 (by omega)]; exact e3) ?_
      exact me_o o4 (fun b _ _ => by omega) (me_o o3 (fun b _ _ => by unfold mgW; omega) (me_o o2 (fun b _ _ => by omega) hv))
  | succ r' ih =>
    intro j l V s m S hj hl h ht h8 hy8 h2 hvals hv hta h145 h146 hP
    show mg_O lim D E vl k (mgW k vl E) s (r' + 1 + 3) (ev_b (ev_b (ev P lim r V s m (tr_sub t j)) fun q => ev_b (ev_args (ev P lim r) t r' (j + 1) q.2.1 q.2.2.1 q.2.2.2) fun w => .ok (q.1 :: w.1, w.2)) _) S
    rw [ev_b_a]
    obtain ⟨z, p1, p2⟩ := hta j (by omega)
    obtain ⟨t1, t2, t3⟩ := ht j (Nat.le_refl _) (by omega)
    rw [show tr_a t - 1 - j = r' by omega] at t1 t2 t3
    rw [p1] at t3
    refine mg_sub (k := k + 2 + 2 * r' + 1) hS hR hDr h t2 t3 (by omega) (by omega) (by omega) hv hP p2 (fun q S3 h3 e3 v3 o3 => ?_) (mgW_le (by omega) (by omega) (by omega))
    obtain ⟨S4, g4, h4, y1, o4⟩ := gt_keep h3 (by omega) (by omega) (by rw [o3.1 152 _ (by unfold mgW; omega)]; exact t1)
    have n4 : mo_no (fun a b => (a = 135 ∧ (b = 35 ∨ b = 44)) ∨ (a = 157 ∧ b = vl + j)) := fun a b z => by omega
    have e4 : ∀ a b, (a = 152 ∨ a = 153) → b < k + 2 + 2 * r' + 1 → S4.1 a b = S.1 a b := fun a b z1 z2 => by rw [o4.1 a b (by omega), o3.1 a b (by unfold mgW; omega)]
    have f4 : ∀ a b, 143 ≤ a → a ≤ 149 → S4.1 a b = S.1 a b := fun a b z1 z2 => by rw [o4.1 a b (by omega), o3.1 a b (by unfold mgW; omega)]
    refine mg_step (W2 := mgW k vl E) g4 (of_mono (fun a b z => by unfold mgW; omega) o4) ?_ (fun _ _ z => z)
    have e : (ev_b (ev_b (ev_args (ev P lim r) t r' (j + 1) q.2.1 q.2.2.1 q.2.2.2) fun w => (.ok (q.1 :: w.1, w.2) : Except ev_E (List Int32 × ev_V × Nat × Nat))) fun q => ev_b (ev P lim r (ev_l (l ++ q.1)) q.2.2.1 q.2.2.2 (P.getD n tr_z)) fun w => (.ok (w.1, q.2.1, w.2.2) : Except ev_E ev_O)) = ev_b (ev_args (ev P lim r) t r' (j + 1) q.2.1 q.2.2.1 q.2.2.2) fun w => ev_b (ev P lim r (ev_l ((l ++ [q.1]) ++ w.1)) w.2.2.1 w.2.2.2 (P.getD n tr_z)) fun u => .ok (u.1, w.2.1, u.2.2) := by
      rw [ev_b_a]
      congr 1
      funext w
      show ev_b (ev P lim r (ev_l (l ++ q.1 :: w.1)) w.2.2.1 w.2.2.2 (P.getD n tr_z)) _ = _
      rw [show l ++ q.1 :: w.1 = (l ++ [q.1]) ++ w.1 by rw [List.append_assoc]; rfl]
    rw [e]
    refine ih (j + 1) (l ++ [q.1]) q.2.1 q.2.2.1 q.2.2.2 S4 (by omega) (by rw [List.length_append, hl]; rfl) h4 (fun i i1 i2 => ?_) (by rw [e4 152 _ (Or.inl rfl) (by omega)]; exact h8) (by rw [e4 153 _ (Or.inr rfl) (by omega)]; exact hy8) (by rw [e4 152 _ (Or.inl rfl) (by omega)]; exact h2) (fun i hi => ?_) (me_o o4 (fun b _ _ => by omega) v3) (fun i hi => ?_) (by rw [f4 145 y (by omega) (by omega)]; exact h145) (by rw [f4 146 y (by omega) (by omega)]; exact h146) (mgP_no hR n4 o4 (mgP_no hR mo_mgW o3 hP))
    · rw [e4 152 _ (Or.inl rfl) (by omega), e4 152 _ (Or.inl rfl) (by omega), e4 153 _ (Or.inr rfl) (by omega), f4 149 _ (by omega) (by omega)]
      exact ht i (by omega) i2
    · by_cases c : i = j
      · subst c
        rw [y1, e3]
        have : (l ++ [q.1])[i]'hi = q.1 := by
          have e2 : i = l.length := by omega
          simp only [e2, List.getElem_concat_length]
        exact this.symm
      · have hi : i < j + 1 := by rw [List.length_append, hl] at hi; exact hi
        rw [List.getElem_append_left (by omega), o4.1 157 _ (by omega), o3.1 157 _ (by unfold mgW; omega)]
        exact hvals i (by omega)
    · obtain ⟨z', k1, k2⟩ := hta i hi
      exact ⟨z', by rw [f4 149 _ (by omega) (by omega)]; exact k1, mj_no n4 o4 (mj_no mo_mgW o3 k2)⟩
theorem gw_call (hS : mg_S lim X lo hi al ah D0 Rt R2 P r) (hR : mg_R lo hi ah Rt R2) (hDr : D + 1 + r = 160) (h : mv_h lim (D + 1) s m E vl k S) (hk : k + 10 * (r + 1) ≤ 3900) (hvl : vl + 4 * (r + 1) ≤ 3900) (hM : M ≤ 160) (hyr : mg_r y Rt R2) (hE : E ≤ D) (ha : tr_a t ≤ 4) (hn : n < P.length) (hg : g + tr_a t ≤ 15010) (h143 : S.1 143 y = 8) (h144 : S.1 144 y = Int32.ofNat g) (h145 : S.1 145 y = Int32.ofNat (tr_a t)) (h146 : S.1 146 y = Int32.ofNat (X + n)) (hv : me_e E V S) (hP : mg_P X lo hi al ah D0 Rt R2 P S) (hta : ∀ i, i < tr_a t → ∃ z, S.1 149 (g + i) = Int32.ofNat z ∧ mj_t S X lo hi al ah d z (tr_sub t i)) : ∃ S2, fn_Mo_work_85 (Int32.ofNat y) (Int32.ofNat M) S = some S2 ∧ of_f (mgW k vl E) S S2 ∧ mg_O lim D E vl k (mgW k vl E) s 7 (ev_b (ev_args (ev P lim r) t (tr_a t) 0 V s M) fun q => ev_b (ev P lim r (ev_l q.1) q.2.2.1 q.2.2.2 (P.getD n tr_z)) fun w => .ok (w.1, q.2.1, w.2.2)) S2 := by
  have hy : y < 15010 := by rcases hyr with z | z <;> omega
  obtain ⟨S9, h9, w9, o9, -, p9⟩ := gw_85 h (by omega) hM
  have q : ∀ a, 143 ≤ a → a ≤ 149 → ∀ b, S9.1 a b = S.1 a b := fun a x1 x2 b => o9.1 a b (by omega)
  have hin : ¬(Int32.ofNat y < 0 ∨ 15010 ≤ y) := by rintro (z | z); exact im_neg (by omega) z; omega
  generalize hS1 : ms_p (k + 1) 8 (Int32.ofNat y) S9 = S1
  have o1 : of_f (fun a b => (a = 135 ∧ b = 35) ∨ ((a = 152 ∨ a = 153) ∧ k + 1 ≤ b)) S9 S1 := by
    rw [← hS1]
    exact of_mono (fun a b z => by unfold mw_p at z; omega) ms_o
  have q1 : ∀ a, 143 ≤ a → a ≤ 149 → ∀ b, S1.1 a b = S.1 a b := fun a x1 x2 b => by rw [o1.1 a b (by omega), q a x1 x2 b]
  obtain ⟨S2, f2, k2, c2, o2⟩ := gw_283 (g := g) (a := tr_a t) hy hg (tr_a t) wd_F S1 (k + 2) (Nat.le_refl _) (by rw [show wd_F = 1000000 from rfl]; omega) (by omega) (by rw [← hS1]; exact ms_35) (by rw [q1 144 (by omega) (by omega)]; exact h144)
  have O2 : of_f (fun a b => (a = 135 ∧ (b = 35 ∨ b = 51)) ∨ ((a = 152 ∨ a = 153) ∧ k ≤ b)) S S2 := of_trans (of_mono (fun a b z => by omega) o9) (of_trans (of_mono (fun a b z => by omega) o1) (of_mono (fun a b z => by omega) o2))
  have n2 : mo_no (fun a b => (a = 135 ∧ (b = 35 ∨ b = 51)) ∨ ((a = 152 ∨ a = 153) ∧ k ≤ b)) := fun a b z => by omega
  have q2 : ∀ a, 143 ≤ a → a ≤ 149 → ∀ b, S2.1 a b = S.1 a b := fun a x1 x2 b => by rw [o2.1 a b (by omega), q1 a x1 x2 b]
  refine ⟨S2, ?_, of_mono (fun a b z => by unfold mgW; omega) O2, ?_⟩
  · unfold fn_Mo_work_85
    simp only [wd_b]
    rw [p9, wd_d_s, if_neg (ms_in hy (by decide)), im_t (show y < 2147483648 by omega), q 143 (by omega) (by omega), h143, if_neg (by decide), if_neg (by decide), if_neg (by decide), if_neg (by decide), if_neg (by decide), if_neg (by decide), if_neg (by decide), ms_push h9.1 (by omega), wd_d_s, hS1, if_neg hin, q1 145 (by omega) (by omega), h145, f2]
  · have hm2 : mv_h lim (D + 1) s M E (vl + 0) (k + 2 + 2 * tr_a t) S2 := mv_o h9 (of_trans (of_mono (fun a b z => Or.inl z) o1) (of_mono (fun a b z => Or.inr z) o2)) (fun b hb => by omega) k2
    have := gw_args (g := g) (d := d) (n := n) (t := t) hS hR hDr hk hvl hyr hE ha hn (tr_a t) 0 [] V s M S2 (by omega) rfl hm2 (fun i _ hi => by rw [q2 149 (by omega) (by omega)]; have := c2 i hi; rw [q1 149 (by omega) (by omega)] at this; exact this) (by rw [o2.1 152 _ (by omega), ← hS1, ms_152, if_pos rfl]) (by rw [o2.1 153 _ (by omega), ← hS1, ms_153, if_pos rfl]) (by rw [o2.1 152 _ (by omega), o1.1 152 _ (by omega)]; exact w9) (fun i hi => absurd hi (Nat.not_lt_zero _)) (me_o O2 (fun b _ _ => by omega) hv) (fun i hi => by
      obtain ⟨z, k1, k2⟩ := hta i hi
      exact ⟨z, by rw [q2 149 (by omega) (by omega)]; exact k1, mj_no n2 O2 k2⟩) (by rw [q2 145 (by omega) (by omega)]; exact h145) (by rw [q2 146 (by omega) (by omega)]; exact h146) (mgP_no hR n2 O2 hP)
    exact mg_a this (by omega)
end Mg6
