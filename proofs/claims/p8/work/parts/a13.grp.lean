/-! part a13 -/
section
/-! The reference's runner: an EXPRESSION that is begun comes to what it should. -/
def mg_P (X lo hi al ah D0 Rt R2 : Nat) (P : List tr_T) (S : wd_S) : Prop := ∀ j, (hj : j < P.length) → X + j < R2 ∧ ∃ y, S.1 Rt (X + j) = Int32.ofNat y ∧ mj_t S X lo hi al ah D0 y P[j]
def mg_R (lo hi ah Rt R2 : Nat) : Prop := ((Rt = 140 ∧ hi ≤ 3004 ∧ R2 = 96) ∨ (Rt = 162 ∧ 3004 ≤ lo ∧ hi ≤ 15010 ∧ R2 = 160)) ∧ ah ≤ 15010
def mg_S (lim X lo hi al ah D0 Rt R2 : Nat) (P : List tr_T) (r : Nat) : Prop := ∀ (D E vl : Nat) (V : ev_V) (s m k y : Nat) (t : tr_T) (d : Nat) (S : wd_S), D + r = 160 → mv_h lim D s m E vl (k + 1) S → S.1 152 k = 1 → S.1 153 k = Int32.ofNat y → E ≤ D → k + 10 * r ≤ 3900 → vl + 4 * r ≤ 3900 → me_e E V S → mg_P X lo hi al ah D0 Rt R2 P S → mj_t S X lo hi al ah d y t → mg_O lim D E vl k (mgW k vl E) s 0 (ev P lim r V s m t) S
def mo_no (W : Nat → Nat → Prop) : Prop := ∀ a b, W a b → a = 135 ∨ a = 152 ∨ a = 153 ∨ a = 157 ∨ a = 158
section Mg4
variable {lim D s m E vl k s0 a D' E' vl' k' a' y n lo hi X Rt R2 al ah D0 d r j : Nat} {P : List tr_T} {S S' S1 S2 : wd_S} {V V' : ev_V} {t : tr_T} {v x τ kd root : Int32} {W W1 W2 : Nat → Nat → Prop}
theorem mj_no (hW : mo_no W) (ho : of_f W S S') (h : mj_t S X lo hi al ah d y t) : mj_t S' X lo hi al ah d y t := mj_t_m (Nat.le_refl _) (Nat.le_refl _) (Nat.le_refl _) (Nat.le_refl _) (mj_g_o ho (fun a x h1 h2 _ _ z => by have := hW a x z; omega) (fun x _ _ z => by have := hW 149 x z; omega)) d y t h
theorem mgP_no (hR : mg_R lo hi ah Rt R2) (hW : mo_no W) (ho : of_f W S S') (h : mg_P X lo hi al ah D0 Rt R2 P S) : mg_P X lo hi al ah D0 Rt R2 P S' := fun j hj => by
  obtain ⟨h1, y, h2, h3⟩ := h j hj
  refine ⟨h1, y, by rw [ho.1 Rt _ (fun z => by have := hW _ _ z; have := hR.1; omega)]; exact h2, mj_no hW ho h3⟩
theorem mo_mgW : mo_no (mgW k vl E) := fun a b z => by unfold mgW at z; omega
theorem me_o (ho : of_f W S S') (hW : ∀ b, 16 * E ≤ b → b < 16 * E + 16 → ¬W 158 b) (h : me_e E V S) : me_e E V S' := fun s v hs => by
  obtain ⟨h1, h2⟩ := h s v hs
  exact ⟨h1, by rw [ho.1 158 _ (hW _ (by omega) (by omega))]; exact h2⟩
theorem mg_a {x : Except ev_E ev_O} {s1 a1 : Nat} (h : mg_O lim D E vl k W s0 a x S) (ha : 8 * s1 + a ≤ 8 * s0 + a1) : mg_O lim D E vl k W s1 a1 x S := by
  unfold mg_O at h ⊢
  split at h
  · trivial
  · obtain ⟨g, S', k1, k2, k3⟩ := h
    exact ⟨g, S', k1, by omega, k3⟩
  · obtain ⟨g, S', k1, k2, k3⟩ := h
    exact ⟨g, S', k1, by omega, k3⟩
theorem mg_up (h : mv_h lim (D + 1) s m E vl (k + 1) S) (hk : k < 4000) (h1 : S.1 152 k = 2) (h47 : S.1 135 47 = v) (hv : me_e E V S) : mg_O lim D E vl k (mgW k vl E) s 1 (.ok (v, V, s, m)) S := by
  obtain ⟨S', g1, m1, o1⟩ := gt_up h hk h1
  exact ⟨1, S', g1, by show 1 + 8 * s ≤ 8 * s + 1; omega, m1, by rw [o1.1 135 47 (by omega)]; exact h47, me_o o1 (fun b _ _ => by omega) hv, of_mono (fun a b z => by unfold mgW; omega) o1⟩
/-- what WORK lays for each kind, first UP -/
theorem gw_85 (h : mv_h lim (D + 1) s m E vl k S) (hk : k < 4000) {M : Nat} (hM : M ≤ 160) : ∃ S9, mv_h lim (D + 1) s M E vl (k + 1) S9 ∧ S9.1 152 k = 2 ∧ of_f (fun a b => (a = 135 ∧ (b = 35 ∨ b = 51)) ∨ ((a = 152 ∨ a = 153) ∧ b = k)) S S9 ∧ ms_p k 2 0 (wd_i S 135 51 (Int32.ofNat M)) = S9 ∧ fn_Mo_push 2 0 (wd_i S 135 51 (Int32.ofNat M)) = some S9 := by
  have o1 : of_f (fun a b => (a = 135 ∧ (b = 35 ∨ b = 51)) ∨ ((a = 152 ∨ a = 153) ∧ b = k)) S (ms_p k 2 0 (wd_i S 135 51 (Int32.ofNat M))) := of_trans (of_i (by omega) of_refl) (of_mono (fun a b z => by unfold mw_p at z; omega) ms_o)
  obtain ⟨a1, a2, a3, a4, a5, a6, a7, a8, a9, a10, a11, a12, a13⟩ := h
  have h1 : mv_h lim (D + 1) s M E vl k (wd_i S 135 51 (Int32.ofNat M)) := ⟨by rw [fr_ne (by omega)]; exact a1, by rw [fr_ne (by omega)]; exact a2, by rw [fr_ne (by omega)]; exact a3, by rw [fr_ne (by omega)]; exact a4, by rw [fr_ne (by omega)]; exact a5, by rw [fr_ne (by omega)]; exact a6, fr_eq, by rw [fr_ne (by omega)]; exact a8, a9, a10, a11, hM, a13⟩
  exact ⟨_, mv_push h1, by rw [ms_152, if_pos rfl], o1, rfl, ms_push (by rw [fr_ne (by omega)]; exact a1) hk⟩
theorem gw_num (h : mv_h lim (D + 1) s m E vl k S) (hk : k < 4000) {M : Nat} (hM : M ≤ 160) (hy : y < 15010) (h143 : S.1 143 y = 5) (h144 : S.1 144 y = v) (hv : me_e E V S) : ∃ S2, fn_Mo_work_85 (Int32.ofNat y) (Int32.ofNat M) S = some S2 ∧ of_f (mgW k vl E) S S2 ∧ mg_O lim D E vl k (mgW k vl E) s 1 (.ok (v, V, s, M)) S2 := by
  obtain ⟨S9, h9, w9, o9, -, p9⟩ := gw_85 h hk hM
  have q : ∀ a, 143 ≤ a → a ≤ 149 → S9.1 a y = S.1 a y := fun a x1 x2 => o9.1 a y (by omega)
  have o2 : of_f (fun a b => a = 135 ∧ b = 47) S9 (wd_i S9 135 47 v) := of_i ⟨rfl, rfl⟩ of_refl
  refine ⟨wd_i S9 135 47 v, ?_, of_trans (of_mono (fun a b z => by unfold mgW; omega) o9) (of_mono (fun a b z => by unfold mgW; omega) o2), mg_up (mv_o h9 o2 (fun b _ => by omega) (by rw [fr_ne (by omega)]; exact h9.1)) hk (by rw [fr_ne (by omega)]; exact w9) fr_eq (me_o (of_trans (of_mono (fun a b z => Or.inl z) o9) (of_mono (fun a b z => Or.inr z) o2)) (fun b _ _ => by omega) hv)⟩
  unfold fn_Mo_work_85 fn_Mo_work_317
  simp only [wd_b]
  rw [p9, wd_d_s, if_neg (ms_in hy (by decide)), im_t (show y < 2147483648 by omega), q 143 (by omega) (by omega), h143, if_neg (by decide), if_neg (by decide), if_neg (by decide), if_neg (by decide), if_pos rfl, if_neg (by rintro (z | z); exact im_neg (by omega) z; omega), q 144 (by omega) (by omega), h144]
theorem gw_name (h : mv_h lim (D + 1) s m E vl k S) (hk : k < 4000) {M : Nat} (hM : M ≤ 160) (hy : y < 15010) (hE : E ≤ 160) (h143 : S.1 143 y = 7) (h144 : S.1 144 y = Int32.ofNat n) (hv : me_e E V S) (hn : V n = some v) : ∃ S2, fn_Mo_work_85 (Int32.ofNat y) (Int32.ofNat M) S = some S2 ∧ of_f (mgW k vl E) S S2 ∧ mg_O lim D E vl k (mgW k vl E) s 1 (.ok (v, V, s, M)) S2 := by
  obtain ⟨S9, h9, w9, o9, -, p9⟩ := gw_85 h hk hM
  obtain ⟨hn1, hn2⟩ := hv n v hn
  have q : ∀ a, 143 ≤ a → a ≤ 149 → S9.1 a y = S.1 a y := fun a x1 x2 => o9.1 a y (by omega)
  have o2 : of_f (fun a b => a = 135 ∧ b = 47) S9 (wd_i S9 135 47 v) := of_i ⟨rfl, rfl⟩ of_refl
  refine ⟨wd_i S9 135 47 v, ?_, of_trans (of_mono (fun a b z => by unfold mgW; omega) o9) (of_mono (fun a b z => by unfold mgW; omega) o2), mg_up (mv_o h9 o2 (fun b _ => by omega) (by rw [fr_ne (by omega)]; exact h9.1)) hk (by rw [fr_ne (by omega)]; exact w9) fr_eq (me_o (of_trans (of_mono (fun a b z => Or.inl z) o9) (of_mono (fun a b z => Or.inr z) o2)) (fun b _ _ => by omega) hv)⟩
  have hin : ¬(Int32.ofNat y < 0 ∨ 15010 ≤ y) := by rintro (z | z); exact im_neg (by omega) z; omega
  have e1 : (16 : Int32) * Int32.ofNat E + Int32.ofNat n = Int32.ofNat (16 * E + n) := by rw [show (16 : Int32) = Int32.ofNat 16 from rfl, im_ma]
  unfold fn_Mo_work_85 fn_Mo_work_317
  simp only [wd_b]
  rw [p9, wd_d_s, if_neg (ms_in hy (by decide)), im_t (show y < 2147483648 by omega), q 143 (by omega) (by omega), h143, if_neg (by decide), if_neg (by decide), if_neg (by decide), if_neg (by decide), if_neg (by decide), if_neg (by decide), if_pos rfl, if_neg hin, q 144 (by omega) (by omega), h144, h9.2.2.1, e1, if_neg (ms_in (show 16 * E + n < 2640 by omega) (by decide)), im_t (show 16 * E + n < 2147483648 by omega), o9.1 158 _ (by omega), hn2]
end Mg4
end
/-! part a14 -/
section
/-! The reference's runner: lets, choices, signs. -/
section Mg5
variable {lim D s m E vl k s0 a D' E' vl' k' a' y n lo hi X Rt R2 al ah D0 d r j z0 z1 z2 M : Nat} {P : List tr_T} {S S' S1 S2 : wd_S} {V V' : ev_V} {t u w : tr_T} {v x τ kd root : Int32} {W W1 W2 : Nat → Nat → Prop}
/-- WORK on top, then more -/
theorem mg_sub (hS : mg_S lim X lo hi al ah D0 Rt R2 P r) (hR : mg_R lo hi ah Rt R2) (hDr : D + 1 + r = 160) (h : mv_h lim (D + 1) s m E vl (k + 1) S) (h1 : S.1 152 k = 1) (h2 : S.1 153 k = Int32.ofNat y) (hE : E ≤ D + 1) (hk : k + 10 * r ≤ 3900) (hvl : vl + 4 * r ≤ 3900) (hv : me_e E V S) (hP : mg_P X lo hi al ah D0 Rt R2 P S) (ht : mj_t S X lo hi al ah d y t) {f : ev_O → Except ev_E ev_O} (hf : ∀ (q : ev_O) (S' : wd_S), mv_h lim (D + 1) q.2.2.1 q.2.2.2 E vl k S' → S'.1 135 47 = q.1 → me_e E q.2.1 S' → of_f (mgW k vl E) S S' → mg_O lim D' E' vl' k' W q.2.2.1 a (f q) S') (w1 : ∀ a b, mgW k vl E a b → W a b) : mg_O lim D' E' vl' k' W s a (ev_b (ev P lim r V s m t) f) S := mg_bind (hS (D + 1) E vl V s m k y t d S hDr h h1 h2 hE hk hvl hv hP ht) hf w1 (fun _ _ z => z)
theorem gw_let (hS : mg_S lim X lo hi al ah D0 Rt R2 P r) (hR : mg_R lo hi ah Rt R2) (hDr : D + 1 + r = 160) (h : mv_h lim (D + 1) s m E vl k S) (hk : k + 10 * (r + 1) ≤ 3900) (hvl : vl + 4 * (r + 1) ≤ 3900) (hM : M ≤ 160) (hy : y < 15010) (hE : E ≤ D) (h143 : S.1 143 y = 3) (h144 : S.1 144 y = Int32.ofNat z0) (h145 : S.1 145 y = Int32.ofNat z1) (h146 : S.1 146 y = Int32.ofNat n) (hn : n < 16) (hv : me_e E V S) (hP : mg_P X lo hi al ah D0 Rt R2 P S) (t0 : mj_t S X lo hi al ah d z0 u) (t1 : mj_t S X lo hi al ah d z1 w) : ∃ S2, fn_Mo_work_85 (Int32.ofNat y) (Int32.ofNat M) S = some S2 ∧ of_f (mgW k vl E) S S2 ∧ mg_O lim D E vl k (mgW k vl E) s 7 (ev_b (ev P lim r V s M u) fun q => ev P lim r (ev_u q.2.1 n q.1) q.2.2.1 q.2.2.2 w) S2 := by
  obtain ⟨S9, h9, w9, o9, -, p9⟩ := gw_85 h (by omega) hM
  have q : ∀ a, 143 ≤ a → a ≤ 149 → S9.1 a y = S.1 a y := fun a x1 x2 => o9.1 a y (by omega)
  have hin : ¬(Int32.ofNat y < 0 ∨ 15010 ≤ y) := by rintro (z | z); exact im_neg (by omega) z; omega
  generalize hS2 : ms_p (k + 2) 1 (Int32.ofNat z0) (ms_p (k + 1) 7 (Int32.ofNat y) S9) = S2
  have o2 : of_f (fun a b => (a = 135 ∧ b = 35) ∨ ((a = 152 ∨ a = 153) ∧ k + 1 ≤ b)) S9 S2 := by
    rw [← hS2]
    exact of_trans (of_mono (fun a b z => by unfold mw_p at z; omega) ms_o) (of_mono (fun a b z => by unfold mw_p at z; omega) ms_o)
  have O2 : of_f (fun a b => (a = 135 ∧ (b = 35 ∨ b = 51)) ∨ ((a = 152 ∨ a = 153) ∧ k ≤ b)) S S2 := of_trans (of_mono (fun a b z => by omega) o9) (of_mono (fun a b z => by omega) o2)
  have n2 : mo_no (fun a b => (a = 135 ∧ (b = 35 ∨ b = 51)) ∨ ((a = 152 ∨ a = 153) ∧ k ≤ b)) := fun a b z => by omega
  have h2 : mv_h lim (D + 1) s M E vl (k + 2 + 1) S2 := by rw [← hS2]; exact mv_push (mv_push h9)
  have x1 : S2.1 152 (k + 2) = 1 := by rw [← hS2, ms_152, if_pos rfl]
  have x2 : S2.1 153 (k + 2) = Int32.ofNat z0 := by rw [← hS2, ms_153, if_pos rfl]
  have x3 : S2.1 152 (k + 1) = 7 := by rw [← hS2, ms_152, if_neg (by omega), ms_152, if_pos rfl]
  have x4 : S2.1 153 (k + 1) = Int32.ofNat y := by rw [← hS2, ms_153, if_neg (by omega), ms_153, if_pos rfl]
  have x5 : S2.1 152 k = 2 := by rw [o2.1 152 k (by omega)]; exact w9
  refine ⟨S2, ?_, of_mono (fun a b z => by unfold mgW; omega) O2, ?_⟩
  · unfold fn_Mo_work_85 fn_Mo_work_317
    simp only [wd_b]
    rw [p9, wd_d_s, if_neg (ms_in hy (by decide)), im_t (show y < 2147483648 by omega), q 143 (by omega) (by omega), h143, if_neg (by decide), if_neg (by decide), if_pos rfl, ms_push h9.1 (by omega), wd_d_s, if_neg hin, ms_o.1 144 y (by unfold mw_p; omega), q 144 (by omega) (by omega), h144, ms_push (t := k + 2) ms_35 (by omega), wd_d_s, hS2]
  · clear hS2
    refine mg_a (s0 := s) (a := 2) ?_ (by omega)
    refine mg_sub hS hR hDr h2 x1 x2 (by omega) (by omega) (by omega) (me_o O2 (fun b _ _ => by omega) hv) (mgP_no hR n2 O2 hP) (mj_no n2 O2 t0) (fun q1 S3 h3 e3 v3 o3 => ?_) (mgW_le (by omega) (by omega) (by omega))
    have yo : ∀ a, 143 ≤ a → a ≤ 149 → S3.1 a y = S.1 a y := fun a x1 x2 => by rw [o3.1 a y (by unfold mgW; omega), O2.1 a y (by omega)]
    obtain ⟨S4, g4, h4, y1, y2, y3, o4⟩ := gt_bind (n := n) (z := Int32.ofNat z1) h3 (by omega) hy (by omega) (by rw [o3.1 152 _ (by unfold mgW; omega)]; exact x3) (by rw [o3.1 153 _ (by unfold mgW; omega)]; exact x4) (by rw [yo 146 (by omega) (by omega)]; exact h146) hn (by rw [yo 145 (by omega) (by omega)]; exact h145)
    have n4 : mo_no (fun a b => (a = 135 ∧ b = 35) ∨ ((a = 152 ∨ a = 153) ∧ b = k + 1) ∨ (a = 158 ∧ b = 16 * E + n)) := fun a b z => by omega
    refine mg_step (W2 := mgW k vl E) g4 (of_mono (fun a b z => by unfold mgW; omega) o4) ?_ (fun _ _ z => z)
    rw [← ev_b_r (ev P lim r (ev_u q1.2.1 n q1.1) q1.2.2.1 q1.2.2.2 w)]
    refine mg_sub hS hR hDr h4 y1 y2 (by omega) (by omega) (by omega) (fun i v' hi => ?_) (mgP_no hR n4 o4 (mgP_no hR mo_mgW o3 (mgP_no hR n2 O2 hP))) (mj_no n4 o4 (mj_no mo_mgW o3 (mj_no n2 O2 t1))) (fun q2 S5 h5 e5 v5 o5 => ?_) (mgW_le (by omega) (by omega) (by omega))
    · unfold ev_u at hi
      by_cases c : i = n
      · rw [if_pos c] at hi
        cases hi
        rw [c]
        exact ⟨hn, by rw [y3, e3]⟩
      · rw [if_neg c] at hi
        obtain ⟨u1, u2⟩ := v3 i v' hi
        exact ⟨u1, by rw [o4.1 158 _ (by omega)]; exact u2⟩
    · exact mg_up h5 (by omega) (by rw [o5.1 152 k (by unfold mgW; omega), o4.1 152 k (by omega), o3.1 152 k (by unfold mgW; omega)]; exact x5) e5 v5
theorem gw_if (hS : mg_S lim X lo hi al ah D0 Rt R2 P r) (hR : mg_R lo hi ah Rt R2) (hDr : D + 1 + r = 160) (h : mv_h lim (D + 1) s m E vl k S) (hk : k + 10 * (r + 1) ≤ 3900) (hvl : vl + 4 * (r + 1) ≤ 3900) (hM : M ≤ 160) (hy : y < 15010) (hE : E ≤ D) (h143 : S.1 143 y = 2) (h144 : S.1 144 y = Int32.ofNat z0) (h145 : S.1 145 y = Int32.ofNat z1) (h146 : S.1 146 y = Int32.ofNat z2) (hv : me_e E V S) (hP : mg_P X lo hi al ah D0 Rt R2 P S) (t0 : mj_t S X lo hi al ah d z0 (tr_sub t 0)) (t1 : mj_t S X lo hi al ah d z1 (tr_sub t 1)) (t2 : mj_t S X lo hi al ah d z2 (tr_sub t 2)) : ∃ S2, fn_Mo_work_85 (Int32.ofNat y) (Int32.ofNat M) S = some S2 ∧ of_f (mgW k vl E) S S2 ∧ mg_O lim D E vl k (mgW k vl E) s 7 (ev_b (ev P lim r V s M (tr_sub t 0)) fun q => ev P lim r q.2.1 q.2.2.1 q.2.2.2 (tr_sub t (if q.1 = 0 then 2 else 1))) S2 := by
  obtain ⟨S9, h9, w9, o9, -, p9⟩ := gw_85 h (by omega) hM
  have q : ∀ a, 143 ≤ a → a ≤ 149 → S9.1 a y = S.1 a y := fun a x1 x2 => o9.1 a y (by omega)
  have hin : ¬(Int32.ofNat y < 0 ∨ 15010 ≤ y) := by rintro (z | z); exact im_neg (by omega) z; omega
  generalize hS2 : ms_p (k + 2) 1 (Int32.ofNat z0) (ms_p (k + 1) 6 (Int32.ofNat y) S9) = S2
  have o2 : of_f (fun a b => (a = 135 ∧ b = 35) ∨ ((a = 152 ∨ a = 153) ∧ k + 1 ≤ b)) S9 S2 := by
    rw [← hS2]
    exact of_trans (of_mono (fun a b z => by unfold mw_p at z; omega) ms_o) (of_mono (fun a b z => by unfold mw_p at z; omega) ms_o)
  have O2 : of_f (fun a b => (a = 135 ∧ (b = 35 ∨ b = 51)) ∨ ((a = 152 ∨ a = 153) ∧ k ≤ b)) S S2 := of_trans (of_mono (fun a b z => by omega) o9) (of_mono (fun a b z => by omega) o2)
  have n2 : mo_no (fun a b => (a = 135 ∧ (b = 35 ∨ b = 51)) ∨ ((a = 152 ∨ a = 153) ∧ k ≤ b)) := fun a b z => by omega
  have h2 : mv_h lim (D + 1) s M E vl (k + 2 + 1) S2 := by rw [← hS2]; exact mv_push (mv_push h9)
  have x1 : S2.1 152 (k + 2) = 1 := by rw [← hS2, ms_152, if_pos rfl]
  have x2 : S2.1 153 (k + 2) = Int32.ofNat z0 := by rw [← hS2, ms_153, if_pos rfl]
  have x3 : S2.1 152 (k + 1) = 6 := by rw [← hS2, ms_152, if_neg (by omega), ms_152, if_pos rfl]
  have x4 : S2.1 153 (k + 1) = Int32.ofNat y := by rw [← hS2, ms_153, if_neg (by omega), ms_153, if_pos rfl]
  have x5 : S2.1 152 k = 2 := by rw [o2.1 152 k (by omega)]; exact w9
  refine ⟨S2, ?_, of_mono (fun a b z => by unfold mgW; omega) O2, ?_⟩
  · unfold fn_Mo_work_85 fn_Mo_work_317
    simp only [wd_b]
    rw [p9, wd_d_s, if_neg (ms_in hy (by decide)), im_t (show y < 2147483648 by omega), q 143 (by omega) (by omega), h143, if_neg (by decide), if_pos rfl, ms_push h9.1 (by omega), wd_d_s, if_neg hin, ms_o.1 144 y (by unfold mw_p; omega), q 144 (by omega) (by omega), h144, ms_push (t := k + 2) ms_35 (by omega), wd_d_s, hS2]
  · clear hS2
    refine mg_a (s0 := s) (a := 2) ?_ (by omega)
    refine mg_sub hS hR hDr h2 x1 x2 (by omega) (by omega) (by omega) (me_o O2 (fun b _ _ => by omega) hv) (mgP_no hR n2 O2 hP) (mj_no n2 O2 t0) (fun q1 S3 h3 e3 v3 o3 => ?_) (mgW_le (by omega) (by omega) (by omega))
    have yo : ∀ a, 143 ≤ a → a ≤ 149 → S3.1 a y = S.1 a y := fun a x1 x2 => by rw [o3.1 a y (by unfold mgW; omega), O2.1 a y (by omega)]
    obtain ⟨z, hz, tz⟩ : ∃ z, (if S3.1 135 47 = 0 then S3.1 146 y else S3.1 145 y) = Int32.ofNat z ∧ mj_t S X lo hi al ah d z (tr_sub t (if q1.1 = 0 then 2 else 1)) := by
      rw [e3, yo 146 (by omega) (by omega), yo 145 (by omega) (by omega), h145, h146]
      by_cases c : q1.1 = 0
      · rw [if_pos c, if_pos c]; exact ⟨z2, rfl, t2⟩
      · rw [if_neg c, if_neg c]; exact ⟨z1, rfl, t1⟩
    obtain ⟨S4, g4, h4, y1, y2, o4⟩ := gt_choose (z := Int32.ofNat z) h3 (by omega) hy (by rw [o3.1 152 _ (by unfold mgW; omega)]; exact x3) (by rw [o3.1 153 _ (by unfold mgW; omega)]; exact x4) hz
    have n4 : mo_no (fun a b => (a = 135 ∧ b = 35) ∨ ((a = 152 ∨ a = 153) ∧ b = k + 1)) := fun a b z => by omega
    refine mg_step (W2 := mgW k vl E) g4 (of_mono (fun a b z => by unfold mgW; omega) o4) ?_ (fun _ _ z => z)
    rw [← ev_b_r (ev P lim r q1.2.1 q1.2.2.1 q1.2.2.2 (tr_sub t (if q1.1 = 0 then 2 else 1)))]
    refine mg_sub hS hR hDr h4 y1 y2 (by omega) (by omega) (by omega) (me_o o4 (fun b _ _ => by omega) v3) (mgP_no hR n4 o4 (mgP_no hR mo_mgW o3 (mgP_no hR n2 O2 hP))) (mj_no n4 o4 (mj_no mo_mgW o3 (mj_no n2 O2 tz))) (fun q2 S5 h5 e5 v5 o5 => ?_) (mgW_le (by omega) (by omega) (by omega))
    exact mg_up h5 (by omega) (by rw [o5.1 152 k (by unfold mgW; omega), o4.1 152 k (by omega), o3.1 152 k (by unfold mgW; omega)]; exact x5) e5 v5
theorem gw_sign (hS : mg_S lim X lo hi al ah D0 Rt R2 P r) (hR : mg_R lo hi ah Rt R2) (hDr : D + 1 + r = 160) (h : mv_h lim (D + 1) s m E vl k S) (hk : k + 10 * (r + 1) ≤ 3900) (hvl : vl + 4 * (r + 1) ≤ 3900) (hM : M ≤ 160) (hy : y < 15010) (hE : E ≤ D) (hkd : kd = 6 ∨ kd = 7 ∨ kd = 8 ∨ kd = 9 ∨ kd = 10) (h143 : S.1 143 y = 1) (h144 : S.1 144 y = Int32.ofNat z0) (h145 : S.1 145 y = Int32.ofNat z1) (h146 : S.1 146 y = lx_cv kd) (hv : me_e E V S) (hP : mg_P X lo hi al ah D0 Rt R2 P S) (t0 : mj_t S X lo hi al ah d z0 u) (t1 : mj_t S X lo hi al ah d z1 w) : ∃ S2, fn_Mo_work_85 (Int32.ofNat y) (Int32.ofNat M) S = some S2 ∧ of_f (mgW k vl E) S S2 ∧ mg_O lim D E vl k (mgW k vl E) s 7 (ev_b (ev P lim r V s M u) fun q => ev_b (ev P lim r q.2.1 q.2.2.1 q.2.2.2 w) fun p => .ok (ev_sg kd q.1 p.1, p.2)) S2 := by
  obtain ⟨S9, h9, w9, o9, -, p9⟩ := gw_85 h (by omega) hM
  have q : ∀ a, 143 ≤ a → a ≤ 149 → S9.1 a y = S.1 a y := fun a x1 x2 => o9.1 a y (by omega)
  have hin : ¬(Int32.ofNat y < 0 ∨ 15010 ≤ y) := by rintro (z | z); exact im_neg (by omega) z; omega
  generalize hS2 : ms_p (k + 4) 1 (Int32.ofNat z0) (ms_p (k + 3) 4 0 (ms_p (k + 2) 1 (Int32.ofNat z1) (ms_p (k + 1) 5 (lx_cv kd) S9))) = S2
  have o2 : of_f (fun a b => (a = 135 ∧ b = 35) ∨ ((a = 152 ∨ a = 153) ∧ k + 1 ≤ b)) S9 S2 := by
    rw [← hS2]
    exact of_trans (of_mono (fun a b z => by unfold mw_p at z; omega) ms_o) (of_trans (of_mono (fun a b z => by unfold mw_p at z; omega) ms_o) (of_trans (of_mono (fun a b z => by unfold mw_p at z; omega) ms_o) (of_mono (fun a b z => by unfold mw_p at z; omega) ms_o)))
  have O2 : of_f (fun a b => (a = 135 ∧ (b = 35 ∨ b = 51)) ∨ ((a = 152 ∨ a = 153) ∧ k ≤ b)) S S2 := of_trans (of_mono (fun a b z => by omega) o9) (of_mono (fun a b z => by omega) o2)
  have n2 : mo_no (fun a b => (a = 135 ∧ (b = 35 ∨ b = 51)) ∨ ((a = 152 ∨ a = 153) ∧ k ≤ b)) := fun a b z => by omega
  have h2 : mv_h lim (D + 1) s M E vl (k + 4 + 1) S2 := by rw [← hS2]; exact mv_push (mv_push (mv_push (mv_push h9)))
  have x1 : S2.1 152 (k + 4) = 1 := by rw [← hS2, ms_152, if_pos rfl]
  have x2 : S2.1 153 (k + 4) = Int32.ofNat z0 := by rw [← hS2, ms_153, if_pos rfl]
  have x3 : S2.1 152 (k + 3) = 4 := by rw [← hS2, ms_152, if_neg (by omega), ms_152, if_pos rfl]
  have x4 : S2.1 152 (k + 2) = 1 := by rw [← hS2, ms_152, if_neg (by omega), ms_152, if_neg (by omega), ms_152, if_pos rfl]
  have x5 : S2.1 153 (k + 2) = Int32.ofNat z1 := by rw [← hS2, ms_153, if_neg (by omega), ms_153, if_neg (by omega), ms_153, if_pos rfl]
  have x6 : S2.1 152 (k + 1) = 5 := by rw [← hS2, ms_152, if_neg (by omega), ms_152, if_neg (by omega), ms_152, if_neg (by omega), ms_152, if_pos rfl]
  have x7 : S2.1 153 (k + 1) = lx_cv kd := by rw [← hS2, ms_153, if_neg (by omega), ms_153, if_neg (by omega), ms_153, if_neg (by omega), ms_153, if_pos rfl]
  have x8 : S2.1 152 k = 2 := by rw [o2.1 152 k (by omega)]; exact w9
  refine ⟨S2, ?_, of_mono (fun a b z => by unfold mgW; omega) O2, ?_⟩
  · have q1 : ∀ a, 143 ≤ a → a ≤ 149 → ∀ kk x z (Sx : wd_S), (ms_p kk x z Sx).1 a y = Sx.1 a y := fun a w1 w2 kk x z Sx => ms_o.1 a y (by unfold mw_p; omega)
    unfold fn_Mo_work_85 fn_Mo_work_317
    simp only [wd_b]
    rw [p9, wd_d_s, if_neg (ms_in hy (by decide)), im_t (show y < 2147483648 by omega), q 143 (by omega) (by omega), h143, if_pos rfl, if_neg hin, q 146 (by omega) (by omega), h146, ms_push h9.1 (by omega), wd_d_s, if_neg hin, q1 145 (by omega) (by omega), q 145 (by omega) (by omega), h145, ms_push (t := k + 2) ms_35 (by omega), wd_d_s, ms_push (t := k + 3) ms_35 (by omega), wd_d_s, if_neg hin, q1 144 (by omega) (by omega), q1 144 (by omega) (by omega), q1 144 (by omega) (by omega), q 144 (by omega) (by omega), h144, ms_push (t := k + 4) ms_35 (by omega), wd_d_s, hS2]
  · clear hS2
    refine mg_a (s0 := s) (a := 3) ?_ (by omega)
    refine mg_sub hS hR hDr h2 x1 x2 (by omega) (by omega) (by omega) (me_o O2 (fun b _ _ => by omega) hv) (mgP_no hR n2 O2 hP) (mj_no n2 O2 t0) (fun q1 S3 h3 e3 v3 o3 => ?_) (mgW_le (by omega) (by omega) (by omega))
    obtain ⟨S4, g4, h4, y1, o4⟩ := gt_keep h3 (by omega) (by omega) (by rw [o3.1 152 _ (by unfold mgW; omega)]; exact x3)
    have n4 : mo_no (fun a b => (a = 135 ∧ (b = 35 ∨ b = 44)) ∨ (a = 157 ∧ b = vl)) := fun a b z => by omega
    refine mg_step (W2 := mgW k vl E) g4 (of_mono (fun a b z => by unfold mgW; omega) o4) ?_ (fun _ _ z => z)
    have e4 : ∀ a b, (a = 152 ∨ a = 153) → b < k + 4 → S4.1 a b = S2.1 a b := fun a b z1 z2 => by rw [o4.1 a b (by omega), o3.1 a b (by unfold mgW; omega)]
    refine mg_sub hS hR hDr h4 (by rw [e4 152 _ (Or.inl rfl) (by omega)]; exact x4) (by rw [e4 153 _ (Or.inr rfl) (by omega)]; exact x5) (by omega) (by omega) (by omega) (me_o o4 (fun b _ _ => by omega) v3) (mgP_no hR n4 o4 (mgP_no hR mo_mgW o3 (mgP_no hR n2 O2 hP))) (mj_no n4 o4 (mj_no mo_mgW o3 (mj_no n2 O2 t1))) (fun q2 S5 h5 e5 v5 o5 => ?_) (mgW_le (by omega) (by omega) (by omega))
    have e6 : ∀ a b, (a = 152 ∨ a = 153) → b < k + 2 → S5.1 a b = S2.1 a b := fun a b z1 z2 => by rw [o5.1 a b (by unfold mgW; omega), e4 a b z1 (by omega)]
    obtain ⟨S6, g6, h6, y6, o6⟩ := gt_apply hkd h5 (by omega) (by omega) (by rw [e6 152 _ (Or.inl rfl) (by omega)]; exact x6) (by rw [e6 153 _ (Or.inr rfl) (by omega)]; exact x7)
    refine mg_step (W2 := mgW k vl E) g6 (of_mono (fun a b z => by unfold mgW; omega) o6) ?_ (fun _ _ z => z)
    exact mg_up h6 (by omega) (by rw [o6.1 152 k (by omega), e6 152 k (Or.inl rfl) (by omega)]; exact x8) (by rw [y6, e5, o5.1 157 vl (by unfold mgW; omega), y1, e3]) (me_o o6 (fun b _ _ => by omega) v5)
end Mg5
end
/-! part a15 -/
section
/-! The reference's runner: calls; a whole run. -/
section Mg6
variable {lim D s m E vl k s0 a D' E' vl' k' a' y n lo hi X Rt R2 al ah D0 d r j z0 z1 z2 M g : Nat} {P : List tr_T} {S S' S1 S2 : wd_S} {V V' : ev_V} {t u w : tr_T} {v x τ kd root : Int32} {W W1 W2 : Nat → Nat → Prop}
theorem gw_283 (hy : y < 15010) (hg : g + a ≤ 15010) : ∀ (q F : Nat) (S1 : wd_S) (k1 : Nat), q ≤ a → q < F → k1 + 2 * q ≤ 4000 → S1.1 135 35 = Int32.ofNat k1 → S1.1 144 y = Int32.ofNat g → ∃ S', fn_Mo_work_283 F (Int32.ofNat y) (Int32.ofNat q - 1) S1 = some S' ∧ S'.1 135 35 = Int32.ofNat (k1 + 2 * q) ∧ (∀ j, j < q → S'.1 152 (k1 + 2 * (q - 1 - j)) = 4 ∧ S'.1 152 (k1 + 2 * (q - 1 - j) + 1) = 1 ∧ S'.1 153 (k1 + 2 * (q - 1 - j) + 1) = S1.1 149 (g + j)) ∧ of_f (fun a' b => (a' = 135 ∧ b = 35) ∨ ((a' = 152 ∨ a' = 153) ∧ k1 ≤ b)) S1 S' := by
  intro q
  induction q with
  | zero =>
    intro F S1 k1 h1 h2 h3 h4 h5
    obtain ⟨F, rfl⟩ : ∃ z, F = z + 1 := ⟨F - 1, by omega⟩
    rw [fn_Mo_work_283]
    unfold fn_Mo_work_317
    rw [if_pos (by decide)]
    exact ⟨S1, rfl, h4, fun j hj => absurd hj (Nat.not_lt_zero _), of_refl⟩
  | succ q ih =>
    intro F S1 k1 h1 h2 h3 h4 h5
    obtain ⟨F, rfl⟩ : ∃ z, F = z + 1 := ⟨F - 1, by omega⟩
    have es : Int32.ofNat g + Int32.ofNat q = Int32.ofNat (g + q) := (Int32.ofNat_add _ _).symm
    have hq1 : ∀ a, 143 ≤ a → a ≤ 149 → ∀ b, (ms_p k1 4 0 S1).1 a b = S1.1 a b := fun a z1 z2 b => ms_o.1 a b (by unfold mw_p; omega)
    rw [im_p, fn_Mo_work_283, if_neg (im_neg (show q < 2147483648 by omega)), ms_push h4 (by omega), wd_d_s, if_neg (ms_in hy (by decide)), im_t (show y < 2147483648 by omega), hq1 144 (by omega) (by omega), h5, es, if_neg (ms_in (show g + q < 15010 by omega) (by decide)), im_t (show g + q < 2147483648 by omega), hq1 149 (by omega) (by omega), ms_push (t := k1 + 1) ms_35 (by omega), wd_d_s]
    generalize hS2 : ms_p (k1 + 1) 1 (S1.1 149 (g + q)) (ms_p k1 4 0 S1) = S2
    have o2 : of_f (fun a' b => (a' = 135 ∧ b = 35) ∨ ((a' = 152 ∨ a' = 153) ∧ k1 ≤ b)) S1 S2 := by
      rw [← hS2]
      exact of_trans (of_mono (fun a b z => by unfold mw_p at z; omega) ms_o) (of_mono (fun a b z => by unfold mw_p at z; omega) ms_o)
    have e35 : S2.1 135 35 = Int32.ofNat (k1 + 1 + 1) := by rw [← hS2]; exact ms_35
    have e1 : S2.1 152 k1 = 4 := by rw [← hS2, ms_152, if_neg (by omega), ms_152, if_pos rfl]
    have e2 : S2.1 152 (k1 + 1) = 1 := by rw [← hS2, ms_152, if_pos rfl]
    have e3 : S2.1 153 (k1 + 1) = S1.1 149 (g + q) := by rw [← hS2, ms_153, if_pos rfl]
    clear hS2
    obtain ⟨S3, f3, k3, c3, o3⟩ := ih F S2 (k1 + 1 + 1) (by omega) (by omega) (by omega) e35 (by rw [o2.1 144 y (by omega)]; exact h5)
    have em : Int32.ofNat q + -1 = Int32.ofNat q - 1 := by rw [Int32.sub_eq_add_neg]
    rw [em]
    refine ⟨S3, f3, by rw [k3, show k1 + 1 + 1 + 2 * q = k1 + 2 * (q + 1) by omega], fun j hj => ?_, of_trans o2 (of_mono (fun a b z => by omega) o3)⟩
    by_cases c : j = q
    · subst c
      rw [show k1 + 2 * (j + 1 - 1 - j) = k1 by omega, o3.1 152 k1 (by omega), o3.1 152 (k1 + 1) (by omega), o3.1 153 (k1 + 1) (by omega)]
      exact ⟨e1, e2, e3⟩
    · have := c3 j (by omega)
      rw [show k1 + 1 + 1 + 2 * (q - 1 - j) = k1 + 2 * (q + 1 - 1 - j) by omega, o2.1 149 _ (by omega)] at this
      exact this
theorem gw_args (hS : mg_S lim X lo hi al ah D0 Rt R2 P r) (hR : mg_R lo hi ah Rt R2) (hDr : D + 1 + r = 160) (hk : k + 10 * (r + 1) ≤ 3900) (hvl : vl + 4 * (r + 1) ≤ 3900) (hyr : mg_r y Rt R2) (hE : E ≤ D) (ha : tr_a t ≤ 4) (hn : n < P.length) : ∀ (r' j : Nat) (l : List Int32) (V : ev_V) (s m : Nat) (S : wd_S), r' + j = tr_a t → l.length = j → mv_h lim (D + 1) s m E (vl + j) (k + 2 + 2 * r') S → (∀ i, j ≤ i → i < tr_a t → S.1 152 (k + 2 + 2 * (tr_a t - 1 - i)) = 4 ∧ S.1 152 (k + 2 + 2 * (tr_a t - 1 - i) + 1) = 1 ∧ S.1 153 (k + 2 + 2 * (tr_a t - 1 - i) + 1) = S.1 149 (g + i)) → S.1 152 (k + 1) = 8 → S.1 153 (k + 1) = Int32.ofNat y → S.1 152 k = 2 → (∀ i, (hi : i < l.length) → S.1 157 (vl + i) = l[i]) → me_e E V S → (∀ i, i < tr_a t → ∃ z, S.1 149 (g + i) = Int32.ofNat z ∧ mj_t S X lo hi al ah d z (tr_sub t i)) → S.1 145 y = Int32.ofNat (tr_a t) → S.1 146 y = Int32.ofNat (X + n) → mg_P X lo hi al ah D0 Rt R2 P S → mg_O lim D E vl k (mgW k vl E) s (r' + 3) (ev_b (ev_args (ev P lim r) t r' j V s m) fun q => ev_b (ev P lim r (ev_l (l ++ q.1)) q.2.2.1 q.2.2.2 (P.getD n tr_z)) fun w => .ok (w.1, q.2.1, w.2.2)) S := by
  have hget : P.getD n tr_z = P[n] := by rw [List.getD_eq_getElem?_getD, List.getElem?_eq_getElem hn]; rfl
  intro r'
  induction r' with
  | zero =>
    intro j l V s m S hj hl h ht h8 hy8 h2 hvals hv hta h145 h146 hP
    have hja : j = tr_a t := by omega
    show mg_O lim D E vl k (mgW k vl E) s 3 (ev_b (ev P lim r (ev_l (l ++ [])) s m (P.getD n tr_z)) fun w => .ok (w.1, V, w.2.2)) S
    rw [List.append_nil, hget]
    obtain ⟨hX, yr, p1, p2⟩ := hP n hn
    rw [hja] at h
    obtain ⟨S2, g2, m2, c2, w1, w2, w3, o2⟩ := gt_enter (k := k + 1) hyr ha (by omega) hX h (by omega) (by omega) h8 hy8 h145 h146 p1
    have n2 : mo_no (fun a' b => (a' = 135 ∧ (b = 35 ∨ b = 44 ∨ b = 46)) ∨ ((a' = 152 ∨ a' = 153) ∧ k + 1 ≤ b) ∨ (a' = 158 ∧ 16 * (E + 1) ≤ b)) := fun a b z => by omega
    refine mg_step (W2 := mgW k vl E) g2 (of_mono (fun a b z => by unfold mgW; omega) o2) ?_ (fun _ _ z => z)
    refine mg_sub (k := k + 2) hS hR hDr m2 w2 w3 (by omega) (by omega) (by omega) (fun i v' hi => ?_) (mgP_no hR n2 o2 hP) (mj_no n2 o2 p2) (fun q S3 h3 e3 v3 o3 => ?_) (mgW_le (by omega) (by omega) (by omega))
    · unfold ev_l at hi
      obtain ⟨q1, q2⟩ := List.getElem?_eq_some_iff.mp hi
      exact ⟨by omega, by rw [c2 i (by omega), hvals i q1, q2]⟩
    · obtain ⟨S4, g4, h4, o4⟩ := gt_leave h3 (by omega) (by rw [o3.1 152 _ (by unfold mgW; omega)]; exact w1)
      refine mg_step (W2 := mgW k vl E) g4 (of_mono (fun a b z => by unfold mgW; omega) o4) ?_ (fun _ _ z => z)
      refine mg_up h4 (by omega) (by rw [o4.1 152 k (by omega), o3.1 152 k (by unfold mgW; omega), o2.1 152 k (by omega)]; exact h2) (by rw [o4.1 135 47 (by omega)]; exact e3) ?_
      exact me_o o4 (fun b _ _ => by omega) (me_o o3 (fun b _ _ => by unfold mgW; omega) (me_o o2 (fun b _ _ => by omega) hv))
  | succ r' ih =>
    intro j l V s m S hj hl h ht h8 hy8 h2 hvals hv hta h145 h146 hP
    show mg_O lim D E vl k (mgW k vl E) s (r' + 1 + 3) (ev_b (ev_b (ev P lim r V s m (tr_sub t j)) fun q => ev_b (ev_args (ev P lim r) t r' (j + 1) q.2.1 q.2.2.1 q.2.2.2) fun w => .ok (q.1 :: w.1, w.2)) _) S
    rw [ev_b_a]
    obtain ⟨z, p1, p2⟩ := hta j (by omega)
    obtain ⟨t1, t2, t3⟩ := ht j (Nat.le_refl _) (by omega)
    rw [show tr_a t - 1 - j = r' by omega] at t1 t2 t3
    rw [p1] at t3
    refine mg_sub (k := k + 2 + 2 * r' + 1) hS hR hDr h t2 t3 (by omega) (by omega) (by omega) hv hP p2 (fun q S3 h3 e3 v3 o3 => ?_) (mgW_le (by omega) (by omega) (by omega))
    obtain ⟨S4, g4, h4, y1, o4⟩ := gt_keep h3 (by omega) (by omega) (by rw [o3.1 152 _ (by unfold mgW; omega)]; exact t1)
    have n4 : mo_no (fun a b => (a = 135 ∧ (b = 35 ∨ b = 44)) ∨ (a = 157 ∧ b = vl + j)) := fun a b z => by omega
    have e4 : ∀ a b, (a = 152 ∨ a = 153) → b < k + 2 + 2 * r' + 1 → S4.1 a b = S.1 a b := fun a b z1 z2 => by rw [o4.1 a b (by omega), o3.1 a b (by unfold mgW; omega)]
    have f4 : ∀ a b, 143 ≤ a → a ≤ 149 → S4.1 a b = S.1 a b := fun a b z1 z2 => by rw [o4.1 a b (by omega), o3.1 a b (by unfold mgW; omega)]
    refine mg_step (W2 := mgW k vl E) g4 (of_mono (fun a b z => by unfold mgW; omega) o4) ?_ (fun _ _ z => z)
    have e : (ev_b (ev_b (ev_args (ev P lim r) t r' (j + 1) q.2.1 q.2.2.1 q.2.2.2) fun w => (.ok (q.1 :: w.1, w.2) : Except ev_E (List Int32 × ev_V × Nat × Nat))) fun q => ev_b (ev P lim r (ev_l (l ++ q.1)) q.2.2.1 q.2.2.2 (P.getD n tr_z)) fun w => (.ok (w.1, q.2.1, w.2.2) : Except ev_E ev_O)) = ev_b (ev_args (ev P lim r) t r' (j + 1) q.2.1 q.2.2.1 q.2.2.2) fun w => ev_b (ev P lim r (ev_l ((l ++ [q.1]) ++ w.1)) w.2.2.1 w.2.2.2 (P.getD n tr_z)) fun u => .ok (u.1, w.2.1, u.2.2) := by
      rw [ev_b_a]
      congr 1
      funext w
      show ev_b (ev P lim r (ev_l (l ++ q.1 :: w.1)) w.2.2.1 w.2.2.2 (P.getD n tr_z)) _ = _
      rw [show l ++ q.1 :: w.1 = (l ++ [q.1]) ++ w.1 by rw [List.append_assoc]; rfl]
    rw [e]
    refine ih (j + 1) (l ++ [q.1]) q.2.1 q.2.2.1 q.2.2.2 S4 (by omega) (by rw [List.length_append, hl]; rfl) h4 (fun i i1 i2 => ?_) (by rw [e4 152 _ (Or.inl rfl) (by omega)]; exact h8) (by rw [e4 153 _ (Or.inr rfl) (by omega)]; exact hy8) (by rw [e4 152 _ (Or.inl rfl) (by omega)]; exact h2) (fun i hi => ?_) (me_o o4 (fun b _ _ => by omega) v3) (fun i hi => ?_) (by rw [f4 145 y (by omega) (by omega)]; exact h145) (by rw [f4 146 y (by omega) (by omega)]; exact h146) (mgP_no hR n4 o4 (mgP_no hR mo_mgW o3 hP))
    · rw [e4 152 _ (Or.inl rfl) (by omega), e4 152 _ (Or.inl rfl) (by omega), e4 153 _ (Or.inr rfl) (by omega), f4 149 _ (by omega) (by omega)]
      exact ht i (by omega) i2
    · by_cases c : i = j
      · subst c
        rw [y1, e3]
        have : (l ++ [q.1])[i]'hi = q.1 := by
          have e2 : i = l.length := by omega
          simp only [e2, List.getElem_concat_length]
        exact this.symm
      · have hi : i < j + 1 := by rw [List.length_append, hl] at hi; exact hi
        rw [List.getElem_append_left (by omega), o4.1 157 _ (by omega), o3.1 157 _ (by unfold mgW; omega)]
        exact hvals i (by omega)
    · obtain ⟨z', k1, k2⟩ := hta i hi
      exact ⟨z', by rw [f4 149 _ (by omega) (by omega)]; exact k1, mj_no n4 o4 (mj_no mo_mgW o3 k2)⟩
theorem gw_call (hS : mg_S lim X lo hi al ah D0 Rt R2 P r) (hR : mg_R lo hi ah Rt R2) (hDr : D + 1 + r = 160) (h : mv_h lim (D + 1) s m E vl k S) (hk : k + 10 * (r + 1) ≤ 3900) (hvl : vl + 4 * (r + 1) ≤ 3900) (hM : M ≤ 160) (hyr : mg_r y Rt R2) (hE : E ≤ D) (ha : tr_a t ≤ 4) (hn : n < P.length) (hg : g + tr_a t ≤ 15010) (h143 : S.1 143 y = 8) (h144 : S.1 144 y = Int32.ofNat g) (h145 : S.1 145 y = Int32.ofNat (tr_a t)) (h146 : S.1 146 y = Int32.ofNat (X + n)) (hv : me_e E V S) (hP : mg_P X lo hi al ah D0 Rt R2 P S) (hta : ∀ i, i < tr_a t → ∃ z, S.1 149 (g + i) = Int32.ofNat z ∧ mj_t S X lo hi al ah d z (tr_sub t i)) : ∃ S2, fn_Mo_work_85 (Int32.ofNat y) (Int32.ofNat M) S = some S2 ∧ of_f (mgW k vl E) S S2 ∧ mg_O lim D E vl k (mgW k vl E) s 7 (ev_b (ev_args (ev P lim r) t (tr_a t) 0 V s M) fun q => ev_b (ev P lim r (ev_l q.1) q.2.2.1 q.2.2.2 (P.getD n tr_z)) fun w => .ok (w.1, q.2.1, w.2.2)) S2 := by
  have hy : y < 15010 := by rcases hyr with z | z <;> omega
  obtain ⟨S9, h9, w9, o9, -, p9⟩ := gw_85 h (by omega) hM
  have q : ∀ a, 143 ≤ a → a ≤ 149 → ∀ b, S9.1 a b = S.1 a b := fun a x1 x2 b => o9.1 a b (by omega)
  have hin : ¬(Int32.ofNat y < 0 ∨ 15010 ≤ y) := by rintro (z | z); exact im_neg (by omega) z; omega
  generalize hS1 : ms_p (k + 1) 8 (Int32.ofNat y) S9 = S1
  have o1 : of_f (fun a b => (a = 135 ∧ b = 35) ∨ ((a = 152 ∨ a = 153) ∧ k + 1 ≤ b)) S9 S1 := by
    rw [← hS1]
    exact of_mono (fun a b z => by unfold mw_p at z; omega) ms_o
  have q1 : ∀ a, 143 ≤ a → a ≤ 149 → ∀ b, S1.1 a b = S.1 a b := fun a x1 x2 b => by rw [o1.1 a b (by omega), q a x1 x2 b]
  obtain ⟨S2, f2, k2, c2, o2⟩ := gw_283 (g := g) (a := tr_a t) hy hg (tr_a t) wd_F S1 (k + 2) (Nat.le_refl _) (by rw [show wd_F = 1000000 from rfl]; omega) (by omega) (by rw [← hS1]; exact ms_35) (by rw [q1 144 (by omega) (by omega)]; exact h144)
  have O2 : of_f (fun a b => (a = 135 ∧ (b = 35 ∨ b = 51)) ∨ ((a = 152 ∨ a = 153) ∧ k ≤ b)) S S2 := of_trans (of_mono (fun a b z => by omega) o9) (of_trans (of_mono (fun a b z => by omega) o1) (of_mono (fun a b z => by omega) o2))
  have n2 : mo_no (fun a b => (a = 135 ∧ (b = 35 ∨ b = 51)) ∨ ((a = 152 ∨ a = 153) ∧ k ≤ b)) := fun a b z => by omega
  have q2 : ∀ a, 143 ≤ a → a ≤ 149 → ∀ b, S2.1 a b = S.1 a b := fun a x1 x2 b => by rw [o2.1 a b (by omega), q1 a x1 x2 b]
  refine ⟨S2, ?_, of_mono (fun a b z => by unfold mgW; omega) O2, ?_⟩
  · unfold fn_Mo_work_85
    simp only [wd_b]
    rw [p9, wd_d_s, if_neg (ms_in hy (by decide)), im_t (show y < 2147483648 by omega), q 143 (by omega) (by omega), h143, if_neg (by decide), if_neg (by decide), if_neg (by decide), if_neg (by decide), if_neg (by decide), if_neg (by decide), if_neg (by decide), ms_push h9.1 (by omega), wd_d_s, hS1, if_neg hin, q1 145 (by omega) (by omega), h145, f2]
  · have hm2 : mv_h lim (D + 1) s M E (vl + 0) (k + 2 + 2 * tr_a t) S2 := mv_o h9 (of_trans (of_mono (fun a b z => Or.inl z) o1) (of_mono (fun a b z => Or.inr z) o2)) (fun b hb => by omega) k2
    have := gw_args (g := g) (d := d) (n := n) (t := t) hS hR hDr hk hvl hyr hE ha hn (tr_a t) 0 [] V s M S2 (by omega) rfl hm2 (fun i _ hi => by rw [q2 149 (by omega) (by omega)]; have := c2 i hi; rw [q1 149 (by omega) (by omega)] at this; exact this) (by rw [o2.1 152 _ (by omega), ← hS1, ms_152, if_pos rfl]) (by rw [o2.1 153 _ (by omega), ← hS1, ms_153, if_pos rfl]) (by rw [o2.1 152 _ (by omega), o1.1 152 _ (by omega)]; exact w9) (fun i hi => absurd hi (Nat.not_lt_zero _)) (me_o O2 (fun b _ _ => by omega) hv) (fun i hi => by
      obtain ⟨z, k1, k2⟩ := hta i hi
      exact ⟨z, by rw [q2 149 (by omega) (by omega)]; exact k1, mj_no n2 O2 k2⟩) (by rw [q2 145 (by omega) (by omega)]; exact h145) (by rw [q2 146 (by omega) (by omega)]; exact h146) (mgP_no hR n2 O2 hP)
    exact mg_a this (by omega)
end Mg6
end
/-! part a16 -/
section
/-! The reference's runner = ev. -/
def mgX (a b : Nat) : Prop := (a = 135 ∧ (b = 35 ∨ b = 44 ∨ (46 ≤ b ∧ b ≤ 52))) ∨ a = 152 ∨ a = 153 ∨ a = 157 ∨ a = 158
section Mg7
variable {lim D s m E vl k s0 a y n lo hi X Rt R2 al ah D0 d r : Nat} {P : List tr_T} {S S' S1 S2 : wd_S} {V V' : ev_V} {t : tr_T} {v x : Int32}
theorem mg_end {F : Nat} (h : ¬S.1 135 52 = 0) : fn_Mo_goes_46 (F + 1) S = some (S.1 135 52, S) := by
  rw [fn_Mo_goes_46, if_neg h, ite_self]
  unfold fn_Mo_goes_416 fn_Mo_goes_431
  rw [if_neg h]
theorem mg_S_s (hS : mg_S lim X lo hi al ah D0 Rt R2 P r) (hR : mg_R lo hi ah Rt R2) : mg_S lim X lo hi al ah D0 Rt R2 P (r + 1) := by
  intro D E vl V s m k y t d S hDr h h1 h2 hE hk hvl hv hP ht
  obtain ⟨w1, -, w3⟩ := gt_work h (by omega) h1 h2
  show mg_O lim D E vl k (mgW k vl E) s 0 (if lim ≤ s then .error (some (2, s, m)) else ev_in P (ev P lim r) V (s + 1) (max m (160 - r)) t) S
  by_cases c : lim ≤ s
  · rw [if_pos c]
    obtain ⟨S', g1, e1, e2, e3, o1⟩ := w1 c
    exact ⟨1, S', g1, by show 1 + 8 * s ≤ 8 * s + 0 + 1; omega, h.2.2.2.2.2.2.2.2.2.1, (show ¬(2 : Int32) = 0 by decide), e1, e2, e3, of_mono (fun a b z => by unfold mgW; omega) o1⟩
  · rw [if_neg c]
    obtain ⟨S1, f1, m1, o1⟩ := w3 c (by omega)
    rw [show 160 - r = D + 1 by omega]
    by_cases ok : ev_ok P.length t
    · have hm := h.2.2.2.2.2.2.2.2.2.2.2.1
      have n1 : mo_no (fun a b => a = 135 ∧ (b = 35 ∨ b = 48 ∨ b = 50 ∨ b = 52)) := fun a b z => by omega
      have hv1 := me_o o1 (fun b _ _ => by omega) hv
      have hP1 := mgP_no hR n1 o1 hP
      have ht1 := mj_no n1 o1 ht
      have fin : ∀ x, (∃ S2, fn_Mo_work_85 (Int32.ofNat y) (Int32.ofNat (max m (D + 1))) S1 = some S2 ∧ of_f (mgW k vl E) S1 S2 ∧ mg_O lim D E vl k (mgW k vl E) (s + 1) 7 x S2) → mg_O lim D E vl k (mgW k vl E) s 0 x S := by
        rintro x ⟨S2, f2, o2, r2⟩
        have := mg_step (W := mgW k vl E) (f1 S2 f2) (of_trans (of_mono (fun a b z => by unfold mgW; omega) o1) o2) r2 (fun _ _ z => z)
        exact mg_a this (by omega)
      unfold ev_in
      rw [if_pos ok]
      cases d with
      | zero => exact absurd ht1 id
      | succ d =>
        obtain ⟨y1, y2, hm1⟩ := ht1
        have hy : y < 15010 := by rcases hR.1 with z | z <;> omega
        have hyr : mg_r y Rt R2 := by
          rcases hR.1 with z | z
          · exact Or.inl ⟨z.1, by omega, z.2.2⟩
          · exact Or.inr ⟨z.1, by omega, by omega, z.2.2.2⟩
        rcases hm1 with ⟨k1, k2, k3, k4⟩ | ⟨k1, k2, k3, k4, -⟩ | ⟨k1, k2, k3, k4, -, z0, z1, p1, p2, p3, p4⟩ | ⟨k1, k2, k3, z0, z1, z2, p1, p2, p3, p4, p5, p6⟩ | ⟨k1, k3, k4, k5, ⟨g, k6, k7⟩, g2, p1, p2, p3, p4⟩ | ⟨k1, k2, k3, k4, z0, z1, p1, p2, p3, p4⟩
        · rw [if_pos k1]
          refine fin _ ?_
          obtain ⟨S2, f2, o2, r2⟩ := gw_num m1 (show k < 4000 by omega) (show max m (D + 1) ≤ 160 by omega) hy k3 k4 hv1
          exact ⟨S2, f2, o2, mg_a r2 (by omega)⟩
        · rw [if_neg (by rw [k1]; decide), if_pos k1]
          cases hq : V (tr_n t) with
          | none => trivial
          | some v =>
            have hn : tr_v t = Int32.ofNat (tr_n t) := by
              rcases ok with q | ⟨-, q, -⟩ | ⟨q, -⟩ | ⟨q, -⟩ | ⟨q, -⟩ | ⟨q | q | q | q | q, -⟩
              · rw [k1] at q; exact absurd q (by decide)
              · exact q
              all_goals (rw [k1] at q; exact absurd q (by decide))
            refine fin _ ?_
            obtain ⟨S2, f2, o2, r2⟩ := gw_name (n := tr_n t) m1 (show k < 4000 by omega) (show max m (D + 1) ≤ 160 by omega) hy (by omega) k3 (by rw [k4, hn]) hv1 hq
            exact ⟨S2, f2, o2, mg_a r2 (by omega)⟩
        · rw [if_neg (by rw [k1]; decide), if_neg (by rw [k1]; decide), if_pos k1]
          have hn : tr_v t = Int32.ofNat (tr_n t) ∧ tr_n t < 16 := by
            rcases ok with q | ⟨q, -⟩ | ⟨-, q1, q2, -⟩ | ⟨q, -⟩ | ⟨q, -⟩ | ⟨q | q | q | q | q, -⟩
            · rw [k1] at q; exact absurd q (by decide)
            · rw [k1] at q; exact absurd q (by decide)
            · exact ⟨q1, q2⟩
            all_goals (rw [k1] at q; exact absurd q (by decide))
          exact fin _ (gw_let hS hR (by omega) m1 hk hvl (by omega) hy hE k3 p1 p2 (by rw [k4, hn.1]) hn.2 hv1 hP1 p3 p4)
        · rw [if_neg (by rw [k1]; decide), if_neg (by rw [k1]; decide), if_neg (by rw [k1]; decide), if_pos k1]
          exact fin _ (gw_if hS hR (by omega) m1 hk hvl (by omega) hy hE k3 p1 p2 p3 hv1 hP1 p4 p5 p6)
        · rw [if_neg (by rw [k1]; decide), if_neg (by rw [k1]; decide), if_neg (by rw [k1]; decide), if_neg (by rw [k1]; decide), if_pos k1]
          have hn : tr_v t = Int32.ofNat (tr_n t) ∧ tr_n t < P.length := by
            rcases ok with q | ⟨q, -⟩ | ⟨q, -⟩ | ⟨q, -⟩ | ⟨-, -, q1, q2⟩ | ⟨q | q | q | q | q, -⟩
            · rw [k1] at q; exact absurd q (by decide)
            · rw [k1] at q; exact absurd q (by decide)
            · rw [k1] at q; exact absurd q (by decide)
            · rw [k1] at q; exact absurd q (by decide)
            · exact ⟨q1, q2⟩
            all_goals (rw [k1] at q; exact absurd q (by decide))
          have e146 : S1.1 146 y = Int32.ofNat (X + tr_n t) := by
            rw [k7, Int32.ofNat_add, ← k6, hn.1, ← Int32.ofNat_add]
          have hah := hR.2
          exact fin _ (gw_call (g := g2) (d := d) hS hR (by omega) m1 hk hvl (by omega) hyr hE k5 hn.2 (by omega) k3 p1 k4 e146 hv1 hP1 p4)
        · have nn : ∀ c : Int32, c = 1 ∨ c = 2 ∨ c = 3 ∨ c = 4 ∨ c = 5 → ¬tr_k t = c := fun c hc q => by
            rw [q] at k1
            rcases hc with z | z | z | z | z <;> rw [z] at k1 <;> exact absurd k1 (by decide)
          rw [if_neg (nn 1 (by decide)), if_neg (nn 2 (by decide)), if_neg (nn 3 (by decide)), if_neg (nn 4 (by decide)), if_neg (nn 5 (by decide))]
          exact fin _ (gw_sign hS hR (by omega) m1 hk hvl (by omega) hy hE k1 k3 p1 p2 k4 hv1 hP1 p3 p4)
    · unfold ev_in
      rw [if_neg ok]
      trivial
theorem mg_S_0 : mg_S lim X lo hi al ah D0 Rt R2 P 0 := by
  intro D E vl V s m k y t d S hDr h h1 h2 hE hk hvl hv hP ht
  obtain ⟨w1, w2, -⟩ := gt_work h (by omega) h1 h2
  show mg_O lim D E vl k (mgW k vl E) s 0 (if lim ≤ s then .error (some (2, s, m)) else .error (some (3, s, m))) S
  by_cases c : lim ≤ s
  · rw [if_pos c]
    obtain ⟨S', g1, e1, e2, e3, o1⟩ := w1 c
    exact ⟨1, S', g1, by show 1 + 8 * s ≤ 8 * s + 0 + 1; omega, h.2.2.2.2.2.2.2.2.2.1, (show ¬(2 : Int32) = 0 by decide), e1, e2, e3, of_mono (fun a b z => by unfold mgW; omega) o1⟩
  · rw [if_neg c]
    obtain ⟨S', g1, e1, e2, e3, o1⟩ := w2 c (by omega)
    exact ⟨1, S', g1, by show 1 + 8 * s ≤ 8 * s + 0 + 1; omega, h.2.2.2.2.2.2.2.2.2.1, (show ¬(3 : Int32) = 0 by decide), e1, e2, e3, of_mono (fun a b z => by unfold mgW; omega) o1⟩
theorem mg_all (hR : mg_R lo hi ah Rt R2) : ∀ r, mg_S lim X lo hi al ah D0 Rt R2 P r := by
  intro r
  induction r with
  | zero => exact mg_S_0
  | succ r ih => exact mg_S_s ih hR
theorem mo_goes (hR : mg_R lo hi ah Rt R2) (hP : mg_P X lo hi al ah D0 Rt R2 P S) (ht : mj_t S X lo hi al ah d y t) (hv : me_e 0 V S) (hlim : lim ≤ 20000) : match ev P lim 160 V 0 0 t with
    | .error none => True
    | .error (some e) => ∃ S', fn_Mo_goes (Int32.ofNat y) (Int32.ofNat lim) S = some (e.1, S') ∧ ¬e.1 = 0 ∧ S'.1 135 48 = Int32.ofNat e.2.1 ∧ S'.1 135 51 = Int32.ofNat e.2.2 ∧ of_f mgX S S'
    | .ok q => ∃ S', fn_Mo_goes (Int32.ofNat y) (Int32.ofNat lim) S = some (1, S') ∧ S'.1 135 47 = q.1 ∧ S'.1 135 48 = Int32.ofNat q.2.2.1 ∧ S'.1 135 51 = Int32.ofNat q.2.2.2 ∧ of_f mgX S S' := by
  generalize hS8 : wd_i (wd_i (wd_i (wd_i (wd_i (wd_i (wd_i (wd_i S 135 35 0) 135 44 0) 135 46 0) 135 48 0) 135 49 (Int32.ofNat lim)) 135 50 0) 135 51 0) 135 52 0 = S8
  have o8 : of_f (fun a b => a = 135 ∧ (b = 35 ∨ b = 44 ∨ b = 46 ∨ b = 48 ∨ b = 49 ∨ b = 50 ∨ b = 51 ∨ b = 52)) S S8 := by
    rw [← hS8]
    exact of_i (by omega) (of_i (by omega) (of_i (by omega) (of_i (by omega) (of_i (by omega) (of_i (by omega) (of_i (by omega) (of_i (by omega) of_refl)))))))
  have h8 : mv_h lim 0 0 0 0 0 0 S8 := by
    rw [← hS8]
    refine ⟨?_, ?_, ?_, ?_, ?_, ?_, ?_, fr_eq, hlim, by omega, by omega, by omega, by omega⟩
    · rw [fr_ne (by omega), fr_ne (by omega), fr_ne (by omega), fr_ne (by omega), fr_ne (by omega), fr_ne (by omega), fr_ne (by omega), fr_eq]; rfl
    · rw [fr_ne (by omega), fr_ne (by omega), fr_ne (by omega), fr_ne (by omega), fr_ne (by omega), fr_ne (by omega), fr_eq]; rfl
    · rw [fr_ne (by omega), fr_ne (by omega), fr_ne (by omega), fr_ne (by omega), fr_ne (by omega), fr_eq]; rfl
    · rw [fr_ne (by omega), fr_ne (by omega), fr_ne (by omega), fr_ne (by omega), fr_eq]; rfl
    · rw [fr_ne (by omega), fr_ne (by omega), fr_ne (by omega), fr_eq]
    · rw [fr_ne (by omega), fr_ne (by omega), fr_eq]; rfl
    · rw [fr_ne (by omega), fr_eq]; rfl
  generalize hS9 : ms_p 0 1 (Int32.ofNat y) S8 = S9
  have h9 : mv_h lim 0 0 0 0 0 (0 + 1) S9 := by rw [← hS9]; exact mv_push h8
  have o89 : of_f (mw_p 0) S8 S9 := by rw [← hS9]; exact ms_o
  have o9 : of_f (fun a b => (a = 135 ∧ (b = 35 ∨ b = 44 ∨ b = 46 ∨ b = 48 ∨ b = 49 ∨ b = 50 ∨ b = 51 ∨ b = 52)) ∨ a = 152 ∨ a = 153) S S9 := of_trans (of_mono (fun a b z => Or.inl z) o8) (of_mono (fun a b z => by unfold mw_p at z; omega) o89)
  have n9 : mo_no (fun a b => (a = 135 ∧ (b = 35 ∨ b = 44 ∨ b = 46 ∨ b = 48 ∨ b = 49 ∨ b = 50 ∨ b = 51 ∨ b = 52)) ∨ a = 152 ∨ a = 153) := fun a b z => by omega
  have eg : fn_Mo_goes (Int32.ofNat y) (Int32.ofNat lim) S = fn_Mo_goes_46 wd_F S9 := by
    unfold fn_Mo_goes
    simp only [wd_b]
    rw [hS8, ms_push h8.1 (by decide), wd_d_s, hS9]
  have hr := mg_all (lim := lim) (P := P) (X := X) (al := al) (D0 := D0) hR 160 0 0 0 V 0 0 0 y t d S9 rfl h9 (by rw [← hS9, ms_152, if_pos rfl]) (by rw [← hS9, ms_153, if_pos rfl]) (Nat.le_refl _) (by omega) (by omega) (me_o o9 (fun b _ _ => by omega) hv) (mgP_no hR n9 o9 hP) (mj_no n9 o9 ht)
  have oX : ∀ S', of_f (mgW 0 0 0) S9 S' → of_f mgX S S' := fun S' o => of_trans (of_mono (fun a b z => by unfold mgX; omega) o9) (of_mono (fun a b z => by unfold mgW at z; unfold mgX; omega) o)
  cases hq : ev P lim 160 V 0 0 t with
  | error e =>
    cases e with
    | none => trivial
    | some e =>
      rw [hq] at hr
      obtain ⟨g, S', k1, k2, k3, k4, k5, k6, k7, k8⟩ := hr
      have k1 := k1 (wd_F - g - 1 + 1)
      rw [show wd_F - g - 1 + 1 + g = wd_F by rw [show wd_F = 1000000 from rfl]; omega] at k1
      exact ⟨S', by rw [eg, k1, mg_end (by rw [k5]; exact k4), k5], k4, k6, k7, oX S' k8⟩
  | ok q =>
    rw [hq] at hr
    obtain ⟨g, S', k1, k2, k3, k4, k5, k6⟩ := hr
    have hs := k3.2.2.2.2.2.2.2.2.2.1
    have k1 := k1 (wd_F - g - 1 + 1)
    rw [show wd_F - g - 1 + 1 + g = wd_F by rw [show wd_F = 1000000 from rfl]; omega] at k1
    refine ⟨S', ?_, k4, k3.2.2.2.1, k3.2.2.2.2.2.2.1, oX S' k6⟩
    rw [eg, k1, fn_Mo_goes_46, k3.1, if_neg (show ¬(0 : Int32) < Int32.ofNat 0 by decide)]
    unfold fn_Mo_goes_416 fn_Mo_goes_431
    rw [if_pos k3.2.2.2.2.2.2.2.1]
end Mg7
end
/-! part b00 -/
section
/-! What becomes of a text: rests, versions; what is gone through, tried. -/
abbrev mk_V : Type := Nat × Nat × (Nat → Int32)
abbrev mk_N : Type := Nat → Option (Bool × Int32)
abbrev mk_R : Type := tr_T × Nat × Nat
abbrev mk_S : Type := List mk_V × Nat × Nat × Nat
abbrev mk_O : Type := mk_R × mk_N × mk_S
abbrev mk_E : Type := Option Unit
abbrev mk_P : Type := mk_N → mk_S → tr_T → Except mk_E mk_O
def mk_b {α β : Type} (x : Except mk_E α) (f : α → Except mk_E β) : Except mk_E β := match x with
  | .ok a => f a
  | .error e => .error e
def mk_u (N : mk_N) (s : Nat) (q : Bool × Int32) : mk_N := fun i => if i = s then some q else N i
def mk_n (v : Int32) : mk_R := (tr_l 1 v 0, 1, 0)
def mk_bt (m i : Nat) : Bool := decide (m / 2 ^ i % 2 = 1)
def mk_is (f m : Nat) (kn : Nat → Int32) (v : mk_V) : Bool := decide (v.1 = f) && (decide (v.2.1 = m) && (List.range 4).all (fun i => !(mk_bt m i) || decide (v.2.2 i = kn i)))
theorem mk_is_iff {f m : Nat} {kn : Nat → Int32} {v : mk_V} : mk_is f m kn v = true ↔ (v.1 = f ∧ v.2.1 = m ∧ ∀ i, i < 4 → mk_bt m i = true → v.2.2 i = kn i) := by
  unfold mk_is
  rw [Bool.and_eq_true, Bool.and_eq_true, decide_eq_true_iff, decide_eq_true_iff, List.all_eq_true]
  refine ⟨fun h => ⟨h.1, h.2.1, fun i hi hb => ?_⟩, fun h => ⟨h.1, h.2.1, fun i hi => ?_⟩⟩
  · have := h.2.2 i (List.mem_range.mpr hi)
    rw [hb, Bool.not_true, Bool.false_or, decide_eq_true_iff] at this
    exact this
  · cases hb : mk_bt m i with
    | false => rfl
    | true =>
      rw [Bool.not_true, Bool.false_or, decide_eq_true_iff]
      exact h.2.2 i (List.mem_range.mp hi) hb
theorem mk_is_no {f m : Nat} {kn : Nat → Int32} {v : mk_V} (h : ¬(v.1 = f ∧ v.2.1 = m ∧ ∀ i, i < 4 → mk_bt m i = true → v.2.2 i = kn i)) : mk_is f m kn v = false := Bool.eq_false_iff.mpr (fun q => h (mk_is_iff.mp q))
/-- the first version that is wanted -/
def mk_fd (f m : Nat) (kn : Nat → Int32) : List mk_V → Nat → Option Nat
  | [], _ => none
  | v :: r, k => if mk_is f m kn v = true then some k else mk_fd f m kn r (k + 1)
/-- the mask of the first n -/
def mk_mk (nb : Nat → Bool) : Nat → Nat
  | 0 => 0
  | n + 1 => mk_mk nb n + if nb n = true then 2 ^ n else 0
def mk_at (as : List mk_R) (i : Nat) : mk_R := as.getD i (mk_n 0)
def mk_nb (as : List mk_R) (i : Nat) : Bool := decide (tr_k (mk_at as i).1 = 1)
def mk_ma (as : List mk_R) : Nat := mk_mk (mk_nb as) as.length
def mk_kn (as : List mk_R) (i : Nat) : Int32 := tr_v (mk_at as i).1
def mk_new (f m : Nat) (kn : Nat → Int32) : mk_V := (f, m, fun i => if mk_bt m i = true then kn i else 0)
def mk_kp (as : List mk_R) : List mk_R := as.filter (fun a => decide (¬tr_k a.1 = 1))
/-- of a call: its version, the arguments that stay, the versions then -/
def mk_ld (f m : Nat) (kn : Nat → Int32) (as : List mk_R) (vs : List mk_V) : Nat × List mk_R × List mk_V := match mk_fd f m kn vs 0 with
  | some k => (k, mk_kp as, vs)
  | none => if vs.length < 30 then (vs.length, mk_kp as, vs ++ [mk_new f m kn]) else match mk_fd f 0 kn vs 0 with
    | some k => (k, as, vs)
    | none => (vs.length, as, vs ++ [mk_new f 0 kn])
def mk_sz : List mk_R → Nat
  | [] => 0
  | a :: r => a.2.1 + mk_sz r
def mk_lt : List mk_R → Nat
  | [] => 0
  | a :: r => a.2.2 + mk_lt r
def mk_cl (k : Nat) (as : List mk_R) : mk_R := (tr_mk 5 (Int32.ofNat k) 0 as.length (tr_ls (as.map (fun a => a.1))), 1 + mk_sz as, mk_lt as)
def mk_go (f : Nat) (as : List mk_R) (s : mk_S) : mk_R × mk_S := (mk_cl (mk_ld f (mk_ma as) (mk_kn as) as s.1).1 (mk_ld f (mk_ma as) (mk_kn as) as s.1).2.1, (mk_ld f (mk_ma as) (mk_kn as) as s.1).2.2, s.2)
def mk_call (P : List tr_T) (f : Nat) (as : List mk_R) (s : mk_S) : Except mk_E (mk_R × mk_S) := if mk_ma as = 2 ^ as.length - 1 then (match ev P 500 160 (ev_l (as.map (fun a => tr_v a.1))) 0 0 (P.getD f tr_z) with
    | .ok q => .ok (mk_n q.1, s.1, s.2.1, s.2.2.1 + 1, s.2.2.2 + 1)
    | .error none => .error none
    | .error (some _) => .ok (mk_go f as (s.1, s.2.1, s.2.2.1 + 1, s.2.2.2))) else .ok (mk_go f as s)
def mk_args (self : mk_P) (t : tr_T) : Nat → Nat → mk_N → mk_S → Except mk_E (List mk_R × mk_N × mk_S)
  | 0, _, N, s => .ok ([], N, s)
  | r + 1, j, N, s => mk_b (self N s (tr_sub t j)) fun q => mk_b (mk_args self t r (j + 1) q.2.1 q.2.2) fun w => .ok (q.1 :: w.1, w.2)
def pg_P (pg : pg_T) : List tr_T := pg.map (fun q => q.2.1)
def pg_n (pg : pg_T) (f : Nat) : Nat := (pg.getD f (0, tr_z, 0, 0)).1
def mk_name (q : Bool × Int32) : mk_R := if q.1 = true then mk_n q.2 else (tr_l 2 q.2 0, 1, 0)
def mk_let (self : mk_P) : mk_P := fun N s t => mk_b (self N s (tr_sub t 0)) fun q => if tr_k q.1.1 = 1 then self (mk_u q.2.1 (tr_n t) (true, tr_v q.1.1)) q.2.2 (tr_sub t 1) else mk_b (self (mk_u q.2.1 (tr_n t) (false, tr_v t)) q.2.2 (tr_sub t 1)) fun w => .ok ((tr_2 3 (tr_v t) 0 q.1.1 w.1.1, 1 + q.1.2.1 + w.1.2.1, 1 + q.1.2.2 + w.1.2.2), w.2)
def mk_if (self : mk_P) : mk_P := fun N s t => mk_b (self N s (tr_sub t 0)) fun q => if tr_k q.1.1 = 1 then self q.2.1 q.2.2 (tr_sub t (if tr_v q.1.1 = 0 then 2 else 1)) else mk_b (self q.2.1 q.2.2 (tr_sub t 1)) fun w => mk_b (self w.2.1 w.2.2 (tr_sub t 2)) fun u => .ok ((tr_3 4 0 0 q.1.1 w.1.1 u.1.1, 1 + q.1.2.1 + w.1.2.1 + u.1.2.1, q.1.2.2 + w.1.2.2 + u.1.2.2), u.2)
def mk_ca (pg : pg_T) (self : mk_P) : mk_P := fun N s t => mk_b (mk_args self t (tr_a t) 0 N s) fun q => mk_b (mk_call (pg_P pg) (tr_n t) q.1 q.2.2) fun w => .ok (w.1, q.2.1, w.2)
def mk_sg (self : mk_P) : mk_P := fun N s t => mk_b (self N s (tr_sub t 0)) fun q => mk_b (self q.2.1 q.2.2 (tr_sub t 1)) fun w => if tr_k q.1.1 = 1 ∧ tr_k w.1.1 = 1 then .ok (mk_n (ev_sg (tr_k t) (tr_v q.1.1) (tr_v w.1.1)), w.2) else .ok ((tr_2 (tr_k t) 0 0 q.1.1 w.1.1, 1 + q.1.2.1 + w.1.2.1, q.1.2.2 + w.1.2.2), w.2)
def mk_in (pg : pg_T) (self : mk_P) : mk_P := fun N s t => if ev_ok pg.length t then (if tr_k t = 1 then .ok (mk_n (tr_v t), N, s) else if tr_k t = 2 then (match N (tr_n t) with
    | some q => .ok (mk_name q, N, s)
    | none => .error none) else if tr_k t = 3 then mk_let self N s t else if tr_k t = 4 then mk_if self N s t else if tr_k t = 5 then (if tr_a t = pg_n pg (tr_n t) then mk_ca pg self N s t else .error none) else mk_sg self N s t) else .error none
/-- what becomes of an EXPRESSION with room for r below -/
def mk (pg : pg_T) : Nat → mk_P
  | 0 => fun _ _ _ => .error none
  | r + 1 => fun N s t => if 1000 ≤ s.2.1 then .error (some ()) else mk_in pg (mk pg r) N (s.1, s.2.1 + 1, s.2.2) t
/-- how many of the first n are left -/
def mk_lf (m : Nat) : Nat → Nat
  | 0 => 0
  | i + 1 => mk_lf m i + if mk_bt m i = true then 0 else 1
def mk_e (pn : Nat) (v : mk_V) : mk_N := fun i => if i < pn then some (if mk_bt v.2.1 i = true then (true, v.2.2 i) else (false, Int32.ofNat (mk_lf v.2.1 i))) else none
def mk_lp (pg : pg_T) : Nat → Nat → pg_T → mk_S → Except mk_E (pg_T × mk_S)
  | 0, _, _, _ => .error none
  | F + 1, k, ds, s => match s.1[k]? with
    | none => .ok (ds, s)
    | some v => mk_b (mk pg 96 (mk_e (pg_n pg v.1) v) s ((pg_P pg).getD v.1 tr_z)) fun q => mk_lp pg F (k + 1) (ds ++ [(mk_lf v.2.1 (pg_n pg v.1), q.1.1, q.1.2.1, q.1.2.2)]) q.2.2
def mk_all (pg : pg_T) (f m : Nat) (kn : Nat → Int32) : Except mk_E (pg_T × mk_S) := mk_lp pg 79 0 [] ([mk_new f m kn], 0, 0, 0)
theorem mk_b_ok {α β : Type} {x : Except mk_E α} {f : α → Except mk_E β} {b : β} (h : mk_b x f = .ok b) : ∃ a, x = .ok a ∧ f a = .ok b := by
  cases x with
  | error e => cases h
  | ok a => exact ⟨a, rfl, h⟩
/-! Masks. -/
theorem mk_mk_lt (nb : Nat → Bool) : ∀ n, mk_mk nb n < 2 ^ n := by
  intro n
  induction n with
  | zero => exact Nat.one_pos
  | succ n ih =>
    show mk_mk nb n + (if nb n = true then 2 ^ n else 0) < 2 ^ (n + 1)
    rw [Nat.pow_succ]
    split <;> omega
theorem mk_bt_lt {m i n : Nat} (hm : m < 2 ^ n) (hi : n ≤ i) : mk_bt m i = false := by
  have : m / 2 ^ i = 0 := Nat.div_eq_of_lt (Nat.lt_of_lt_of_le hm (Nat.pow_le_pow_right (by decide) hi))
  unfold mk_bt
  rw [this]
  rfl
theorem mk_bt_a {m n : Nat} (hm : m < 2 ^ n) : ∀ i, i < n → mk_bt (m + 2 ^ n) i = mk_bt m i := by
  intro i hi
  unfold mk_bt
  have e : 2 ^ n = 2 ^ i * (2 * 2 ^ (n - i - 1)) := by
    rw [← Nat.mul_assoc, Nat.mul_comm (2 ^ i) 2, ← Nat.pow_succ', ← Nat.pow_add]
    congr 1
    omega
  rw [e, Nat.add_mul_div_left _ _ (Nat.two_pow_pos i), Nat.add_mul_mod_self_left]
theorem mk_bt_n {m n : Nat} (hm : m < 2 ^ n) : mk_bt (m + 2 ^ n) n = true := by
  unfold mk_bt
  rw [Nat.add_div_right _ (Nat.two_pow_pos n), Nat.div_eq_of_lt hm]
  rfl
theorem mk_mk_bt (nb : Nat → Bool) : ∀ n i, mk_bt (mk_mk nb n) i = (decide (i < n) && nb i) := by
  intro n
  induction n with
  | zero => intro i; show mk_bt 0 i = _; unfold mk_bt; rw [Nat.zero_div]; simp
  | succ n ih =>
    intro i
    have hl := mk_mk_lt nb n
    show mk_bt (mk_mk nb n + (if nb n = true then 2 ^ n else 0)) i = _
    rcases Nat.lt_trichotomy i n with h | h | h
    · have e : mk_bt (mk_mk nb n + (if nb n = true then 2 ^ n else 0)) i = mk_bt (mk_mk nb n) i := by
        split
        · exact mk_bt_a hl i h
        · rfl
      rw [e, ih, decide_eq_true h, decide_eq_true (show i < n + 1 by omega)]
    · subst h
      rw [decide_eq_true (Nat.lt_succ_self i), Bool.true_and]
      cases hb : nb i with
      | true => rw [if_pos rfl]; exact mk_bt_n hl
      | false => rw [if_neg (by decide)]; exact mk_bt_lt hl (Nat.le_refl _)
    · rw [decide_eq_false (show ¬i < n + 1 by omega), Bool.false_and]
      exact mk_bt_lt (n := n + 1) (mk_mk_lt nb (n + 1)) (by omega)
theorem mk_mk_all (nb : Nat → Bool) : ∀ n, mk_mk nb n = 2 ^ n - 1 ↔ ∀ i, i < n → nb i = true := by
  intro n
  induction n with
  | zero => exact ⟨fun _ i hi => absurd hi (Nat.not_lt_zero _), fun _ => rfl⟩
  | succ n ih =>
    have hl := mk_mk_lt nb n
    have hp := Nat.two_pow_pos n
    show mk_mk nb n + (if nb n = true then 2 ^ n else 0) = 2 ^ (n + 1) - 1 ↔ _
    rw [Nat.pow_succ]
    constructor
    · intro h i hi
      split at h
      · next hn =>
        by_cases e : i = n
        · rw [e]; exact hn
        · exact ih.mp (by omega) i (by omega)
      · omega
    · intro h
      have h1 := ih.mpr (fun i hi => h i (by omega))
      rw [if_pos (h n (Nat.lt_succ_self n)), h1]
      omega
theorem mk_i_bt : ∀ m, m < 16 → ∀ i, i < 4 → ((Int32.ofNat m >>> (Int32.ofNat i &&& 31)) &&& 1) = if mk_bt m i = true then 1 else 0 := by decide +kernel
theorem mk_i_or : ∀ i, i < 4 → ∀ m, m < 2 ^ i → Int32.ofNat m ||| ((1 : Int32) <<< (Int32.ofNat i &&& 31)) = Int32.ofNat (m + 2 ^ i) := by decide +kernel
theorem mk_i_pm : ∀ n, n < 5 → ((1 : Int32) <<< (Int32.ofNat n &&& 31)) - 1 = Int32.ofNat (2 ^ n - 1) := by decide +kernel
theorem mk_i_an : ∀ m, m < 16 → ∀ n, n < 5 → Int32.ofNat m &&& Int32.ofNat (2 ^ n - 1) = Int32.ofNat (m % 2 ^ n) := by decide +kernel
theorem mk_lf_c : ∀ n, n < 5 → ∀ m, m < 2 ^ n → mk_lf m n + kn_c m = n := by decide +kernel
theorem mk_lf_le (m : Nat) : ∀ i, mk_lf m i ≤ i := by
  intro i
  induction i with
  | zero => exact Nat.le_refl _
  | succ i ih =>
    show mk_lf m i + (if mk_bt m i = true then 0 else 1) ≤ i + 1
    split <;> omega
theorem mk_lf_mono (m : Nat) : ∀ i j, i ≤ j → mk_lf m i ≤ mk_lf m j := by
  intro i j h
  induction h with
  | refl => exact Nat.le_refl _
  | step _ ih => exact Nat.le_trans ih (Nat.le_add_right _ _)
theorem mk_sz_a : ∀ l r : List mk_R, mk_sz (l ++ r) = mk_sz l + mk_sz r := by
  intro l r
  induction l with
  | nil => exact (Nat.zero_add _).symm
  | cons a l ih => show a.2.1 + mk_sz (l ++ r) = a.2.1 + mk_sz l + mk_sz r; omega
theorem mk_lt_a : ∀ l r : List mk_R, mk_lt (l ++ r) = mk_lt l + mk_lt r := by
  intro l r
  induction l with
  | nil => exact (Nat.zero_add _).symm
  | cons a l ih => show a.2.2 + mk_lt (l ++ r) = a.2.2 + mk_lt l + mk_lt r; omega
theorem mk_fd_lt {f m : Nat} {kn : Nat → Int32} : ∀ (l : List mk_V) (k j : Nat), mk_fd f m kn l k = some j → k ≤ j ∧ ∃ h : j - k < l.length, mk_is f m kn l[j - k] = true := by
  intro l
  induction l with
  | nil => intro k j h; cases h
  | cons v r ih =>
    intro k j h
    unfold mk_fd at h
    split at h
    · next hv =>
      cases h
      refine ⟨Nat.le_refl _, by rw [Nat.sub_self]; exact Nat.zero_lt_succ _, ?_⟩
      simp only [Nat.sub_self]
      exact hv
    · obtain ⟨h1, h2, h3⟩ := ih _ _ h
      have e : j - k = j - (k + 1) + 1 := by omega
      refine ⟨by omega, by rw [e]; exact Nat.succ_lt_succ h2, ?_⟩
      simp only [e]
      exact h3
theorem mk_fd_no {f m : Nat} {kn : Nat → Int32} : ∀ (l : List mk_V) (k : Nat), mk_fd f m kn l k = none → ∀ v, v ∈ l → mk_is f m kn v = false := by
  intro l
  induction l with
  | nil => intro k _ v hv; cases hv
  | cons v r ih =>
    intro k h w hw
    unfold mk_fd at h
    split at h
    · cases h
    · next hv =>
      rcases List.mem_cons.mp hw with e | e
      · rw [e]; exact Bool.eq_false_iff.mpr hv
      · exact ih _ h w e
end
/-! part b01 -/
section
/-! How many versions there may be. -/
theorem mk_pig1 (n : Nat) : ∀ l : List Nat, l.Nodup → l.length ≤ (l.filter (fun x => decide (¬x = n))).length + 1 := by
  intro l
  induction l with
  | nil => intro _; exact Nat.zero_le _
  | cons a l ih =>
    intro h
    obtain ⟨h1, h2⟩ := List.nodup_cons.mp h
    by_cases e : a = n
    · have hf : l.filter (fun x => decide (¬x = n)) = l := List.filter_eq_self.mpr (fun x hx => decide_eq_true (fun q => h1 (by rw [e, ← q]; exact hx)))
      rw [List.filter_cons_of_neg (by rw [decide_eq_true_iff]; exact fun q => q e), hf]
      exact Nat.le_refl _
    · rw [List.filter_cons_of_pos (p := fun x => decide (¬x = n)) (decide_eq_true e)]
      exact Nat.succ_le_succ (ih h2)
theorem mk_pig : ∀ (n : Nat) (l : List Nat), l.Nodup → (∀ x, x ∈ l → x < n) → l.length ≤ n := by
  intro n
  induction n with
  | zero =>
    intro l _ h
    cases l with
    | nil => exact Nat.le_refl _
    | cons a l => exact absurd (h a List.mem_cons_self) (Nat.not_lt_zero _)
  | succ n ih =>
    intro l hl h
    have h1 := mk_pig1 n l hl
    have h2 := ih (l.filter (fun x => decide (¬x = n))) (hl.filter _) (fun x hx => by
      obtain ⟨q1, q2⟩ := List.mem_filter.mp hx
      have q3 := h x q1
      have q4 := of_decide_eq_true q2
      omega)
    omega
def mk_ok (pg : pg_T) (vs : List mk_V) : Prop := (∀ q, q ∈ vs → q.1 < pg.length ∧ q.2.1 < 2 ^ pg_n pg q.1) ∧ (∀ q, q ∈ vs.drop 30 → q.2.1 = 0) ∧ ((vs.drop 30).map (fun q => q.1)).Nodup
theorem mk_ok_len {pg : pg_T} {vs : List mk_V} (h : mk_ok pg vs) : vs.length ≤ 30 + pg.length := by
  obtain ⟨h1, h2, h3⟩ := h
  have := mk_pig pg.length _ h3 (fun x hx => by
    obtain ⟨q, q1, q2⟩ := List.mem_map.mp hx
    rw [← q2]
    exact (h1 q (List.mem_of_mem_drop q1)).1)
  rw [List.length_map, List.length_drop] at this
  omega
theorem mk_bt_0 (i : Nat) : mk_bt 0 i = false := by
  unfold mk_bt
  rw [Nat.zero_div]
  rfl
theorem mk_ok_add {pg : pg_T} {vs : List mk_V} {q : mk_V} (h : mk_ok pg vs) (h1 : q.1 < pg.length) (h2 : q.2.1 < 2 ^ pg_n pg q.1) (h3 : vs.length < 30 ∨ (q.2.1 = 0 ∧ ∀ v, v ∈ vs → v.2.1 = 0 → ¬v.1 = q.1)) : mk_ok pg (vs ++ [q]) := by
  obtain ⟨a1, a2, a3⟩ := h
  refine ⟨fun x hx => ?_, ?_⟩
  · rcases List.mem_append.mp hx with e | e
    · exact a1 x e
    · rw [List.mem_singleton.mp e]; exact ⟨h1, h2⟩
  · rcases h3 with h3 | ⟨h3, h4⟩
    · have e : (vs ++ [q]).drop 30 = [] := List.drop_eq_nil_of_le (by rw [List.length_append]; show vs.length + 1 ≤ 30; omega)
      rw [e]
      exact ⟨fun x hx => absurd hx List.not_mem_nil, List.nodup_nil⟩
    · by_cases hl : vs.length < 30
      · have e : (vs ++ [q]).drop 30 = [] := List.drop_eq_nil_of_le (by rw [List.length_append]; show vs.length + 1 ≤ 30; omega)
        rw [e]
        exact ⟨fun x hx => absurd hx List.not_mem_nil, List.nodup_nil⟩
      · rw [List.drop_append_of_le_length (by omega)]
        refine ⟨fun x hx => ?_, ?_⟩
        · rcases List.mem_append.mp hx with e | e
          · exact a2 x e
          · rw [List.mem_singleton.mp e]; exact h3
        · rw [List.map_append, List.nodup_append]
          refine ⟨a3, List.pairwise_singleton _ _, fun a ha b hb => ?_⟩
          obtain ⟨v, v1, v2⟩ := List.mem_map.mp ha
          have hb : b = q.1 := List.mem_singleton.mp hb
          rw [hb, ← v2]
          exact h4 v (List.mem_of_mem_drop v1) (a2 v v1)
theorem mk_ld_ok {pg : pg_T} {vs : List mk_V} {f m : Nat} {kn : Nat → Int32} {as : List mk_R} (h : mk_ok pg vs) (hf : f < pg.length) (hm : m < 2 ^ pg_n pg f) : mk_ok pg (mk_ld f m kn as vs).2.2 ∧ (mk_ld f m kn as vs).1 < (mk_ld f m kn as vs).2.2.length ∧ vs <+: (mk_ld f m kn as vs).2.2 := by
  unfold mk_ld
  cases e : mk_fd f m kn vs 0 with
  | some k =>
    obtain ⟨-, h1, -⟩ := mk_fd_lt _ _ _ e
    exact ⟨h, by show k < vs.length; omega, List.prefix_refl _⟩
  | none =>
    simp only []
    split
    · next hl =>
      exact ⟨mk_ok_add h hf hm (Or.inl hl), by show vs.length < (vs ++ [mk_new f m kn]).length; rw [List.length_append]; exact Nat.lt_succ_self _, List.prefix_append _ _⟩
    · next hl =>
      cases e2 : mk_fd f 0 kn vs 0 with
      | some k =>
        obtain ⟨-, h1, -⟩ := mk_fd_lt _ _ _ e2
        exact ⟨h, by show k < vs.length; omega, List.prefix_refl _⟩
      | none =>
        refine ⟨mk_ok_add h hf (Nat.two_pow_pos _) (Or.inr ⟨rfl, fun v hv h0 hq => ?_⟩), by show vs.length < (vs ++ [mk_new f 0 kn]).length; rw [List.length_append]; exact Nat.lt_succ_self _, List.prefix_append _ _⟩
        have := mk_fd_no _ _ e2 v hv
        have hq : v.1 = f := hq
        rw [mk_is_iff.mpr ⟨hq, h0, fun i _ hb => absurd hb (by rw [mk_bt_0]; decide)⟩] at this
        cases this
/-! Versions only become more. -/
theorem mk_ld_pre (f m : Nat) (kn : Nat → Int32) (as : List mk_R) (vs : List mk_V) : vs <+: (mk_ld f m kn as vs).2.2 := by
  unfold mk_ld
  split
  · exact List.prefix_refl _
  · split
    · exact List.prefix_append _ _
    · split
      · exact List.prefix_refl _
      · exact List.prefix_append _ _
theorem mk_call_pre {P : List tr_T} {f : Nat} {as : List mk_R} {s : mk_S} {w : mk_R × mk_S} (h : mk_call P f as s = .ok w) : s.1 <+: w.2.1 := by
  unfold mk_call at h
  split at h
  · split at h
    · cases h; exact List.prefix_refl _
    · cases h
    · cases h; exact mk_ld_pre _ _ _ _ _
  · cases h; exact mk_ld_pre _ _ _ _ _
theorem mk_args_pre {self : mk_P} (hs : ∀ N s t q, self N s t = .ok q → s.1 <+: q.2.2.1) {t : tr_T} : ∀ (r j : Nat) (N : mk_N) (s : mk_S) (q : List mk_R × mk_N × mk_S), mk_args self t r j N s = .ok q → s.1 <+: q.2.2.1 := by
  intro r
  induction r with
  | zero => intro j N s q h; cases h; exact List.prefix_refl _
  | succ r ih =>
    intro j N s q h
    obtain ⟨a, h1, h2⟩ := mk_b_ok h
    obtain ⟨w, h3, h4⟩ := mk_b_ok h2
    cases h4
    exact (hs _ _ _ _ h1).trans (show _ <+: w.2.2.1 from ih _ _ _ _ h3)
theorem mk_pre {pg : pg_T} : ∀ (r : Nat) (N : mk_N) (s : mk_S) (t : tr_T) (q : mk_O), mk pg r N s t = .ok q → s.1 <+: q.2.2.1 := by
  intro r
  induction r with
  | zero => intro N s t q h; cases h
  | succ r ih =>
    intro N s t q h
    unfold mk at h
    split at h
    · cases h
    · unfold mk_in at h
      split at h
      · split at h
        · cases h; exact List.prefix_refl _
        · split at h
          · split at h
            · cases h; exact List.prefix_refl _
            · cases h
          · split at h
            · obtain ⟨a, h1, h2⟩ := mk_b_ok h
              split at h2
              · exact (ih _ _ _ _ h1).trans (ih _ _ _ _ h2)
              · obtain ⟨w, h3, h4⟩ := mk_b_ok h2
                cases h4
                exact (ih _ _ _ _ h1).trans (show _ <+: w.2.2.1 from ih _ _ _ _ h3)
            · split at h
              · obtain ⟨a, h1, h2⟩ := mk_b_ok h
                split at h2
                · exact (ih _ _ _ _ h1).trans (ih _ _ _ _ h2)
                · obtain ⟨w, h3, h4⟩ := mk_b_ok h2
                  obtain ⟨u, h5, h6⟩ := mk_b_ok h4
                  cases h6
                  exact (ih _ _ _ _ h1).trans ((ih _ _ _ _ h3).trans (show _ <+: u.2.2.1 from ih _ _ _ _ h5))
              · split at h
                · split at h
                  · obtain ⟨a, h1, h2⟩ := mk_b_ok h
                    obtain ⟨w, h3, h4⟩ := mk_b_ok h2
                    cases h4
                    exact (mk_args_pre ih _ _ _ _ _ h1).trans (mk_call_pre h3)
                  · cases h
                · obtain ⟨a, h1, h2⟩ := mk_b_ok h
                  obtain ⟨w, h3, h4⟩ := mk_b_ok h2
                  split at h4
                  · cases h4
                    exact (ih _ _ _ _ h1).trans (show _ <+: w.2.2.1 from ih _ _ _ _ h3)
                  · cases h4
                    exact (ih _ _ _ _ h1).trans (show _ <+: w.2.2.1 from ih _ _ _ _ h3)
      · cases h
end
/-! part b02 -/
section
/-! The class's maker: its state; rests in its rows. -/
def cm_W (v a k : Nat) : Prop := cx_W a k ∨ (a = 115 ∧ (k = 8 ∨ k = 9 ∨ k = 10)) ∨ a = 117 ∨ a = 119 ∨ a = 121 ∨ (a = v + 1 ∧ k = 3) ∨ (v + 2 ≤ a ∧ a ≤ v + 14) ∨ a = v + 18 ∨ a = v + 20 ∨ a = v + 22 ∨ a = v + 24
def cm_X (b v : Nat) (pg : pg_T) (S0 : wd_S) : Prop := (b = 11 ∨ b = 29) ∧ (v = 54 ∨ v = 79) ∧ S0.2.2.1 115 1 = b ∧ S0.2.2.1 115 2 = b + 1 ∧ S0.2.2.1 115 3 = v ∧ S0.2.2.1 115 4 = v + 2 ∧ cl_P b 1500 pg S0 ∧ pg.length ≤ 48 ∧ ∀ f, pg_n pg f ≤ 4
def cm_v (v : Nat) (pg : pg_T) (vs : List mk_V) (S : wd_S) : Prop := S.1 (v + 1) 3 = Int32.ofNat vs.length ∧ mk_ok pg vs ∧ ∀ j, (hj : j < vs.length) → S.1 (v + 20) j = Int32.ofNat vs[j].1 ∧ S.1 (v + 22) j = Int32.ofNat vs[j].2.1 ∧ S.1 (v + 18) j = Int32.ofNat (mk_lf vs[j].2.1 (pg_n pg vs[j].1)) ∧ ∀ i, i < 4 → S.1 (v + 24) (4 * j + i) = vs[j].2.2 i
def cm_e (N : mk_N) (S : wd_S) : Prop := ∀ s q, N s = some q → s < 16 ∧ S.1 117 s = (if q.1 = true then 1 else 0) ∧ S.1 119 s = q.2
def cm_h (b v : Nat) (pg : pg_T) (S0 : wd_S) (N : mk_N) (s : mk_S) (c : Nat) (S : wd_S) : Prop := of_r (cm_W v) cx_R S0 S ∧ S.1 115 8 = Int32.ofNat s.2.1 ∧ S.1 115 9 = Int32.ofNat s.2.2.1 ∧ S.1 115 10 = Int32.ofNat s.2.2.2 ∧ S.1 (v + 2) 6 = Int32.ofNat c ∧ c ≤ s.2.1 ∧ s.2.1 ≤ 1000 ∧ cm_e N S ∧ cm_v v pg s.1 S
/-- what comes of an EXPRESSION: nodes from c on, g gone through before -/
def cm_G (b v : Nat) (pg : pg_T) (S0 : wd_S) (r c g : Nat) (S : wd_S) (q : mk_O) (z c' : Nat) (S' : wd_S) : Prop := cm_h b v pg S0 q.2.1 q.2.2 c' S' ∧ c' + g ≤ q.2.2.2.1 + c ∧ nd_g (v + 2) (fun x => x < c) S S' ∧ nd_t (v + 2) S' c c' r z q.1.1 ∧ S'.1 (v + 2 + 10) z = Int32.ofNat q.1.2.1 ∧ S'.1 (v + 2 + 12) z = Int32.ofNat q.1.2.2 ∧ (tr_k q.1.1 = 1 → q.1.2 = (1, 0))
def cm_R (b v : Nat) (pg : pg_T) (S0 : wd_S) (r c g : Nat) (S : wd_S) (x : Except mk_E mk_O) (o : Option ((Int32 ⊕ String) × wd_S)) : Prop := match x with
  | .error none => True
  | .error (some _) => ∃ S1, o = some (.inr "java/lang/UnsupportedOperationException", wd_n S1) ∧ of_r (cm_W v) cx_R S0 S1
  | .ok q => ∃ z c' S', o = some (.inl (Int32.ofNat z), S') ∧ cm_G b v pg S0 r c g S q z c' S'
def cm_S (b v : Nat) (pg : pg_T) (S0 : wd_S) (r : Nat) : Prop := ∀ (N : mk_N) (s : mk_S) (c y : Nat) (t : tr_T) (d : Nat) (S : wd_S), cm_h b v pg S0 N s c S → nd_t (b + 1) S0 0 1500 d y t → cm_R b v pg S0 r c s.2.1 S (mk pg r N s t) (rc_Maker_become (2 * r + 8) 93 (Int32.ofNat y) (Int32.ofNat (96 - r)) S)
section Cm
variable {b v : Nat} {pg : pg_T} {S0 S S' S1 S2 : wd_S} {N N' : mk_N} {s s' : mk_S} {c c' y z d r g : Nat} {t : tr_T}
theorem cm_vv (hX : cm_X b v pg S0) : tp_t v = (0, 9) ∧ tp_t (v + 1) = (0, 0) ∧ tp_t (v + 2) = (0, 8) ∧ nd_L (v + 2) 1000 ∧ (tp_t (v + 16)).2 = 78 ∧ (tp_t (v + 18)).2 = 78 ∧ (tp_t (v + 20)).2 = 78 ∧ (tp_t (v + 22)).2 = 78 ∧ (tp_t (v + 24)).2 = 312 := by
  rcases hX.2.1 with h | h <;> subst h <;> exact ⟨rfl, rfl, rfl, ⟨rfl, rfl, rfl, rfl, rfl, rfl⟩, rfl, rfl, rfl, rfl, rfl⟩
theorem cm_bb (hX : cm_X b v pg S0) : tp_t b = (0, 0) ∧ tp_t (b + 1) = (0, 8) ∧ nd_L (b + 1) 1500 ∧ (tp_t (b + 15)).2 = 48 ∧ (tp_t (b + 17)).2 = 48 := by
  rcases hX.1 with h | h <;> subst h <;> exact ⟨rfl, rfl, ⟨rfl, rfl, rfl, rfl, rfl, rfl⟩, rfl, rfl⟩
theorem cm_cb (hX : cm_X b v pg S0) : cb_ok b 1500 48 := by
  obtain ⟨h1, h2, h3, h4, -⟩ := cm_bb hX
  exact ⟨by have := hX.1; omega, h1, h2, h3, h4, by omega, by omega⟩
theorem cm_117 : (tp_t (116 + 1)).2 = 16 := rfl
theorem cm_119 : (tp_t (118 + 1)).2 = 16 := rfl
theorem cm_121 : (tp_t (120 + 1)).2 = 4 := rfl
/-- the text's rows and the references stay -/
theorem cm_row (hX : cm_X b v pg S0) (ho : of_r (cm_W v) cx_R S0 S) : ∀ a, a < 54 → S.1 a = S0.1 a := fun a ha => funext fun k => ho.1 a k (by unfold cm_W cx_W; have := hX.2.1; omega)
theorem cm_r1 (hX : cm_X b v pg S0) (ho : of_r (cm_W v) cx_R S0 S) : S.2.2.1 115 1 = b := by rw [ho.2.2.1 115 1 (by unfold cx_R; omega)]; exact hX.2.2.1
theorem cm_r2 (hX : cm_X b v pg S0) (ho : of_r (cm_W v) cx_R S0 S) : S.2.2.1 115 2 = b + 1 := by rw [ho.2.2.1 115 2 (by unfold cx_R; omega)]; exact hX.2.2.2.1
theorem cm_r3 (hX : cm_X b v pg S0) (ho : of_r (cm_W v) cx_R S0 S) : S.2.2.1 115 3 = v := by rw [ho.2.2.1 115 3 (by unfold cx_R; omega)]; exact hX.2.2.2.2.1
theorem cm_r4 (hX : cm_X b v pg S0) (ho : of_r (cm_W v) cx_R S0 S) : S.2.2.1 115 4 = v + 2 := by rw [ho.2.2.1 115 4 (by unfold cx_R; omega)]; exact hX.2.2.2.2.2.1
theorem cm_ov (hv : v = 54 ∨ v = 79) {W : Nat → Nat → Prop} (ho : of_r W cx_R S S') (hW : ∀ a k, W a k → ¬((a = v + 1 ∧ k = 3) ∨ a = v + 18 ∨ a = v + 20 ∨ a = v + 22 ∨ a = v + 24)) (h : cm_v v pg s.1 S) : cm_v v pg s.1 S' := by
  obtain ⟨h1, h2, h3⟩ := h
  refine ⟨by rw [ho.1 (v + 1) 3 (fun q => hW _ _ q (by omega))]; exact h1, h2, fun j hj => ?_⟩
  obtain ⟨k1, k2, k3, k4⟩ := h3 j hj
  exact ⟨by rw [ho.1 (v + 20) j (fun q => hW _ _ q (by omega))]; exact k1, by rw [ho.1 (v + 22) j (fun q => hW _ _ q (by omega))]; exact k2, by rw [ho.1 (v + 18) j (fun q => hW _ _ q (by omega))]; exact k3, fun i hi => by rw [ho.1 (v + 24) (4 * j + i) (fun q => hW _ _ q (by omega))]; exact k4 i hi⟩
theorem cm_oe {W : Nat → Nat → Prop} {R : Nat → Nat → Prop} (ho : of_r W R S S') (hW : ∀ k, ¬W 117 k ∧ ¬W 119 k) (h : cm_e N S) : cm_e N S' := fun i q hi => by
  obtain ⟨h1, h2, h3⟩ := h i q hi
  exact ⟨h1, by rw [ho.1 117 i (hW i).1]; exact h2, by rw [ho.1 119 i (hW i).2]; exact h3⟩
/-- writes into the rests' trees -/
theorem cm_tw (hX : cm_X b v pg S0) (o : of_r (fun a k => v + 2 ≤ a ∧ a ≤ v + 14) cx_R S S') (h6 : S'.1 (v + 2) 6 = Int32.ofNat c') (hc : c' ≤ s.2.1) (h : cm_h b v pg S0 N s c S) : cm_h b v pg S0 N s c' S' := by
  obtain ⟨a1, a2, a3, a4, a5, a6, a7, a8, a9⟩ := h
  have hv := hX.2.1
  have e : ∀ k, S'.1 115 k = S.1 115 k := fun k => o.1 115 k (by omega)
  exact ⟨ofr_trans a1 ⟨fun a k q => o.1 a k (fun z => q (by unfold cm_W; omega)), fun a k q => o.2.1 a k (fun z => q (by unfold cm_W; omega)), o.2.2.1, o.2.2.2⟩, by rw [e]; exact a2, by rw [e]; exact a3, by rw [e]; exact a4, h6, hc, a7, cm_oe o (fun k => by omega) a8, cm_ov hv o (fun a k q => by omega) a9⟩
theorem cm_t (hX : cm_X b v pg S0) (h1 : ∀ a, a < v + 2 ∨ v + 14 < a → S'.1 a = S.1 a) (h2 : S'.2 = S.2) (h6 : S'.1 (v + 2) 6 = Int32.ofNat c') (hc : c' ≤ s.2.1) (h : cm_h b v pg S0 N s c S) : cm_h b v pg S0 N s c' S' := cm_tw hX ⟨fun a k q => by rw [h1 a (by omega)], fun a k _ => by rw [h2], fun a k _ => by rw [h2], by rw [h2]⟩ h6 hc h
/-- a part is found -/
theorem cm_sub (hX : cm_X b v pg S0) (ho : of_r (cm_W v) cx_R S0 S) (ht : nd_t (b + 1) S0 0 1500 d y t) {j : Nat} (hj : j < 4) (hja : j < tr_a t) : ∃ z e, fn_Trees_part (b + 1) (Int32.ofNat y) (Int32.ofNat j) S = some (Int32.ofNat z, S) ∧ nd_t (b + 1) S0 0 1500 e z (tr_sub t j) := by
  cases d with
  | zero => exact absurd ht id
  | succ d =>
    obtain ⟨h1, h2, h3, h4, h5, h6⟩ := ht
    obtain ⟨z, e, hz⟩ := h6 j hj hja
    have hb := hX.1
    exact ⟨z, d, ct_part (cm_cb hX) h2 hj (by rw [cm_row hX ho (b + 9) (by omega)]; exact e), hz⟩
theorem cm_node (hX : cm_X b v pg S0) (ho : of_r (cm_W v) cx_R S0 S) (ht : nd_t (b + 1) S0 0 1500 d y t) : fn_Trees_kind (b + 1) (Int32.ofNat y) S = some (tr_k t, S) ∧ fn_Trees_value (b + 1) (Int32.ofNat y) S = some (tr_v t, S) ∧ fn_Trees_parts (b + 1) (Int32.ofNat y) S = some (Int32.ofNat (tr_a t), S) := by
  cases d with
  | zero => exact absurd ht id
  | succ d =>
    obtain ⟨h1, h2, h3, h4, h5, h6⟩ := ht
    have hb := hX.1
    refine ⟨?_, ?_, ?_⟩
    · rw [ct_kind (cm_cb hX) h2, cm_row hX ho (b + 3) (by omega), show b + 3 = b + 1 + 2 by omega, h3]
    · rw [ct_value (cm_cb hX) h2, cm_row hX ho (b + 5) (by omega), show b + 5 = b + 1 + 4 by omega, h4]
    · rw [ct_parts (cm_cb hX) h2, cm_row hX ho (b + 7) (by omega), show b + 7 = b + 1 + 6 by omega, h5]
/-- of a rest: whether it is a NUMBER, its number -/
theorem cm_isn (hX : cm_X b v pg S0) (ho : of_r (cm_W v) cx_R S0 S) (hz : z < 1000) : fn_Maker_isNumber (Int32.ofNat z) S = some (if S.1 (v + 2 + 2) z = 1 then 1 else 0, S) := by
  obtain ⟨-, -, t8, ⟨g2, -⟩, -⟩ := cm_vv hX
  unfold fn_Maker_isNumber fn_Maker_isNumber_17
  rw [cm_r4 hX ho, if_pos t8, fo_tkind, wd_c_s, ro_an (r := v + 2 + 1) g2 hz]
  by_cases e : S.1 (v + 2 + 1 + 1) z = 1
  · rw [if_pos e, if_pos fo_b1, if_pos e]
  · rw [if_neg e, if_pos fo_b0, if_neg e]
theorem cm_vl (hX : cm_X b v pg S0) (hz : z < 1000) : fn_Trees_value (v + 2) (Int32.ofNat z) S = some (S.1 (v + 2 + 4) z, S) := by
  obtain ⟨-, -, t8, ⟨g2, g4, -⟩, -⟩ := cm_vv hX
  rw [fo_tvalue, ro_an (r := v + 2 + 3) g4 hz]
/-- an EXPRESSION of a REST is put up -/
theorem cm_op (hX : cm_X b v pg S0) (h : cm_h b v pg S0 N s c S) (hc : c < s.2.1) {k x : Int32} : fn_Trees_open (v + 2) k x S = some (Int32.ofNat c, fo_op (v + 2) k x S) ∧ cm_h b v pg S0 N s (c + 1) (fo_op (v + 2) k x S) ∧ nd_g (v + 2) (fun x => x ≠ c) S (fo_op (v + 2) k x S) ∧ nd_o (v + 2) (fo_op (v + 2) k x S) c k x [] 1 (if k = 3 then 1 else 0) := by
  obtain ⟨-, -, t8, gL, -⟩ := cm_vv hX
  have h6 := h.2.2.2.2.1
  have h7 := h.2.2.2.2.2.2.1
  obtain ⟨n1, n2, n3⟩ := nd_op (k := k) (v := x) gL h6 (by omega)
  obtain ⟨w1, w2⟩ := nd_op_out (v + 2) k x S
  exact ⟨by rw [fo_open, h6], cm_t hX (fun a ha => w1 a (by omega)) w2 n1 (by omega) h, n2, n3⟩
/-- a part more -/
theorem cm_ap (hX : cm_X b v pg S0) (h : cm_h b v pg S0 N s c S) {k x : Int32} {zs : List Nat} {sz lt s2 l2 : Nat} (hy : y < c) (hz : z < c) (hyz : y ≠ z) (hl : zs.length < 10) (ho : nd_o (v + 2) S y k x zs sz lt) (h10 : S.1 (v + 2 + 10) z = Int32.ofNat s2) (h12 : S.1 (v + 2 + 12) z = Int32.ofNat l2) : fn_Trees_append (v + 2) (Int32.ofNat y) (Int32.ofNat z) S = some (fo_ap (v + 2) (Int32.ofNat y) (Int32.ofNat z) S) ∧ cm_h b v pg S0 N s c (fo_ap (v + 2) (Int32.ofNat y) (Int32.ofNat z) S) ∧ nd_g (v + 2) (fun x => x ≠ y) S (fo_ap (v + 2) (Int32.ofNat y) (Int32.ofNat z) S) ∧ nd_o (v + 2) (fo_ap (v + 2) (Int32.ofNat y) (Int32.ofNat z) S) y k x (zs ++ [z]) (sz + s2) (lt + l2) := by
  obtain ⟨-, -, t8, gL, -⟩ := cm_vv hX
  have h6 := h.2.2.2.2.1
  have h5 := h.2.2.2.2.2.1
  have h7 := h.2.2.2.2.2.2.1
  obtain ⟨n2, n3⟩ := nd_ap gL (by omega) (by omega) hyz (by omega) ho h10 h12
  obtain ⟨w1, w2⟩ := nd_ap_out (v + 2) (Int32.ofNat y) (Int32.ofNat z) S
  exact ⟨fo_append _ _ _ _, cm_t hX (fun a ha => w1 a (by omega)) w2 (by rw [w1 (v + 2) (by omega)]; exact h6) h5 h, n2, n3⟩
/-- one behind the other -/
theorem cm_bind {x : Except mk_E mk_O} {f : mk_O → Except mk_E mk_O} {o : Option ((Int32 ⊕ String) × wd_S)} {K : Int32 → wd_S → Option ((Int32 ⊕ String) × wd_S)} {r1 c1 g1 : Nat} (h : cm_R b v pg S0 r1 c1 g1 S1 x o) (hf : ∀ q z c' S', x = .ok q → cm_G b v pg S0 r1 c1 g1 S1 q z c' S' → cm_R b v pg S0 r c g S (f q) (K (Int32.ofNat z) S')) : cm_R b v pg S0 r c g S (mk_b x f) (wd_c o fun xo S9 => wd_o xo (fun x => K x S9) (fun E => some (.inr E, S9))) := by
  cases x with
  | error e =>
    cases e with
    | none => trivial
    | some e =>
      obtain ⟨S3, h1, h2⟩ := h
      exact ⟨S3, by rw [h1]; rfl, h2⟩
  | ok q =>
    obtain ⟨z, c', S', h1, h2⟩ := h
    rw [h1]
    exact hf q z c' S' rfl h2
theorem cm_K {x : Except mk_E mk_O} {o : Option ((Int32 ⊕ String) × wd_S)} (h : cm_R b v pg S0 r c g S x o) : cm_R b v pg S0 r c g S x (wd_c o fun xo S9 => wd_o xo (fun x => some (.inl x, S9)) (fun E => some (.inr E, S9))) := by
  have e : (wd_c o fun xo S9 => wd_o xo (fun x => some (.inl x, S9)) (fun E => some (.inr E, S9))) = o := by
    cases o with
    | none => rfl
    | some q =>
      obtain ⟨q1, q2⟩ := q
      cases q1 <;> rfl
  rw [e]
  exact h
theorem cm_mono {x : Except mk_E mk_O} {o : Option ((Int32 ⊕ String) × wd_S)} {r' g' c1 : Nat} (h : cm_R b v pg S0 r c1 g S1 x o) (hn : nd_g (v + 2) (fun x => x < c) S S1) (hc : c ≤ c1) (hr : r ≤ r') (hg : c1 + g' ≤ g + c) : cm_R b v pg S0 r' c g' S x o := by
  cases x with
  | error e =>
    cases e with
    | none => trivial
    | some e => exact h
  | ok q =>
    obtain ⟨z, c', S', h1, a1, a2, a3, a4, a5, a6, a7⟩ := h
    exact ⟨z, c', S', h1, a1, by omega, nd_trans hn (nd_mono (fun x hx => by omega) a3), nd_t_le (nd_t_r hc (Nat.le_refl _) _ _ _ a4) hr, a5, a6, a7⟩
/-- a NUMBER, a NAME -/
theorem cm_leaf (hX : cm_X b v pg S0) (h : cm_h b v pg S0 N s c S) (hc : c < s.2.1) (hg : g + 1 ≤ s.2.1) {k x : Int32} (hk : ¬k = 3) {c0 : Nat} {S9 : wd_S} (hn : nd_g (v + 2) (fun x => x < c0) S9 S) (hc0 : c0 ≤ c) (hgc : c + 1 + g ≤ s.2.1 + c0) : ∃ S', fn_Trees_open (v + 2) k x S = some (Int32.ofNat c, S') ∧ cm_G b v pg S0 (r + 1) c0 g S9 ((tr_l k x 0, 1, 0), N, s) c (c + 1) S' := by
  obtain ⟨e1, h1, n1, o1⟩ := cm_op hX h hc (k := k) (x := x)
  rw [if_neg hk] at o1
  refine ⟨_, e1, h1, hgc, nd_trans hn (nd_mono (fun x hx => by omega) n1), ?_, o1.2.2.2.1, o1.2.2.2.2.1, fun _ => rfl⟩
  exact nd_t_mk (d := r) (f := fun _ => tr_z) hc0 (Nat.lt_succ_self _) o1 (fun j hj => absurd hj (Nat.not_lt_zero _))
end Cm
end
/-! part b03 -/
section
/-! The class's maker: signs, ifs, lets. -/
section Cm2
variable {b v : Nat} {pg : pg_T} {S0 S S' S1 S2 : wd_S} {N N' : mk_N} {s s' : mk_S} {c c' y z d r g : Nat} {t : tr_T}
theorem cm_nk {lo hi e : Nat} {T : tr_T} (h : nd_t (v + 2) S lo hi e z T) : S.1 (v + 2 + 2) z = tr_k T ∧ S.1 (v + 2 + 4) z = tr_v T ∧ lo ≤ z ∧ z < hi := by
  cases e with
  | zero => exact absurd h id
  | succ e => exact ⟨h.2.2.1, h.2.2.2.1, h.1, h.2.1⟩
/-- two parts -/
theorem cm_join (hX : cm_X b v pg S0) (h : cm_h b v pg S0 N s c S) (hc : c < s.2.1) {k : Int32} (hk : ¬k = 3) {c0 z1 z2 s1 l1 s2 l2 : Nat} {T1 T2 : tr_T} (hc0 : c0 ≤ c) (t1 : nd_t (v + 2) S c0 c r z1 T1) (t2 : nd_t (v + 2) S c0 c r z2 T2) (a1 : S.1 (v + 2 + 10) z1 = Int32.ofNat s1) (a2 : S.1 (v + 2 + 12) z1 = Int32.ofNat l1) (b1 : S.1 (v + 2 + 10) z2 = Int32.ofNat s2) (b2 : S.1 (v + 2 + 12) z2 = Int32.ofNat l2) : ∃ S', fn_Trees_join (v + 2) k (Int32.ofNat z1) (Int32.ofNat z2) S = some (Int32.ofNat c, S') ∧ cm_h b v pg S0 N s (c + 1) S' ∧ nd_g (v + 2) (fun x => x ≠ c) S S' ∧ nd_t (v + 2) S' c0 (c + 1) (r + 1) c (tr_2 k 0 0 T1 T2) ∧ S'.1 (v + 2 + 10) c = Int32.ofNat (1 + s1 + s2) ∧ S'.1 (v + 2 + 12) c = Int32.ofNat (l1 + l2) := by
  obtain ⟨-, -, n1, n2⟩ := cm_nk t1
  obtain ⟨-, -, m1, m2⟩ := cm_nk t2
  obtain ⟨-, h1, g1, o1⟩ := cm_op hX h hc (k := k) (x := 0)
  rw [if_neg hk] at o1
  obtain ⟨e2, h2, g2, o2⟩ := cm_ap hX h1 (z := z1) (s2 := s1) (l2 := l1) (Nat.lt_succ_self c) (by omega) (by omega) (by decide) o1 (by rw [(g1 z1 (by omega)).2.2.2.1]; exact a1) (by rw [(g1 z1 (by omega)).2.2.2.2.1]; exact a2)
  have g12 := nd_trans g1 g2
  obtain ⟨e3, h3, g3, o3⟩ := cm_ap hX h2 (z := z2) (s2 := s2) (l2 := l2) (Nat.lt_succ_self c) (by omega) (by omega) (by show 1 < 10; decide) o2 (by rw [(g12 z2 (by omega)).2.2.2.1]; exact b1) (by rw [(g12 z2 (by omega)).2.2.2.2.1]; exact b2)
  have g13 := nd_trans g12 g3
  refine ⟨_, ?_, h3, g13, ?_, o3.2.2.2.1, ?_⟩
  · rw [fo_join, h.2.2.2.2.1]
  · refine nd_t_mk (f := fun j => if j = 0 then T1 else T2) hc0 (Nat.lt_succ_self c) o3 (fun j hj => ?_)
    have hg : nd_g (v + 2) (fun x => c0 ≤ x ∧ x < c) S (fo_ap (v + 2) (Int32.ofNat c) (Int32.ofNat z2) (fo_ap (v + 2) (Int32.ofNat c) (Int32.ofNat z1) (fo_op (v + 2) k 0 S))) := nd_mono (fun x hx => by omega) g13
    match j, hj with
    | 0, _ => exact nd_t_r (Nat.le_refl _) (Nat.le_succ _) _ _ _ (nd_t_g hg _ _ _ t1)
    | 1, _ => exact nd_t_r (Nat.le_refl _) (Nat.le_succ _) _ _ _ (nd_t_g hg _ _ _ t2)
  · rw [o3.2.2.2.2.1, Nat.zero_add]
theorem cm_96 (hr : r + 1 ≤ 96) : Int32.ofNat (96 - (r + 1)) + 1 = Int32.ofNat (96 - r) := by rw [im_s, show 96 - (r + 1) + 1 = 96 - r by omega]
theorem cm_sign (hX : cm_X b v pg S0) (hS : cm_S b v pg S0 r) (hr : r + 1 ≤ 96) (h : cm_h b v pg S0 N s c S) (hc : c < s.2.1) (ht : nd_t (b + 1) S0 0 1500 d y t) (hk : tr_k t = 6 ∨ tr_k t = 7 ∨ tr_k t = 8 ∨ tr_k t = 9 ∨ tr_k t = 10) (ha : tr_a t = 2) : cm_R b v pg S0 (r + 1) c (s.2.1 - 1) S (mk_sg (mk pg r) N s t) (fn_Maker_becomeSign (rc_Maker_become (2 * r + 8)) (Int32.ofNat y) (Int32.ofNat (96 - (r + 1))) S) := by
  obtain ⟨t9, t0, t8, gL, -⟩ := cm_vv hX
  obtain ⟨u0, u8, -⟩ := cm_bb hX
  obtain ⟨x0, d0, e0, p0⟩ := cm_sub hX h.1 ht (j := 0) (by decide) (by omega)
  unfold fn_Maker_becomeSign mk_sg
  rw [cm_r2 hX h.1, if_pos u8, show fn_Trees_part (b + 1) (Int32.ofNat y) 0 S = some (Int32.ofNat x0, S) from e0, wd_c_s, cm_96 hr]
  refine cm_bind (hS _ _ _ _ _ _ _ h p0) (fun q z1 c1 S1 hq G1 => ?_)
  obtain ⟨h1, i1, n1, w1, a1, a2, a3⟩ := G1
  obtain ⟨x1, d1, e1, p1⟩ := cm_sub hX h1.1 ht (j := 1) (by decide) (by omega)
  rw [cm_r2 hX h1.1, if_pos u8, show fn_Trees_part (b + 1) (Int32.ofNat y) 1 S1 = some (Int32.ofNat x1, S1) from e1, wd_c_s]
  refine cm_bind (hS _ _ _ _ _ _ _ h1 p1) (fun w z2 c2 S2 hw G2 => ?_)
  obtain ⟨h2, i2, n2, w2, b1, b2, b3⟩ := G2
  obtain ⟨k1, k2, k3, k4⟩ := cm_nk w1
  obtain ⟨l1, l2, l3, l4⟩ := cm_nk w2
  have hc2 : c2 < w.2.2.2.1 := by omega
  have h7 := h2.2.2.2.2.2.2.1
  have nz := n2 z1 k4
  have w1' : nd_t (v + 2) S2 c c2 r z1 q.1.1 := nd_t_r (Nat.le_refl _) (by omega) _ _ _ (nd_t_g (nd_mono (fun x hx => hx.2) n2) _ _ _ w1)
  have w2' : nd_t (v + 2) S2 c c2 r z2 w.1.1 := nd_t_r (by omega) (Nat.le_refl _) _ _ _ w2
  have hno : ¬(tr_k q.1.1 = 1 ∧ tr_k w.1.1 = 1) → cm_R b v pg S0 (r + 1) c (s.2.1 - 1) S (if tr_k q.1.1 = 1 ∧ tr_k w.1.1 = 1 then .ok (mk_n (ev_sg (tr_k t) (tr_v q.1.1) (tr_v w.1.1)), w.2) else .ok ((tr_2 (tr_k t) 0 0 q.1.1 w.1.1, 1 + q.1.2.1 + w.1.2.1, q.1.2.2 + w.1.2.2), w.2)) (fn_Maker_becomeSign_93 (rc_Maker_become (2 * r + 8)) (Int32.ofNat z1) (Int32.ofNat z2) (tr_k t) S2) := by
    intro hn
    rw [if_neg hn]
    unfold fn_Maker_becomeSign_93
    obtain ⟨S3, f1, f2, f3, f4, f5, f6⟩ := cm_join hX h2 hc2 (k := tr_k t) (by rcases hk with z | z | z | z | z <;> rw [z] <;> decide) (by omega) w1' w2' (by rw [nz.2.2.2.1]; exact a1) (by rw [nz.2.2.2.2.1]; exact a2) b1 b2
    rw [cm_r4 hX h2.1, if_pos t8, f1, wd_c_s]
    refine ⟨c2, c2 + 1, S3, rfl, f2, ?_, nd_trans n1 (nd_trans (nd_mono (fun x hx => by omega) n2) (nd_mono (fun x hx => by omega) f3)), f4, f5, f6, fun hq => absurd hq ?_⟩
    · show c2 + 1 + (s.2.1 - 1) ≤ w.2.2.2.1 + c
      omega
    · show ¬tr_k t = 1
      rcases hk with z | z | z | z | z <;> rw [z] <;> decide
  rw [cm_r2 hX h2.1, if_pos u8, (cm_node hX h2.1 ht).1, wd_c_s, cm_isn hX h2.1 (show z1 < 1000 by omega), wd_c_s, nz.1, k1]
  by_cases hq1 : tr_k q.1.1 = 1
  · rw [if_pos hq1, if_neg (show ¬(1 : Int32) = 0 by decide), cm_isn hX h2.1 (show z2 < 1000 by omega), wd_c_s, l1]
    by_cases hw1 : tr_k w.1.1 = 1
    · rw [if_pos hw1, if_neg (show ¬(1 : Int32) = 0 by decide), cm_r4 hX h2.1, if_pos t8, if_pos t8, cm_vl hX (show z1 < 1000 by omega), wd_c_s, cm_r4 hX h2.1, if_pos t8, cm_vl hX (show z2 < 1000 by omega), wd_c_s, nz.2.1, k2, l2, sp_sign, wd_c_s, if_pos ⟨hq1, hw1⟩]
      obtain ⟨S3, f1, f2⟩ := cm_leaf (r := r) hX h2 hc2 (g := s.2.1 - 1) (k := 1) (x := ev_sg (tr_k t) (tr_v q.1.1) (tr_v w.1.1)) (by omega) (by decide) (c0 := c) (S9 := S) (nd_trans n1 (nd_mono (fun x hx => by omega) n2)) (by omega) (by omega)
      rw [f1, wd_c_s]
      exact ⟨c2, c2 + 1, S3, rfl, f2⟩
    · rw [if_neg hw1, if_pos rfl]
      exact hno (fun q => hw1 q.2)
  · rw [if_neg hq1, if_pos rfl]
    exact hno (fun q => hq1 q.1)
theorem cm_if (hX : cm_X b v pg S0) (hS : cm_S b v pg S0 r) (hr : r + 1 ≤ 96) (h : cm_h b v pg S0 N s c S) (hc : c < s.2.1) (ht : nd_t (b + 1) S0 0 1500 d y t) (ha : tr_a t = 3) : cm_R b v pg S0 (r + 1) c (s.2.1 - 1) S (mk_if (mk pg r) N s t) (fn_Maker_becomeIf (rc_Maker_become (2 * r + 8)) (Int32.ofNat y) (Int32.ofNat (96 - (r + 1))) S) := by
  obtain ⟨t9, t0, t8, gL, -⟩ := cm_vv hX
  obtain ⟨u0, u8, -⟩ := cm_bb hX
  obtain ⟨x0, d0, e0, p0⟩ := cm_sub hX h.1 ht (j := 0) (by decide) (by omega)
  unfold fn_Maker_becomeIf mk_if
  rw [cm_r2 hX h.1, if_pos u8, show fn_Trees_part (b + 1) (Int32.ofNat y) 0 S = some (Int32.ofNat x0, S) from e0, wd_c_s, cm_96 hr]
  refine cm_bind (hS _ _ _ _ _ _ _ h p0) (fun q z1 c1 S1 hq G1 => ?_)
  obtain ⟨h1, i1, n1, w1, a1, a2, a3⟩ := G1
  obtain ⟨k1, k2, k3, k4⟩ := cm_nk w1
  have h7 := h1.2.2.2.2.2.2.1
  have h5 := h1.2.2.2.2.2.1
  rw [cm_isn hX h1.1 (show z1 < 1000 by omega), wd_c_s, k1]
  by_cases hq1 : tr_k q.1.1 = 1
  · rw [if_pos hq1, if_pos hq1, if_neg (show ¬(1 : Int32) = 0 by decide), cm_r2 hX h1.1, cm_r4 hX h1.1, if_pos u8, if_pos t8, cm_vl hX (show z1 < 1000 by omega), wd_c_s, k2]
    have fin : ∀ j, j < 3 → cm_R b v pg S0 (r + 1) c (s.2.1 - 1) S (mk pg r q.2.1 q.2.2 (tr_sub t j)) (fn_Maker_becomeIf_47 (rc_Maker_become (2 * r + 8)) (Int32.ofNat (96 - (r + 1))) (b + 1) (Int32.ofNat y) (Int32.ofNat j) S1) := fun j hj => by
      obtain ⟨x1, d1, e1, p1⟩ := cm_sub hX h1.1 ht (j := j) (by omega) (by omega)
      unfold fn_Maker_becomeIf_47
      rw [e1, wd_c_s, cm_96 hr]
      exact cm_K (cm_mono (hS _ _ _ _ _ _ _ h1 p1) n1 (by omega) (Nat.le_succ r) (by omega))
    by_cases hz : tr_v q.1.1 = 0
    · rw [if_pos hz, if_pos hz]
      exact fin 2 (by decide)
    · rw [if_neg hz, if_neg hz]
      exact fin 1 (by decide)
  · rw [if_neg hq1, if_neg hq1, if_pos rfl, cm_r4 hX h1.1, if_pos t8]
    obtain ⟨e2, h2, g2, o2⟩ := cm_op hX h1 (show c1 < q.2.2.2.1 by omega) (k := 4) (x := 0)
    rw [e2, wd_c_s]
    generalize fo_op (v + 2) 4 0 S1 = S2 at *
    obtain ⟨e3, h3, g3, o3⟩ := cm_ap hX h2 (z := z1) (Nat.lt_succ_self c1) (by omega) (by omega) (by decide) o2 (by rw [(g2 z1 (by omega)).2.2.2.1]; exact a1) (by rw [(g2 z1 (by omega)).2.2.2.2.1]; exact a2)
    rw [cm_r4 hX h2.1, if_pos t8, e3, wd_d_s]
    generalize fo_ap (v + 2) (Int32.ofNat c1) (Int32.ofNat z1) S2 = S3 at *
    obtain ⟨x1, d1, f1, p1⟩ := cm_sub hX h3.1 ht (j := 1) (by decide) (by omega)
    rw [cm_r4 hX h3.1, cm_r2 hX h3.1, if_pos t8, if_pos u8, show fn_Trees_part (b + 1) (Int32.ofNat y) 1 S3 = some (Int32.ofNat x1, S3) from f1, wd_c_s]
    refine cm_bind (hS _ _ _ _ _ _ _ h3 p1) (fun w z2 c2 S4 hw G2 => ?_)
    obtain ⟨h4, i2, n2, w2, b1, b2, b3⟩ := G2
    obtain ⟨-, -, l3, l4⟩ := cm_nk w2
    have o4 := nd_o_g (p := fun x => x < c1 + 1) (Nat.lt_succ_self c1) n2 o3
    obtain ⟨e5, h5', g5, o5⟩ := cm_ap hX h4 (z := z2) (show c1 < c2 by omega) (by omega) (by omega) (by show 1 < 10; decide) o4 b1 b2
    rw [e5, wd_d_s]
    generalize fo_ap (v + 2) (Int32.ofNat c1) (Int32.ofNat z2) S4 = S5 at *
    obtain ⟨x2, d2, f2, p2⟩ := cm_sub hX h5'.1 ht (j := 2) (by decide) (by omega)
    rw [cm_r4 hX h5'.1, cm_r2 hX h5'.1, if_pos t8, if_pos u8, show fn_Trees_part (b + 1) (Int32.ofNat y) 2 S5 = some (Int32.ofNat x2, S5) from f2, wd_c_s]
    refine cm_bind (hS _ _ _ _ _ _ _ h5' p2) (fun u z3 c3 S6 hu G3 => ?_)
    obtain ⟨h6, i3, n3, w3, d1, d2, d3⟩ := G3
    obtain ⟨-, -, m3, m4⟩ := cm_nk w3
    have o6 := nd_o_g (p := fun x => x < c2) (show c1 < c2 by omega) n3 o5
    obtain ⟨e7, h7', g7, o7⟩ := cm_ap hX h6 (z := z3) (show c1 < c3 by omega) (by omega) (by omega) (by show 2 < 10; decide) o6 d1 d2
    rw [e7, wd_d_s]
    generalize fo_ap (v + 2) (Int32.ofNat c1) (Int32.ofNat z3) S6 = S7 at *
    have gA : nd_g (v + 2) (fun x => x < c1) S1 S7 := nd_trans (nd_mono (fun x hx => by omega) g2) (nd_trans (nd_mono (fun x hx => by omega) g3) (nd_trans (nd_mono (fun x hx => by omega) n2) (nd_trans (nd_mono (fun x hx => by omega) g5) (nd_trans (nd_mono (fun x hx => by omega) n3) (nd_mono (fun x hx => by omega) g7)))))
    have gB : nd_g (v + 2) (fun x => c1 + 1 ≤ x ∧ x < c2) S4 S7 := nd_trans (nd_mono (fun x hx => by omega) g5) (nd_trans (nd_mono (fun x hx => by omega) n3) (nd_mono (fun x hx => by omega) g7))
    have gC : nd_g (v + 2) (fun x => c2 ≤ x ∧ x < c3) S6 S7 := nd_mono (fun x hx => by omega) g7
    refine ⟨c1, c3, S7, rfl, h7', ?_, nd_trans n1 (nd_mono (fun x hx => by omega) gA), ?_, ?_, ?_, fun hq => absurd hq (show ¬(4 : Int32) = 1 by decide)⟩
    · show c3 + (s.2.1 - 1) ≤ u.2.2.2.1 + c
      omega
    · refine nd_t_mk (f := fun j => if j = 0 then q.1.1 else if j = 1 then w.1.1 else u.1.1) (by omega) (by omega) o7 (fun j hj => ?_)
      match j, hj with
      | 0, _ => exact nd_t_r (Nat.le_refl _) (by omega) _ _ _ (nd_t_g (nd_mono (fun x hx => hx.2) gA) _ _ _ w1)
      | 1, _ => exact nd_t_r (by omega) (by omega) _ _ _ (nd_t_g gB _ _ _ w2)
      | 2, _ => exact nd_t_r (by omega) (by omega) _ _ _ (nd_t_g gC _ _ _ w3)
    · rw [o7.2.2.2.1]
    · rw [o7.2.2.2.2.1, if_neg (by decide), Nat.zero_add]
/-- a NAME gets its meaning -/
theorem cm_bd (hX : cm_X b v pg S0) (h : cm_h b v pg S0 N s c S) {n : Nat} (hn : n < 16) {e : Bool} {x : Int32} : ∃ S', fn_Maker_bind (Int32.ofNat n) (if e = true then 1 else 0) x S = some S' ∧ cm_h b v pg S0 (mk_u N n (e, x)) s c S' ∧ ∀ p, nd_g (v + 2) p S S' := by
  have hv := hX.2.1
  obtain ⟨a1, a2, a3, a4, a5, a6, a7, a8, a9⟩ := h
  have o : of_r (fun a k => a = 117 ∨ a = 119) cx_R S (wd_i (wd_i S 117 n (if e = true then 1 else 0)) 119 n x) := ofr_i (by omega) (ofr_i (by omega) ofr_refl)
  refine ⟨wd_i (wd_i S 117 n (if e = true then 1 else 0)) 119 n x, ?_, ⟨ofr_trans a1 (ofr_i (by unfold cm_W; omega) (ofr_i (by unfold cm_W; omega) ofr_refl)), ?_, ?_, ?_, ?_, a6, a7, fun i q hi => ?_, cm_ov hv o (fun a k q => by omega) a9⟩, fun p => nd_rows (fun a g1 g2 => ?_)⟩
  · unfold fn_Maker_bind
    rw [ro_put_ok, wd_d_s, ro_put_ok, wd_d_s, ro_pn cm_117 hn, ro_pn cm_119 hn]
  · rw [o.1 115 8 (by omega)]; exact a2
  · rw [o.1 115 9 (by omega)]; exact a3
  · rw [o.1 115 10 (by omega)]; exact a4
  · rw [o.1 (v + 2) 6 (by omega)]; exact a5
  · unfold mk_u at hi
    split at hi
    · next ei =>
      cases hi
      rw [ei]
      exact ⟨hn, by rw [fr_ne (by omega), fr_eq], by rw [fr_eq]⟩
    · next ei =>
      obtain ⟨k1, k2, k3⟩ := a8 i q hi
      exact ⟨k1, by rw [fr_ne (by omega), fr_ne (by omega)]; exact k2, by rw [fr_ne (by omega), fr_ne (by omega)]; exact k3⟩
  · funext k
    exact o.1 a k (by omega)
theorem cm_let (hX : cm_X b v pg S0) (hS : cm_S b v pg S0 r) (hr : r + 1 ≤ 96) (h : cm_h b v pg S0 N s c S) (hc : c < s.2.1) (ht : nd_t (b + 1) S0 0 1500 d y t) (ha : tr_a t = 2) (hn : tr_v t = Int32.ofNat (tr_n t)) (hn2 : tr_n t < 16) : cm_R b v pg S0 (r + 1) c (s.2.1 - 1) S (mk_let (mk pg r) N s t) (fn_Maker_becomeLet (rc_Maker_become (2 * r + 8)) (Int32.ofNat y) (Int32.ofNat (96 - (r + 1))) S) := by
  obtain ⟨t9, t0, t8, gL, -⟩ := cm_vv hX
  obtain ⟨u0, u8, -⟩ := cm_bb hX
  obtain ⟨x0, d0, e0, p0⟩ := cm_sub hX h.1 ht (j := 0) (by decide) (by omega)
  unfold fn_Maker_becomeLet mk_let
  rw [cm_r2 hX h.1, if_pos u8, (cm_node hX h.1 ht).2.1, wd_c_s, cm_r2 hX h.1, if_pos u8, show fn_Trees_part (b + 1) (Int32.ofNat y) 0 S = some (Int32.ofNat x0, S) from e0, wd_c_s, cm_96 hr]
  refine cm_bind (hS _ _ _ _ _ _ _ h p0) (fun q z1 c1 S1 hq G1 => ?_)
  obtain ⟨h1, i1, n1, w1, a1, a2, a3⟩ := G1
  obtain ⟨k1, k2, k3, k4⟩ := cm_nk w1
  have h7 := h1.2.2.2.2.2.2.1
  have h5 := h1.2.2.2.2.2.1
  rw [cm_isn hX h1.1 (show z1 < 1000 by omega), wd_c_s, k1]
  by_cases hq1 : tr_k q.1.1 = 1
  · obtain ⟨S2, e2, h2, g2⟩ := cm_bd hX h1 hn2 (e := true) (x := tr_v q.1.1)
    rw [if_pos rfl] at e2
    rw [if_pos hq1, if_pos hq1, if_neg (show ¬(1 : Int32) = 0 by decide), cm_r4 hX h1.1, if_pos t8, cm_vl hX (show z1 < 1000 by omega), wd_c_s, k2, hn, e2, wd_d_s, cm_r2 hX h2.1, if_pos u8]
    obtain ⟨x1, d1, f1, p1⟩ := cm_sub hX h2.1 ht (j := 1) (by decide) (by omega)
    rw [show fn_Trees_part (b + 1) (Int32.ofNat y) 1 S2 = some (Int32.ofNat x1, S2) from f1, wd_c_s]
    exact cm_K (cm_mono (hS _ _ _ _ _ _ _ h2 p1) (nd_trans n1 (g2 _)) (by omega) (Nat.le_succ r) (by omega))
  · obtain ⟨S2, e2, h2, g2⟩ := cm_bd hX h1 hn2 (e := false) (x := tr_v t)
    rw [if_neg (show ¬false = true by decide), ← hn] at e2
    rw [if_neg hq1, if_neg hq1, if_pos rfl, e2, wd_d_s, cm_r4 hX h2.1, if_pos t8]
    obtain ⟨e3, h3, g3, o3⟩ := cm_op hX h2 (show c1 < q.2.2.2.1 by omega) (k := 3) (x := tr_v t)
    rw [e3, wd_c_s]
    generalize fo_op (v + 2) 3 (tr_v t) S2 = S3 at *
    have q10 : S3.1 (v + 2 + 10) z1 = Int32.ofNat q.1.2.1 := by rw [(g3 z1 (by omega)).2.2.2.1, (g2 (fun _ => True) z1 trivial).2.2.2.1]; exact a1
    have q12 : S3.1 (v + 2 + 12) z1 = Int32.ofNat q.1.2.2 := by rw [(g3 z1 (by omega)).2.2.2.2.1, (g2 (fun _ => True) z1 trivial).2.2.2.2.1]; exact a2
    obtain ⟨e4, h4, g4, o4⟩ := cm_ap hX h3 (z := z1) (Nat.lt_succ_self c1) (by omega) (by omega) (by decide) o3 q10 q12
    rw [cm_r4 hX h3.1, if_pos t8, e4, wd_d_s]
    generalize fo_ap (v + 2) (Int32.ofNat c1) (Int32.ofNat z1) S3 = S4 at *
    obtain ⟨x1, d1, f1, p1⟩ := cm_sub hX h4.1 ht (j := 1) (by decide) (by omega)
    rw [cm_r4 hX h4.1, cm_r2 hX h4.1, if_pos t8, if_pos u8, show fn_Trees_part (b + 1) (Int32.ofNat y) 1 S4 = some (Int32.ofNat x1, S4) from f1, wd_c_s]
    refine cm_bind (hS _ _ _ _ _ _ _ h4 p1) (fun w z2 c2 S5 hw G2 => ?_)
    obtain ⟨h5', i2, n2, w2, b1, b2, b3⟩ := G2
    obtain ⟨-, -, l3, l4⟩ := cm_nk w2
    have o5 := nd_o_g (p := fun x => x < c1 + 1) (Nat.lt_succ_self c1) n2 o4
    obtain ⟨e6, h6, g6, o6⟩ := cm_ap hX h5' (z := z2) (show c1 < c2 by omega) (by omega) (by omega) (by show 1 < 10; decide) o5 b1 b2
    rw [e6, wd_d_s]
    generalize fo_ap (v + 2) (Int32.ofNat c1) (Int32.ofNat z2) S5 = S6 at *
    have gA : nd_g (v + 2) (fun x => x < c1) S1 S6 := nd_trans (g2 _) (nd_trans (nd_mono (fun x hx => by omega) g3) (nd_trans (nd_mono (fun x hx => by omega) g4) (nd_trans (nd_mono (fun x hx => by omega) n2) (nd_mono (fun x hx => by omega) g6))))
    refine ⟨c1, c2, S6, rfl, h6, ?_, nd_trans n1 (nd_mono (fun x hx => by omega) gA), ?_, ?_, ?_, fun hq => absurd hq (show ¬(3 : Int32) = 1 by decide)⟩
    · show c2 + (s.2.1 - 1) ≤ w.2.2.2.1 + c
      omega
    · refine nd_t_mk (f := fun j => if j = 0 then q.1.1 else w.1.1) (by omega) (by omega) o6 (fun j hj => ?_)
      match j, hj with
      | 0, _ => exact nd_t_r (Nat.le_refl _) (by omega) _ _ _ (nd_t_g (nd_mono (fun x hx => hx.2) gA) _ _ _ w1)
      | 1, _ => exact nd_t_r (by omega) (by omega) _ _ _ (nd_t_g (nd_mono (fun x hx => by omega) g6) _ _ _ w2)
    · rw [o6.2.2.2.1]
    · rw [o6.2.2.2.2.1, if_pos rfl]
end Cm2
end
