/-! The reference's runner: lets, choices, signs. -/
section Mg5
variable {lim D s m E vl k s0 a D' E' vl' k' a' y n lo hi X Rt R2 al ah D0 d r j z0 z1 z2 M : Nat} {P : List tr_T} {S S' S1 S2 : wd_S} {V V' : ev_V} {t u w : tr_T} {v x τ kd root : Int32} {W W1 W2 : Nat → Nat → Prop}
/-- WORK on top, then more -/
theorem mg_sub (hS : mg_S lim X lo hi al ah D0 Rt R2 P r) (hR : mg_R lo hi ah Rt R2) (hDr : D + 1 + r = 160) (h : mv_h lim (D + 1) s m E vl (k + 1) S) (h1 : S.1 152 k = 1) (h2 : S.1 153 k = Int32.ofNat y) (hE : E ≤ D + 1) (hk : k + 10 * r ≤ 3900) (hvl : vl + 4 * r ≤ 3900) (hv : me_e E V S) (hP : mg_P X lo hi al ah D0 Rt R2 P S) (ht : mj_t S X lo hi al ah d y t) {f : ev_O → Except ev_E ev_O} (hf : ∀ (q : ev_O) (S' : wd_S), mv_h lim (D + 1) q.2.2.1 q.2.2.2 E vl k S' → S'.1 135 47 = q.1 → me_e E q.2.1 S' → of_f (mgW k vl E) S S' → mg_O lim D' E' vl' k' W q.2.2.1 a (f q) S') (w1 : ∀ a b, mgW k vl E a b → W a b) : mg_O lim D' E' vl' k' W s a (ev_b (ev P lim r V s m t) f) S := mg_bind (hS (D + 1) E vl V s m k y t d S hDr h h1 h2 hE hk hvl hv hP ht) hf w1 (fun _ _ z => z)
theorem gw_let (hS : mg_S lim X lo hi al ah D0 Rt R2 P r) (hR : mg_R lo hi ah Rt R2) (hDr : D + 1 + r = 160) (h : mv_h lim (D + 1) s m E vl k S) (hk : k + 10 * (r + 1) ≤ 3900) (hvl : vl + 4 * (r + 1) ≤ 3900) (hM : M ≤ 160) (hy : y < 15010) (hE : E ≤ D) (h143 : S.1 143 y = 3) (h144 : S.1 144 y = Int32.ofNat z0) (h145 : S.1 145 y = Int32.ofNat z1) (h146 : S.1 146 y = Int32.ofNat n) (hn : n < 16) (hv : me_e E V S) (hP : mg_P X lo hi al ah D0 Rt R2 P S) (t0 : mj_t S X lo hi al ah d z0 u) (t1 : mj_t S X lo hi al ah d z1 w) : ∃ S2, fn_Mo_work_85 (Int32.ofNat y) (Int32.ofNat M) S = some S2 ∧ of_f (mgW k vl E) S S2 ∧ mg_O lim D E vl k (mgW k vl E) s 7 (ev_b (ev P lim r V s M u) fun q => ev P lim r (ev_u q.2.1 n q.1) q.2.2.1 q.2.2.2 w) S2 := by
  obtain ⟨S9, h9, w9, o9, -, p9⟩ := gw_85 h (by omega) hM
  have q : ∀ a, 143 ≤ a → a ≤ 149 → S9.1 a y = S.1 a y := fun a x1 x2 => o9.1 a y (by omega)
  have hin : ¬(Int32.ofNat y < 0 ∨ 15010 ≤ y) := by rintro (z | z); exact im_neg (by omega) z; omega
  generalize hS2 : ms_p (k + 2) 1 (Int32.ofNat z0) (ms_p (k + 1) 7 (Int32.ofNat y) S9) = S2
  have o2 : of_f (fun a b => (a = 135 ∧ b = 35) ∨ ((a = 152 ∨ a = 153) ∧ k + 1 ≤ b)) S9 S2 := by
    rw [← hS2]
    exact of_trans (of_mono (fun a b z => by unfold mw_p at z; omega) ms_o) (of_mono (fun a b z => by unfold mw_p at z; omega) ms_o)
  have O2 : of_f (fun a b => (a = 135 ∧ (b = 35 ∨ b = 51)) ∨ ((a = 152 ∨ a = 153) ∧ k ≤ b)) S S2 := of_trans (of_mono (fun a b z => by omega) o9) (of_mono (fun a b z => by omega) o2)
  have n2 : mo_no (fun a b => (a = 135 ∧ (b = 35 ∨ b = 51)) ∨ ((a = 152 ∨ a = 153) ∧ k ≤ b)) := fun a b z => by omega
  have h2 : mv_h lim (D + 1) s M E vl (k + 2 + 1) S2 := by rw [← hS2]; exact mv_push (mv_push h9)
  have x1 : S2.1 152 (k + 2) = 1 := by rw [← hS2, ms_152, if_pos rfl]
  have x2 : S2.1 153 (k + 2) = Int32.ofNat z0 := by rw [← hS2, ms_153, if_pos rfl]
  have x3 : S2.1 152 (k + 1) = 7 := by rw [← hS2, ms_152, if_neg (by omega), ms_152, if_pos rfl]
  have x4 : S2.1 153 (k + 1) = Int32.ofNat y := by rw [← hS2, ms_153, if_neg (by omega), ms_153, if_pos rfl]
  have x5 : S2.1 152 k = 2 := by rw [o2.1 152 k (by omega)]; exact w9
  refine ⟨S2, ?_, of_mono (fun a b z => by unfold mgW; omega) O2, ?_⟩
  · unfold fn_Mo_work_85 fn_Mo_work_317
    simp only [wd_b]
    rw [p9, wd_d_s, if_neg (ms_in hy (by decide)), im_t (show y < 2147483648 by omega), q 143 (by omega) (by omega), h143, if_neg (by decide), if_neg (by decide), if_pos rfl, ms_push h9.1 (by omega), wd_d_s, if_neg hin, ms_o.1 144 y (by unfold mw_p; omega), q 144 (by omega) (by omega), h144, ms_push (t := k + 2) ms_35 (by omega), wd_d_s, hS2]
  · clear hS2
    refine mg_a (s0 := s) (a := 2) ?_ (by omega)
    refine mg_sub hS hR hDr h2 x1 x2 (by omega) (by omega) (by omega) (me_o O2 (fun b _ _ => by omega) hv) (mgP_no hR n2 O2 hP) (mj_no n2 O2 t0) (fun q1 S3 h3 e3 v3 o3 => ?_) (mgW_le (by omega) (by omega) (by omega))
    have yo : ∀ a, 143 ≤ a → a ≤ 149 → S3.1 a y = S.1 a y := fun a x1 x2 => by rw [o3.1 a y (by unfold mgW; omega), O2.1 a y (by omega)]
    obtain ⟨S4, g4, h4, y1, y2, y3, o4⟩ := gt_bind (n := n) (z := Int32.ofNat z1) h3 (by omega) hy (by omega) (by rw [o3.1 152 _ (by unfold mgW; omega)]; exact x3) (by rw [o3.1 153 _ (by unfold mgW; omega)]; exact x4) (by rw [yo 146 (by omega) (by omega)]; exact h146) hn (by rw [yo 145 (by omega) (by omega)]; exact h145)
    have n4 : mo_no (fun a b => (a = 135 ∧ b = 35) ∨ ((a = 152 ∨ a = 153) ∧ b = k + 1) ∨ (a = 158 ∧ b = 16 * E + n)) := fun a b z => by omega
    refine mg_step (W2 := mgW k vl E) g4 (of_mono (fun a b z => by unfold mgW; omega) o4) ?_ (fun _ _ z => z)
    rw [← ev_b_r (ev P lim r (ev_u q1.2.1 n q1.1) q1.2.2.1 q1.2.2.2 w)]
    refine mg_sub hS hR hDr h4 y1 y2 (by omega) (by omega) (by omega) (fun i v' hi => ?_) (mgP_no hR n4 o4 (mgP_no hR mo_mgW o3 (mgP_no hR n2 O2 hP))) (mj_no n4 o4 (mj_no mo_mgW o3 (mj_no n2 O2 t1))) (fun q2 S5 h5 e5 v5 o5 => ?_) (mgW_le (by omega) (by omega) (by omega))
    · unfold ev_u at hi
      by_cases c : i = n
      · rw [if_pos c] at hi
        cases hi
        rw [c]
        exact ⟨hn, by rw [y3, e3]⟩
      · rw [if_neg c] at hi
        obtain ⟨u1, u2⟩ := v3 i v' hi
        exact ⟨u1, by rw [o4.1 158 _ (by omega)]; exact u2⟩
    · exact mg_up h5 (by omega) (by rw [o5.1 152 k (by unfold mgW; omega), o4.1 152 k (by omega), o3.1 152 k (by unfold mgW; omega)]; exact x5) e5 v5
theorem gw_if (hS : mg_S lim X lo hi al ah D0 Rt R2 P r) (hR : mg_R lo hi ah Rt R2) (hDr : D + 1 + r = 160) (h : mv_h lim (D + 1) s m E vl k S) (hk : k + 10 * (r + 1) ≤ 3900) (hvl : vl + 4 * (r + 1) ≤ 3900) (hM : M ≤ 160) (hy : y < 15010) (hE : E ≤ D) (h143 : S.1 143 y = 2) (h144 : S.1 144 y = Int32.ofNat z0) (h145 : S.1 145 y = Int32.ofNat z1) (h146 : S.1 146 y = Int32.ofNat z2) (hv : me_e E V S) (hP : mg_P X lo hi al ah D0 Rt R2 P S) (t0 : mj_t S X lo hi al ah d z0 (tr_sub t 0)) (t1 : mj_t S X lo hi al ah d z1 (tr_sub t 1)) (t2 : mj_t S X lo hi al ah d z2 (tr_sub t 2)) : ∃ S2, fn_Mo_work_85 (Int32.ofNat y) (Int32.ofNat M) S = some S2 ∧ of_f (mgW k vl E) S S2 ∧ mg_O lim D E vl k (mgW k vl E) s 7 (ev_b (ev P lim r V s M (tr_sub t 0)) fun q => ev P lim r q.2.1 q.2.2.1 q.2.2.2 (tr_sub t (if q.1 = 0 then 2 else 1))) S2 := by
  obtain ⟨S9, h9, w9, o9, -, p9⟩ := gw_85 h (by omega) hM
  have q : ∀ a, 143 ≤ a → a ≤ 149 → S9.1 a y = S.1 a y := fun a x1 x2 => o9.1 a y (by omega)
  have hin : ¬(Int32.ofNat y < 0 ∨ 15010 ≤ y) := by rintro (z | z); exact im_neg (by omega) z; omega
  generalize hS2 : ms_p (k + 2) 1 (Int32.ofNat z0) (ms_p (k + 1) 6 (Int32.ofNat y) S9) = S2
  have o2 : of_f (fun a b => (a = 135 ∧ b = 35) ∨ ((a = 152 ∨ a = 153) ∧ k + 1 ≤ b)) S9 S2 := by
    rw [← hS2]
    exact of_trans (of_mono (fun a b z => by unfold mw_p at z; omega) ms_o) (of_mono (fun a b z => by unfold mw_p at z; omega) ms_o)
  have O2 : of_f (fun a b => (a = 135 ∧ (b = 35 ∨ b = 51)) ∨ ((a = 152 ∨ a = 153) ∧ k ≤ b)) S S2 := of_trans (of_mono (fun a b z => by omega) o9) (of_mono (fun a b z => by omega) o2)
  have n2 : mo_no (fun a b => (a = 135 ∧ (b = 35 ∨ b = 51)) ∨ ((a = 152 ∨ a = 153) ∧ k ≤ b)) := fun a b z => by omega
  have h2 : mv_h lim (D + 1) s M E vl (k + 2 + 1) S2 := by rw [← hS2]; exact mv_push (mv_push h9)
  have x1 : S2.1 152 (k + 2) = 1 := by rw [← hS2, ms_152, if_pos rfl]
  have x2 : S2.1 153 (k + 2) = Int32.ofNat z0 := by rw [← hS2, ms_153, if_pos rfl]
  have x3 : S2.1 152 (k + 1) = 6 := by rw [← hS2, ms_152, if_neg (by omega), ms_152, if_pos rfl]
  have x4 : S2.1 153 (k + 1) = Int32.ofNat y := by rw [← hS2, ms_153, if_neg (by omega), ms_153, if_pos rfl]
  have x5 : S2.1 152 k = 2 := by rw [o2.1 152 k (by omega)]; exact w9
  refine ⟨S2, ?_, of_mono (fun a b z => by unfold mgW; omega) O2, ?_⟩
  · unfold fn_Mo_work_85 fn_Mo_work_317
    simp only [wd_b]
    rw [p9, wd_d_s, if_neg (ms_in hy (by decide)), im_t (show y < 2147483648 by omega), q 143 (by omega) (by omega), h143, if_neg (by decide), if_pos rfl, ms_push h9.1 (by omega), wd_d_s, if_neg hin, ms_o.1 144 y (by unfold mw_p; omega), q 144 (by omega) (by omega), h144, ms_push (t := k + 2) ms_35 (by omega), wd_d_s, hS2]
  · clear hS2
    refine mg_a (s0 := s) (a := 2) ?_ (by omega)
    refine mg_sub hS hR hDr h2 x1 x2 (by omega) (by omega) (by omega) (me_o O2 (fun b _ _ => by omega) hv) (mgP_no hR n2 O2 hP) (mj_no n2 O2 t0) (fun q1 S3 h3 e3 v3 o3 => ?_) (mgW_le (by omega) (by omega) (by omega))
    have yo : ∀ a, 143 ≤ a → a ≤ 149 → S3.1 a y = S.1 a y := fun a x1 x2 => by rw [o3.1 a y (by unfold mgW; omega), O2.1 a y (by omega)]
    obtain ⟨z, hz, tz⟩ : ∃ z, (if S3.1 135 47 = 0 then S3.1 146 y else S3.1 145 y) = Int32.ofNat z ∧ mj_t S X lo hi al ah d z (tr_sub t (if q1.1 = 0 then 2 else 1)) := by
      rw [e3, yo 146 (by omega) (by omega), yo 145 (by omega) (by omega), h145, h146]
      by_cases c : q1.1 = 0
      · rw [if_pos c, if_pos c]; exact ⟨z2, rfl, t2⟩
      · rw [if_neg c, if_neg c]; exact ⟨z1, rfl, t1⟩
    obtain ⟨S4, g4, h4, y1, y2, o4⟩ := gt_choose (z := Int32.ofNat z) h3 (by omega) hy (by rw [o3.1 152 _ (by unfold mgW; omega)]; exact x3) (by rw [o3.1 153 _ (by unfold mgW; omega)]; exact x4) hz
    have n4 : mo_no (fun a b => (a = 135 ∧ b = 35) ∨ ((a = 152 ∨ a = 153) ∧ b = k + 1)) := fun a b z => by omega
    refine mg_step (W2 := mgW k vl E) g4 (of_mono (fun a b z => by unfold mgW; omega) o4) ?_ (fun _ _ z => z)
    rw [← ev_b_r (ev P lim r q1.2.1 q1.2.2.1 q1.2.2.2 (tr_sub t (if q1.1 = 0 then 2 else 1)))]
    refine mg_sub hS hR hDr h4 y1 y2 (by omega) (by omega) (by omega) (me_o o4 (fun b _ _ => by omega) v3) (mgP_no hR n4 o4 (mgP_no hR mo_mgW o3 (mgP_no hR n2 O2 hP))) (mj_no n4 o4 (mj_no mo_mgW o3 (mj_no n2 O2 tz))) (fun q2 S5 h5 e5 v5 o5 => ?_) (mgW_le (by omega) (by omega) (by omega))
    exact mg_up h5 (by omega) (by rw [o5.1 152 k (by unfold mgW; omega), o4.1 152 k (by omega), o3.1 152 k (by unfold mgW; omega)]; exact x5) e5 v5
theorem gw_sign (hS : mg_S lim X lo hi al ah D0 Rt R2 P r) (hR : mg_R lo hi ah Rt R2) (hDr : D + 1 + r = 160) (h : mv_h lim (D + 1) s m E vl k S) (hk : k + 10 * (r + 1) ≤ 3900) (hvl : vl + 4 * (r + 1) ≤ 3900) (hM : M ≤ 160) (hy : y < 15010) (hE : E ≤ D) (hkd : kd = 6 ∨ kd = 7 ∨ kd = 8 ∨ kd = 9 ∨ kd = 10) (h143 : S.1 143 y = 1) (h144 : S.1 144 y = Int32.ofNat z0) (h145 : S.1 145 y = Int32.ofNat z1) (h146 : S.1 146 y = lx_cv kd) (hv : me_e E V S) (hP : mg_P X lo hi al ah D0 Rt R2 P S) (t0 : mj_t S X lo hi al ah d z0 u) (t1 : mj_t S X lo hi al ah d z1 w) : ∃ S2, fn_Mo_work_85 (Int32.ofNat y) (Int32.ofNat M) S = some S2 ∧ of_f (mgW k vl E) S S2 ∧ mg_O lim D E vl k (mgW k vl E) s 7 (ev_b (ev P lim r V s M u) fun q => ev_b (ev P lim r q.2.1 q.2.2.1 q.2.2.2 w) fun p => .ok (ev_sg kd q.1 p.1, p.2)) S2 := by
  obtain ⟨S9, h9, w9, o9, -, p9⟩ := gw_85 h (by omega) hM
  have q : ∀ a, 143 ≤ a → a ≤ 149 → S9.1 a y = S.1 a y := fun a x1 x2 => o9.1 a y (by omega)
  have hin : ¬(Int32.ofNat y < 0 ∨ 15010 ≤ y) := by rintro (z | z); exact im_neg (by omega) z; omega
  generalize hS2 : ms_p (k + 4) 1 (Int32.ofNat z0) (ms_p (k + 3) 4 0 (ms_p (k + 2) 1 (Int32.ofNat z1) (ms_p (k + 1) 5 (lx_cv kd) S9))) = S2
  have o2 : of_f (fun a b => (a = 135 ∧ b = 35) ∨ ((a = 152 ∨ a = 153) ∧ k + 1 ≤ b)) S9 S2 := by
    rw [← hS2]
    exact of_trans (of_mono (fun a b z => by unfold mw_p at z; omega) ms_o) (of_trans (of_mono (fun a b z => by unfold mw_p at z; omega) ms_o) (of_trans (of_mono (fun a b z => by unfold mw_p at z; omega) ms_o) (of_mono (fun a b z => by unfold mw_p at z; omega) ms_o)))
  have O2 : of_f (fun a b => (a = 135 ∧ (b = 35 ∨ b = 51)) ∨ ((a = 152 ∨ a = 153) ∧ k ≤ b)) S S2 := of_trans (of_mono (fun a b z => by omega) o9) (of_mono (fun a b z => by omega) o2)
  have n2 : mo_no (fun a b => (a = 135 ∧ (b = 35 ∨ b = 51)) ∨ ((a = 152 ∨ a = 153) ∧ k ≤ b)) := fun a b z => by omega
  have h2 : mv_h lim (D + 1) s M E vl (k + 4 + 1) S2 := by rw [← hS2]; exact mv_push (mv_push (mv_push (mv_push h9)))
  have x1 : S2.1 152 (k + 4) = 1 := by rw [← hS2, ms_152, if_pos rfl]
  have x2 : S2.1 153 (k + 4) = Int32.ofNat z0 := by rw [← hS2, ms_153, if_pos rfl]
  have x3 : S2.1 152 (k + 3) = 4 := by rw [← hS2, ms_152, if_neg (by omega), ms_152, if_pos rfl]
  have x4 : S2.1 152 (k + 2) = 1 := by rw [← hS2, ms_152, if_neg (by omega), ms_152, if_neg (by omega), ms_152, if_pos rfl]
  have x5 : S2.1 153 (k + 2) = Int32.ofNat z1 := by rw [← hS2, ms_153, if_neg (by omega), ms_153, if_neg (by omega), ms_153, if_pos rfl]
  have x6 : S2.1 152 (k + 1) = 5 := by rw [← hS2, ms_152, if_neg (by omega), ms_152, if_neg (by omega), ms_152, if_neg (by omega), ms_152, if_pos rfl]
  have x7 : S2.1 153 (k + 1) = lx_cv kd := by rw [← hS2, ms_153, if_neg (by omega), ms_153, if_neg (by omega), ms_153, if_neg (by omega), ms_153, if_pos rfl]
  have x8 : S2.1 152 k = 2 := by rw [o2.1 152 k (by omega)]; exact w9
  refine ⟨S2, ?_, of_mono (fun a b z => by unfold mgW; omega) O2, ?_⟩
  · have q1 : ∀ a, 143 ≤ a → a ≤ 149 → ∀ kk x z (Sx : wd_S), (ms_p kk x z Sx).1 a y = Sx.1 a y := fun a w1 w2 kk x z Sx => ms_o.1 a y (by unfold mw_p; omega)
    unfold fn_Mo_work_85 fn_Mo_work_317
    simp only [wd_b]
    rw [p9, wd_d_s, if_neg (ms_in hy (by decide)), im_t (show y < 2147483648 by omega), q 143 (by omega) (by omega), h143, if_pos rfl, if_neg hin, q 146 (by omega) (by omega), h146, ms_push h9.1 (by omega), wd_d_s, if_neg hin, q1 145 (by omega) (by omega), q 145 (by omega) (by omega), h145, ms_push (t := k + 2) ms_35 (by omega), wd_d_s, ms_push (t := k + 3) ms_35 (by omega), wd_d_s, if_neg hin, q1 144 (by omega) (by omega), q1 144 (by omega) (by omega), q1 144 (by omega) (by omega), q 144 (by omega) (by omega), h144, ms_push (t := k + 4) ms_35 (by omega), wd_d_s, hS2]
  · clear hS2
    refine mg_a (s0 := s) (a := 3) ?_ (by omega)
    refine mg_sub hS hR hDr h2 x1 x2 (by omega) (by omega) (by omega) (me_o O2 (fun b _ _ => by omega) hv) (mgP_no hR n2 O2 hP) (mj_no n2 O2 t0) (fun q1 S3 h3 e3 v3 o3 => ?_) (mgW_le (by omega) (by omega) (by omega))
    obtain ⟨S4, g4, h4, y1, o4⟩ := gt_keep h3 (by omega) (by omega) (by rw [o3.1 152 _ (by unfold mgW; omega)]; exact x3)
    have n4 : mo_no (fun a b => (a = 135 ∧ (b = 35 ∨ b = 44)) ∨ (a = 157 ∧ b = vl)) := fun a b z => by omega
    refine mg_step (W2 := mgW k vl E) g4 (of_mono (fun a b z => by unfold mgW; omega) o4) ?_ (fun _ _ z => z)
    have e4 : ∀ a b, (a = 152 ∨ a = 153) → b < k + 4 → S4.1 a b = S2.1 a b := fun a b z1 z2 => by rw [o4.1 a b (by omega), o3.1 a b (by unfold mgW; omega)]
    refine mg_sub hS hR hDr h4 (by rw [e4 152 _ (Or.inl rfl) (by omega)]; exact x4) (by rw [e4 153 _ (Or.inr rfl) (by omega)]; exact x5) (by omega) (by omega) (by omega) (me_o o4 (fun b _ _ => by omega) v3) (mgP_no hR n4 o4 (mgP_no hR mo_mgW o3 (mgP_no hR n2 O2 hP))) (mj_no n4 o4 (mj_no mo_mgW o3 (mj_no n2 O2 t1))) (fun q2 S5 h5 e5 v5 o5 => ?_) (mgW_le (by omega) (by omega) (by omega))
    have e6 : ∀ a b, (a = 152 ∨ a = 153) → b < k + 2 → S5.1 a b = S2.1 a b := fun a b z1 z2 => by rw [o5.1 a b (by unfold mgW; omega), e4 a b z1 (by omega)]
    obtain ⟨S6, g6, h6, y6, o6⟩ := gt_apply hkd h5 (by omega) (by omega) (by rw [e6 152 _ (Or.inl rfl) (by omega)]; exact x6) (by rw [e6 153 _ (Or.inr rfl) (by omega)]; exact x7)
    refine mg_step (W2 := mgW k vl E) g6 (of_mono (fun a b z => by unfold mgW; omega) o6) ?_ (fun _ _ z => z)
    exact mg_up h6 (by omega) (by rw [o6.1 152 k (by omega), e6 152 k (Or.inl rfl) (by omega)]; exact x8) (by rw [y6, e5, o5.1 157 vl (by unfold mgW; omega), y1, e3]) (me_o o6 (fun b _ _ => by omega) v5)
end Mg5
