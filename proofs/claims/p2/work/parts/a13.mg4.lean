/-! The reference's runner: an EXPRESSION that is begun comes to what it should. -/
def mg_P (X lo hi al ah D0 Rt R2 : Nat) (P : List tr_T) (S : wd_S) : Prop := ∀ j, (hj : j < P.length) → X + j < R2 ∧ ∃ y, S.1 Rt (X + j) = Int32.ofNat y ∧ mj_t S X lo hi al ah D0 y P[j]
def mg_R (lo hi ah Rt R2 : Nat) : Prop := ((Rt = 140 ∧ hi ≤ 3004 ∧ R2 = 96) ∨ (Rt = 162 ∧ 3004 ≤ lo ∧ hi ≤ 15010 ∧ R2 = 160)) ∧ ah ≤ 15010
def mg_S (lim X lo hi al ah D0 Rt R2 : Nat) (P : List tr_T) (r : Nat) : Prop := ∀ (D E vl : Nat) (V : ev_V) (s m k y : Nat) (t : tr_T) (d : Nat) (S : wd_S), D + r = 160 → mv_h lim D s m E vl (k + 1) S → S.1 152 k = 1 → S.1 153 k = Int32.ofNat y → E ≤ D → k + 10 * r ≤ 3900 → vl + 4 * r ≤ 3900 → me_e E V S → mg_P X lo hi al ah D0 Rt R2 P S → mj_t S X lo hi al ah d y t → mg_O lim D E vl k (mgW k vl E) s 0 (ev P lim r V s m t) S
def mo_no (W : Nat → Nat → Prop) : Prop := ∀ a b, W a b → a = 135 ∨ a = 152 ∨ a = 153 ∨ a = 157 ∨ a = 158
section Mg4
variable {lim D s m E vl k s0 a D' E' vl' k' a' y n lo hi X Rt R2 al ah D0 d r j : Nat} {P : List tr_T} {S S' S1 S2 : wd_S} {V V' : ev_V} {t : tr_T} {v x τ kd root : Int32} {W W1 W2 : Nat → Nat → Prop}
theorem mj_no (hW : mo_no W) (ho : of_f W S S') (h : mj_t S X lo hi al ah d y t) : mj_t S' X lo hi al ah d y t := mj_t_m (Nat.le_refl _) (Nat.le_refl _) (Nat.le_refl _) (Nat.le_refl _) (mj_g_o ho (fun a x h1 h2 _ _ z => by have := hW a x z; omega) (fun x _ _ z => by have := hW 149 x z; omega)) d y t h
theorem mgP_no (hR : mg_R lo hi ah Rt R2) (hW : mo_no W) (ho : of_f W S S') (h : mg_P X lo hi al ah D0 Rt R2 P S) : mg_P X lo hi al ah D0 Rt R2 P S' := fun j hj => by
  obtain ⟨h1, y, h2, h3⟩ := h j hj
  refine ⟨h1, y, by rw [ho.1 Rt _ (fun z => by have := hW _ _ z; have := hR.1; omega)]; exact h2, mj_no hW ho h3⟩
theorem mo_mgW : mo_no (mgW k vl E) := fun a b z => by unfold mgW at z; omega
theorem me_o (ho : of_f W S S') (hW : ∀ b, 16 * E ≤ b → b < 16 * E + 16 → ¬W 158 b) (h : me_e E V S) : me_e E V S' := fun s v hs => by
  obtain ⟨h1, h2⟩ := h s v hs
  exact ⟨h1, by rw [ho.1 158 _ (hW _ (by omega) (by omega))]; exact h2⟩
theorem mg_a {x : Except ev_E ev_O} {s1 a1 : Nat} (h : mg_O lim D E vl k W s0 a x S) (ha : 8 * s1 + a ≤ 8 * s0 + a1) : mg_O lim D E vl k W s1 a1 x S := by
  unfold mg_O at h ⊢
  split at h
  · trivial
  · obtain ⟨g, S', k1, k2, k3⟩ := h
    exact ⟨g, S', k1, by omega, k3⟩
  · obtain ⟨g, S', k1, k2, k3⟩ := h
    exact ⟨g, S', k1, by omega, k3⟩
theorem mg_up (h : mv_h lim (D + 1) s m E vl (k + 1) S) (hk : k < 4000) (h1 : S.1 152 k = 2) (h47 : S.1 135 47 = v) (hv : me_e E V S) : mg_O lim D E vl k (mgW k vl E) s 1 (.ok (v, V, s, m)) S := by
  obtain ⟨S', g1, m1, o1⟩ := gt_up h hk h1
  exact ⟨1, S', g1, by show 1 + 8 * s ≤ 8 * s + 1; omega, m1, by rw [o1.1 135 47 (by omega)]; exact h47, me_o o1 (fun b _ _ => by omega) hv, of_mono (fun a b z => by unfold mgW; omega) o1⟩
/-- what WORK lays for each kind, first UP -/
theorem gw_85 (h : mv_h lim (D + 1) s m E vl k S) (hk : k < 4000) {M : Nat} (hM : M ≤ 160) : ∃ S9, mv_h lim (D + 1) s M E vl (k + 1) S9 ∧ S9.1 152 k = 2 ∧ of_f (fun a b => (a = 135 ∧ (b = 35 ∨ b = 51)) ∨ ((a = 152 ∨ a = 153) ∧ b = k)) S S9 ∧ ms_p k 2 0 (wd_i S 135 51 (Int32.ofNat M)) = S9 ∧ fn_Mo_push 2 0 (wd_i S 135 51 (Int32.ofNat M)) = some S9 := by
  have o1 : of_f (fun a b => (a = 135 ∧ (b = 35 ∨ b = 51)) ∨ ((a = 152 ∨ a = 153) ∧ b = k)) S (ms_p k 2 0 (wd_i S 135 51 (Int32.ofNat M))) := of_trans (of_i (by omega) of_refl) (of_mono (fun a b z => by unfold mw_p at z; omega) ms_o)
  obtain ⟨a1, a2, a3, a4, a5, a6, a7, a8, a9, a10, a11, a12, a13⟩ := h
  have h1 : mv_h lim (D + 1) s M E vl k (wd_i S 135 51 (Int32.ofNat M)) := ⟨by rw [fr_ne (by omega)]; exact a1, by rw [fr_ne (by omega)]; exact a2, by rw [fr_ne (by omega)]; exact a3, by rw [fr_ne (by omega)]; exact a4, by rw [fr_ne (by omega)]; exact a5, by rw [fr_ne (by omega)]; exact a6, fr_eq, by rw [fr_ne (by omega)]; exact a8, a9, a10, a11, hM, a13⟩
  exact ⟨_, mv_push h1, by rw [ms_152, if_pos rfl], o1, rfl, ms_push (by rw [fr_ne (by omega)]; exact a1) hk⟩
theorem gw_num (h : mv_h lim (D + 1) s m E vl k S) (hk : k < 4000) {M : Nat} (hM : M ≤ 160) (hy : y < 15010) (h143 : S.1 143 y = 5) (h144 : S.1 144 y = v) (hv : me_e E V S) : ∃ S2, fn_Mo_work_85 (Int32.ofNat y) (Int32.ofNat M) S = some S2 ∧ of_f (mgW k vl E) S S2 ∧ mg_O lim D E vl k (mgW k vl E) s 1 (.ok (v, V, s, M)) S2 := by
  obtain ⟨S9, h9, w9, o9, -, p9⟩ := gw_85 h hk hM
  have q : ∀ a, 143 ≤ a → a ≤ 149 → S9.1 a y = S.1 a y := fun a x1 x2 => o9.1 a y (by omega)
  have o2 : of_f (fun a b => a = 135 ∧ b = 47) S9 (wd_i S9 135 47 v) := of_i ⟨rfl, rfl⟩ of_refl
  refine ⟨wd_i S9 135 47 v, ?_, of_trans (of_mono (fun a b z => by unfold mgW; omega) o9) (of_mono (fun a b z => by unfold mgW; omega) o2), mg_up (mv_o h9 o2 (fun b _ => by omega) (by rw [fr_ne (by omega)]; exact h9.1)) hk (by rw [fr_ne (by omega)]; exact w9) fr_eq (me_o (of_trans (of_mono (fun a b z => Or.inl z) o9) (of_mono (fun a b z => Or.inr z) o2)) (fun b _ _ => by omega) hv)⟩
  unfold fn_Mo_work_85 fn_Mo_work_317
  simp only [wd_b]
  rw [p9, wd_d_s, if_neg (ms_in hy (by decide)), im_t (show y < 2147483648 by omega), q 143 (by omega) (by omega), h143, if_neg (by decide), if_neg (by decide), if_neg (by decide), if_neg (by decide), if_pos rfl, if_neg (by rintro (z | z); exact im_neg (by omega) z; omega), q 144 (by omega) (by omega), h144]
theorem gw_name (h : mv_h lim (D + 1) s m E vl k S) (hk : k < 4000) {M : Nat} (hM : M ≤ 160) (hy : y < 15010) (hE : E ≤ 160) (h143 : S.1 143 y = 7) (h144 : S.1 144 y = Int32.ofNat n) (hv : me_e E V S) (hn : V n = some v) : ∃ S2, fn_Mo_work_85 (Int32.ofNat y) (Int32.ofNat M) S = some S2 ∧ of_f (mgW k vl E) S S2 ∧ mg_O lim D E vl k (mgW k vl E) s 1 (.ok (v, V, s, M)) S2 := by
  obtain ⟨S9, h9, w9, o9, -, p9⟩ := gw_85 h hk hM
  obtain ⟨hn1, hn2⟩ := hv n v hn
  have q : ∀ a, 143 ≤ a → a ≤ 149 → S9.1 a y = S.1 a y := fun a x1 x2 => o9.1 a y (by omega)
  have o2 : of_f (fun a b => a = 135 ∧ b = 47) S9 (wd_i S9 135 47 v) := of_i ⟨rfl, rfl⟩ of_refl
  refine ⟨wd_i S9 135 47 v, ?_, of_trans (of_mono (fun a b z => by unfold mgW; omega) o9) (of_mono (fun a b z => by unfold mgW; omega) o2), mg_up (mv_o h9 o2 (fun b _ => by omega) (by rw [fr_ne (by omega)]; exact h9.1)) hk (by rw [fr_ne (by omega)]; exact w9) fr_eq (me_o (of_trans (of_mono (fun a b z => Or.inl z) o9) (of_mono (fun a b z => Or.inr z) o2)) (fun b _ _ => by omega) hv)⟩
  have hin : ¬(Int32.ofNat y < 0 ∨ 15010 ≤ y) := by rintro (z | z); exact im_neg (by omega) z; omega
  have e1 : (16 : Int32) * Int32.ofNat E + Int32.ofNat n = Int32.ofNat (16 * E + n) := by rw [show (16 : Int32) = Int32.ofNat 16 from rfl, im_ma]
  unfold fn_Mo_work_85 fn_Mo_work_317
  simp only [wd_b]
  rw [p9, wd_d_s, if_neg (ms_in hy (by decide)), im_t (show y < 2147483648 by omega), q 143 (by omega) (by omega), h143, if_neg (by decide), if_neg (by decide), if_neg (by decide), if_neg (by decide), if_neg (by decide), if_neg (by decide), if_pos rfl, if_neg hin, q 144 (by omega) (by omega), h144, h9.2.2.1, e1, if_neg (ms_in (show 16 * E + n < 2640 by omega) (by decide)), im_t (show 16 * E + n < 2147483648 by omega), o9.1 158 _ (by omega), hn2]
end Mg4
