/-! The reference: the arguments of a call. -/
section Mc
variable {T : Nat → Int32} {H n f r d m t k u c l w i : Nat} {S S' S1 : wd_S} {e : ps_E} {self : ps_P} {sc : List (Int64 × Nat)}
theorem mr_g_o {W : Nat → Nat → Prop} {lo hi al ah nl nh : Nat} (ho : of_f W S S') (h1 : ∀ a x, 143 ≤ a → a ≤ 148 → lo ≤ x → x < hi → ¬W a x) (h2 : ∀ x, al ≤ x → x < ah → ¬W 149 x) (h3 : ∀ x, nl ≤ x → x < nh → ¬W 142 (16 * f + x)) : mr_g f lo hi al ah nl nh S S' :=
  ⟨fun x x1 x2 => ⟨ho.1 _ _ (h1 143 x (by omega) (by omega) x1 x2), ho.1 _ _ (h1 144 x (by omega) (by omega) x1 x2), ho.1 _ _ (h1 145 x (by omega) (by omega) x1 x2), ho.1 _ _ (h1 146 x (by omega) (by omega) x1 x2), ho.1 _ _ (h1 147 x (by omega) (by omega) x1 x2), ho.2.1 _ _ (h1 148 x (by omega) (by omega) x1 x2)⟩, fun x x1 x2 => ho.1 _ _ (h2 x x1 x2), fun x x1 x2 => ho.2.1 _ _ (h3 x x1 x2)⟩
theorem mr_g_t {lo hi al ah nl nh : Nat} {S2 : wd_S} (h1 : mr_g f lo hi al ah nl nh S S1) (h2 : mr_g f lo hi al ah nl nh S1 S2) : mr_g f lo hi al ah nl nh S S2 := by
  refine ⟨fun x x1 x2 => ?_, fun x x1 x2 => (h2.2.1 x x1 x2).trans (h1.2.1 x x1 x2), fun x x1 x2 => (h2.2.2 x x1 x2).trans (h1.2.2 x x1 x2)⟩
  obtain ⟨a1, a2, a3, a4, a5, a6⟩ := h1.1 x x1 x2
  obtain ⟨b1, b2, b3, b4, b5, b6⟩ := h2.1 x x1 x2
  exact ⟨b1.trans a1, b2.trans a2, b3.trans a3, b4.trans a4, b5.trans a5, b6.trans a6⟩
theorem mp_W_n {a b : Nat} (h : ¬(a = 135 ∧ ((3 ≤ b ∧ b ≤ 10) ∨ b = 27 ∨ b = 28 ∨ b = 30 ∨ b = 35 ∨ b = 37 ∨ b = 38)) ∧ ¬(a = 139 ∧ b = f) ∧ ¬(a = 142 ∧ 16 * f + m ≤ b) ∧ ¬(143 ≤ a ∧ a ≤ 148 ∧ c ≤ b) ∧ ¬(a = 149 ∧ l ≤ b) ∧ ¬(a = 151 ∧ u ≤ b) ∧ ¬(a = 152 ∧ t ≤ b) ∧ ¬(a = 153 ∧ t ≤ b) ∧ ¬(a = 155 ∧ k ≤ b)) : ¬mp_W f m t k u c l H a b := by
  rintro (z | z | z | z | z | z | z | z | z)
  · exact h.1 z
  · exact h.2.1 z
  · exact h.2.2.1 ⟨z.1, z.2.1⟩
  · exact h.2.2.2.1 ⟨z.1, z.2.1, z.2.2.1⟩
  · exact h.2.2.2.2.1 ⟨z.1, z.2.1⟩
  · exact h.2.2.2.2.2.1 z
  · exact h.2.2.2.2.2.2.1 z
  · exact h.2.2.2.2.2.2.2.1 z
  · exact h.2.2.2.2.2.2.2.2 z
/-- an argument that is there goes to those that wait -/
theorem mc_arg {x z u' : Nat} (hm : mh_g T n f m (t + 1) (k + 1) u' c l w i S) (ht : t < 4000) (hk : k < 1600) (hu : u' < 1600) (h1 : S.1 152 t = 20) (h2 : S.1 153 t = Int32.ofNat x) (h3 : S.1 155 k = Int32.ofNat z) : ∃ S3, (∀ F, fn_Mo_parse_21 (F + 1) S = wd_d (if S3.1 135 4 = 16 then wd_d (fn_Mo_push 20 (Int32.ofNat x) S3) fun S64 => wd_d (fn_Mo_push 4 0 S64) fun S67 => wd_d (fn_Mo_pass S67) fun S70 => some S70 else wd_d (fn_Mo_push 21 (Int32.ofNat x) S3) fun S58 => wd_d (fn_Mo_push 1 15 S58) fun S61 => some S61) (fn_Mo_parse_21 F)) ∧ mh_g T n f m t k (u' + 1) c l w i S3 ∧ S3.1 151 u' = Int32.ofNat z ∧ of_f (fun a b => (a = 135 ∧ (b = 30 ∨ b = 35 ∨ b = 37)) ∨ (a = 151 ∧ b = u')) S S3 := by
  have hp := mh_pop hm
  obtain ⟨S2, f2, m2, o2⟩ := mh_last hp hk
  have e30 : (wd_i S 135 35 (Int32.ofNat t)).1 135 30 = Int32.ofNat u' := hp.2.2.2.2.2.2.2.1
  have ez : (wd_i S 135 35 (Int32.ofNat t)).1 155 k = Int32.ofNat z := by rw [fr_ne (by omega)]; exact h3
  rw [ez] at f2
  generalize hS3 : wd_i (wd_i S2 151 u' (Int32.ofNat z)) 135 30 (Int32.ofNat (u' + 1)) = S3
  have o3 : of_f (fun a b => (a = 135 ∧ b = 30) ∨ (a = 151 ∧ b = u')) S2 S3 := by
    rw [← hS3]
    exact of_i (Or.inl ⟨rfl, rfl⟩) (of_i (Or.inr ⟨rfl, rfl⟩) of_refl)
  refine ⟨S3, fun F => ?_, ?_, ?_, ?_⟩
  · rw [mp_pop hm ht F, h1, if_neg (by decide), if_neg (by decide), if_pos (by decide), h2]
    congr 1
    unfold fn_Mo_onRest fn_Mo_onRest_261
    rw [if_neg (by decide), if_neg (by decide), if_neg (by decide), if_neg (by decide), if_neg (by decide), if_neg (by decide), if_neg (by decide), if_pos rfl, f2, wd_c_s, e30, if_neg (ms_in hu (by decide)), im_t (by omega)]
    simp only [wd_b]
    have e5 : (wd_i S2 151 u' (Int32.ofNat z)).1 135 30 = Int32.ofNat u' := by rw [fr_ne (by omega)]; exact m2.2.2.2.2.2.2.2.1
    rw [e5, im_s, hS3]
  · have hne : ∀ b, b ≠ 30 → S3.1 135 b = S2.1 135 b := fun b hb => o3.1 _ _ (by omega)
    refine mh_u m2 (funext (fun b => o3.1 _ _ (by omega))) (fun k hk => hne k (by omega)) (o3.2.1 _ _ (by omega)) (o3.1 _ _ (by omega)) ?_ ?_ ?_ ?_ ?_ ?_
    · rw [hne 35 (by decide)]; exact m2.2.2.2.2.2.1
    · rw [hne 37 (by decide)]; exact m2.2.2.2.2.2.2.1
    · rw [← hS3, fr_eq]
    · rw [hne 27 (by decide)]; exact m2.2.2.2.2.2.2.2.2.1
    · rw [hne 28 (by decide)]; exact m2.2.2.2.2.2.2.2.2.2.1
    · rw [hne 38 (by decide)]; exact m2.2.2.2.2.2.2.2.2.2.2
  · rw [← hS3, fr_ne (by omega), fr_eq]
  · exact of_trans (of_i (by omega) of_refl) (of_trans (of_mono (fun a b z => by unfold mw_37 at z; omega) o2) (of_mono (fun a b z => by omega) o3))
/-- the arguments are laid -/
theorem mc_copy {x a u0 : Nat} (hx : x < 15010) : ∀ (q j F : Nat) (S : wd_S), j + q = a → q < F → mh_g T n f m t k (u + a) c (l + j) w i S → u + a ≤ 1600 → l + a ≤ 15010 → k < 1600 → ∃ S', fn_Mo_onRest_210 F (Int32.ofNat x) (Int32.ofNat u0) (Int32.ofNat (u + j)) S = some S' ∧ mh_g T n f m t (k + 1) u0 c (l + a) w i S' ∧ S'.1 155 k = Int32.ofNat x ∧ (∀ b, l + j ≤ b → b < l + a → S'.1 149 b = S.1 151 (u + (b - l))) ∧ of_f (fun a' b => (a' = 135 ∧ (b = 28 ∨ b = 30 ∨ b = 37)) ∨ (a' = 149 ∧ l + j ≤ b ∧ b < l + a) ∨ (a' = 155 ∧ b = k)) S S' := by
  intro q
  induction q with
  | zero =>
    intro j F S hj hF hm h1 h2 h3
    obtain ⟨F, rfl⟩ : ∃ g, F = g + 1 := ⟨F - 1, by omega⟩
    have ej : j = a := by omega
    subst ej
    rw [fn_Mo_onRest_210, hm.2.2.2.2.2.2.2.1, if_neg (fun z => by have := (im_lt (by omega) (by omega)).mp z; omega)]
    unfold fn_Mo_onRest_261
    simp only [wd_b]
    have o1 : of_f (fun a b => a = 135 ∧ b = 30) S (wd_i S 135 30 (Int32.ofNat u0)) := of_i ⟨rfl, rfl⟩ of_refl
    have m1 : mh_g T n f m t k u0 c (l + j) w i (wd_i S 135 30 (Int32.ofNat u0)) := by
      have hne : ∀ b, b ≠ 30 → (wd_i S 135 30 (Int32.ofNat u0)).1 135 b = S.1 135 b := fun b hb => o1.1 _ _ (by omega)
      refine mh_u hm (funext (fun b => o1.1 _ _ (by omega))) (fun k hk => hne k (by omega)) rfl (o1.1 _ _ (by omega)) ?_ ?_ fr_eq ?_ ?_ ?_
      · rw [hne 35 (by decide)]; exact hm.2.2.2.2.2.1
      · rw [hne 37 (by decide)]; exact hm.2.2.2.2.2.2.1
      · rw [hne 27 (by decide)]; exact hm.2.2.2.2.2.2.2.2.1
      · rw [hne 28 (by decide)]; exact hm.2.2.2.2.2.2.2.2.2.1
      · rw [hne 38 (by decide)]; exact hm.2.2.2.2.2.2.2.2.2.2
    obtain ⟨S2, f2, m2, a2, o2⟩ := mh_keep (x := Int32.ofNat x) m1 h3
    rw [f2, wd_d_s]
    exact ⟨S2, rfl, m2, a2, fun b b1 b2 => by omega, of_trans (of_mono (fun a b z => by omega) o1) (of_mono (fun a b z => by unfold mw_k at z; omega) o2)⟩
  | succ q ih =>
    intro j F S hj hF hm h1 h2 h3
    obtain ⟨F, rfl⟩ : ∃ g, F = g + 1 := ⟨F - 1, by omega⟩
    have e28 := hm.2.2.2.2.2.2.2.2.2.1
    rw [fn_Mo_onRest_210, hm.2.2.2.2.2.2.2.1, if_pos ((im_lt (by omega) (by omega)).mpr (by omega)), if_neg (ms_in (show u + j < 1600 by omega) (by decide)), e28, if_neg (ms_in (show l + j < 15010 by omega) (by decide)), im_t (by omega), im_t (by omega)]
    simp only [wd_b]
    have e28' : (wd_i S 149 (l + j) (S.1 151 (u + j))).1 135 28 = Int32.ofNat (l + j) := by rw [fr_ne (by omega)]; exact e28
    rw [e28', im_s, im_s]
    generalize hS2 : wd_i (wd_i S 149 (l + j) (S.1 151 (u + j))) 135 28 (Int32.ofNat (l + j + 1)) = S2
    have o2 : of_f (fun a b => (a = 135 ∧ b = 28) ∨ (a = 149 ∧ b = l + j)) S S2 := by
      rw [← hS2]
      exact of_i (Or.inl ⟨rfl, rfl⟩) (of_i (Or.inr ⟨rfl, rfl⟩) of_refl)
    have m2 : mh_g T n f m t k (u + a) c (l + (j + 1)) w i S2 := by
      have hne : ∀ b, b ≠ 28 → S2.1 135 b = S.1 135 b := fun b hb => o2.1 _ _ (by omega)
      refine mh_u hm (funext (fun b => o2.1 _ _ (by omega))) (fun k hk => hne k (by omega)) (o2.2.1 _ _ (by omega)) (o2.1 _ _ (by omega)) ?_ ?_ ?_ ?_ ?_ ?_
      · rw [hne 35 (by decide)]; exact hm.2.2.2.2.2.1
      · rw [hne 37 (by decide)]; exact hm.2.2.2.2.2.2.1
      · rw [hne 30 (by decide)]; exact hm.2.2.2.2.2.2.2.1
      · rw [hne 27 (by decide)]; exact hm.2.2.2.2.2.2.2.2.1
      · rw [← hS2, fr_eq, Nat.add_assoc]
      · rw [hne 38 (by decide)]; exact hm.2.2.2.2.2.2.2.2.2.2
    obtain ⟨S3, f3, m3, a3, b3, o3⟩ := ih (j + 1) F S2 (by omega) (by omega) m2 h1 h2 h3
    refine ⟨S3, by rw [Nat.add_assoc u j 1]; exact f3, m3, a3, fun b b1 b2 => ?_, of_trans (of_mono (fun a b z => by omega) o2) (of_mono (fun a b z => by omega) o3)⟩
    by_cases hb : b = l + j
    · subst hb
      rw [o3.1 149 (l + j) (by omega), ← hS2, fr_ne (by omega), fr_eq, show l + j - l = j by omega]
    · rw [b3 b (by omega) b2, o2.1 151 _ (by omega)]
theorem mc_closed {x a : Nat} (hm : mh_g T n f m (t + 1) k (u + a) c l w i S) (ht : t < 4000) (hk : k < 1600) (hu : u + a ≤ 1600) (hl : l + a ≤ 15010) (hx : x < 3003) (h1 : S.1 152 t = 21) (h2 : S.1 153 t = Int32.ofNat x) (h3 : S.1 145 x = Int32.ofNat u) : ∃ S', mp_go 1 S S' ∧ mh_g T n f m t (k + 1) u c (l + a) w i S' ∧ S'.1 155 k = Int32.ofNat x ∧ S'.1 144 x = Int32.ofNat l ∧ S'.1 145 x = Int32.ofNat a ∧ (∀ b, l ≤ b → b < l + a → S'.1 149 b = S.1 151 (u + (b - l))) ∧ of_f (fun a' b => (a' = 135 ∧ (b = 28 ∨ b = 30 ∨ b = 35 ∨ b = 37)) ∨ ((a' = 144 ∨ a' = 145) ∧ b = x) ∨ (a' = 149 ∧ l ≤ b ∧ b < l + a) ∨ (a' = 155 ∧ b = k)) S S' := by
  have hp := mh_pop hm
  have hin := ms_in (show x < 15010 by omega) (by decide)
  have e28 := hp.2.2.2.2.2.2.2.2.2.1
  have e30 := hp.2.2.2.2.2.2.2.1
  have e145 : (wd_i S 135 35 (Int32.ofNat t)).1 145 x = Int32.ofNat u := by rw [fr_ne (by omega)]; exact h3
  have es : Int32.ofNat (u + a) - Int32.ofNat u = Int32.ofNat a := by
    rw [← Int32.ofNat_sub _ _ (Nat.le_add_right u a), Nat.add_sub_cancel_left]
  generalize hS2 : wd_i (wd_i (wd_i S 135 35 (Int32.ofNat t)) 144 x (Int32.ofNat l)) 145 x (Int32.ofNat a) = S2
  have o2 : of_f (fun a' b => (a' = 135 ∧ b = 35) ∨ ((a' = 144 ∨ a' = 145) ∧ b = x)) S S2 := by
    rw [← hS2]
    exact of_i (by omega) (of_i (by omega) (of_i (by omega) of_refl))
  have o2' : of_f (fun a' b => (a' = 144 ∨ a' = 145) ∧ b = x) (wd_i S 135 35 (Int32.ofNat t)) S2 := by
    rw [← hS2]
    exact of_i (by omega) (of_i (by omega) of_refl)
  have m2 : mh_g T n f m t k (u + a) c (l + 0) w i S2 := mh_w o2' (fun a b z => by omega) hp
  obtain ⟨S3, f3, m3, a3, b3, o3⟩ := mc_copy (u0 := u) (x := x) (a := a) (by omega) a 0 wd_F S2 (Nat.zero_add _) (by rw [show wd_F = 1000000 from rfl]; omega) m2 hu hl hk
  have hcode : fn_Mo_onRest 21 (Int32.ofNat x) (wd_i S 135 35 (Int32.ofNat t)) = some S3 := by
    unfold fn_Mo_onRest
    rw [if_neg (by decide), if_neg (by decide), if_neg (by decide), if_neg (by decide), if_neg (by decide), if_neg (by decide), if_neg (by decide), if_neg (by decide), if_neg hin, if_neg hin]
    simp only [wd_b]
    rw [if_neg hin, im_t (by omega), e28, e145]
    have e30' : (wd_i (wd_i S 135 35 (Int32.ofNat t)) 144 x (Int32.ofNat l)).1 135 30 = Int32.ofNat (u + a) := by rw [fr_ne (by omega)]; exact e30
    rw [e30', es, hS2]
    exact f3
  refine ⟨S3, mp_g1 (fun F => by rw [mp_pop hm ht F, h1, h2, if_neg (by decide), if_neg (by decide), if_pos (by decide)]) hcode, m3, a3, ?_, ?_, fun b b1 b2 => ?_, ?_⟩
  · rw [o3.1 144 x (by omega), ← hS2, fr_ne (by omega), fr_eq]
  · rw [o3.1 145 x (by omega), ← hS2, fr_eq]
  · rw [b3 b b1 b2, o2.1 151 _ (by omega)]
  · exact of_trans (of_mono (fun a b z => by omega) o2) (of_mono (fun a b z => by omega) o3)
end Mc
