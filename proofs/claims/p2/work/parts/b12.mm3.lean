/-! The reference's maker: what is asked of an EXPRESSION. -/
section Mm3
variable {B h : Nat} {pg : pg_T} {S0 S S' S1 S2 : wd_S} {N N' : mk_N} {s s' : mk_S} {k n mn ma ml k' n' mn' ma' ml' y z d r c p : Nat} {t : tr_T} {x v : Int32} {R : mk_R}
theorem mm_mk1 : fn_Mo_onMaking 1 v S = fn_Mo_onEv v S := by
  unfold fn_Mo_onMaking fn_Mo_onMaking_566
  rw [if_pos rfl]
  exact wd_d_id _
/-- the beginning of onEv -/
theorem mm_ev0 (hg : ¬1000 ≤ s.2.1) (h71 : S.1 135 71 = Int32.ofNat s.2.1) : ¬S.1 135 71 = 1000 := by
  rw [h71]
  exact fun q => by have := (im_eq (m := s.2.1) (n := 1000) (by omega) (by omega)).mp q; omega
theorem mm_ev5 (hy : y < 15010) (hg : ¬S.1 135 71 = 1000) (h143 : S.1 143 y = 5) : fn_Mo_onEv (Int32.ofNat y) S = fn_Mo_gives 1 (S.1 144 y) (wd_i S 135 71 (S.1 135 71 + 1)) := by
  have e : (wd_i S 135 71 (S.1 135 71 + 1)).1 143 y = 5 := by rw [fr_ne (by omega)]; exact h143
  unfold fn_Mo_onEv fn_Mo_onEv_272
  simp only [wd_b]
  rw [if_neg hg, if_neg (ms_in hy (by decide)), im_t (show y < 2147483648 by omega), e, if_neg (by decide), if_neg (by decide), if_neg (by decide), if_neg (by decide), if_pos rfl, if_neg (ms_iy hy (by decide)), fr_ne (by omega)]
  exact wd_d_id _
theorem mm_ev7 (hy : y < 15010) (hg : ¬S.1 135 71 = 1000) (h143 : S.1 143 y = 7) {i : Nat} (hi : i < 16) (h144 : S.1 144 y = Int32.ofNat i) : fn_Mo_onEv (Int32.ofNat y) S = if S.1 169 i = 0 then (wd_c (fn_Mo_fresh 7 (wd_i S 135 71 (S.1 135 71 + 1))) fun x58 S57 => if Int32.ofNat y < 0 ∨ 15010 ≤ (Int32.ofNat y).toNatClampNeg then none else if (S57.1 144 (Int32.ofNat y).toNatClampNeg) < 0 ∨ 16 ≤ (S57.1 144 (Int32.ofNat y).toNatClampNeg).toNatClampNeg then none else if x58 < 0 ∨ 15010 ≤ x58.toNatClampNeg then none else fn_Mo_gives 0 x58 (wd_i S57 144 x58.toNatClampNeg (S57.1 170 (S57.1 144 (Int32.ofNat y).toNatClampNeg).toNatClampNeg))) else fn_Mo_gives 1 (S.1 170 i) (wd_i S 135 71 (S.1 135 71 + 1)) := by
  have e : (wd_i S 135 71 (S.1 135 71 + 1)).1 143 y = 7 := by rw [fr_ne (by omega)]; exact h143
  have e4 : (wd_i S 135 71 (S.1 135 71 + 1)).1 144 y = Int32.ofNat i := by rw [fr_ne (by omega)]; exact h144
  unfold fn_Mo_onEv fn_Mo_onEv_272
  simp only [wd_b, wd_d_id]
  rw [if_neg hg, if_neg (ms_in hy (by decide)), im_t (show y < 2147483648 by omega), e, if_neg (by decide), if_neg (by decide), if_neg (by decide), if_neg (by decide), if_neg (by decide), if_neg (by decide), if_pos rfl, if_neg (ms_iy hy (by decide)), e4, if_neg (ms_in hi (by decide)), im_t (show i < 2147483648 by omega), fr_ne (by omega), if_neg (ms_iy hy (by decide)), if_neg (ms_iy hi (by decide)), fr_ne (by omega)]
theorem mm_ev1 (hy : y < 15010) (hg : ¬S.1 135 71 = 1000) (h143 : S.1 143 y = 1) (hk : S.1 135 76 = Int32.ofNat k) (h4 : k + 3 ≤ 4000) : fn_Mo_onEv (Int32.ofNat y) S = some (ml_p (k + 2) 1 (S.1 144 y) (ml_p (k + 1) 1 (S.1 145 y) (ml_p k 2 (Int32.ofNat y) (wd_i S 135 71 (S.1 135 71 + 1))))) := by
  have e : (wd_i S 135 71 (S.1 135 71 + 1)).1 143 y = 1 := by rw [fr_ne (by omega)]; exact h143
  unfold fn_Mo_onEv fn_Mo_onEv_272
  simp only [wd_b]
  rw [if_neg hg, if_neg (ms_in hy (by decide)), im_t (show y < 2147483648 by omega), e, if_pos rfl, mm_later (k := k) (by rw [fr_ne (by omega)]; exact hk) (by omega), wd_d_s, if_neg (ms_iy hy (by decide)), mm_later ml_76 (by omega), wd_d_s, if_neg (ms_iy hy (by decide)), mm_later ml_76 (by omega), wd_d_s, ml_row (by decide) (by decide) (by decide), ml_row (by decide) (by decide) (by decide), ml_row (by decide) (by decide) (by decide), fr_ne (by omega), fr_ne (by omega)]
theorem mm_ev2 (hy : y < 15010) (hg : ¬S.1 135 71 = 1000) (h143 : S.1 143 y = 2) (hk : S.1 135 76 = Int32.ofNat k) (h4 : k + 3 ≤ 4000) : fn_Mo_onEv (Int32.ofNat y) S = some (ml_p (k + 1) 1 (S.1 144 y) (ml_p k 3 (Int32.ofNat y) (wd_i S 135 71 (S.1 135 71 + 1)))) := by
  have e : (wd_i S 135 71 (S.1 135 71 + 1)).1 143 y = 2 := by rw [fr_ne (by omega)]; exact h143
  unfold fn_Mo_onEv fn_Mo_onEv_272
  simp only [wd_b]
  rw [if_neg hg, if_neg (ms_in hy (by decide)), im_t (show y < 2147483648 by omega), e, if_neg (by decide), if_pos rfl, mm_later (k := k) (by rw [fr_ne (by omega)]; exact hk) (by omega), wd_d_s, if_neg (ms_iy hy (by decide)), mm_later ml_76 (by omega), wd_d_s, ml_row (by decide) (by decide) (by decide), fr_ne (by omega)]
theorem mm_ev3 (hy : y < 15010) (hg : ¬S.1 135 71 = 1000) (h143 : S.1 143 y = 3) (hk : S.1 135 76 = Int32.ofNat k) (h4 : k + 3 ≤ 4000) : fn_Mo_onEv (Int32.ofNat y) S = some (ml_p (k + 1) 1 (S.1 144 y) (ml_p k 6 (Int32.ofNat y) (wd_i S 135 71 (S.1 135 71 + 1)))) := by
  have e : (wd_i S 135 71 (S.1 135 71 + 1)).1 143 y = 3 := by rw [fr_ne (by omega)]; exact h143
  unfold fn_Mo_onEv fn_Mo_onEv_272
  simp only [wd_b]
  rw [if_neg hg, if_neg (ms_in hy (by decide)), im_t (show y < 2147483648 by omega), e, if_neg (by decide), if_neg (by decide), if_pos rfl, mm_later (k := k) (by rw [fr_ne (by omega)]; exact hk) (by omega), wd_d_s, if_neg (ms_iy hy (by decide)), mm_later ml_76 (by omega), wd_d_s, ml_row (by decide) (by decide) (by decide), fr_ne (by omega)]
/-- the arguments of a call, the last one first -/
theorem mm_244 (hy : y < 15010) {g a : Nat} (hga : g + a ≤ 15010) : ∀ (q F : Nat) (S1 : wd_S) (k1 : Nat), q ≤ a → q < F → k1 + q ≤ 4000 → S1.1 135 76 = Int32.ofNat k1 → S1.1 144 y = Int32.ofNat g → ∃ S', fn_Mo_onEv_244 F (Int32.ofNat y) (Int32.ofNat q - 1) S1 = some S' ∧ S'.1 135 76 = Int32.ofNat (k1 + q) ∧ (∀ j, j < q → S'.1 165 (k1 + (q - 1 - j)) = 1 ∧ S'.1 166 (k1 + (q - 1 - j)) = S1.1 149 (g + j)) ∧ of_f (fun a' b => (a' = 135 ∧ b = 76) ∨ ((a' = 165 ∨ a' = 166) ∧ k1 ≤ b)) S1 S' := by
  intro q
  induction q with
  | zero =>
    intro F S1 k1 _ hF _ h76 _
    obtain ⟨F, rfl⟩ : ∃ f, F = f + 1 := ⟨F - 1, by omega⟩
    refine ⟨S1, ?_, h76, fun j hj => absurd hj (Nat.not_lt_zero _), of_refl⟩
    rw [fn_Mo_onEv_244, if_pos (show Int32.ofNat 0 - 1 < 0 by decide)]
    rfl
  | succ q ih =>
    intro F S1 k1 hq hF hk h76 h144
    obtain ⟨F, rfl⟩ : ∃ f, F = f + 1 := ⟨F - 1, by omega⟩
    have ea : Int32.ofNat g + Int32.ofNat q = Int32.ofNat (g + q) := (Int32.ofNat_add g q).symm
    rw [fn_Mo_onEv_244, im_p, if_neg (im_neg (by omega)), if_neg (ms_in hy (by decide)), im_t (show y < 2147483648 by omega), h144, ea, if_neg (ms_in (show g + q < 15010 by omega) (by decide)), im_t (show g + q < 2147483648 by omega), mm_later h76 (by omega), wd_d_s, show Int32.ofNat q + -1 = Int32.ofNat q - 1 by rw [Int32.sub_eq_add_neg]]
    obtain ⟨S2, f2, e2, s2, o2⟩ := ih F (ml_p k1 1 (S1.1 149 (g + q)) S1) (k1 + 1) (by omega) (by omega) (by omega) ml_76 (by rw [ml_row (by decide) (by decide) (by decide)]; exact h144)
    refine ⟨S2, f2, by rw [e2]; congr 1; omega, fun j hj => ?_, of_trans (of_mono (fun a b z => by omega) ml_o) (of_mono (fun a b z => by omega) o2)⟩
    by_cases e : j = q
    · subst e
      rw [show k1 + (j + 1 - 1 - j) = k1 by omega, o2.1 165 k1 (by omega), o2.1 166 k1 (by omega), ml_165, ml_166, if_pos rfl, if_pos rfl]
      exact ⟨rfl, rfl⟩
    · obtain ⟨t1, t2⟩ := s2 j (by omega)
      rw [show k1 + 1 + (q - 1 - j) = k1 + (q + 1 - 1 - j) by omega] at t1 t2
      exact ⟨t1, by rw [t2, ml_row (by decide) (by decide) (by decide)]⟩
theorem mm_ev8 (hy : y < 15010) (hg : ¬S.1 135 71 = 1000) (h143 : S.1 143 y = 8) (hk : S.1 135 76 = Int32.ofNat k) (h4 : k + 6 ≤ 4000) {g a : Nat} (ha : a ≤ 4) (hga : g + a ≤ 15010) (h144 : S.1 144 y = Int32.ofNat g) (h145 : S.1 145 y = Int32.ofNat a) : ∃ S', fn_Mo_onEv (Int32.ofNat y) S = some S' ∧ S'.1 135 76 = Int32.ofNat (k + 1 + a) ∧ S'.1 165 k = 7 ∧ S'.1 166 k = Int32.ofNat y ∧ (∀ j, j < a → S'.1 165 (k + 1 + (a - 1 - j)) = 1 ∧ S'.1 166 (k + 1 + (a - 1 - j)) = S.1 149 (g + j)) ∧ of_f (fun a' b => (a' = 135 ∧ b = 76) ∨ ((a' = 165 ∨ a' = 166) ∧ k ≤ b)) (wd_i S 135 71 (S.1 135 71 + 1)) S' := by
  have e : (wd_i S 135 71 (S.1 135 71 + 1)).1 143 y = 8 := by rw [fr_ne (by omega)]; exact h143
  unfold fn_Mo_onEv fn_Mo_onEv_272
  simp only [wd_b]
  rw [if_neg hg, if_neg (ms_in hy (by decide)), im_t (show y < 2147483648 by omega), e, if_neg (by decide), if_neg (by decide), if_neg (by decide), if_neg (by decide), if_neg (by decide), if_neg (by decide), if_neg (by decide), mm_later (k := k) (by rw [fr_ne (by omega)]; exact hk) (by omega), wd_d_s, if_neg (ms_iy hy (by decide)), ml_row (by decide) (by decide) (by decide), fr_ne (by omega), h145]
  obtain ⟨S2, f2, e2, s2, o2⟩ := mm_244 hy hga a wd_F (ml_p k 7 (Int32.ofNat y) (wd_i S 135 71 (S.1 135 71 + 1))) (k + 1) (Nat.le_refl _) (by rw [show wd_F = 1000000 from rfl]; omega) (by omega) ml_76 (by rw [ml_row (by decide) (by decide) (by decide), fr_ne (by omega)]; exact h144)
  refine ⟨S2, f2, e2, by rw [o2.1 165 k (by omega), ml_165, if_pos rfl], by rw [o2.1 166 k (by omega), ml_166, if_pos rfl], fun j hj => ⟨(s2 j hj).1, ?_⟩, of_trans (of_mono (fun a b z => by omega) ml_o) (of_mono (fun a b z => by omega) o2)⟩
  rw [(s2 j hj).2, ml_row (by decide) (by decide) (by decide), fr_ne (by omega)]
end Mm3
