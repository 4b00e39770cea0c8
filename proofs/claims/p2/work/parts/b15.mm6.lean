/-! The reference's maker: a let's NAME; versions. -/
section Mm6
variable {B h : Nat} {pg : pg_T} {S0 S S' S1 S2 S3 : wd_S} {N N' : mk_N} {s s' : mk_S} {k n mn ma ml k' n' mn' ma' ml' mn1 ma1 ml1 y z d r c p i f m : Nat} {t : tr_T} {x v : Int32} {R : mk_R} {kn : Nat → Int32} {vs : List mk_V}
theorem mm_bd (hh : mm_h B h pg S0 N s k n mn ma ml S) (hi : i < 16) {e : Bool} (he : e = false → ∃ j, j < 16 ∧ x = Int32.ofNat j) : mm_h B h pg S0 (mk_u N i (e, x)) s k n mn ma ml (wd_i (wd_i S 169 i (if e = true then 1 else 0)) 170 i x) := by
  obtain ⟨a1, a2, a3, a4, a5, a6, a7, a8, a9, a10, a11, a12, a13, a14, a15⟩ := hh
  have e5 : ∀ b, (wd_i (wd_i S 169 i (if e = true then 1 else 0)) 170 i x).1 135 b = S.1 135 b := fun b => by rw [fr_ne (by omega), fr_ne (by omega)]
  have f5 : ∀ a b, 159 ≤ a → a ≤ 161 → (wd_i (wd_i S 169 i (if e = true then 1 else 0)) 170 i x).1 a b = S.1 a b := fun a b h1 h2 => by rw [fr_ne (by omega), fr_ne (by omega)]
  have w : ∀ a b, 169 ≤ a → a ≤ 172 → mm_F B 0 0 0 0 a b := fun a b h1 h2 => Or.inr (Or.inr (Or.inr (Or.inr (Or.inr (Or.inr (Or.inr (Or.inr (Or.inr (Or.inr (Or.inr ⟨h1, h2⟩))))))))))
  refine ⟨of_trans a1 (of_i (w _ _ (by omega) (by omega)) (of_i (w _ _ (by omega) (by omega)) of_refl)), by rw [e5]; exact a2, by rw [e5]; exact a3, by rw [e5]; exact a4, by rw [e5]; exact a5, by rw [e5]; exact a6, by rw [e5]; exact a7, by rw [e5]; exact a8, by rw [e5]; exact a9, by rw [e5]; exact a10, a11, a12, a13, fun j q hj => ?_, by rw [e5]; exact a15.1, a15.2.1, fun j hj => ?_⟩
  · unfold mk_u at hj
    split at hj
    · next ej =>
      cases hj
      subst ej
      exact ⟨hi, by rw [fr_ne (by omega), fr_eq], fr_eq, he⟩
    · next ej =>
      obtain ⟨b1, b2, b3, b4⟩ := a14 j q hj
      exact ⟨b1, by rw [fr_ne (by omega), fr_ne (by omega)]; exact b2, by rw [fr_ne (by omega), fr_ne (by omega)]; exact b3, b4⟩
  · obtain ⟨b1, b2, b3⟩ := a15.2.2 j hj
    exact ⟨by rw [f5 159 _ (by omega) (by omega)]; exact b1, by rw [f5 160 _ (by omega) (by omega)]; exact b2, fun i hi => by rw [f5 161 _ (by omega) (by omega)]; exact b3 i hi⟩
theorem mm_bo : ∀ k0 n0 mn0 ma0, of_f (mm_F B k0 n0 mn0 ma0) S (wd_i (wd_i S 169 i x) 170 i v) := fun k0 n0 mn0 ma0 => by
  have w : ∀ a b, 169 ≤ a → a ≤ 172 → mm_F B k0 n0 mn0 ma0 a b := fun a b h1 h2 => Or.inr (Or.inr (Or.inr (Or.inr (Or.inr (Or.inr (Or.inr (Or.inr (Or.inr (Or.inr (Or.inr ⟨h1, h2⟩))))))))))
  exact of_i (w _ _ (by omega) (by omega)) (of_i (w _ _ (by omega) (by omega)) of_refl)
/-- LETTING, of a NUMBER -/
theorem mm_ltg_n (hX : mm_X B h pg S0) (hh : mm_h B h pg S0 N s (k + 1) (n + 1) mn ma ml S) (hk : k < 4000) (hn : n + 2 ≤ 4000) (h165 : S.1 165 k = 6) (h166 : S.1 166 k = Int32.ofNat y) (hy : y < 3004) (hi : i < 16) (h146 : S.1 146 y = Int32.ofNat i) (h167 : S.1 167 n = 1) (h168 : S.1 168 n = v) : ∃ S', mm_go 1 S S' ∧ mm_h B h pg S0 (mk_u N i (true, v)) s (k + 1) n mn ma ml S' ∧ S'.1 165 k = 1 ∧ S'.1 166 k = S.1 145 y ∧ of_f (mm_F B k n mn ma) S S' := by
  have h1 := mm_pop_h hh
  have e79 : (wd_i S 135 76 (Int32.ofNat k)).1 135 79 - 1 = Int32.ofNat n := by
    rw [h1.2.2.2.2.2.2.2.2.2.1]
    exact im_sb n 1
  have h2 := mm_bd (e := true) (x := v) h1 hi (fun q => by cases q)
  rw [if_pos (rfl : true = true)] at h2
  have h3 : mm_h B h pg S0 (mk_u N i (true, v)) s k n mn ma ml (wd_i (wd_i (wd_i (wd_i S 135 76 (Int32.ofNat k)) 169 i 1) 170 i v) 135 79 (Int32.ofNat n)) := mm_h_79 h2
  have q1 : ∀ a b, a ≠ 135 → (wd_i S 135 76 (Int32.ofNat k)).1 a b = S.1 a b := fun a b q => fr_ne (by omega)
  have q2 : ∀ a b, a ≠ 169 → (wd_i (wd_i S 135 76 (Int32.ofNat k)) 169 i 1).1 a b = (wd_i S 135 76 (Int32.ofNat k)).1 a b := fun a b q => fr_ne (by omega)
  have q3 : ∀ a b, a ≠ 170 → (wd_i (wd_i (wd_i S 135 76 (Int32.ofNat k)) 169 i 1) 170 i v).1 a b = (wd_i (wd_i S 135 76 (Int32.ofNat k)) 169 i 1).1 a b := fun a b q => fr_ne (by omega)
  have q4 : ∀ a b, a ≠ 135 → (wd_i (wd_i (wd_i (wd_i S 135 76 (Int32.ofNat k)) 169 i 1) 170 i v) 135 79 (Int32.ofNat n)).1 a b = (wd_i (wd_i (wd_i S 135 76 (Int32.ofNat k)) 169 i 1) 170 i v).1 a b := fun a b q => fr_ne (by omega)
  have ef : fn_Mo_onMaking 6 (Int32.ofNat y) (wd_i S 135 76 (Int32.ofNat k)) = some (ml_p k 1 (S.1 145 y) (wd_i (wd_i (wd_i (wd_i S 135 76 (Int32.ofNat k)) 169 i 1) 170 i v) 135 79 (Int32.ofNat n))) := by
    unfold fn_Mo_onMaking
    rw [if_neg (show ¬(6 : Int32) = 1 by decide), if_neg (show ¬(6 : Int32) = 2 by decide), if_neg (show ¬(6 : Int32) = 3 by decide), if_neg (show ¬(6 : Int32) = 4 by decide), if_neg (show ¬(6 : Int32) = 5 by decide), if_pos rfl]
    unfold fn_Mo_onMaking_426 fn_Mo_onMaking_442 fn_Mo_onMaking_457 fn_Mo_onMaking_566
    simp only [wd_b, wd_d_id]
    rw [e79, if_neg (ms_in (show n < 4000 by omega) (by decide)), if_neg (ms_in (show y < 15010 by omega) (by decide)), im_t (show n < 2147483648 by omega), im_t (show y < 2147483648 by omega), q1 167 n (by decide), h167, q1 146 y (by decide), h146, im_t (show i < 2147483648 by omega), if_neg (fun q => by rcases q with q | q; exact ms_iy hi (by decide) q; exact q fo_b1), if_neg (ms_iy (show y < 15010 by omega) (by decide)), if_neg (show ¬(1 : Int32) = 0 by decide), q2 135 79 (by decide), e79, if_neg (ms_in (show n < 4000 by omega) (by decide)), im_t (show n < 2147483648 by omega), q2 146 y (by decide), q1 146 y (by decide), h146, if_neg (ms_in hi (by decide)), im_t (show i < 2147483648 by omega), q2 168 n (by decide), q1 168 n (by decide), h168, if_neg (show ¬(1 : Int32) = 0 by decide), q3 135 79 (by decide), q2 135 79 (by decide), e79, if_neg (show ¬(1 : Int32) = 0 by decide), if_neg (ms_iy (show y < 15010 by omega) (by decide)), mm_later h3.2.2.2.2.2.2.2.2.1 hk, q4 145 y (by decide), q3 145 y (by decide), q2 145 y (by decide), q1 145 y (by decide)]
  exact ⟨_, mm_pop hh hk (by rw [h165, h166]; exact ef), mm_h_p h3, by rw [ml_165, if_pos rfl], by rw [ml_166, if_pos rfl], of_trans (of_i (Or.inl ⟨rfl, by omega⟩) of_refl) (of_trans (mm_bo _ _ _ _) (of_trans (of_i (Or.inl ⟨rfl, by omega⟩) of_refl) (of_mono (fun a b z => mm_w_F a b (by unfold mm_w; omega)) ml_o)))⟩
/-- LETTING, of a REST -/
theorem mm_ltg_r (hX : mm_X B h pg S0) (hh : mm_h B h pg S0 N s (k + 1) (n + 1) mn ma ml S) (hk : k + 2 ≤ 4000) (hn : n + 2 ≤ 4000) (h165 : S.1 165 k = 6) (h166 : S.1 166 k = Int32.ofNat y) (hy : y < 3004) (hi : i < 16) (h146 : S.1 146 y = Int32.ofNat i) (h167 : S.1 167 n = 0) : ∃ S', mm_go 1 S S' ∧ mm_h B h pg S0 (mk_u N i (false, Int32.ofNat i)) s (k + 2) (n + 1) mn ma ml S' ∧ S'.1 165 k = 5 ∧ S'.1 166 k = Int32.ofNat y ∧ S'.1 165 (k + 1) = 1 ∧ S'.1 166 (k + 1) = S.1 145 y ∧ ∀ mn0 ma0, of_f (mm_F B k (n + 1) mn0 ma0) S S' := by
  have h1 := mm_pop_h hh
  have e79' : (wd_i S 135 76 (Int32.ofNat k)).1 135 79 = Int32.ofNat (n + 1) := h1.2.2.2.2.2.2.2.2.2.1
  have e79 : (wd_i S 135 76 (Int32.ofNat k)).1 135 79 - 1 = Int32.ofNat n := by
    rw [e79']
    exact im_sb n 1
  have h2 := mm_bd (e := false) (x := Int32.ofNat i) h1 hi (fun _ => ⟨i, hi, rfl⟩)
  rw [if_neg (show ¬false = true by decide)] at h2
  have h3 : mm_h B h pg S0 (mk_u N i (false, Int32.ofNat i)) s k (n + 1) mn ma ml (wd_i (wd_i (wd_i (wd_i S 135 76 (Int32.ofNat k)) 169 i 0) 170 i (Int32.ofNat i)) 135 79 (Int32.ofNat (n + 1))) := mm_h_79 h2
  have q1 : ∀ a b, a ≠ 135 → (wd_i S 135 76 (Int32.ofNat k)).1 a b = S.1 a b := fun a b q => fr_ne (by omega)
  have q2 : ∀ a b, a ≠ 169 → (wd_i (wd_i S 135 76 (Int32.ofNat k)) 169 i 0).1 a b = (wd_i S 135 76 (Int32.ofNat k)).1 a b := fun a b q => fr_ne (by omega)
  have q3 : ∀ a b, a ≠ 170 → (wd_i (wd_i (wd_i S 135 76 (Int32.ofNat k)) 169 i 0) 170 i (Int32.ofNat i)).1 a b = (wd_i (wd_i S 135 76 (Int32.ofNat k)) 169 i 0).1 a b := fun a b q => fr_ne (by omega)
  have q4 : ∀ a b, a ≠ 135 → (wd_i (wd_i (wd_i (wd_i S 135 76 (Int32.ofNat k)) 169 i 0) 170 i (Int32.ofNat i)) 135 79 (Int32.ofNat (n + 1))).1 a b = (wd_i (wd_i (wd_i S 135 76 (Int32.ofNat k)) 169 i 0) 170 i (Int32.ofNat i)).1 a b := fun a b q => fr_ne (by omega)
  have ez : Int32.ofNat (n + 1) - 0 = Int32.ofNat (n + 1) := im_sb (n + 1) 0
  have ef : fn_Mo_onMaking 6 (Int32.ofNat y) (wd_i S 135 76 (Int32.ofNat k)) = some (ml_p (k + 1) 1 (S.1 145 y) (ml_p k 5 (Int32.ofNat y) (wd_i (wd_i (wd_i (wd_i S 135 76 (Int32.ofNat k)) 169 i 0) 170 i (Int32.ofNat i)) 135 79 (Int32.ofNat (n + 1))))) := by
    unfold fn_Mo_onMaking
    rw [if_neg (show ¬(6 : Int32) = 1 by decide), if_neg (show ¬(6 : Int32) = 2 by decide), if_neg (show ¬(6 : Int32) = 3 by decide), if_neg (show ¬(6 : Int32) = 4 by decide), if_neg (show ¬(6 : Int32) = 5 by decide), if_pos rfl]
    unfold fn_Mo_onMaking_426 fn_Mo_onMaking_442 fn_Mo_onMaking_457 fn_Mo_onMaking_566
    simp only [wd_b, wd_d_id]
    rw [e79, if_neg (ms_in (show n < 4000 by omega) (by decide)), if_neg (ms_in (show y < 15010 by omega) (by decide)), im_t (show n < 2147483648 by omega), im_t (show y < 2147483648 by omega), q1 167 n (by decide), h167, q1 146 y (by decide), h146, im_t (show i < 2147483648 by omega), if_neg (fun q => by rcases q with q | q; exact ms_iy hi (by decide) q; exact q fo_b0), if_neg (ms_iy (show y < 15010 by omega) (by decide)), if_pos rfl, if_neg (ms_iy (show y < 15010 by omega) (by decide)), q2 146 y (by decide), q1 146 y (by decide), h146, if_neg (ms_in hi (by decide)), im_t (show i < 2147483648 by omega), if_pos rfl, q3 135 79 (by decide), q2 135 79 (by decide), e79', ez, if_pos rfl, mm_later h3.2.2.2.2.2.2.2.2.1 (by omega), wd_d_s, if_neg (ms_iy (show y < 15010 by omega) (by decide)), mm_later ml_76 (by omega), ml_row (by decide) (by decide) (by decide), q4 145 y (by decide), q3 145 y (by decide), q2 145 y (by decide), q1 145 y (by decide)]
  refine ⟨_, mm_pop hh (by omega) (by rw [h165, h166]; exact ef), mm_h_p (mm_h_p h3), ?_, ?_, ?_, ?_, fun mn0 ma0 => of_trans (of_i (Or.inl ⟨rfl, by omega⟩) of_refl) (of_trans (mm_bo _ _ _ _) (of_trans (of_i (Or.inl ⟨rfl, by omega⟩) of_refl) (of_trans (of_mono (fun a b z => mm_w_F a b (by unfold mm_w; omega)) ml_o) (of_mono (fun a b z => mm_w_F a b (by unfold mm_w; omega)) ml_o))))⟩
  · rw [ml_165, if_neg (by omega), ml_165, if_pos rfl]
  · rw [ml_166, if_neg (by omega), ml_166, if_pos rfl]
  · rw [ml_165, if_pos rfl]
  · rw [ml_166, if_pos rfl]
end Mm6
