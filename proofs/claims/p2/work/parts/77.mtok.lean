/-! The reference's tokens, one by one. -/
theorem lx_inv {x : Int32} (h : ¬lx_cv x = 0) : x = 1 ∨ x = 2 ∨ x = 3 ∨ x = 4 ∨ x = 6 ∨ x = 7 ∨ x = 8 ∨ x = 9 ∨ x = 10 ∨ x = 11 ∨ x = 12 ∨ x = 13 ∨ x = 14 ∨ x = 15 ∨ x = 16 ∨ x = 17 ∨ x = 18 ∨ x = 20 := by
  unfold lx_cv at h
  by_cases h1 : x = 1
  · exact Or.inl h1
  rw [if_neg h1] at h
  by_cases h2 : x = 2
  · exact Or.inr (Or.inl h2)
  rw [if_neg h2] at h
  by_cases h3 : x = 3
  · exact Or.inr (Or.inr (Or.inl h3))
  rw [if_neg h3] at h
  by_cases h4 : x = 4
  · exact Or.inr (Or.inr (Or.inr (Or.inl h4)))
  rw [if_neg h4] at h
  by_cases h6 : x = 6
  · exact Or.inr (Or.inr (Or.inr (Or.inr (Or.inl h6))))
  rw [if_neg h6] at h
  by_cases h7 : x = 7
  · exact Or.inr (Or.inr (Or.inr (Or.inr (Or.inr (Or.inl h7)))))
  rw [if_neg h7] at h
  by_cases h8 : x = 8
  · exact Or.inr (Or.inr (Or.inr (Or.inr (Or.inr (Or.inr (Or.inl h8))))))
  rw [if_neg h8] at h
  by_cases h9 : x = 9
  · exact Or.inr (Or.inr (Or.inr (Or.inr (Or.inr (Or.inr (Or.inr (Or.inl h9)))))))
  rw [if_neg h9] at h
  by_cases h10 : x = 10
  · exact Or.inr (Or.inr (Or.inr (Or.inr (Or.inr (Or.inr (Or.inr (Or.inr (Or.inl h10))))))))
  rw [if_neg h10] at h
  by_cases h11 : x = 11
  · exact Or.inr (Or.inr (Or.inr (Or.inr (Or.inr (Or.inr (Or.inr (Or.inr (Or.inr (Or.inl h11)))))))))
  rw [if_neg h11] at h
  by_cases h12 : x = 12
  · exact Or.inr (Or.inr (Or.inr (Or.inr (Or.inr (Or.inr (Or.inr (Or.inr (Or.inr (Or.inr (Or.inl h12))))))))))
  rw [if_neg h12] at h
  by_cases h13 : x = 13
  · exact Or.inr (Or.inr (Or.inr (Or.inr (Or.inr (Or.inr (Or.inr (Or.inr (Or.inr (Or.inr (Or.inr (Or.inl h13)))))))))))
  rw [if_neg h13] at h
  by_cases h14 : x = 14
  · exact Or.inr (Or.inr (Or.inr (Or.inr (Or.inr (Or.inr (Or.inr (Or.inr (Or.inr (Or.inr (Or.inr (Or.inr (Or.inl h14))))))))))))
  rw [if_neg h14] at h
  by_cases h15 : x = 15
  · exact Or.inr (Or.inr (Or.inr (Or.inr (Or.inr (Or.inr (Or.inr (Or.inr (Or.inr (Or.inr (Or.inr (Or.inr (Or.inr (Or.inl h15)))))))))))))
  rw [if_neg h15] at h
  by_cases h16 : x = 16
  · exact Or.inr (Or.inr (Or.inr (Or.inr (Or.inr (Or.inr (Or.inr (Or.inr (Or.inr (Or.inr (Or.inr (Or.inr (Or.inr (Or.inr (Or.inl h16))))))))))))))
  rw [if_neg h16] at h
  by_cases h17 : x = 17
  · exact Or.inr (Or.inr (Or.inr (Or.inr (Or.inr (Or.inr (Or.inr (Or.inr (Or.inr (Or.inr (Or.inr (Or.inr (Or.inr (Or.inr (Or.inr (Or.inl h17)))))))))))))))
  rw [if_neg h17] at h
  by_cases h18 : x = 18
  · exact Or.inr (Or.inr (Or.inr (Or.inr (Or.inr (Or.inr (Or.inr (Or.inr (Or.inr (Or.inr (Or.inr (Or.inr (Or.inr (Or.inr (Or.inr (Or.inr (Or.inl h18))))))))))))))))
  rw [if_neg h18] at h
  by_cases h20 : x = 20
  · exact Or.inr (Or.inr (Or.inr (Or.inr (Or.inr (Or.inr (Or.inr (Or.inr (Or.inr (Or.inr (Or.inr (Or.inr (Or.inr (Or.inr (Or.inr (Or.inr (Or.inr (h20)))))))))))))))))
  rw [if_neg h20] at h
  exact absurd rfl h
theorem lx_ij {x y : Int32} (hy : ¬lx_cv y = 0) (h : lx_cv x = lx_cv y) : x = y := by
  have hx : ¬lx_cv x = 0 := by rw [h]; exact hy
  rcases lx_inv hx with rfl | rfl | rfl | rfl | rfl | rfl | rfl | rfl | rfl | rfl | rfl | rfl | rfl | rfl | rfl | rfl | rfl | rfl <;> rcases lx_inv hy with rfl | rfl | rfl | rfl | rfl | rfl | rfl | rfl | rfl | rfl | rfl | rfl | rfl | rfl | rfl | rfl | rfl | rfl <;> first | rfl | exact absurd h (by decide)
/-- the reference is at token i -/
def mt_g (T : Nat → Int32) (n i : Nat) (S : wd_S) : Prop := S.1 136 = T ∧ S.1 135 2 = Int32.ofNat n ∧ S.1 135 9 = 0 ∧ S.1 135 10 = -1 ∧ i ≤ 1500 ∧ ¬tk_K T n i = 19 ∧ S.1 135 4 = lx_cv (tk_K T n i) ∧ S.1 135 5 = Int32.ofNat (tk_p T n i) ∧ (¬tk_K T n i = 20 → S.1 135 6 = Int32.ofNat (i + 1)) ∧ (∃ q, q ≤ n ∧ S.1 135 3 = Int32.ofNat q ∧ (tk_p T n i < n → tk_n T n q = tk_p T n (i + 1))) ∧ (tk_K T n i = 2 → S.2.1 135 7 = tk_V T n i) ∧ (tk_K T n i = 1 → S.1 135 8 = (tk_V T n i).toInt32)
/-- it has a fault -/
def mt_e (T : Nat → Int32) (n : Nat) (e : ps_E) (S : wd_S) : Prop := ¬e.1 = 0 ∧ S.1 135 9 = e.1 ∧ S.1 135 10 = Int32.ofNat (tk_p T n e.2)
section Mt
variable {T : Nat → Int32} {n i : Nat} {S S' : wd_S} {k : Int32} {e : ps_E}
theorem mt_g_o (h : mt_g T n i S) (h1 : ∀ a, a = 136 → S'.1 a = S.1 a) (h2 : ∀ k, k = 2 ∨ (3 ≤ k ∧ k ≤ 10) → S'.1 135 k = S.1 135 k) (h3 : S'.2.1 135 7 = S.2.1 135 7) : mt_g T n i S' := by
  obtain ⟨a1, a2, a3, a4, a5, a6, a7, a8, a9, ⟨q, q1, q2, q3⟩, a11, a12⟩ := h
  refine ⟨?_, ?_, ?_, ?_, a5, a6, ?_, ?_, fun z => ?_, ⟨q, q1, ?_, q3⟩, fun z => ?_, fun z => ?_⟩
  · rw [h1 136 rfl]; exact a1
  · rw [h2 2 (by omega)]; exact a2
  · rw [h2 9 (by omega)]; exact a3
  · rw [h2 10 (by omega)]; exact a4
  · rw [h2 4 (by omega)]; exact a7
  · rw [h2 5 (by omega)]; exact a8
  · rw [h2 6 (by omega)]; exact a9 z
  · rw [h2 3 (by omega)]; exact q2
  · rw [h3]; exact a11 z
  · rw [h2 8 (by omega)]; exact a12 z
theorem mt_stop {x : Int32} (hx : ¬x = 0) (h : mt_g T n i S) : ∃ S', fn_Mo_stop x (S.1 135 5) S = some S' ∧ of_f nx_W S S' ∧ mt_e T n (x, i) S' := by
  rw [mo_stop, if_pos h.2.2.1]
  refine ⟨_, rfl, of_i (by unfold nx_W; omega) (of_i (by unfold nx_W; omega) of_refl), hx, ?_, ?_⟩
  · rw [fr_ne (by omega), fr_eq]
  · rw [fr_eq]; exact h.2.2.2.2.2.2.2.1
theorem mt_pass_e (h : ¬S.1 135 9 = 0) : fn_Mo_pass S = some S := by
  unfold fn_Mo_pass fn_Mo_pass_27 fn_Mo_pass_38
  rw [if_neg h, if_neg h]
theorem mt_want_e (h : ¬S.1 135 9 = 0) : fn_Mo_want k S = some S := by
  unfold fn_Mo_want fn_Mo_want_24
  rw [if_neg h, mt_pass_e h, wd_d_s]
def mt_R (T : Nat → Int32) (n : Nat) (r : Except ps_E Nat) (S : wd_S) : Prop := match r with
  | .error e => mt_e T n e S
  | .ok j => mt_g T n j S
theorem mt_pass (h8 : n ≤ 8000) (h : mt_g T n i S) (hk : ¬tk_K T n i = 20) : ∃ S', fn_Mo_pass S = some S' ∧ of_f nx_W S S' ∧ mt_R T n (ps_take (tk_K T n) (tk_K T n i) i) S' := by
  have h0 := h
  obtain ⟨a1, a2, a3, a4, a5, a6, a7, a8, a9, ⟨q, q1, q2, q3⟩, a11, a12⟩ := h
  have hp : tk_p T n i < n := by
    unfold tk_K at hk
    split at hk
    · next z => exact z
    · exact absurd rfl hk
  unfold fn_Mo_pass fn_Mo_pass_27 fn_Mo_pass_38 ps_take
  rw [if_pos a3, if_pos rfl, a9 hk]
  by_cases hi : i < 1500
  · rw [if_neg (fun z => by have := (im_lt (m := 1500) (n := i + 1) (by omega) (by omega)).mp z; omega), if_pos a3, if_pos hi]
    obtain ⟨S', e1, o1, b1, b2, b3⟩ := nx_next (S := S) a2 q2 q1 h8 a3
    rw [a1, q3 hp] at b1 b2 b3
    rw [e1, wd_d_s]
    refine ⟨S', rfl, o1, ?_⟩
    have c1 : S'.1 136 = T := by
      funext m
      rw [o1.1 136 m (by unfold nx_W; omega), a1]
    have c2 : S'.1 135 2 = Int32.ofNat n := by rw [o1.1 135 2 (by unfold nx_W; omega)]; exact a2
    have hple := tk_p_le T n (i + 1)
    rcases Nat.lt_or_ge (tk_p T n (i + 1)) n with hlt | hge
    · obtain ⟨d1, d2, d3, d4, d5, d6, d7⟩ := b3 hlt
      have eK : tk_K T n (i + 1) = tk_k T n (tk_p T n (i + 1)) := if_pos hlt
      by_cases h19 : tk_K T n (i + 1) = 19
      · rw [if_pos h19]
        rw [eK] at h19
        exact ⟨(show ¬(1 : Int32) = 0 by decide), (d6 h19).1, (d6 h19).2⟩
      · rw [if_neg h19]
        rw [eK] at h19
        refine ⟨c1, c2, (d7 h19).1, (d7 h19).2.trans a4, by omega, by rw [eK]; exact h19, by rw [eK]; exact d1, b1, fun _ => ?_, ⟨_, (tk_z_ok hlt).2, d2, fun _ => (tk_p_s hlt).symm⟩, fun z => ?_, fun z => ?_⟩
        · rw [d3, a9 hk, im_s]
        · rw [eK] at z; exact d4 z
        · rw [eK] at z; exact d5 z
    · have he : tk_p T n (i + 1) = n := by omega
      obtain ⟨d1, d2, d3, d4, d5⟩ := b2 he
      have eK : tk_K T n (i + 1) = 20 := if_neg (by omega)
      rw [eK, if_neg (by decide)]
      refine ⟨c1, c2, d4, d5.trans a4, by omega, by rw [eK]; decide, by rw [eK]; exact d1, b1, fun z => absurd eK z, ⟨n, Nat.le_refl _, d2, fun z => by omega⟩, fun z => ?_, fun z => ?_⟩
      · rw [eK] at z; exact absurd z (by decide)
      · rw [eK] at z; exact absurd z (by decide)
  · rw [if_pos (show (1500 : Int32) < Int32.ofNat (i + 1) from (im_lt (m := 1500) (n := i + 1) (by omega) (by omega)).mpr (by omega)), if_neg hi]
    obtain ⟨S', e1, o1, b1⟩ := mt_stop (x := 6) (by decide) h0
    rw [e1, wd_d_s, if_neg (by rw [b1.2.1]; exact (show ¬(6 : Int32) = 0 by decide))]
    exact ⟨S', rfl, o1, b1⟩
theorem mt_want (h8 : n ≤ 8000) (h : mt_g T n i S) (hk : ¬lx_cv k = 0) (hk20 : ¬k = 20) : ∃ S', fn_Mo_want (lx_cv k) S = some S' ∧ of_f nx_W S S' ∧ mt_R T n (ps_take (tk_K T n) k i) S' := by
  unfold fn_Mo_want fn_Mo_want_24
  rw [if_pos h.2.2.1, h.2.2.2.2.2.2.1]
  by_cases hki : tk_K T n i = k
  · rw [if_pos (by rw [hki])]
    obtain ⟨S', e1, o1, b1⟩ := mt_pass h8 h (by rw [hki]; exact hk20)
    rw [e1, wd_d_s]
    rw [hki] at b1
    exact ⟨S', rfl, o1, b1⟩
  · rw [if_neg (fun z => hki (lx_ij hk z))]
    obtain ⟨S', e1, o1, b1⟩ := mt_stop (x := 2) (by decide) h
    rw [e1, wd_d_s, mt_pass_e (by rw [b1.2.1]; exact (show ¬(2 : Int32) = 0 by decide)), wd_d_s]
    refine ⟨S', rfl, o1, ?_⟩
    unfold ps_take
    rw [if_neg hki]
    exact b1
end Mt
