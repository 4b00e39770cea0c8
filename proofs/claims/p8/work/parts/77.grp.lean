/-! part 77 -/
section
/-! The reference's tokens, one by one. -/
theorem lx_inv {x : Int32} (h : ¬lx_cv x = 0) : x = 1 ∨ x = 2 ∨ x = 3 ∨ x = 4 ∨ x = 6 ∨ x = 7 ∨ x = 8 ∨ x = 9 ∨ x = 10 ∨ x = 11 ∨ x = 12 ∨ x = 13 ∨ x = 14 ∨ x = 15 ∨ x = 16 ∨ x = 17 ∨ x = 18 ∨ x = 20 := by
  unfold lx_cv at h
  by_cases h1 : x = 1
  · exact Or.inl h1
  rw [if_neg h1] at h
  by_cases h2 : x = 2
  · exact Or.inr (Or.inl h2)
  rw [if_neg h2] at h
  by_cases h3 : x = 3
  · exact Or.inr (Or.inr (Or.inl h3))
  rw [if_neg h3] at h
  by_cases h4 : x = 4
  · exact Or.inr (Or.inr (Or.inr (Or.inl h4)))
  rw [if_neg h4] at h
  by_cases h6 : x = 6
  · exact Or.inr (Or.inr (Or.inr (Or.inr (Or.inl h6))))
  rw [if_neg h6] at h
  by_cases h7 : x = 7
  · exact Or.inr (Or.inr (Or.inr (Or.inr (Or.inr (Or.inl h7)))))
  rw [if_neg h7] at h
  by_cases h8 : x = 8
  · exact Or.inr (Or.inr (Or.inr (Or.inr (Or.inr (Or.inr (Or.inl h8))))))
  rw [if_neg h8] at h
  by_cases h9 : x = 9
  · exact Or.inr (Or.inr (Or.inr (Or.inr (Or.inr (Or.inr (Or.inr (Or.inl h9)))))))
  rw [if_neg h9] at h
  by_cases h10 : x = 10
  · exact Or.inr (Or.inr (Or.inr (Or.inr (Or.inr (Or.inr (Or.inr (Or.inr (Or.inl h10))))))))
  rw [if_neg h10] at h
  by_cases h11 : x = 11
  · exact Or.inr (Or.inr (Or.inr (Or.inr (Or.inr (Or.inr (Or.inr (Or.inr (Or.inr (Or.inl h11)))))))))
  rw [if_neg h11] at h
  by_cases h12 : x = 12
  · exact Or.inr (Or.inr (Or.inr (Or.inr (Or.inr (Or.inr (Or.inr (Or.inr (Or.inr (Or.inr (Or.inl h12))))))))))
  rw [if_neg h12] at h
  by_cases h13 : x = 13
  · exact Or.inr (Or.inr (Or.inr (Or.inr (Or.inr (Or.inr (Or.inr (Or.inr (Or.inr (Or.inr (Or.inr (Or.inl h13)))))))))))
  rw [if_neg h13] at h
  by_cases h14 : x = 14
  · exact Or.inr (Or.inr (Or.inr (Or.inr (Or.inr (Or.inr (Or.inr (Or.inr (Or.inr (Or.inr (Or.inr (Or.inr (Or.inl h14))))))))))))
  rw [if_neg h14] at h
  by_cases h15 : x = 15
  · exact Or.inr (Or.inr (Or.inr (Or.inr (Or.inr (Or.inr (Or.inr (Or.inr (Or.inr (Or.inr (Or.inr (Or.inr (Or.inr (Or.inl h15)))))))))))))
  rw [if_neg h15] at h
  by_cases h16 : x = 16
  · exact Or.inr (Or.inr (Or.inr (Or.inr (Or.inr (Or.inr (Or.inr (Or.inr (Or.inr (Or.inr (Or.inr (Or.inr (Or.inr (Or.inr (Or.inl h16))))))))))))))
  rw [if_neg h16] at h
  by_cases h17 : x = 17
  · exact Or.inr (Or.inr (Or.inr (Or.inr (Or.inr (Or.inr (Or.inr (Or.inr (Or.inr (Or.inr (Or.inr (Or.inr (Or.inr (Or.inr (Or.inr (Or.inl h17)))))))))))))))
  rw [if_neg h17] at h
  by_cases h18 : x = 18
  · exact Or.inr (Or.inr (Or.inr (Or.inr (Or.inr (Or.inr (Or.inr (Or.inr (Or.inr (Or.inr (Or.inr (Or.inr (Or.inr (Or.inr (Or.inr (Or.inr (Or.inl h18))))))))))))))))
  rw [if_neg h18] at h
  by_cases h20 : x = 20
  · exact Or.inr (Or.inr (Or.inr (Or.inr (Or.inr (Or.inr (Or.inr (Or.inr (Or.inr (Or.inr (Or.inr (Or.inr (Or.inr (Or.inr (Or.inr (Or.inr (Or.inr (h20)))))))))))))))))
  rw [if_neg h20] at h
  exact absurd rfl h
theorem lx_ij {x y : Int32} (hy : ¬lx_cv y = 0) (h : lx_cv x = lx_cv y) : x = y := by
  have hx : ¬lx_cv x = 0 := by rw [h]; exact hy
  rcases lx_inv hx with rfl | rfl | rfl | rfl | rfl | rfl | rfl | rfl | rfl | rfl | rfl | rfl | rfl | rfl | rfl | rfl | rfl | rfl <;> rcases lx_inv hy with rfl | rfl | rfl | rfl | rfl | rfl | rfl | rfl | rfl | rfl | rfl | rfl | rfl | rfl | rfl | rfl | rfl | rfl <;> first | rfl | exact absurd h (by decide)
/-- the reference is at token i -/
def mt_g (T : Nat → Int32) (n i : Nat) (S : wd_S) : Prop := S.1 136 = T ∧ S.1 135 2 = Int32.ofNat n ∧ S.1 135 9 = 0 ∧ S.1 135 10 = -1 ∧ i ≤ 1500 ∧ ¬tk_K T n i = 19 ∧ S.1 135 4 = lx_cv (tk_K T n i) ∧ S.1 135 5 = Int32.ofNat (tk_p T n i) ∧ (¬tk_K T n i = 20 → S.1 135 6 = Int32.ofNat (i + 1)) ∧ (∃ q, q ≤ n ∧ S.1 135 3 = Int32.ofNat q ∧ (tk_p T n i < n → tk_n T n q = tk_p T n (i + 1))) ∧ (tk_K T n i = 2 → S.2.1 135 7 = tk_V T n i) ∧ (tk_K T n i = 1 → S.1 135 8 = (tk_V T n i).toInt32)
/-- it has a fault -/
def mt_e (T : Nat → Int32) (n : Nat) (e : ps_E) (S : wd_S) : Prop := ¬e.1 = 0 ∧ S.1 135 9 = e.1 ∧ S.1 135 10 = Int32.ofNat (tk_p T n e.2)
section Mt
variable {T : Nat → Int32} {n i : Nat} {S S' : wd_S} {k : Int32} {e : ps_E}
theorem mt_g_o (h : mt_g T n i S) (h1 : ∀ a, a = 136 → S'.1 a = S.1 a) (h2 : ∀ k, k = 2 ∨ (3 ≤ k ∧ k ≤ 10) → S'.1 135 k = S.1 135 k) (h3 : S'.2.1 135 7 = S.2.1 135 7) : mt_g T n i S' := by
  obtain ⟨a1, a2, a3, a4, a5, a6, a7, a8, a9, ⟨q, q1, q2, q3⟩, a11, a12⟩ := h
  refine ⟨?_, ?_, ?_, ?_, a5, a6, ?_, ?_, fun z => ?_, ⟨q, q1, ?_, q3⟩, fun z => ?_, fun z => ?_⟩
  · rw [h1 136 rfl]; exact a1
  · rw [h2 2 (by omega)]; exact a2
  · rw [h2 9 (by omega)]; exact a3
  · rw [h2 10 (by omega)]; exact a4
  · rw [h2 4 (by omega)]; exact a7
  · rw [h2 5 (by omega)]; exact a8
  · rw [h2 6 (by omega)]; exact a9 z
  · rw [h2 3 (by omega)]; exact q2
  · rw [h3]; exact a11 z
  · rw [h2 8 (by omega)]; exact a12 z
theorem mt_stop {x : Int32} (hx : ¬x = 0) (h : mt_g T n i S) : ∃ S', fn_Mo_stop x (S.1 135 5) S = some S' ∧ of_f nx_W S S' ∧ mt_e T n (x, i) S' := by
  rw [mo_stop, if_pos h.2.2.1]
  refine ⟨_, rfl, of_i (by unfold nx_W; omega) (of_i (by unfold nx_W; omega) of_refl), hx, ?_, ?_⟩
  · rw [fr_ne (by omega), fr_eq]
  · rw [fr_eq]; exact h.2.2.2.2.2.2.2.1
theorem mt_pass_e (h : ¬S.1 135 9 = 0) : fn_Mo_pass S = some S := by
  unfold fn_Mo_pass fn_Mo_pass_27 fn_Mo_pass_38
  rw [if_neg h, if_neg h]
theorem mt_want_e (h : ¬S.1 135 9 = 0) : fn_Mo_want k S = some S := by
  unfold fn_Mo_want fn_Mo_want_24
  rw [if_neg h, mt_pass_e h, wd_d_s]
def mt_R (T : Nat → Int32) (n : Nat) (r : Except ps_E Nat) (S : wd_S) : Prop := match r with
  | .error e => mt_e T n e S
  | .ok j => mt_g T n j S
theorem mt_pass (h8 : n ≤ 8000) (h : mt_g T n i S) (hk : ¬tk_K T n i = 20) : ∃ S', fn_Mo_pass S = some S' ∧ of_f nx_W S S' ∧ mt_R T n (ps_take (tk_K T n) (tk_K T n i) i) S' := by
  have h0 := h
  obtain ⟨a1, a2, a3, a4, a5, a6, a7, a8, a9, ⟨q, q1, q2, q3⟩, a11, a12⟩ := h
  have hp : tk_p T n i < n := by
    unfold tk_K at hk
    split at hk
    · next z => exact z
    · exact absurd rfl hk
  unfold fn_Mo_pass fn_Mo_pass_27 fn_Mo_pass_38 ps_take
  rw [if_pos a3, if_pos rfl, a9 hk]
  by_cases hi : i < 1500
  · rw [if_neg (fun z => by have := (im_lt (m := 1500) (n := i + 1) (by omega) (by omega)).mp z; omega), if_pos a3, if_pos hi]
    obtain ⟨S', e1, o1, b1, b2, b3⟩ := nx_next (S := S) a2 q2 q1 h8 a3
    rw [a1, q3 hp] at b1 b2 b3
    rw [e1, wd_d_s]
    refine ⟨S', rfl, o1, ?_⟩
    have c1 : S'.1 136 = T := by
      funext m
      rw [o1.1 136 m (by unfold nx_W; omega), a1]
    have c2 : S'.1 135 2 = Int32.ofNat n := by rw [o1.1 135 2 (by unfold nx_W; omega)]; exact a2
    have hple := tk_p_le T n (i + 1)
    rcases Nat.lt_or_ge (tk_p T n (i + 1)) n with hlt | hge
    · obtain ⟨d1, d2, d3, d4, d5, d6, d7⟩ := b3 hlt
      have eK : tk_K T n (i + 1) = tk_k T n (tk_p T n (i + 1)) := if_pos hlt
      by_cases h19 : tk_K T n (i + 1) = 19
      · rw [if_pos h19]
        rw [eK] at h19
        exact ⟨(show ¬(1 : Int32) = 0 by decide), (d6 h19).1, (d6 h19).2⟩
      · rw [if_neg h19]
        rw [eK] at h19
        refine ⟨c1, c2, (d7 h19).1, (d7 h19).2.trans a4, by omega, by rw [eK]; exact h19, by rw [eK]; exact d1, b1, fun _ => ?_, ⟨_, (tk_z_ok hlt).2, d2, fun _ => (tk_p_s hlt).symm⟩, fun z => ?_, fun z => ?_⟩
        · rw [d3, a9 hk, im_s]
        · rw [eK] at z; exact d4 z
        · rw [eK] at z; exact d5 z
    · have he : tk_p T n (i + 1) = n := by omega
      obtain ⟨d1, d2, d3, d4, d5⟩ := b2 he
      have eK : tk_K T n (i + 1) = 20 := if_neg (by omega)
      rw [eK, if_neg (by decide)]
      refine ⟨c1, c2, d4, d5.trans a4, by omega, by rw [eK]; decide, by rw [eK]; exact d1, b1, fun z => absurd eK z, ⟨n, Nat.le_refl _, d2, fun z => by omega⟩, fun z => ?_, fun z => ?_⟩
      · rw [eK] at z; exact absurd z (by decide)
      · rw [eK] at z; exact absurd z (by decide)
  · rw [if_pos (show (1500 : Int32) < Int32.ofNat (i + 1) from (im_lt (m := 1500) (n := i + 1) (by omega) (by omega)).mpr (by omega)), if_neg hi]
    obtain ⟨S', e1, o1, b1⟩ := mt_stop (x := 6) (by decide) h0
    rw [e1, wd_d_s, if_neg (by rw [b1.2.1]; exact (show ¬(6 : Int32) = 0 by decide))]
    exact ⟨S', rfl, o1, b1⟩
theorem mt_want (h8 : n ≤ 8000) (h : mt_g T n i S) (hk : ¬lx_cv k = 0) (hk20 : ¬k = 20) : ∃ S', fn_Mo_want (lx_cv k) S = some S' ∧ of_f nx_W S S' ∧ mt_R T n (ps_take (tk_K T n) k i) S' := by
  unfold fn_Mo_want fn_Mo_want_24
  rw [if_pos h.2.2.1, h.2.2.2.2.2.2.1]
  by_cases hki : tk_K T n i = k
  · rw [if_pos (by rw [hki])]
    obtain ⟨S', e1, o1, b1⟩ := mt_pass h8 h (by rw [hki]; exact hk20)
    rw [e1, wd_d_s]
    rw [hki] at b1
    exact ⟨S', rfl, o1, b1⟩
  · rw [if_neg (fun z => hki (lx_ij hk z))]
    obtain ⟨S', e1, o1, b1⟩ := mt_stop (x := 2) (by decide) h
    rw [e1, wd_d_s, mt_pass_e (by rw [b1.2.1]; exact (show ¬(2 : Int32) = 0 by decide)), wd_d_s]
    refine ⟨S', rfl, o1, ?_⟩
    unfold ps_take
    rw [if_neg hki]
    exact b1
end Mt
end
/-! part 78 -/
section
/-! The reference's stacks: tasks, what was made, nodes. -/
section Ms
variable {S S' : wd_S} {t k c : Nat} {x y : Int32}
theorem ms_in {m L : Nat} (h : m < L) (hL : L < 2147483648) : ¬(Int32.ofNat m < 0 ∨ L ≤ (Int32.ofNat m).toNatClampNeg) := by
  rw [im_t (by omega)]
  rintro (q | q)
  · exact im_neg (by omega) q
  · omega
def ms_p (t : Nat) (x y : Int32) (S : wd_S) : wd_S := wd_i (wd_i (wd_i S 152 t x) 153 t y) 135 35 (Int32.ofNat (t + 1))
theorem ms_push (h : S.1 135 35 = Int32.ofNat t) (ht : t < 4000) : fn_Mo_push x y S = some (ms_p t x y S) := by
  unfold fn_Mo_push fn_Mo_push_40 ms_p
  simp only [wd_b]
  have e1 : (wd_i S 152 t x).1 135 35 = Int32.ofNat t := by rw [fr_ne (by omega)]; exact h
  have e2 : (wd_i (wd_i S 152 t x) 153 t y).1 135 35 = Int32.ofNat t := by rw [fr_ne (by omega)]; exact e1
  rw [h, if_pos ((mo_lt (m := 4000) (b := 4000) (by omega) (by omega) rfl).mpr ht), if_neg (ms_in ht (by decide)), im_t (by omega), e1, if_neg (ms_in ht (by decide)), im_t (by omega), e2, im_s]
def ms_k (k : Nat) (x : Int32) (S : wd_S) : wd_S := wd_i (wd_i S 155 k x) 135 37 (Int32.ofNat (k + 1))
theorem ms_keep (h : S.1 135 37 = Int32.ofNat k) (hk : k < 1600) : fn_Mo_keep x S = some (ms_k k x S) := by
  unfold fn_Mo_keep fn_Mo_keep_30 ms_k
  simp only [wd_b]
  have e1 : (wd_i S 155 k x).1 135 37 = Int32.ofNat k := by rw [fr_ne (by omega)]; exact h
  rw [h, if_pos ((mo_lt (m := 1600) (b := 1600) (by omega) (by omega) rfl).mpr hk), if_neg (ms_in hk (by decide)), im_t (by omega), e1, im_s]
theorem ms_last (h : S.1 135 37 = Int32.ofNat (k + 1)) (hk : k < 1600) : fn_Mo_last S = some (S.1 155 k, wd_i S 135 37 (Int32.ofNat k)) := by
  unfold fn_Mo_last fn_Mo_last_17
  simp only [wd_b]
  rw [h, if_pos (show (0 : Int32) < Int32.ofNat (k + 1) from (im_lt (m := 0) (n := k + 1) (by omega) (by omega)).mpr (by omega)), show Int32.ofNat (k + 1) - (1 : Int32) = Int32.ofNat k from im_p k, fr_eq, if_neg (ms_in hk (by decide)), im_t (by omega), fr_ne (by omega)]
def ms_n (c : Nat) (x y : Int32) (S : wd_S) : wd_S := wd_i (wd_i (wd_i S 135 27 (Int32.ofNat (c + 1))) 143 c x) 147 c y
theorem ms_node (h : S.1 135 27 = Int32.ofNat c) (hc : c < 3003) : fn_Mo_node x y S = some (Int32.ofNat c, ms_n c x y S) := by
  unfold fn_Mo_node fn_Mo_node_20 ms_n
  simp only [wd_b]
  rw [h, if_pos ((mo_lt (m := 3003) (b := 3003) (by omega) (by omega) rfl).mpr hc), if_neg (ms_in (show c < 15010 by omega) (by decide)), if_neg (ms_in (show c < 15010 by omega) (by decide)), im_s, im_t (by omega)]
end Ms
/-- what the reading of an E may write, with t tasks, k made, u waiting, c nodes, l arguments laid, name m of function f -/
def mp_W (f m t k u c l H a b : Nat) : Prop := (a = 135 ∧ ((3 ≤ b ∧ b ≤ 10) ∨ b = 27 ∨ b = 28 ∨ b = 30 ∨ b = 35 ∨ b = 37 ∨ b = 38)) ∨ (a = 139 ∧ b = f) ∨ (a = 142 ∧ 16 * f + m ≤ b ∧ b < 16 * f + 16) ∨ (143 ≤ a ∧ a ≤ 148 ∧ c ≤ b ∧ b < H) ∨ (a = 149 ∧ l ≤ b ∧ b < H) ∨ (a = 151 ∧ u ≤ b) ∨ (a = 152 ∧ t ≤ b) ∨ (a = 153 ∧ t ≤ b) ∨ (a = 155 ∧ k ≤ b)
theorem mp_le {H f m t k u c l m' t' k' u' c' l' : Nat} (h1 : m ≤ m') (h2 : t ≤ t') (h3 : k ≤ k') (h4 : u ≤ u') (h5 : c ≤ c') (h6 : l ≤ l') : ∀ a b, mp_W f m' t' k' u' c' l' H a b → mp_W f m t k u c l H a b := by
  intro a b h
  rcases h with h | h | h | h | h | h | h | h | h
  · exact Or.inl h
  · exact Or.inr (Or.inl h)
  · exact Or.inr (Or.inr (Or.inl ⟨h.1, by omega, by omega⟩))
  · exact Or.inr (Or.inr (Or.inr (Or.inl ⟨h.1, h.2.1, by omega, by omega⟩)))
  · exact Or.inr (Or.inr (Or.inr (Or.inr (Or.inl ⟨h.1, by omega, by omega⟩))))
  · exact Or.inr (Or.inr (Or.inr (Or.inr (Or.inr (Or.inl ⟨h.1, by omega⟩)))))
  · exact Or.inr (Or.inr (Or.inr (Or.inr (Or.inr (Or.inr (Or.inl ⟨h.1, by omega⟩))))))
  · exact Or.inr (Or.inr (Or.inr (Or.inr (Or.inr (Or.inr (Or.inr (Or.inl ⟨h.1, by omega⟩)))))))
  · exact Or.inr (Or.inr (Or.inr (Or.inr (Or.inr (Or.inr (Or.inr (Or.inr ⟨h.1, by omega⟩)))))))
/-- a node of a tree as it stands in the reference once it is read; R for its parts, which lie one behind the other -/
def mr_b (T : Nat → Int32) (n f : Nat) (S : wd_S) (lo hi al ah nl nh : Nat) (R : Nat → Nat → Nat → tr_T → Prop) (y : Nat) (t : tr_T) : Prop := (tr_k t = 1 ∧ tr_a t = 0 ∧ S.1 143 y = 5 ∧ S.1 144 y = tr_v t) ∨ (tr_k t = 2 ∧ tr_a t = 0 ∧ S.1 143 y = 7 ∧ S.2.1 148 y = tk_V T n (tr_o t) ∧ S.1 147 y = Int32.ofNat (tk_p T n (tr_o t))) ∨ (tr_k t = 3 ∧ tr_a t = 2 ∧ S.1 143 y = 3 ∧ S.1 146 y = tr_v t ∧ (∃ s, tr_v t = Int32.ofNat s ∧ nl ≤ s ∧ s < nh ∧ S.2.1 142 (16 * f + s) = tk_V T n (tr_o t)) ∧ ∃ z0 z1 a0 b0 b1, S.1 144 y = Int32.ofNat z0 ∧ S.1 145 y = Int32.ofNat z1 ∧ y < a0 ∧ R a0 b0 z0 (tr_sub t 0) ∧ R b0 b1 z1 (tr_sub t 1) ∧ b1 ≤ hi) ∨ (tr_k t = 4 ∧ tr_a t = 3 ∧ S.1 143 y = 2 ∧ ∃ z0 z1 z2 a0 b0 b1 b2, S.1 144 y = Int32.ofNat z0 ∧ S.1 145 y = Int32.ofNat z1 ∧ S.1 146 y = Int32.ofNat z2 ∧ y < a0 ∧ R a0 b0 z0 (tr_sub t 0) ∧ R b0 b1 z1 (tr_sub t 1) ∧ R b1 b2 z2 (tr_sub t 2) ∧ b2 ≤ hi) ∨ (tr_k t = 5 ∧ S.1 143 y = 8 ∧ S.2.1 148 y = tk_V T n (tr_o t) ∧ S.1 147 y = Int32.ofNat (tk_p T n (tr_o t)) ∧ tr_v t = Int32.ofNat (tr_o t) ∧ S.1 145 y = Int32.ofNat (tr_a t) ∧ ∃ g, ∃ rg : Nat → Nat, S.1 144 y = Int32.ofNat g ∧ al ≤ g ∧ g + tr_a t ≤ ah ∧ y < rg 0 ∧ rg (tr_a t) ≤ hi ∧ ∀ j, j < tr_a t → ∃ z, S.1 149 (g + j) = Int32.ofNat z ∧ R (rg j) (rg (j + 1)) z (tr_sub t j)) ∨ ((tr_k t = 6 ∨ tr_k t = 7 ∨ tr_k t = 8 ∨ tr_k t = 9 ∨ tr_k t = 10) ∧ tr_a t = 2 ∧ S.1 143 y = 1 ∧ S.1 146 y = lx_cv (tr_k t) ∧ ∃ z0 z1 a0 b0 b1, S.1 144 y = Int32.ofNat z0 ∧ S.1 145 y = Int32.ofNat z1 ∧ lo ≤ a0 ∧ R a0 b0 z0 (tr_sub t 0) ∧ R b0 b1 z1 (tr_sub t 1) ∧ b1 ≤ y)
/-- boundaries that grow -/
theorem mr_mono {rg : Nat → Nat} {a : Nat} (h : ∀ j, j < a → rg j < rg (j + 1)) : ∀ j, j ≤ a → rg 0 ≤ rg j ∧ rg j ≤ rg a := by
  have h1 : ∀ j, j ≤ a → rg 0 ≤ rg j := by
    intro j
    induction j with
    | zero => intro _; exact Nat.le_refl _
    | succ j ih => intro hj; have := ih (by omega); have := h j (by omega); omega
  have h2 : ∀ q j, j + q = a → rg j ≤ rg a := by
    intro q
    induction q with
    | zero => intro j hj; rw [show j = a by omega]; exact Nat.le_refl _
    | succ q ih => intro j hj; have := ih (j + 1) (by omega); have := h j (by omega); omega
  exact fun j hj => ⟨h1 j hj, h2 (a - j) j (by omega)⟩
theorem mr_b_m {T : Nat → Int32} {n f lo hi lo' hi' al ah al' ah' nl nh nl' nh' y : Nat} {S S' : wd_S} {R R' : Nat → Nat → Nat → tr_T → Prop} {t : tr_T} (hRb : ∀ a b z t, R a b z t → a ≤ z ∧ z < b) (hR : ∀ a b z t, lo ≤ a → b ≤ hi → R a b z t → R' a b z t) (hlo : lo' ≤ lo) (hhi : hi ≤ hi') (hy1 : lo ≤ y) (hy2 : y < hi) (ha : al' ≤ al) (hh : ah ≤ ah') (hl : nl' ≤ nl) (hm : nh ≤ nh') (h1 : S'.1 143 y = S.1 143 y ∧ S'.1 144 y = S.1 144 y ∧ S'.1 145 y = S.1 145 y ∧ S'.1 146 y = S.1 146 y ∧ S'.1 147 y = S.1 147 y ∧ S'.2.1 148 y = S.2.1 148 y) (h2 : ∀ x, al ≤ x → x < ah → S'.1 149 x = S.1 149 x) (h4 : ∀ x, nl ≤ x → x < nh → S'.2.1 142 (16 * f + x) = S.2.1 142 (16 * f + x)) (h : mr_b T n f S lo hi al ah nl nh R y t) : mr_b T n f S' lo' hi' al' ah' nl' nh' R' y t := by
  obtain ⟨a1, a2, a3, a4, a5, a6⟩ := h1
  unfold mr_b at h ⊢
  rw [a1, a2, a3, a4, a5, a6]
  rcases h with h3 | h3 | h3 | h3 | h3 | h3
  · exact Or.inl h3
  · exact Or.inr (Or.inl h3)
  · obtain ⟨b1, b2, b3, b4, ⟨s, s1, s2, s3, s4⟩, z0, z1, p0, p1, p2, c1, c2, c3, c4, c5, c6⟩ := h3
    have w1 := hRb _ _ _ _ c4
    have w2 := hRb _ _ _ _ c5
    exact Or.inr (Or.inr (Or.inl ⟨b1, b2, b3, b4, ⟨s, s1, by omega, by omega, (h4 s s2 s3).trans s4⟩, z0, z1, p0, p1, p2, c1, c2, c3, hR _ _ _ _ (by omega) (by omega) c4, hR _ _ _ _ (by omega) (by omega) c5, by omega⟩))
  · obtain ⟨b1, b2, b3, z0, z1, z2, p0, p1, p2, p3, c1, c2, c3, c4, c5, c6, c7, c8⟩ := h3
    have w1 := hRb _ _ _ _ c5
    have w2 := hRb _ _ _ _ c6
    have w3 := hRb _ _ _ _ c7
    exact Or.inr (Or.inr (Or.inr (Or.inl ⟨b1, b2, b3, z0, z1, z2, p0, p1, p2, p3, c1, c2, c3, c4, hR _ _ _ _ (by omega) (by omega) c5, hR _ _ _ _ (by omega) (by omega) c6, hR _ _ _ _ (by omega) (by omega) c7, by omega⟩)))
  · obtain ⟨b1, b2, b3, b4, b5, b6, g, rg, c1, c2, c3, c4, c5, c6⟩ := h3
    have hmono : ∀ j, j < tr_a t → rg j < rg (j + 1) := fun j hj => by
      obtain ⟨z, -, d2⟩ := c6 j hj
      have := hRb _ _ _ _ d2
      omega
    have hmm := mr_mono hmono
    refine Or.inr (Or.inr (Or.inr (Or.inr (Or.inl ⟨b1, b2, b3, b4, b5, b6, g, rg, c1, by omega, by omega, c4, by omega, fun j hj => ?_⟩))))
    obtain ⟨z, d1, d2⟩ := c6 j hj
    have w1 := hmm j (by omega)
    have w2 := hmm (j + 1) (by omega)
    exact ⟨z, (h2 (g + j) (by omega) (by omega)).trans d1, hR _ _ _ _ (by omega) (by omega) d2⟩
  · obtain ⟨b1, b2, b3, b4, z0, z1, p0, p1, p2, c1, c2, c3, c4, c5, c6⟩ := h3
    have w1 := hRb _ _ _ _ c4
    have w2 := hRb _ _ _ _ c5
    exact Or.inr (Or.inr (Or.inr (Or.inr (Or.inr ⟨b1, b2, b3, b4, z0, z1, p0, p1, p2, c1, c2, by omega, hR _ _ _ _ (by omega) (by omega) c4, hR _ _ _ _ (by omega) (by omega) c5, c6⟩))))
def mr_u (T : Nat → Int32) (n f : Nat) (S : wd_S) (al ah nl nh : Nat) : Nat → Nat → Nat → Nat → tr_T → Prop
  | 0 => fun _ _ _ _ => False
  | d + 1 => fun lo hi y t => lo ≤ y ∧ y < hi ∧ mr_b T n f S lo hi al ah nl nh (mr_u T n f S al ah nl nh d) y t
/-- a tree as it stands in the reference once it is read: its nodes, arguments and names' places -/
def mr_t (T : Nat → Int32) (n f : Nat) (S : wd_S) (lo hi al ah nl nh : Nat) : Nat → Nat → tr_T → Prop := fun d y t => mr_u T n f S al ah nl nh d lo hi y t
theorem mr_u_b {T : Nat → Int32} {n f lo hi al ah nl nh d y : Nat} {S : wd_S} {t : tr_T} (h : mr_u T n f S al ah nl nh d lo hi y t) : lo ≤ y ∧ y < hi := by
  cases d with
  | zero => exact absurd h id
  | succ d => exact ⟨h.1, h.2.1⟩
/-- the same nodes, arguments and names -/
def mr_g (f lo hi al ah nl nh : Nat) (S S' : wd_S) : Prop := (∀ x, lo ≤ x → x < hi → S'.1 143 x = S.1 143 x ∧ S'.1 144 x = S.1 144 x ∧ S'.1 145 x = S.1 145 x ∧ S'.1 146 x = S.1 146 x ∧ S'.1 147 x = S.1 147 x ∧ S'.2.1 148 x = S.2.1 148 x) ∧ (∀ x, al ≤ x → x < ah → S'.1 149 x = S.1 149 x) ∧ ∀ x, nl ≤ x → x < nh → S'.2.1 142 (16 * f + x) = S.2.1 142 (16 * f + x)
theorem mr_u_m {T : Nat → Int32} {n f al ah nl nh al' ah' nl' nh' : Nat} {S S' : wd_S} (h3 : al' ≤ al) (h4 : ah ≤ ah') (h5 : nl' ≤ nl) (h6 : nh ≤ nh') : ∀ (d lo hi lo' hi' y : Nat) (t : tr_T), lo' ≤ lo → hi ≤ hi' → mr_g f lo hi al ah nl nh S S' → mr_u T n f S al ah nl nh d lo hi y t → mr_u T n f S' al' ah' nl' nh' d lo' hi' y t := by
  intro d
  induction d with
  | zero => intro lo hi lo' hi' y t _ _ _ h; exact h
  | succ d ih =>
    intro lo hi lo' hi' y t h1 h2 h ht
    obtain ⟨k1, k2, k3⟩ := ht
    refine ⟨by omega, by omega, mr_b_m (fun a b z t hz => mr_u_b hz) (fun a b z t ha hb hz => ih a b a b z t (Nat.le_refl _) (Nat.le_refl _) ⟨fun x x1 x2 => h.1 x (by omega) (by omega), h.2⟩ hz) h1 h2 k1 k2 h3 h4 h5 h6 (h.1 y k1 k2) h.2.1 h.2.2 k3⟩
theorem mr_t_m {T : Nat → Int32} {n f lo hi al ah nl nh lo' hi' al' ah' nl' nh' : Nat} {S S' : wd_S} (h1 : lo' ≤ lo) (h2 : hi ≤ hi') (h3 : al' ≤ al) (h4 : ah ≤ ah') (h5 : nl' ≤ nl) (h6 : nh ≤ nh') (h : mr_g f lo hi al ah nl nh S S') (d y : Nat) (t : tr_T) (ht : mr_t T n f S lo hi al ah nl nh d y t) : mr_t T n f S' lo' hi' al' ah' nl' nh' d y t := mr_u_m h3 h4 h5 h6 d lo hi lo' hi' y t h1 h2 h ht
theorem mr_u_s {T : Nat → Int32} {n f al ah nl nh : Nat} {S : wd_S} : ∀ (d lo hi y : Nat) (t : tr_T), mr_u T n f S al ah nl nh d lo hi y t → mr_u T n f S al ah nl nh (d + 1) lo hi y t := by
  intro d
  induction d with
  | zero => intro lo hi y t h; exact absurd h id
  | succ d ih =>
    intro lo hi y t ht
    obtain ⟨k1, k2, k3⟩ := ht
    exact ⟨k1, k2, mr_b_m (fun a b z t hz => mr_u_b hz) (fun a b z t _ _ hz => ih a b z t hz) (Nat.le_refl _) (Nat.le_refl _) k1 k2 (Nat.le_refl _) (Nat.le_refl _) (Nat.le_refl _) (Nat.le_refl _) ⟨rfl, rfl, rfl, rfl, rfl, rfl⟩ (fun _ _ _ => rfl) (fun _ _ _ => rfl) k3⟩
theorem mr_t_s {T : Nat → Int32} {n f lo hi al ah nl nh : Nat} {S : wd_S} (d y : Nat) (t : tr_T) (h : mr_t T n f S lo hi al ah nl nh d y t) : mr_t T n f S lo hi al ah nl nh (d + 1) y t := mr_u_s d lo hi y t h
theorem mr_t_le {T : Nat → Int32} {n f lo hi al ah nl nh d e y : Nat} {S : wd_S} {t : tr_T} (h : mr_t T n f S lo hi al ah nl nh d y t) (hde : d ≤ e) : mr_t T n f S lo hi al ah nl nh e y t := by
  induction hde with
  | refl => exact h
  | step _ ih => exact mr_t_s _ _ _ ih
theorem mr_t_b {T : Nat → Int32} {n f lo hi al ah nl nh d y : Nat} {S : wd_S} {t : tr_T} (h : mr_t T n f S lo hi al ah nl nh d y t) : lo ≤ y ∧ y < hi := mr_u_b h
/-- what lies below what an E may write -/
theorem mr_g_W {H f m t k u c l lo hi al ah nl nh : Nat} {S S' : wd_S} (h : of_f (mp_W f m t k u c l H) S S') (h1 : hi ≤ c) (h2 : ah ≤ l) (h3 : nh ≤ m) : mr_g f lo hi al ah nl nh S S' := by
  have hn : ∀ a x, 143 ≤ a → a ≤ 148 → x < c → ¬mp_W f m t k u c l H a x := fun a x y1 y2 y3 => by
    rintro (z | z | z | z | z | z | z | z | z) <;> omega
  refine ⟨fun x _ hx => ⟨h.1 _ _ (hn 143 x (by omega) (by omega) (by omega)), h.1 _ _ (hn 144 x (by omega) (by omega) (by omega)), h.1 _ _ (hn 145 x (by omega) (by omega) (by omega)), h.1 _ _ (hn 146 x (by omega) (by omega) (by omega)), h.1 _ _ (hn 147 x (by omega) (by omega) (by omega)), h.2.1 _ _ (hn 148 x (by omega) (by omega) (by omega))⟩, fun x _ hx => h.1 _ _ ?_, fun x _ hx => h.2.1 _ _ ?_⟩
  · rintro (z | z | z | z | z | z | z | z | z) <;> omega
  · rintro (z | z | z | z | z | z | z | z | z) <;> omega
end
/-! part 79 -/
section
/-! The reference's loop over its tasks: one task at a time. -/
def mh_g (T : Nat → Int32) (n f m t k u c l w i : Nat) (S : wd_S) : Prop := mt_g T n i S ∧ S.1 135 31 = Int32.ofNat f ∧ f < 96 ∧ S.1 139 f = Int32.ofNat m ∧ m ≤ 16 ∧ S.1 135 35 = Int32.ofNat t ∧ S.1 135 37 = Int32.ofNat k ∧ S.1 135 30 = Int32.ofNat u ∧ S.1 135 27 = Int32.ofNat c ∧ S.1 135 28 = Int32.ofNat l ∧ S.1 135 38 = Int32.ofNat w
section Mh
variable {T : Nat → Int32} {H n f m t k u c l w i t' k' u' c' l' w' : Nat} {S S' S1 : wd_S} {x y : Int32} {e : ps_E}
theorem mh_u (h : mh_g T n f m t k u c l w i S) (h1 : S'.1 136 = S.1 136) (h2 : ∀ k, k = 2 ∨ (3 ≤ k ∧ k ≤ 10) ∨ k = 31 → S'.1 135 k = S.1 135 k) (h3 : S'.2.1 135 7 = S.2.1 135 7) (h4 : S'.1 139 f = S.1 139 f) (e35 : S'.1 135 35 = Int32.ofNat t') (e37 : S'.1 135 37 = Int32.ofNat k') (e30 : S'.1 135 30 = Int32.ofNat u') (e27 : S'.1 135 27 = Int32.ofNat c') (e28 : S'.1 135 28 = Int32.ofNat l') (e38 : S'.1 135 38 = Int32.ofNat w') : mh_g T n f m t' k' u' c' l' w' i S' := by
  obtain ⟨a1, a2, a3, a4, a5, -⟩ := h
  refine ⟨mt_g_o a1 (fun a ha => by rw [ha]; exact h1) (fun k hk => h2 k (by omega)) h3, ?_, a3, ?_, a5, e35, e37, e30, e27, e28, e38⟩
  · rw [h2 31 (by omega)]; exact a2
  · rw [h4]; exact a4
/-- nothing but W is written, and that lies elsewhere -/
theorem mh_w {W : Nat → Nat → Prop} (ho : of_f W S S') (hw : ∀ a b, W a b → ¬(a = 136 ∨ a = 139 ∨ (a = 135 ∧ b ≤ 40))) (h : mh_g T n f m t k u c l w i S) : mh_g T n f m t k u c l w i S' := by
  have h5 : ∀ b, b ≤ 40 → S'.1 135 b = S.1 135 b := fun b hb => ho.1 _ _ (fun z => hw _ _ z (Or.inr (Or.inr ⟨rfl, hb⟩)))
  refine mh_u h (funext (fun b => ho.1 _ _ (fun z => hw _ _ z (Or.inl rfl)))) (fun k hk => h5 k (by omega)) (ho.2.1 _ _ (fun z => hw _ _ z (Or.inr (Or.inr ⟨rfl, by decide⟩)))) (ho.1 _ _ (fun z => hw _ _ z (Or.inr (Or.inl rfl)))) ?_ ?_ ?_ ?_ ?_ ?_
  · rw [h5 35 (by decide)]; exact h.2.2.2.2.2.1
  · rw [h5 37 (by decide)]; exact h.2.2.2.2.2.2.1
  · rw [h5 30 (by decide)]; exact h.2.2.2.2.2.2.2.1
  · rw [h5 27 (by decide)]; exact h.2.2.2.2.2.2.2.2.1
  · rw [h5 28 (by decide)]; exact h.2.2.2.2.2.2.2.2.2.1
  · rw [h5 38 (by decide)]; exact h.2.2.2.2.2.2.2.2.2.2
/-- tasks that lie ready from t on -/
def mh_s (t : Nat) (xs : List (Int32 × Int32)) (S : wd_S) : Prop := ∀ j, (hj : j < xs.length) → S.1 152 (t + j) = xs[j].1 ∧ S.1 153 (t + j) = xs[j].2
theorem mh_s_o {xs : List (Int32 × Int32)} (h : ∀ b, b < t + xs.length → S'.1 152 b = S.1 152 b ∧ S'.1 153 b = S.1 153 b) (hs : mh_s t xs S) : mh_s t xs S' := fun j hj => by
  obtain ⟨a1, a2⟩ := h (t + j) (by omega)
  rw [a1, a2]
  exact hs j hj
theorem mh_s_l {xs : List (Int32 × Int32)} {q : Int32 × Int32} (h : mh_s t (xs ++ [q]) S) : mh_s t xs S ∧ S.1 152 (t + xs.length) = q.1 ∧ S.1 153 (t + xs.length) = q.2 := by
  refine ⟨fun j hj => ?_, ?_⟩
  · have := h j (by rw [List.length_append]; omega)
    rw [List.getElem_append_left hj] at this
    exact this
  · have := h xs.length (by rw [List.length_append]; exact Nat.lt_succ_self _)
    rw [List.getElem_append_right (Nat.le_refl _)] at this
    simp only [Nat.sub_self, List.getElem_cons_zero] at this
    exact this
def mw_p (t a b : Nat) : Prop := (a = 152 ∧ b = t) ∨ (a = 153 ∧ b = t) ∨ (a = 135 ∧ b = 35)
theorem mw_p_W {m k u c l : Nat} : ∀ a b, mw_p t a b → mp_W f m t k u c l H a b := by
  rintro a b (h | h | h)
  · exact Or.inr (Or.inr (Or.inr (Or.inr (Or.inr (Or.inr (Or.inl ⟨h.1, by omega⟩))))))
  · exact Or.inr (Or.inr (Or.inr (Or.inr (Or.inr (Or.inr (Or.inr (Or.inl ⟨h.1, by omega⟩)))))))
  · exact Or.inl ⟨h.1, by omega⟩
theorem mh_push {xs : List (Int32 × Int32)} (h : mh_g T n f m (t + xs.length) k u c l w i S) (ht : t + xs.length < 4000) (hs : mh_s t xs S) : ∃ S', fn_Mo_push x y S = some S' ∧ mh_g T n f m (t + (xs ++ [(x, y)]).length) k u c l w i S' ∧ mh_s t (xs ++ [(x, y)]) S' ∧ of_f (mw_p (t + xs.length)) S S' := by
  have h35 := h.2.2.2.2.2.1
  have ol : (xs ++ [(x, y)]).length = xs.length + 1 := by rw [List.length_append]; rfl
  rw [ms_push h35 ht]
  have o1 : of_f (mw_p (t + xs.length)) S (ms_p (t + xs.length) x y S) := of_i (Or.inr (Or.inr ⟨rfl, rfl⟩)) (of_i (Or.inr (Or.inl ⟨rfl, rfl⟩)) (of_i (Or.inl ⟨rfl, rfl⟩) of_refl))
  have hne : ∀ b, b ≠ 35 → (ms_p (t + xs.length) x y S).1 135 b = S.1 135 b := fun b hb => o1.1 _ _ (by unfold mw_p; omega)
  refine ⟨_, rfl, mh_u h (funext (fun b => o1.1 _ _ (by unfold mw_p; omega))) (fun k hk => hne k (by omega)) rfl (o1.1 _ _ (by unfold mw_p; omega)) ?_ ?_ ?_ ?_ ?_ ?_, fun j hj => ?_, o1⟩
  · unfold ms_p
    rw [fr_eq, ol]
    rfl
  · rw [hne 37 (by decide)]; exact h.2.2.2.2.2.2.1
  · rw [hne 30 (by decide)]; exact h.2.2.2.2.2.2.2.1
  · rw [hne 27 (by decide)]; exact h.2.2.2.2.2.2.2.2.1
  · rw [hne 28 (by decide)]; exact h.2.2.2.2.2.2.2.2.2.1
  · rw [hne 38 (by decide)]; exact h.2.2.2.2.2.2.2.2.2.2
  · rw [ol] at hj
    by_cases hj2 : j < xs.length
    · rw [List.getElem_append_left hj2, o1.1 152 (t + j) (by unfold mw_p; omega), o1.1 153 (t + j) (by unfold mw_p; omega)]
      exact hs j hj2
    · have ej : j = xs.length := by omega
      subst ej
      rw [List.getElem_append_right (Nat.le_refl _)]
      simp only [Nat.sub_self, List.getElem_cons_zero]
      unfold ms_p
      refine ⟨?_, ?_⟩
      · rw [fr_ne (by omega), fr_ne (by omega), fr_eq]
      · rw [fr_ne (by omega), fr_eq]
def mw_k (k a b : Nat) : Prop := (a = 155 ∧ b = k) ∨ (a = 135 ∧ b = 37)
theorem mw_k_W {m t u c l : Nat} : ∀ a b, mw_k k a b → mp_W f m t k u c l H a b := by
  rintro a b (h | h)
  · exact Or.inr (Or.inr (Or.inr (Or.inr (Or.inr (Or.inr (Or.inr (Or.inr ⟨h.1, by omega⟩)))))))
  · exact Or.inl ⟨h.1, by omega⟩
theorem mh_keep (h : mh_g T n f m t k u c l w i S) (hk : k < 1600) : ∃ S', fn_Mo_keep x S = some S' ∧ mh_g T n f m t (k + 1) u c l w i S' ∧ S'.1 155 k = x ∧ of_f (mw_k k) S S' := by
  rw [ms_keep h.2.2.2.2.2.2.1 hk]
  have o1 : of_f (mw_k k) S (ms_k k x S) := of_i (Or.inr ⟨rfl, rfl⟩) (of_i (Or.inl ⟨rfl, rfl⟩) of_refl)
  have hne : ∀ b, b ≠ 37 → (ms_k k x S).1 135 b = S.1 135 b := fun b hb => o1.1 _ _ (by unfold mw_k; omega)
  refine ⟨_, rfl, mh_u h (funext (fun b => o1.1 _ _ (by unfold mw_k; omega))) (fun k hk => hne k (by omega)) rfl (o1.1 _ _ (by unfold mw_k; omega)) ?_ ?_ ?_ ?_ ?_ ?_, ?_, o1⟩
  · rw [hne 35 (by decide)]; exact h.2.2.2.2.2.1
  · unfold ms_k; rw [fr_eq]
  · rw [hne 30 (by decide)]; exact h.2.2.2.2.2.2.2.1
  · rw [hne 27 (by decide)]; exact h.2.2.2.2.2.2.2.2.1
  · rw [hne 28 (by decide)]; exact h.2.2.2.2.2.2.2.2.2.1
  · rw [hne 38 (by decide)]; exact h.2.2.2.2.2.2.2.2.2.2
  · unfold ms_k; rw [fr_ne (by omega), fr_eq]
def mw_37 (a b : Nat) : Prop := a = 135 ∧ b = 37
theorem mh_last (h : mh_g T n f m t (k + 1) u c l w i S) (hk : k < 1600) : ∃ S', fn_Mo_last S = some (S.1 155 k, S') ∧ mh_g T n f m t k u c l w i S' ∧ of_f mw_37 S S' := by
  rw [ms_last h.2.2.2.2.2.2.1 hk]
  have o1 : of_f mw_37 S (wd_i S 135 37 (Int32.ofNat k)) := of_i ⟨rfl, rfl⟩ of_refl
  have hne : ∀ b, b ≠ 37 → (wd_i S 135 37 (Int32.ofNat k)).1 135 b = S.1 135 b := fun b hb => fr_ne (by omega)
  refine ⟨_, rfl, mh_u h (funext (fun b => o1.1 _ _ (by unfold mw_37; omega))) (fun k hk => hne k (by omega)) rfl (o1.1 _ _ (by unfold mw_37; omega)) ?_ fr_eq ?_ ?_ ?_ ?_, o1⟩
  · rw [hne 35 (by decide)]; exact h.2.2.2.2.2.1
  · rw [hne 30 (by decide)]; exact h.2.2.2.2.2.2.2.1
  · rw [hne 27 (by decide)]; exact h.2.2.2.2.2.2.2.2.1
  · rw [hne 28 (by decide)]; exact h.2.2.2.2.2.2.2.2.2.1
  · rw [hne 38 (by decide)]; exact h.2.2.2.2.2.2.2.2.2.2
def mw_n (c a b : Nat) : Prop := (a = 143 ∧ b = c) ∨ (a = 147 ∧ b = c) ∨ (a = 135 ∧ b = 27)
theorem mh_node (h : mh_g T n f m t k u c l w i S) (hc : c < 3003) : ∃ S', fn_Mo_node x y S = some (Int32.ofNat c, S') ∧ mh_g T n f m t k u (c + 1) l w i S' ∧ S'.1 143 c = x ∧ S'.1 147 c = y ∧ of_f (mw_n c) S S' := by
  rw [ms_node h.2.2.2.2.2.2.2.2.1 hc]
  have o1 : of_f (mw_n c) S (ms_n c x y S) := of_i (Or.inr (Or.inl ⟨rfl, rfl⟩)) (of_i (Or.inl ⟨rfl, rfl⟩) (of_i (Or.inr (Or.inr ⟨rfl, rfl⟩)) of_refl))
  have hne : ∀ b, b ≠ 27 → (ms_n c x y S).1 135 b = S.1 135 b := fun b hb => o1.1 _ _ (by unfold mw_n; omega)
  refine ⟨_, rfl, mh_u h (funext (fun b => o1.1 _ _ (by unfold mw_n; omega))) (fun k hk => hne k (by omega)) rfl (o1.1 _ _ (by unfold mw_n; omega)) ?_ ?_ ?_ ?_ ?_ ?_, ?_, ?_, o1⟩
  · rw [hne 35 (by decide)]; exact h.2.2.2.2.2.1
  · rw [hne 37 (by decide)]; exact h.2.2.2.2.2.2.1
  · rw [hne 30 (by decide)]; exact h.2.2.2.2.2.2.2.1
  · unfold ms_n; rw [fr_ne (by omega), fr_ne (by omega), fr_eq]
  · rw [hne 28 (by decide)]; exact h.2.2.2.2.2.2.2.2.2.1
  · rw [hne 38 (by decide)]; exact h.2.2.2.2.2.2.2.2.2.2
  · unfold ms_n; rw [fr_ne (by omega), fr_eq]
  · unfold ms_n; rw [fr_eq]
theorem mh_nx (ho : of_f nx_W S S') (h : mh_g T n f m t k u c l w i S) {j : Nat} (hg : mt_g T n j S') : mh_g T n f m t k u c l w j S' := by
  obtain ⟨a1, a2, a3, a4, a5, a6, a7, a8, a9, a10, a11⟩ := h
  refine ⟨hg, ?_, a3, ?_, a5, ?_, ?_, ?_, ?_, ?_, ?_⟩
  · rw [ho.1 135 31 (by unfold nx_W; omega)]; exact a2
  · rw [ho.1 139 f (by unfold nx_W; omega)]; exact a4
  · rw [ho.1 135 35 (by unfold nx_W; omega)]; exact a6
  · rw [ho.1 135 37 (by unfold nx_W; omega)]; exact a7
  · rw [ho.1 135 30 (by unfold nx_W; omega)]; exact a8
  · rw [ho.1 135 27 (by unfold nx_W; omega)]; exact a9
  · rw [ho.1 135 28 (by unfold nx_W; omega)]; exact a10
  · rw [ho.1 135 38 (by unfold nx_W; omega)]; exact a11
theorem nx_W_W {m t k u c l : Nat} : ∀ a b, nx_W a b → mp_W f m t k u c l H a b := fun a b h => Or.inl ⟨h.1, Or.inl h.2⟩
/-- g turns of the loop -/
def mp_go (g : Nat) (S S' : wd_S) : Prop := ∀ F, fn_Mo_parse_21 (F + g) S = fn_Mo_parse_21 F S'
theorem mp_go0 : mp_go 0 S S := fun _ => rfl
theorem mp_got {g g' : Nat} (h1 : mp_go g S S1) (h2 : mp_go g' S1 S') : mp_go (g + g') S S' := fun F => by
  rw [show F + (g + g') = (F + g') + g by omega, h1, h2]
theorem mp_pop (h : mh_g T n f m (t + 1) k u c l w i S) (ht : t < 4000) (F : Nat) : fn_Mo_parse_21 (F + 1) S = if S.1 152 t = 1 then wd_d (fn_Mo_want (S.1 153 t) (wd_i S 135 35 (Int32.ofNat t))) (fn_Mo_parse_21 F) else if S.1 152 t = 4 then wd_d (fn_Mo_onE (wd_i S 135 35 (Int32.ofNat t))) (fn_Mo_parse_21 F) else if 12 < S.1 152 t then wd_d (fn_Mo_onRest (S.1 152 t) (S.1 153 t) (wd_i S 135 35 (Int32.ofNat t))) (fn_Mo_parse_21 F) else wd_d (fn_Mo_onSum (S.1 152 t) (S.1 153 t) (wd_i S 135 35 (Int32.ofNat t))) (fn_Mo_parse_21 F) := by
  have h35 := h.2.2.2.2.2.1
  rw [fn_Mo_parse_21, h35, if_pos (show (0 : Int32) < Int32.ofNat (t + 1) from (im_lt (m := 0) (n := t + 1) (by omega) (by omega)).mpr (by omega)), if_pos h.1.2.2.1]
  unfold fn_Mo_parse_111
  simp only [wd_b]
  rw [show Int32.ofNat (t + 1) - (1 : Int32) = Int32.ofNat t from im_p t, fr_eq, if_neg (ms_in ht (by decide)), if_neg (ms_in ht (by decide)), im_t (by omega), fr_ne (by omega), fr_ne (by omega)]
theorem mh_pop (h : mh_g T n f m (t + 1) k u c l w i S) : mh_g T n f m t k u c l w i (wd_i S 135 35 (Int32.ofNat t)) := by
  refine mh_u h (funext (fun b => fr_ne (by omega))) (fun k hk => fr_ne (by omega)) rfl (fr_ne (by omega)) fr_eq ?_ ?_ ?_ ?_ ?_
  · rw [fr_ne (by omega)]; exact h.2.2.2.2.2.2.1
  · rw [fr_ne (by omega)]; exact h.2.2.2.2.2.2.2.1
  · rw [fr_ne (by omega)]; exact h.2.2.2.2.2.2.2.2.1
  · rw [fr_ne (by omega)]; exact h.2.2.2.2.2.2.2.2.2.1
  · rw [fr_ne (by omega)]; exact h.2.2.2.2.2.2.2.2.2.2
def mw_35 (a b : Nat) : Prop := a = 135 ∧ b = 35
theorem mw_35_W {m t k u c l : Nat} : ∀ a b, mw_35 a b → mp_W f m t k u c l H a b := fun a b h => Or.inl ⟨h.1, by unfold mw_35 at h; omega⟩
theorem mp_g1 {o : Option wd_S} (h : ∀ F, fn_Mo_parse_21 (F + 1) S = wd_d o (fn_Mo_parse_21 F)) (ho : o = some S') : mp_go 1 S S' := fun F => by rw [h F, ho, wd_d_s]
theorem mp_want {kd : Int32} (h8 : n ≤ 8000) (h : mh_g T n f m (t + 1) k u c l w i S) (ht : t < 4000) (h1 : S.1 152 t = 1) (h2 : S.1 153 t = lx_cv kd) (hk : ¬lx_cv kd = 0) (hk20 : ¬kd = 20) : ∃ S', mp_go 1 S S' ∧ of_f (fun a b => nx_W a b ∨ mw_35 a b) S S' ∧ match ps_take (tk_K T n) kd i with
    | .error e => mt_e T n e S'
    | .ok j => mh_g T n f m t k u c l w j S' := by
  have hp := mh_pop h
  obtain ⟨S', e1, o1, r1⟩ := mt_want h8 hp.1 hk hk20
  refine ⟨S', mp_g1 (fun F => by rw [mp_pop h ht F, if_pos h1, h2]) e1, of_trans (of_i (Or.inr ⟨rfl, rfl⟩) of_refl) (of_mono (fun a b z => Or.inl z) o1), ?_⟩
  cases q : ps_take (tk_K T n) kd i with
  | error e => rw [q] at r1; exact r1
  | ok j => rw [q] at r1; exact mh_nx o1 hp r1
theorem mp_W135 {m t k u c l b : Nat} (h : (3 ≤ b ∧ b ≤ 10) ∨ b = 27 ∨ b = 28 ∨ b = 30 ∨ b = 35 ∨ b = 37 ∨ b = 38) : mp_W f m t k u c l H 135 b := Or.inl ⟨rfl, h⟩
end Mh
end
/-! part 80 -/
section
/-! The reference: a part, a sign, a part. -/
def mp_R (T : Nat → Int32) (n f H m t k u c l w d β i : Nat) (S : wd_S) (r : Except ps_E ps_O) (g : Nat) (S' : wd_S) : Prop := of_f (mp_W f m t k u c l H) S S' ∧ match r with
  | .error e => mt_e T n e S' ∧ g + β ≤ 12 * (1501 - i)
  | .ok q => g + β ≤ 12 * (q.2.2.2.1 - i) ∧ ∃ l', l ≤ l' ∧ l' + i ≤ l + q.2.2.2.1 ∧ mh_g T n f q.2.2.2.2 t (k + 1) u (c + q.2.2.1) l' w q.2.2.2.1 S' ∧ ∃ y, S'.1 155 k = Int32.ofNat y ∧ mr_t T n f S' c (c + q.2.2.1) l l' m q.2.2.2.2 d y q.1
/-- with symbol s on top the loop does what p says -/
def mp_C (T : Nat → Int32) (n f H r bt bk d β : Nat) (s : Int32) (p : Nat → Nat → Except ps_E ps_O) : Prop := ∀ (i m t k u c l w : Nat) (S : wd_S), mh_g T n f m (t + 1) k u c l w i S → S.1 152 t = s → t + 12 * r + bt ≤ 300 → k + 4 * r + bk ≤ 100 → u ≤ i → c + 1501 ≤ H + i → l + 1501 ≤ H + i → w + r = 24 ∧ H ≤ 3002 → ∃ g S', mp_go g S S' ∧ mp_R T n f H m t k u c l w d β i S (p i m) g S'
section M2
variable {T : Nat → Int32} {H n f r bt bk d β m t k u c l w i : Nat} {S S' S1 : wd_S} {X Y : Int32} {e : ps_E} {p : Nat → Nat → Except ps_E ps_O} {h : Int32 → Bool}
/-- a sign that goes on -/
def mp_Y (T : Nat → Int32) (n : Nat) (X Y : Int32) (h : Int32 → Bool) : Prop := ¬Y = 1 ∧ ¬Y = 4 ∧ ¬12 < Y ∧ (∀ k : Int32, h k = true → k = 6 ∨ k = 7 ∨ k = 8 ∨ k = 9 ∨ k = 10) ∧ ∀ (i : Nat) (v : Int32) (S : wd_S), mt_g T n i S → fn_Mo_onSum Y v S = if h (tk_K T n i) = true then wd_d (fn_Mo_push 12 (lx_cv (tk_K T n i)) S) fun S9 => wd_d (fn_Mo_push X 0 S9) fun S14 => wd_d (fn_Mo_pass S14) fun S17 => some S17 else some S
theorem mp_of_f2 {W W' : Nat → Nat → Prop} {S2 : wd_S} (hw : ∀ a b, W a b → W' a b) (h1 : of_f W' S S1) (h2 : of_f W S1 S2) : of_f W' S S2 := of_trans h1 (of_mono hw h2)
theorem mp_side (hm : mh_g T n f m (t + 1) (k + 2) u c l w i S) (h1 : S.1 152 t = 12) (ht : t < 4000) (hk : k + 2 < 1600) (hc : c < 3003) {y1 y2 : Nat} (e1 : S.1 155 k = Int32.ofNat y1) (e2 : S.1 155 (k + 1) = Int32.ofNat y2) (hy : y1 < c) : ∃ S', mp_go 1 S S' ∧ mh_g T n f m t (k + 1) u (c + 1) l w i S' ∧ S'.1 155 k = Int32.ofNat c ∧ S'.1 143 c = 1 ∧ S'.1 144 c = Int32.ofNat y1 ∧ S'.1 145 c = Int32.ofNat y2 ∧ S'.1 146 c = S.1 153 t ∧ of_f (fun a b => (a = 135 ∧ (b = 35 ∨ b = 37 ∨ b = 27)) ∨ (143 ≤ a ∧ a ≤ 147 ∧ b = c) ∨ (a = 155 ∧ b = k)) S S' := by
  have hp := mh_pop hm
  obtain ⟨S2, f2, g2, o2⟩ := mh_last (k := k + 1) hp (by omega)
  obtain ⟨S3, f3, g3, o3⟩ := mh_last (k := k) g2 (by omega)
  have e2' : (wd_i S 135 35 (Int32.ofNat t)).1 155 (k + 1) = Int32.ofNat y2 := by rw [fr_ne (by omega)]; exact e2
  have e1' : S2.1 155 k = Int32.ofNat y1 := by rw [o2.1 155 k (by unfold mw_37; omega), fr_ne (by omega)]; exact e1
  obtain ⟨S4, f4, g4, a4, b4, o4⟩ := mh_node (x := 1) (y := S3.1 147 y1) g3 hc
  have hin := ms_in (show c < 15010 by omega) (by decide)
  generalize hS5 : wd_i (wd_i (wd_i S4 144 c (Int32.ofNat y1)) 145 c (Int32.ofNat y2)) 146 c (S.1 153 t) = S5
  have o5 : of_f (fun a b => 144 ≤ a ∧ a ≤ 146 ∧ b = c) S4 S5 := by
    rw [← hS5]
    exact of_i (by omega) (of_i (by omega) (of_i (by omega) of_refl))
  have g5 : mh_g T n f m t k u (c + 1) l w i S5 := mh_w o5 (fun a b z => by omega) g4
  obtain ⟨S6, f6, g6, a6, o6⟩ := mh_keep (x := Int32.ofNat c) g5 (by omega)
  have hcode : fn_Mo_onSum 12 (S.1 153 t) (wd_i S 135 35 (Int32.ofNat t)) = some S6 := by
    unfold fn_Mo_onSum fn_Mo_onSum_248
    rw [if_neg (by decide), if_neg (by decide), if_neg (by decide), if_neg (by decide), if_pos rfl, f2, wd_c_s, f3, wd_c_s, e1', if_neg (ms_in (show y1 < 15010 by omega) (by decide)), im_t (by omega), f4, wd_c_s]
    simp only [wd_b]
    rw [if_neg hin, if_neg hin, if_neg hin, im_t (by omega), e2', hS5, f6, wd_d_s]
  refine ⟨S6, mp_g1 (fun F => by rw [mp_pop hm ht F, h1, if_neg (by decide), if_neg (by decide), if_neg (by decide)]) hcode, g6, a6, ?_, ?_, ?_, ?_, ?_⟩
  · rw [o6.1 143 c (by unfold mw_k; omega), o5.1 143 c (by omega)]; exact a4
  · rw [o6.1 144 c (by unfold mw_k; omega), ← hS5, fr_ne (by omega), fr_ne (by omega), fr_eq]
  · rw [o6.1 145 c (by unfold mw_k; omega), ← hS5, fr_ne (by omega), fr_eq]
  · rw [o6.1 146 c (by unfold mw_k; omega), ← hS5, fr_eq]
  · refine of_trans (of_i (by omega) of_refl) (of_trans (of_mono (fun a b z => by unfold mw_37 at z; omega) o2) (of_trans (of_mono (fun a b z => by unfold mw_37 at z; omega) o3) (of_trans (of_mono (fun a b z => by unfold mw_n at z; omega) o4) (of_trans (of_mono (fun a b z => by omega) o5) (of_mono (fun a b z => by unfold mw_k at z; omega) o6)))))
theorem mp_two (h8 : n ≤ 8000) (hY : mp_Y T n X Y h) (hX : ¬X = 12) (hp : mp_C T n f H r bt bk d β X p) (hgd : ∀ i m q, p i m = .ok q → ps_good (tk_K T n) d i m q) (hβ : 2 ≤ β) (hm : mh_g T n f m (t + 1 + 1) k u c l w i S) (hs : mh_s t [(Y, 0), (X, 0)] S) (b1 : t + 1 + 12 * r + bt ≤ 300) (b2 : k + 1 + 4 * r + bk ≤ 100) (b3 : u ≤ i) (b4 : c + 1501 ≤ H + i) (b5 : l + 1501 ≤ H + i) (b6 : w + r = 24 ∧ H ≤ 3002) : ∃ g S', mp_go g S S' ∧ mp_R T n f H m t k u c l w (d + 1) (β - 1) i S (ps_two (tk_K T n) h p i m) g S' := by
  obtain ⟨y1, y4, y12, yk, yc⟩ := hY
  obtain ⟨s1, s2⟩ := hs 0 (show 0 < 2 by decide)
  obtain ⟨s3, s4⟩ := hs 1 (show 1 < 2 by decide)
  obtain ⟨g1, S1, G1, O1, R1⟩ := hp i m (t + 1) k u c l w S hm s3 b1 (by omega) b3 b4 b5 b6
  have O1' : of_f (mp_W f m t k u c l H) S S1 := of_mono (mp_le (Nat.le_refl _) (Nat.le_succ _) (Nat.le_refl _) (Nat.le_refl _) (Nat.le_refl _) (Nat.le_refl _)) O1
  unfold ps_two
  cases q1 : p i m with
  | error e =>
    rw [q1] at R1
    exact ⟨g1, S1, G1, O1', R1.1, by omega⟩
  | ok q =>
    rw [q1] at R1
    obtain ⟨c1, l1, L1, L2, M1, z1, Z1, D1⟩ := R1
    obtain ⟨p1, p2, p3, p4, p5, p6, p7, -⟩ := hgd _ _ q q1
    have t0 : S1.1 152 t = Y := by
      rw [O1.1 152 t (by rintro (z | z | z | z | z | z | z | z | z) <;> omega)]; exact s1
    have t1 : S1.1 153 t = 0 := by
      rw [O1.1 153 t (by rintro (z | z | z | z | z | z | z | z | z) <;> omega)]; exact s2
    have hpop := mh_pop M1
    have hloop : ∀ F, fn_Mo_parse_21 (F + 1) S1 = wd_d (fn_Mo_onSum Y 0 (wd_i S1 135 35 (Int32.ofNat t))) (fn_Mo_parse_21 F) := fun F => by
      rw [mp_pop M1 (by omega) F, t0, t1, if_neg y1, if_neg y4, if_neg y12]
    have oP : of_f mw_35 S1 (wd_i S1 135 35 (Int32.ofNat t)) := of_i ⟨rfl, rfl⟩ of_refl
    show ∃ g S', mp_go g S S' ∧ mp_R T n f H m t k u c l w (d + 1) (β - 1) i S (if h (tk_K T n q.2.2.2.1) = true then _ else _) g S'
    by_cases hk : h (tk_K T n q.2.2.2.1) = true
    · rw [if_pos hk]
      generalize hkk : tk_K T n q.2.2.2.1 = kk at hk
      have kkc := yk kk hk
      obtain ⟨S3, f3, m3, x3, o3⟩ := mh_push (xs := []) (x := 12) (y := lx_cv kk) hpop (by show t + 0 < 4000; omega) (fun j hj => absurd hj (Nat.not_lt_zero _))
      obtain ⟨S4, f4, m4, x4, o4⟩ := mh_push (x := X) (y := 0) m3 (by show t + 1 < 4000; omega) x3
      have hk20 : ¬tk_K T n q.2.2.2.1 = 20 := by rw [hkk]; rcases kkc with z | z | z | z | z <;> rw [z] <;> decide
      obtain ⟨S5, f5, o5, r5⟩ := mt_pass h8 m4.1 hk20
      rw [hkk] at r5
      have hcode : fn_Mo_onSum Y 0 (wd_i S1 135 35 (Int32.ofNat t)) = some S5 := by
        rw [yc _ 0 _ hpop.1, hkk, if_pos hk, f3, wd_d_s, f4, wd_d_s, f5, wd_d_s]
      have G2 := mp_g1 hloop hcode
      have O5 : of_f (mp_W f m t k u c l H) S S5 := mp_of_f2 nx_W_W (mp_of_f2 (fun a b z => mp_le (Nat.le_refl _) (Nat.le_succ _) (Nat.le_refl _) (Nat.le_refl _) (Nat.le_refl _) (Nat.le_refl _) a b (mw_p_W a b z)) (mp_of_f2 mw_p_W (mp_of_f2 mw_35_W O1' oP) o3) o4) o5
      cases q2 : ps_take (tk_K T n) kk q.2.2.2.1 with
      | error e =>
        rw [q2] at r5
        exact ⟨g1 + 1, S5, mp_got G1 G2, O5, r5, by omega⟩
      | ok i1 =>
        obtain ⟨u1, u2, rfl, u4⟩ := ps_take_ok q2
        rw [q2] at r5
        have m5 := mh_nx o5 m4 r5
        have hs5 : mh_s t ([] ++ [(12, lx_cv kk)] ++ [(X, 0)]) S5 := mh_s_o (fun b _ => ⟨o5.1 152 b (by unfold nx_W; omega), o5.1 153 b (by unfold nx_W; omega)⟩) x4
        obtain ⟨v1, v2⟩ := hs5 0 (show 0 < 2 by decide)
        obtain ⟨v3, v4⟩ := hs5 1 (show 1 < 2 by decide)
        obtain ⟨g2, S6, G3, O6, R6⟩ := hp (q.2.2.2.1 + 1) q.2.2.2.2 (t + 1) (k + 1) u (c + q.2.2.1) l1 w S5 m5 v3 (by omega) (by omega) (by omega) (by omega) (by omega) b6
        have O6' : of_f (mp_W f m t k u c l H) S S6 := mp_of_f2 (mp_le p3 (Nat.le_succ _) (Nat.le_succ _) (Nat.le_refl _) (by omega) L1) O5 O6
        have G4 := mp_got G1 (mp_got G2 G3)
        show ∃ g S', mp_go g S S' ∧ mp_R T n f H m t k u c l w (d + 1) (β - 1) i S (ps_b (p (q.2.2.2.1 + 1) q.2.2.2.2) _) g S'
        cases q3 : p (q.2.2.2.1 + 1) q.2.2.2.2 with
        | error e =>
          rw [q3] at R6
          exact ⟨_, S6, G4, O6', R6.1, by have := R6.2; omega⟩
        | ok r' =>
          rw [q3] at R6
          obtain ⟨c2, l2, L3, L4, M6, z2, Z2, D2⟩ := R6
          obtain ⟨j1, j2, j3, j4, j5, j6, j7, -⟩ := hgd _ _ r' q3
          have hb1 := mr_t_b D1
          have hb2 := mr_t_b D2
          have w1 : S6.1 152 t = 12 := by
            rw [O6.1 152 t (by rintro (z | z | z | z | z | z | z | z | z) <;> omega)]; exact v1
          have w2 : S6.1 153 t = lx_cv kk := by
            rw [O6.1 153 t (by rintro (z | z | z | z | z | z | z | z | z) <;> omega)]; exact v2
          have w3 : S6.1 155 k = Int32.ofNat z1 := by
            rw [O6.1 155 k (by rintro (z | z | z | z | z | z | z | z | z) <;> omega), o5.1 155 k (by unfold nx_W; omega), o4.1 155 k (by unfold mw_p; omega), o3.1 155 k (by unfold mw_p; omega), oP.1 155 k (by unfold mw_35; omega)]
            exact Z1
          obtain ⟨S7, G5, M7, Z7, a1, a2, a3, a4, O7⟩ := mp_side M6 w1 (by omega) (by omega) (by omega) w3 Z2 (by omega)
          have O7' : of_f (mp_W f m t k u c l H) S S7 := mp_of_f2 (fun a b z => by
            rcases z with z | z | z
            · exact Or.inl ⟨z.1, by omega⟩
            · exact Or.inr (Or.inr (Or.inr (Or.inl ⟨z.1, by omega, by omega⟩)))
            · exact Or.inr (Or.inr (Or.inr (Or.inr (Or.inr (Or.inr (Or.inr (Or.inr ⟨z.1, by omega⟩)))))))) O6' O7
          refine ⟨_, S7, mp_got G4 G5, O7', ?_, l2, by omega, ?_, ?_, c + q.2.2.1 + r'.2.2.1, Z7, ?_⟩
          · show g1 + (1 + g2) + 1 + (β - 1) ≤ 12 * (r'.2.2.2.1 - i)
            omega
          · show l2 + i ≤ l + r'.2.2.2.1
            omega
          · show mh_g T n f r'.2.2.2.2 t (k + 1) u (c + (q.2.2.1 + r'.2.2.1 + 1)) l2 w r'.2.2.2.1 S7
            rw [show c + (q.2.2.1 + r'.2.2.1 + 1) = c + q.2.2.1 + r'.2.2.1 + 1 by omega]
            exact M7
          · have E1 : mr_g f c (c + q.2.2.1) l l1 m q.2.2.2.2 S1 S6 := by
              have hz : mr_g f c (c + q.2.2.1) l l1 m q.2.2.2.2 S1 S5 := by
                refine ⟨fun x _ _ => ?_, fun x _ _ => ?_, fun x _ _ => ?_⟩
                · have hh : ∀ a, 143 ≤ a → a ≤ 149 → S5.1 a x = S1.1 a x := fun a y1 y2 => by
                    rw [o5.1 a x (by unfold nx_W; omega), o4.1 a x (by unfold mw_p; omega), o3.1 a x (by unfold mw_p; omega), oP.1 a x (by unfold mw_35; omega)]
                  refine ⟨hh 143 (by omega) (by omega), hh 144 (by omega) (by omega), hh 145 (by omega) (by omega), hh 146 (by omega) (by omega), hh 147 (by omega) (by omega), ?_⟩
                  rw [o5.2.1 148 x (by unfold nx_W; omega), o4.2.1 148 x (by unfold mw_p; omega), o3.2.1 148 x (by unfold mw_p; omega), oP.2.1 148 x (by unfold mw_35; omega)]
                · rw [o5.1 149 x (by unfold nx_W; omega), o4.1 149 x (by unfold mw_p; omega), o3.1 149 x (by unfold mw_p; omega), oP.1 149 x (by unfold mw_35; omega)]
                · rw [o5.2.1 142 _ (by unfold nx_W; omega), o4.2.1 142 _ (by unfold mw_p; omega), o3.2.1 142 _ (by unfold mw_p; omega), oP.2.1 142 _ (by unfold mw_35; omega)]
              have hy := mr_g_W (lo := c) (hi := c + q.2.2.1) (al := l) (ah := l1) (nl := m) (nh := q.2.2.2.2) O6 (Nat.le_refl _) (Nat.le_refl _) (Nat.le_refl _)
              refine ⟨fun x x1 x2 => ?_, fun x x1 x2 => (hy.2.1 x x1 x2).trans (hz.2.1 x x1 x2), fun x x1 x2 => (hy.2.2 x x1 x2).trans (hz.2.2 x x1 x2)⟩
              obtain ⟨e1, e2, e3, e4, e5, e6⟩ := hz.1 x x1 x2
              obtain ⟨k1, k2, k3, k4, k5, k6⟩ := hy.1 x x1 x2
              exact ⟨k1.trans e1, k2.trans e2, k3.trans e3, k4.trans e4, k5.trans e5, k6.trans e6⟩
            have E2 : ∀ lo hi al ah nl nh, hi ≤ c + q.2.2.1 + r'.2.2.1 → mr_g f lo hi al ah nl nh S6 S7 := fun lo hi al ah nl nh hh => by
              refine ⟨fun x _ hx => ?_, fun x _ _ => O7.1 149 x (by omega), fun x _ _ => O7.2.1 142 _ (by omega)⟩
              exact ⟨O7.1 143 x (by omega), O7.1 144 x (by omega), O7.1 145 x (by omega), O7.1 146 x (by omega), O7.1 147 x (by omega), O7.2.1 148 x (by omega)⟩
            have D1' := mr_t_m (lo' := c) (hi' := c + q.2.2.1) (al' := l) (ah' := l2) (nl' := m) (nh' := r'.2.2.2.2) (Nat.le_refl _) (Nat.le_refl _) (Nat.le_refl _) (by omega) (Nat.le_refl _) j3 (E2 c (c + q.2.2.1) l l1 m q.2.2.2.2 (by omega)) _ _ _ (mr_t_m (Nat.le_refl _) (Nat.le_refl _) (Nat.le_refl _) (Nat.le_refl _) (Nat.le_refl _) (Nat.le_refl _) E1 _ _ _ D1)
            have D2' := mr_t_m (lo' := c + q.2.2.1) (hi' := c + q.2.2.1 + r'.2.2.1) (al' := l) (ah' := l2) (nl' := m) (nh' := r'.2.2.2.2) (Nat.le_refl _) (Nat.le_refl _) L1 (Nat.le_refl _) p3 (Nat.le_refl _) (E2 _ _ l1 l2 q.2.2.2.2 r'.2.2.2.2 (Nat.le_refl _)) _ _ _ D2
            refine ⟨by omega, by show c + q.2.2.1 + r'.2.2.1 < c + (q.2.2.1 + r'.2.2.1 + 1); omega, ?_⟩
            exact Or.inr (Or.inr (Or.inr (Or.inr (Or.inr ⟨kkc, rfl, a1, a4.trans w2, z1, z2, c, c + q.2.2.1, c + q.2.2.1 + r'.2.2.1, a2, a3, Nat.le_refl _, D1', D2', Nat.le_refl _⟩))))
    · rw [if_neg hk]
      have hcode : fn_Mo_onSum Y 0 (wd_i S1 135 35 (Int32.ofNat t)) = some (wd_i S1 135 35 (Int32.ofNat t)) := by
        rw [yc _ 0 _ hpop.1, if_neg hk]
      refine ⟨g1 + 1, _, mp_got G1 (mp_g1 hloop hcode), mp_of_f2 mw_35_W O1' oP, by omega, l1, L1, L2, hpop, z1, ?_, ?_⟩
      · rw [fr_ne (by omega)]; exact Z1
      · refine mr_t_s _ _ _ (mr_t_m (Nat.le_refl _) (Nat.le_refl _) (Nat.le_refl _) (Nat.le_refl _) (Nat.le_refl _) (Nat.le_refl _) ⟨fun x _ _ => ⟨fr_ne (by omega), fr_ne (by omega), fr_ne (by omega), fr_ne (by omega), fr_ne (by omega), rfl⟩, fun x _ _ => fr_ne (by omega), fun x _ _ => rfl⟩ _ _ _ D1)
end M2
end
/-! part 81 -/
section
/-! The reference: sums, products, numbers, names alone. -/
section Ma
variable {T : Nat → Int32} {H n f r bt bk d β m t k u c l w i : Nat} {S S' S1 : wd_S} {X Y : Int32} {e : ps_E} {p : Nat → Nat → Except ps_E ps_O} {h : Int32 → Bool}
theorem ma_tok {kk : Int32} (h : mt_g T n i S) (hk : ¬lx_cv kk = 0) : S.1 135 4 = lx_cv kk ↔ tk_K T n i = kk := by
  rw [h.2.2.2.2.2.2.1]
  exact ⟨fun z => lx_ij hk z, fun z => by rw [z]⟩
theorem ma_Y9 : mp_Y T n 10 9 (fun k => k == 8) := by
  refine ⟨by decide, by decide, by decide, fun k hk => ?_, fun i v S hm => ?_⟩
  · rw [beq_iff_eq] at hk
    exact Or.inr (Or.inr (Or.inl hk))
  · have t8 := ma_tok (kk := 8) hm (by decide)
    have t8 : S.1 135 4 = 21 ↔ tk_K T n i = 8 := t8
    unfold fn_Mo_onSum fn_Mo_onSum_248
    rw [if_neg (by decide), if_neg (by decide), if_neg (by decide), if_neg (by decide), if_neg (by decide), if_neg (by decide), if_neg (by decide)]
    by_cases h : tk_K T n i = 8
    · rw [if_pos (t8.mpr h), if_pos (by rw [h]; decide), h]
      unfold fn_Mo_onSum_205 fn_Mo_onSum_240 fn_Mo_onSum_248
      rw [t8.mpr h]
      simp only [show ¬(9 : Int32) = 11 by decide, show ¬(9 : Int32) = 7 by decide, if_false]
      rfl
    · rw [if_neg (fun z => h (t8.mp z)), if_neg (by rw [beq_iff_eq]; exact h)]
theorem ma_Y7 : mp_Y T n 8 7 (fun k => k == 6 || k == 7) := by
  refine ⟨by decide, by decide, by decide, fun k hk => ?_, fun i v S hm => ?_⟩
  · rw [Bool.or_eq_true, beq_iff_eq, beq_iff_eq] at hk
    rcases hk with z | z
    · exact Or.inl z
    · exact Or.inr (Or.inl z)
  · have t6 : S.1 135 4 = 19 ↔ tk_K T n i = 6 := ma_tok (kk := 6) hm (by decide)
    have t7 : S.1 135 4 = 20 ↔ tk_K T n i = 7 := ma_tok (kk := 7) hm (by decide)
    unfold fn_Mo_onSum fn_Mo_onSum_248
    rw [if_neg (by decide), if_neg (by decide), if_neg (by decide), if_neg (by decide), if_neg (by decide), if_neg (by decide), if_pos rfl]
    have hgo : ∀ kk : Int32, tk_K T n i = kk → fn_Mo_onSum_205 7 S = wd_d (fn_Mo_push 12 (lx_cv kk) S) fun S9 => wd_d (fn_Mo_push 8 0 S9) fun S14 => wd_d (fn_Mo_pass S14) fun S17 => some S17 := fun kk hk => by
      unfold fn_Mo_onSum_205 fn_Mo_onSum_240 fn_Mo_onSum_248
      rw [hm.2.2.2.2.2.2.1, hk]
      simp only [show ¬(7 : Int32) = 11 by decide, if_false, if_true]
    by_cases h : tk_K T n i = 6
    · rw [if_pos (t6.mpr h), if_pos (by rw [h]; decide), hgo 6 h, h]
    · rw [if_neg (fun z => h (t6.mp z))]
      by_cases h2 : tk_K T n i = 7
      · rw [if_pos (t7.mpr h2), if_pos (by rw [h2]; decide), hgo 7 h2, h2]
      · rw [if_neg (fun z => h2 (t7.mp z)), if_neg (by rw [Bool.or_eq_true, beq_iff_eq, beq_iff_eq]; rintro (q | q); exact h q; exact h2 q)]
theorem ma_Y11 : mp_Y T n 6 11 (fun k => k == 9 || k == 10) := by
  refine ⟨by decide, by decide, by decide, fun k hk => ?_, fun i v S hm => ?_⟩
  · rw [Bool.or_eq_true, beq_iff_eq, beq_iff_eq] at hk
    rcases hk with z | z
    · exact Or.inr (Or.inr (Or.inr (Or.inl z)))
    · exact Or.inr (Or.inr (Or.inr (Or.inr z)))
  · have t6 : S.1 135 4 = 22 ↔ tk_K T n i = 9 := ma_tok (kk := 9) hm (by decide)
    have t7 : S.1 135 4 = 12 ↔ tk_K T n i = 10 := ma_tok (kk := 10) hm (by decide)
    unfold fn_Mo_onSum fn_Mo_onSum_248
    rw [if_neg (by decide), if_neg (by decide), if_neg (by decide), if_neg (by decide), if_neg (by decide), if_pos rfl]
    have hgo : ∀ kk : Int32, tk_K T n i = kk → fn_Mo_onSum_205 11 S = wd_d (fn_Mo_push 12 (lx_cv kk) S) fun S9 => wd_d (fn_Mo_push 6 0 S9) fun S14 => wd_d (fn_Mo_pass S14) fun S17 => some S17 := fun kk hk => by
      unfold fn_Mo_onSum_205 fn_Mo_onSum_240 fn_Mo_onSum_248
      rw [hm.2.2.2.2.2.2.1, hk]
      simp only [if_true]
    by_cases h : tk_K T n i = 9
    · rw [if_pos (t6.mpr h), if_pos (by rw [h]; decide), hgo 9 h, h]
    · rw [if_neg (fun z => h (t6.mp z))]
      by_cases h2 : tk_K T n i = 10
      · rw [if_pos (t7.mpr h2), if_pos (by rw [h2]; decide), hgo 10 h2, h2]
      · rw [if_neg (fun z => h2 (t7.mp z)), if_neg (by rw [Bool.or_eq_true, beq_iff_eq, beq_iff_eq]; rintro (q | q); exact h q; exact h2 q)]
/-- a task that lays two others -/
theorem ma_lay {Z : Int32} (hZ : ¬Z = 1 ∧ ¬Z = 4 ∧ ¬12 < Z) (hc : ∀ v S, fn_Mo_onSum Z v S = wd_d (fn_Mo_push Y 0 S) fun S1 => wd_d (fn_Mo_push X 0 S1) fun S2 => some S2) (h8 : n ≤ 8000) (hY : mp_Y T n X Y h) (hX : ¬X = 12) (hp : mp_C T n f H r bt bk d β X p) (hgd : ∀ i m q, p i m = .ok q → ps_good (tk_K T n) d i m q) (hβ : 2 ≤ β) (hbt : bt ≤ 20) : mp_C T n f H r (bt + 1) (bk + 1) (d + 1) (β - 2) Z (ps_two (tk_K T n) h p) := by
  intro i m t k u c l w S hm hs b1 b2 b3 b4 b5 b6
  have hpop := mh_pop hm
  obtain ⟨S3, f3, m3, x3, o3⟩ := mh_push (xs := []) (x := Y) (y := 0) hpop (by show t + 0 < 4000; omega) (fun j hj => absurd hj (Nat.not_lt_zero _))
  obtain ⟨S4, f4, m4, x4, o4⟩ := mh_push (x := X) (y := 0) m3 (by show t + 1 < 4000; omega) x3
  have G1 : mp_go 1 S S4 := mp_g1 (o := fn_Mo_onSum Z (S.1 153 t) (wd_i S 135 35 (Int32.ofNat t))) (fun F => by rw [mp_pop hm (by omega) F, hs, if_neg hZ.1, if_neg hZ.2.1, if_neg hZ.2.2]) (by rw [hc, f3, wd_d_s, f4, wd_d_s])
  obtain ⟨g, S', G2, O2, R2⟩ := mp_two h8 hY hX hp hgd hβ m4 x4 (by omega) (by omega) b3 b4 b5 b6
  have oP : of_f mw_35 S (wd_i S 135 35 (Int32.ofNat t)) := of_i ⟨rfl, rfl⟩ of_refl
  have O4 : of_f (mp_W f m t k u c l H) S S4 := mp_of_f2 (fun a b z => mp_le (Nat.le_refl _) (Nat.le_succ _) (Nat.le_refl _) (Nat.le_refl _) (Nat.le_refl _) (Nat.le_refl _) a b (mw_p_W a b z)) (mp_of_f2 mw_p_W (of_mono mw_35_W oP) o3) o4
  refine ⟨1 + g, S', mp_got G1 G2, of_trans O4 O2, ?_⟩
  cases eq : ps_two (tk_K T n) h p i m with
  | error e =>
    rw [eq] at R2
    exact ⟨R2.1, by have := R2.2; omega⟩
  | ok q =>
    rw [eq] at R2
    exact ⟨by have := R2.1; omega, R2.2⟩
theorem ma_sum (h8 : n ≤ 8000) (hp : mp_C T n f H r bt bk d β 8 p) (hgd : ∀ i m q, p i m = .ok q → ps_good (tk_K T n) d i m q) (hβ : 2 ≤ β) (hbt : bt ≤ 20) : mp_C T n f H r (bt + 1) (bk + 1) (d + 1) (β - 2) 6 (ps_two (tk_K T n) (fun k => k == 6 || k == 7) p) := ma_lay (Y := 7) (by decide) (fun v S => by
    unfold fn_Mo_onSum fn_Mo_onSum_248
    rw [if_neg (by decide), if_pos rfl]) h8 ma_Y7 (by decide) hp hgd hβ hbt
theorem ma_product (h8 : n ≤ 8000) (hp : mp_C T n f H r bt bk d β 10 p) (hgd : ∀ i m q, p i m = .ok q → ps_good (tk_K T n) d i m q) (hβ : 2 ≤ β) (hbt : bt ≤ 20) : mp_C T n f H r (bt + 1) (bk + 1) (d + 1) (β - 2) 8 (ps_two (tk_K T n) (fun k => k == 8) p) := ma_lay (Y := 9) (by decide) (fun v S => by
    unfold fn_Mo_onSum fn_Mo_onSum_248
    rw [if_neg (by decide), if_neg (by decide), if_pos rfl]) h8 ma_Y9 (by decide) hp hgd hβ hbt
/-- a node that is kept at once -/
theorem ma_num (h8 : n ≤ 8000) {s pl : Int32} (hs : s = 1 ∨ s = -1) (hm : mh_g T n f m t k u c l w i S) (hk : k < 1600) (hc : c < 3003) (hcH : c < H) : ∃ S', fn_Mo_onAtom_46 pl (if s = 1 then 0 else 1) S = some S' ∧ of_f (mp_W f m t k u c l H) S S' ∧ match ps_num (tk_K T n) (tk_V T n) s i m with
    | .error e => mt_e T n e S'
    | .ok q => mh_g T n f q.2.2.2.2 t (k + 1) u (c + q.2.2.1) l w q.2.2.2.1 S' ∧ ∃ y, S'.1 155 k = Int32.ofNat y ∧ mr_t T n f S' c (c + q.2.2.1) l l m q.2.2.2.2 1 y q.1 := by
  unfold fn_Mo_onAtom_46 ps_num
  rw [if_pos hm.1.2.2.1]
  have t1 : S.1 135 4 = 11 ↔ tk_K T n i = 1 := ma_tok (kk := 1) hm.1 (by decide)
  by_cases h1 : tk_K T n i = 1
  · rw [if_pos (t1.mpr h1)]
    unfold fn_Mo_onAtom_71
    obtain ⟨S2, f2, m2, a2, b2, o2⟩ := mh_node (x := 5) (y := pl) hm hc
    rw [if_pos hm.1.2.2.1, f2, wd_c_s]
    have ea : S2.1 135 8 = (tk_V T n i).toInt32 := by
      rw [o2.1 135 8 (by unfold mw_n; omega)]
      exact hm.1.2.2.2.2.2.2.2.2.2.2.2 h1
    have hgo : ∀ v : Int32, v = s * (tk_V T n i).toInt32 → ∃ S', fn_Mo_onAtom_106 (Int32.ofNat c) (Int32.ofNat c) v S2 = some S' ∧ of_f (mp_W f m t k u c l H) S S' ∧ match ps_b (ps_take (tk_K T n) 1 i) (fun i1 => (.ok (tr_l 1 (s * (tk_V T n i).toInt32) 0, [], 1, i1, m) : Except ps_E ps_O)) with
        | .error e => mt_e T n e S'
        | .ok q => mh_g T n f q.2.2.2.2 t (k + 1) u (c + q.2.2.1) l w q.2.2.2.1 S' ∧ ∃ y, S'.1 155 k = Int32.ofNat y ∧ mr_t T n f S' c (c + q.2.2.1) l l m q.2.2.2.2 1 y q.1 := by
      intro v hv
      unfold fn_Mo_onAtom_106 fn_Mo_onAtom_116 fn_Mo_onAtom_283
      simp only [wd_b]
      rw [if_neg (ms_in (show c < 15010 by omega) (by decide)), im_t (by omega)]
      generalize hS3 : wd_i S2 144 c v = S3
      have o3 : of_f (fun a b => a = 144 ∧ b = c) S2 S3 := by rw [← hS3]; exact of_i ⟨rfl, rfl⟩ of_refl
      have m3 : mh_g T n f m t k u (c + 1) l w i S3 := mh_w o3 (fun a b z => by omega) m2
      obtain ⟨S4, f4, m4, a4, o4⟩ := mh_keep (x := Int32.ofNat c) m3 hk
      obtain ⟨S5, f5, o5, r5⟩ := mt_pass h8 m4.1 (by rw [h1]; decide)
      rw [f4, wd_d_s, f5, wd_d_s]
      rw [h1] at r5
      have O5 : of_f (mp_W f m t k u c l H) S S5 := mp_of_f2 nx_W_W (mp_of_f2 mw_k_W (mp_of_f2 (fun a b z => Or.inr (Or.inr (Or.inr (Or.inl ⟨by omega, by omega, by omega⟩)))) (of_mono (fun a b z => by
        rcases z with z | z | z
        · exact Or.inr (Or.inr (Or.inr (Or.inl ⟨by omega, by omega, by omega⟩)))
        · exact Or.inr (Or.inr (Or.inr (Or.inl ⟨by omega, by omega, by omega⟩)))
        · exact Or.inl ⟨z.1, by omega⟩) o2) o3) o4) o5
      refine ⟨S5, rfl, O5, ?_⟩
      cases q : ps_take (tk_K T n) 1 i with
      | error e => rw [q] at r5; exact r5
      | ok j =>
        rw [q] at r5
        refine ⟨mh_nx o5 m4 r5, c, ?_, ?_⟩
        · rw [o5.1 155 k (by unfold nx_W; omega)]; exact a4
        · refine ⟨Nat.le_refl _, by show c < c + 1; omega, Or.inl ⟨rfl, rfl, ?_, ?_⟩⟩
          · rw [o5.1 143 c (by unfold nx_W; omega), o4.1 143 c (by unfold mw_k; omega), o3.1 143 c (by omega)]; exact a2
          · rw [o5.1 144 c (by unfold nx_W; omega), o4.1 144 c (by unfold mw_k; omega), ← hS3, fr_eq]; exact hv
    rcases hs with rfl | rfl
    · rw [if_pos rfl, if_pos rfl]
      exact hgo _ (by rw [ea, Int32.one_mul])
    · rw [if_neg (show ¬(-1 : Int32) = 1 by decide), if_neg (by decide)]
      exact hgo _ (by rw [ea, Int32.neg_eq_neg_one_mul])
  · rw [if_neg (fun z => h1 (t1.mp z))]
    obtain ⟨S2, e2, o2, r2⟩ := mt_stop (x := 2) (by decide) hm.1
    unfold fn_Mo_onAtom_71 fn_Mo_onAtom_116 fn_Mo_onAtom_283
    rw [e2, wd_d_s, if_neg (by rw [r2.2.1]; exact (show ¬(2 : Int32) = 0 by decide))]
    refine ⟨S2, rfl, of_mono nx_W_W o2, ?_⟩
    unfold ps_take
    rw [if_neg h1]
    exact r2
end Ma
end
/-! part 82 -/
section
/-! The reference: the arguments of a call. -/
section Mc
variable {T : Nat → Int32} {H n f r d m t k u c l w i : Nat} {S S' S1 : wd_S} {e : ps_E} {self : ps_P} {sc : List (Int64 × Nat)}
theorem mr_g_o {W : Nat → Nat → Prop} {lo hi al ah nl nh : Nat} (ho : of_f W S S') (h1 : ∀ a x, 143 ≤ a → a ≤ 148 → lo ≤ x → x < hi → ¬W a x) (h2 : ∀ x, al ≤ x → x < ah → ¬W 149 x) (h3 : ∀ x, nl ≤ x → x < nh → ¬W 142 (16 * f + x)) : mr_g f lo hi al ah nl nh S S' :=
  ⟨fun x x1 x2 => ⟨ho.1 _ _ (h1 143 x (by omega) (by omega) x1 x2), ho.1 _ _ (h1 144 x (by omega) (by omega) x1 x2), ho.1 _ _ (h1 145 x (by omega) (by omega) x1 x2), ho.1 _ _ (h1 146 x (by omega) (by omega) x1 x2), ho.1 _ _ (h1 147 x (by omega) (by omega) x1 x2), ho.2.1 _ _ (h1 148 x (by omega) (by omega) x1 x2)⟩, fun x x1 x2 => ho.1 _ _ (h2 x x1 x2), fun x x1 x2 => ho.2.1 _ _ (h3 x x1 x2)⟩
theorem mr_g_t {lo hi al ah nl nh : Nat} {S2 : wd_S} (h1 : mr_g f lo hi al ah nl nh S S1) (h2 : mr_g f lo hi al ah nl nh S1 S2) : mr_g f lo hi al ah nl nh S S2 := by
  refine ⟨fun x x1 x2 => ?_, fun x x1 x2 => (h2.2.1 x x1 x2).trans (h1.2.1 x x1 x2), fun x x1 x2 => (h2.2.2 x x1 x2).trans (h1.2.2 x x1 x2)⟩
  obtain ⟨a1, a2, a3, a4, a5, a6⟩ := h1.1 x x1 x2
  obtain ⟨b1, b2, b3, b4, b5, b6⟩ := h2.1 x x1 x2
  exact ⟨b1.trans a1, b2.trans a2, b3.trans a3, b4.trans a4, b5.trans a5, b6.trans a6⟩
theorem mp_W_n {a b : Nat} (h : ¬(a = 135 ∧ ((3 ≤ b ∧ b ≤ 10) ∨ b = 27 ∨ b = 28 ∨ b = 30 ∨ b = 35 ∨ b = 37 ∨ b = 38)) ∧ ¬(a = 139 ∧ b = f) ∧ ¬(a = 142 ∧ 16 * f + m ≤ b) ∧ ¬(143 ≤ a ∧ a ≤ 148 ∧ c ≤ b) ∧ ¬(a = 149 ∧ l ≤ b) ∧ ¬(a = 151 ∧ u ≤ b) ∧ ¬(a = 152 ∧ t ≤ b) ∧ ¬(a = 153 ∧ t ≤ b) ∧ ¬(a = 155 ∧ k ≤ b)) : ¬mp_W f m t k u c l H a b := by
  rintro (z | z | z | z | z | z | z | z | z)
  · exact h.1 z
  · exact h.2.1 z
  · exact h.2.2.1 ⟨z.1, z.2.1⟩
  · exact h.2.2.2.1 ⟨z.1, z.2.1, z.2.2.1⟩
  · exact h.2.2.2.2.1 ⟨z.1, z.2.1⟩
  · exact h.2.2.2.2.2.1 z
  · exact h.2.2.2.2.2.2.1 z
  · exact h.2.2.2.2.2.2.2.1 z
  · exact h.2.2.2.2.2.2.2.2 z
/-- an argument that is there goes to those that wait -/
theorem mc_arg {x z u' : Nat} (hm : mh_g T n f m (t + 1) (k + 1) u' c l w i S) (ht : t < 4000) (hk : k < 1600) (hu : u' < 1600) (h1 : S.1 152 t = 20) (h2 : S.1 153 t = Int32.ofNat x) (h3 : S.1 155 k = Int32.ofNat z) : ∃ S3, (∀ F, fn_Mo_parse_21 (F + 1) S = wd_d (if S3.1 135 4 = 16 then wd_d (fn_Mo_push 20 (Int32.ofNat x) S3) fun S64 => wd_d (fn_Mo_push 4 0 S64) fun S67 => wd_d (fn_Mo_pass S67) fun S70 => some S70 else wd_d (fn_Mo_push 21 (Int32.ofNat x) S3) fun S58 => wd_d (fn_Mo_push 1 15 S58) fun S61 => some S61) (fn_Mo_parse_21 F)) ∧ mh_g T n f m t k (u' + 1) c l w i S3 ∧ S3.1 151 u' = Int32.ofNat z ∧ of_f (fun a b => (a = 135 ∧ (b = 30 ∨ b = 35 ∨ b = 37)) ∨ (a = 151 ∧ b = u')) S S3 := by
  have hp := mh_pop hm
  obtain ⟨S2, f2, m2, o2⟩ := mh_last hp hk
  have e30 : (wd_i S 135 35 (Int32.ofNat t)).1 135 30 = Int32.ofNat u' := hp.2.2.2.2.2.2.2.1
  have ez : (wd_i S 135 35 (Int32.ofNat t)).1 155 k = Int32.ofNat z := by rw [fr_ne (by omega)]; exact h3
  rw [ez] at f2
  generalize hS3 : wd_i (wd_i S2 151 u' (Int32.ofNat z)) 135 30 (Int32.ofNat (u' + 1)) = S3
  have o3 : of_f (fun a b => (a = 135 ∧ b = 30) ∨ (a = 151 ∧ b = u')) S2 S3 := by
    rw [← hS3]
    exact of_i (Or.inl ⟨rfl, rfl⟩) (of_i (Or.inr ⟨rfl, rfl⟩) of_refl)
  refine ⟨S3, fun F => ?_, ?_, ?_, ?_⟩
  · rw [mp_pop hm ht F, h1, if_neg (by decide), if_neg (by decide), if_pos (by decide), h2]
    congr 1
    unfold fn_Mo_onRest fn_Mo_onRest_261
    rw [if_neg (by decide), if_neg (by decide), if_neg (by decide), if_neg (by decide), if_neg (by decide), if_neg (by decide), if_neg (by decide), if_pos rfl, f2, wd_c_s, e30, if_neg (ms_in hu (by decide)), im_t (by omega)]
    simp only [wd_b]
    have e5 : (wd_i S2 151 u' (Int32.ofNat z)).1 135 30 = Int32.ofNat u' := by rw [fr_ne (by omega)]; exact m2.2.2.2.2.2.2.2.1
    rw [e5, im_s, hS3]
  · have hne : ∀ b, b ≠ 30 → S3.1 135 b = S2.1 135 b := fun b hb => o3.1 _ _ (by omega)
    refine mh_u m2 (funext (fun b => o3.1 _ _ (by omega))) (fun k hk => hne k (by omega)) (o3.2.1 _ _ (by omega)) (o3.1 _ _ (by omega)) ?_ ?_ ?_ ?_ ?_ ?_
    · rw [hne 35 (by decide)]; exact m2.2.2.2.2.2.1
    · rw [hne 37 (by decide)]; exact m2.2.2.2.2.2.2.1
    · rw [← hS3, fr_eq]
    · rw [hne 27 (by decide)]; exact m2.2.2.2.2.2.2.2.2.1
    · rw [hne 28 (by decide)]; exact m2.2.2.2.2.2.2.2.2.2.1
    · rw [hne 38 (by decide)]; exact m2.2.2.2.2.2.2.2.2.2.2
  · rw [← hS3, fr_ne (by omega), fr_eq]
  · exact of_trans (of_i (by omega) of_refl) (of_trans (of_mono (fun a b z => by unfold mw_37 at z; omega) o2) (of_mono (fun a b z => by omega) o3))
/-- the arguments are laid -/
theorem mc_copy {x a u0 : Nat} (hx : x < 15010) : ∀ (q j F : Nat) (S : wd_S), j + q = a → q < F → mh_g T n f m t k (u + a) c (l + j) w i S → u + a ≤ 1600 → l + a ≤ 15010 → k < 1600 → ∃ S', fn_Mo_onRest_210 F (Int32.ofNat x) (Int32.ofNat u0) (Int32.ofNat (u + j)) S = some S' ∧ mh_g T n f m t (k + 1) u0 c (l + a) w i S' ∧ S'.1 155 k = Int32.ofNat x ∧ (∀ b, l + j ≤ b → b < l + a → S'.1 149 b = S.1 151 (u + (b - l))) ∧ of_f (fun a' b => (a' = 135 ∧ (b = 28 ∨ b = 30 ∨ b = 37)) ∨ (a' = 149 ∧ l + j ≤ b ∧ b < l + a) ∨ (a' = 155 ∧ b = k)) S S' := by
  intro q
  induction q with
  | zero =>
    intro j F S hj hF hm h1 h2 h3
    obtain ⟨F, rfl⟩ : ∃ g, F = g + 1 := ⟨F - 1, by omega⟩
    have ej : j = a := by omega
    subst ej
    rw [fn_Mo_onRest_210, hm.2.2.2.2.2.2.2.1, if_neg (fun z => by have := (im_lt (by omega) (by omega)).mp z; omega)]
    unfold fn_Mo_onRest_261
    simp only [wd_b]
    have o1 : of_f (fun a b => a = 135 ∧ b = 30) S (wd_i S 135 30 (Int32.ofNat u0)) := of_i ⟨rfl, rfl⟩ of_refl
    have m1 : mh_g T n f m t k u0 c (l + j) w i (wd_i S 135 30 (Int32.ofNat u0)) := by
      have hne : ∀ b, b ≠ 30 → (wd_i S 135 30 (Int32.ofNat u0)).1 135 b = S.1 135 b := fun b hb => o1.1 _ _ (by omega)
      refine mh_u hm (funext (fun b => o1.1 _ _ (by omega))) (fun k hk => hne k (by omega)) rfl (o1.1 _ _ (by omega)) ?_ ?_ fr_eq ?_ ?_ ?_
      · rw [hne 35 (by decide)]; exact hm.2.2.2.2.2.1
      · rw [hne 37 (by decide)]; exact hm.2.2.2.2.2.2.1
      · rw [hne 27 (by decide)]; exact hm.2.2.2.2.2.2.2.2.1
      · rw [hne 28 (by decide)]; exact hm.2.2.2.2.2.2.2.2.2.1
      · rw [hne 38 (by decide)]; exact hm.2.2.2.2.2.2.2.2.2.2
    obtain ⟨S2, f2, m2, a2, o2⟩ := mh_keep (x := Int32.ofNat x) m1 h3
    rw [f2, wd_d_s]
    exact ⟨S2, rfl, m2, a2, fun b b1 b2 => by omega, of_trans (of_mono (fun a b z => by omega) o1) (of_mono (fun a b z => by unfold mw_k at z; omega) o2)⟩
  | succ q ih =>
    intro j F S hj hF hm h1 h2 h3
    obtain ⟨F, rfl⟩ : ∃ g, F = g + 1 := ⟨F - 1, by omega⟩
    have e28 := hm.2.2.2.2.2.2.2.2.2.1
    rw [fn_Mo_onRest_210, hm.2.2.2.2.2.2.2.1, if_pos ((im_lt (by omega) (by omega)).mpr (by omega)), if_neg (ms_in (show u + j < 1600 by omega) (by decide)), e28, if_neg (ms_in (show l + j < 15010 by omega) (by decide)), im_t (by omega), im_t (by omega)]
    simp only [wd_b]
    have e28' : (wd_i S 149 (l + j) (S.1 151 (u + j))).1 135 28 = Int32.ofNat (l + j) := by rw [fr_ne (by omega)]; exact e28
    rw [e28', im_s, im_s]
    generalize hS2 : wd_i (wd_i S 149 (l + j) (S.1 151 (u + j))) 135 28 (Int32.ofNat (l + j + 1)) = S2
    have o2 : of_f (fun a b => (a = 135 ∧ b = 28) ∨ (a = 149 ∧ b = l + j)) S S2 := by
      rw [← hS2]
      exact of_i (Or.inl ⟨rfl, rfl⟩) (of_i (Or.inr ⟨rfl, rfl⟩) of_refl)
    have m2 : mh_g T n f m t k (u + a) c (l + (j + 1)) w i S2 := by
      have hne : ∀ b, b ≠ 28 → S2.1 135 b = S.1 135 b := fun b hb => o2.1 _ _ (by omega)
      refine mh_u hm (funext (fun b => o2.1 _ _ (by omega))) (fun k hk => hne k (by omega)) (o2.2.1 _ _ (by omega)) (o2.1 _ _ (by omega)) ?_ ?_ ?_ ?_ ?_ ?_
      · rw [hne 35 (by decide)]; exact hm.2.2.2.2.2.1
      · rw [hne 37 (by decide)]; exact hm.2.2.2.2.2.2.1
      · rw [hne 30 (by decide)]; exact hm.2.2.2.2.2.2.2.1
      · rw [hne 27 (by decide)]; exact hm.2.2.2.2.2.2.2.2.1
      · rw [← hS2, fr_eq, Nat.add_assoc]
      · rw [hne 38 (by decide)]; exact hm.2.2.2.2.2.2.2.2.2.2
    obtain ⟨S3, f3, m3, a3, b3, o3⟩ := ih (j + 1) F S2 (by omega) (by omega) m2 h1 h2 h3
    refine ⟨S3, by rw [Nat.add_assoc u j 1]; exact f3, m3, a3, fun b b1 b2 => ?_, of_trans (of_mono (fun a b z => by omega) o2) (of_mono (fun a b z => by omega) o3)⟩
    by_cases hb : b = l + j
    · subst hb
      rw [o3.1 149 (l + j) (by omega), ← hS2, fr_ne (by omega), fr_eq, show l + j - l = j by omega]
    · rw [b3 b (by omega) b2, o2.1 151 _ (by omega)]
theorem mc_closed {x a : Nat} (hm : mh_g T n f m (t + 1) k (u + a) c l w i S) (ht : t < 4000) (hk : k < 1600) (hu : u + a ≤ 1600) (hl : l + a ≤ 15010) (hx : x < 3003) (h1 : S.1 152 t = 21) (h2 : S.1 153 t = Int32.ofNat x) (h3 : S.1 145 x = Int32.ofNat u) : ∃ S', mp_go 1 S S' ∧ mh_g T n f m t (k + 1) u c (l + a) w i S' ∧ S'.1 155 k = Int32.ofNat x ∧ S'.1 144 x = Int32.ofNat l ∧ S'.1 145 x = Int32.ofNat a ∧ (∀ b, l ≤ b → b < l + a → S'.1 149 b = S.1 151 (u + (b - l))) ∧ of_f (fun a' b => (a' = 135 ∧ (b = 28 ∨ b = 30 ∨ b = 35 ∨ b = 37)) ∨ ((a' = 144 ∨ a' = 145) ∧ b = x) ∨ (a' = 149 ∧ l ≤ b ∧ b < l + a) ∨ (a' = 155 ∧ b = k)) S S' := by
  have hp := mh_pop hm
  have hin := ms_in (show x < 15010 by omega) (by decide)
  have e28 := hp.2.2.2.2.2.2.2.2.2.1
  have e30 := hp.2.2.2.2.2.2.2.1
  have e145 : (wd_i S 135 35 (Int32.ofNat t)).1 145 x = Int32.ofNat u := by rw [fr_ne (by omega)]; exact h3
  have es : Int32.ofNat (u + a) - Int32.ofNat u = Int32.ofNat a := by
    rw [← Int32.ofNat_sub _ _ (Nat.le_add_right u a), Nat.add_sub_cancel_left]
  generalize hS2 : wd_i (wd_i (wd_i S 135 35 (Int32.ofNat t)) 144 x (Int32.ofNat l)) 145 x (Int32.ofNat a) = S2
  have o2 : of_f (fun a' b => (a' = 135 ∧ b = 35) ∨ ((a' = 144 ∨ a' = 145) ∧ b = x)) S S2 := by
    rw [← hS2]
    exact of_i (by omega) (of_i (by omega) (of_i (by omega) of_refl))
  have o2' : of_f (fun a' b => (a' = 144 ∨ a' = 145) ∧ b = x) (wd_i S 135 35 (Int32.ofNat t)) S2 := by
    rw [← hS2]
    exact of_i (by omega) (of_i (by omega) of_refl)
  have m2 : mh_g T n f m t k (u + a) c (l + 0) w i S2 := mh_w o2' (fun a b z => by omega) hp
  obtain ⟨S3, f3, m3, a3, b3, o3⟩ := mc_copy (u0 := u) (x := x) (a := a) (by omega) a 0 wd_F S2 (Nat.zero_add _) (by rw [show wd_F = 1000000 from rfl]; omega) m2 hu hl hk
  have hcode : fn_Mo_onRest 21 (Int32.ofNat x) (wd_i S 135 35 (Int32.ofNat t)) = some S3 := by
    unfold fn_Mo_onRest
    rw [if_neg (by decide), if_neg (by decide), if_neg (by decide), if_neg (by decide), if_neg (by decide), if_neg (by decide), if_neg (by decide), if_neg (by decide), if_neg hin, if_neg hin]
    simp only [wd_b]
    rw [if_neg hin, im_t (by omega), e28, e145]
    have e30' : (wd_i (wd_i S 135 35 (Int32.ofNat t)) 144 x (Int32.ofNat l)).1 135 30 = Int32.ofNat (u + a) := by rw [fr_ne (by omega)]; exact e30
    rw [e30', es, hS2]
    exact f3
  refine ⟨S3, mp_g1 (fun F => by rw [mp_pop hm ht F, h1, h2, if_neg (by decide), if_neg (by decide), if_pos (by decide)]) hcode, m3, a3, ?_, ?_, fun b b1 b2 => ?_, ?_⟩
  · rw [o3.1 144 x (by omega), ← hS2, fr_ne (by omega), fr_eq]
  · rw [o3.1 145 x (by omega), ← hS2, fr_eq]
  · rw [b3 b b1 b2, o2.1 151 _ (by omega)]
  · exact of_trans (of_mono (fun a b z => by omega) o2) (of_mono (fun a b z => by omega) o3)
end Mc
end
/-! part 83 -/
section
/-! The reference: further arguments. -/
section Mg
variable {T : Nat → Int32} {H n f r d m t k u c l w i : Nat} {S S' S1 : wd_S} {e : ps_E} {self : ps_P} {sc : List (Int64 × Nat)}
/-- what the arguments from i on come to -/
def mc_M (T : Nat → Int32) (n f m t k u c l w d i x : Nat) (zl : Nat) (q : Except ps_E ((List tr_T × List (Nat × Nat) × Nat × Nat × Nat) × Nat)) (g : Nat) (S' : wd_S) : Prop := match q with
  | .error e => mt_e T n e S' ∧ g + 3 ≤ 12 * (1501 - i)
  | .ok v => g + 3 ≤ 12 * (v.2 - i) ∧ ∃ l', l ≤ l' ∧ l' + v.1.1.length + 1 + i ≤ l + v.2 ∧ mh_g T n f v.1.2.2.2.2 (t + 1) k (u + (zl + 1 + v.1.1.length)) (c + v.1.2.2.1) l' w v.2 S' ∧ S'.1 152 t = 21 ∧ S'.1 153 t = Int32.ofNat x ∧ ∃ zs' : List Nat, zs'.length = v.1.1.length ∧ (∀ j, (hj : j < zs'.length) → S'.1 151 (u + (zl + 1 + j)) = Int32.ofNat zs'[j]) ∧ ∃ rg : Nat → Nat, rg 0 = c ∧ rg v.1.1.length = c + v.1.2.2.1 ∧ ∀ j, (hj : j < zs'.length) → mr_t T n f S' (rg j) (rg (j + 1)) l l' m v.1.2.2.2.2 d zs'[j] (tr_ls v.1.1 j)
def mc_R (T : Nat → Int32) (n f H m t k u c l w d i x : Nat) (zs : List Nat) (S : wd_S) (q : Except ps_E ((List tr_T × List (Nat × Nat) × Nat × Nat × Nat) × Nat)) (g : Nat) (S' : wd_S) : Prop := of_f (mp_W f m t k (u + zs.length) c l H) S S' ∧ mc_M T n f m t k u c l w d i x zs.length q g S'
theorem mc_args (h8 : n ≤ 8000) (hE : mp_C T n f H r 0 0 d 1 4 (self sc)) (hgd : ∀ sc i m q, self sc i m = .ok q → ps_good (tk_K T n) d i m q) {x : Nat} (ht : t + 1 + 12 * r ≤ 300) (hk : k + 4 * r ≤ 100) (hw : w + r = 24 ∧ H ≤ 3002) : ∀ (q i m c l z : Nat) (zs : List Nat) (S : wd_S), 1500 < i + q → mh_g T n f m (t + 1) (k + 1) (u + zs.length) c l w i S → S.1 152 t = 20 → S.1 153 t = Int32.ofNat x → S.1 155 k = Int32.ofNat z → u + zs.length + 1 ≤ i → c + 1501 ≤ H + i → l + 1501 ≤ H + i → ∃ g S', mp_go g S S' ∧ S'.1 151 (u + zs.length) = Int32.ofNat z ∧ mc_R T n f H m t k u c l w d i x zs S (ps_more (tk_K T n) self sc q i m) g S' := by
  intro q
  induction q with
  | zero =>
    intro i m c l z zs S hq hm
    have := hm.1.2.2.2.2.1
    omega
  | succ q ih =>
    intro i m c l z zs S hq hm h1 h2 h3 hu hc hl
    have hi := hm.1.2.2.2.2.1
    obtain ⟨S3, f3, m3, a3, o3⟩ := mc_arg hm (by omega) (by omega) (by omega) h1 h2 h3
    have tk : S3.1 135 4 = 16 ↔ tk_K T n i = 17 := ma_tok (kk := 17) m3.1 (by decide)
    have O3 : of_f (mp_W f m t k (u + zs.length) c l H) S S3 := of_mono (fun a b z => by
      rcases z with z | z
      · exact Or.inl ⟨z.1, by omega⟩
      · exact Or.inr (Or.inr (Or.inr (Or.inr (Or.inr (Or.inl ⟨z.1, by omega⟩)))))) o3
    unfold ps_more ps_args
    by_cases hk17 : tk_K T n i = 17
    · rw [if_pos hk17]
      rw [if_pos (tk.mpr hk17)] at f3
      obtain ⟨S4, f4, m4, x4, o4⟩ := mh_push (xs := []) (x := 20) (y := Int32.ofNat x) m3 (by show t + 0 < 4000; omega) (fun j hj => absurd hj (Nat.not_lt_zero _))
      obtain ⟨S5, f5, m5, x5, o5⟩ := mh_push (x := 4) (y := 0) m4 (by show t + 1 < 4000; omega) x4
      obtain ⟨S6, f6, o6, r6⟩ := mt_pass h8 m5.1 (by rw [hk17]; decide)
      rw [hk17] at r6
      rw [f4, wd_d_s, f5, wd_d_s, f6, wd_d_s] at f3
      have G1 : mp_go 1 S S6 := mp_g1 f3 rfl
      have O6 : of_f (mp_W f m t k (u + zs.length) c l H) S S6 := mp_of_f2 nx_W_W (mp_of_f2 (fun a b z => mp_le (Nat.le_refl _) (Nat.le_succ _) (Nat.le_refl _) (Nat.le_refl _) (Nat.le_refl _) (Nat.le_refl _) a b (mw_p_W a b z)) (mp_of_f2 mw_p_W O3 o4) o5) o6
      have a6 : S6.1 151 (u + zs.length) = Int32.ofNat z := by
        rw [o6.1 151 _ (by unfold nx_W; omega), o5.1 151 _ (by unfold mw_p; omega), o4.1 151 _ (by unfold mw_p; omega)]
        exact a3
      cases q1 : ps_take (tk_K T n) 17 i with
      | error e =>
        rw [q1] at r6
        exact ⟨1, S6, G1, a6, O6, r6, by omega⟩
      | ok i1 =>
        obtain ⟨-, t2, rfl, t4⟩ := ps_take_ok q1
        rw [q1] at r6
        have m6 := mh_nx o6 m5 r6
        have hs6 : mh_s t ([] ++ [(20, Int32.ofNat x)] ++ [(4, 0)]) S6 := mh_s_o (fun b _ => ⟨o6.1 152 b (by unfold nx_W; omega), o6.1 153 b (by unfold nx_W; omega)⟩) x5
        obtain ⟨v1, v2⟩ := hs6 0 (show 0 < 2 by decide)
        obtain ⟨v3, v4⟩ := hs6 1 (show 1 < 2 by decide)
        obtain ⟨g2, S7, G2, O7, R7⟩ := hE (i + 1) m (t + 1) k (u + zs.length + 1) c l w S6 m6 v3 (by omega) (by omega) (by omega) (by omega) (by omega) hw
        have O7' : of_f (mp_W f m t k (u + zs.length) c l H) S S7 := mp_of_f2 (mp_le (Nat.le_refl _) (Nat.le_succ _) (Nat.le_refl _) (Nat.le_succ _) (Nat.le_refl _) (Nat.le_refl _)) O6 O7
        have a7 : S7.1 151 (u + zs.length) = Int32.ofNat z := by
          rw [O7.1 151 _ (mp_W_n (by omega))]
          exact a6
        show ∃ g S', mp_go g S S' ∧ S'.1 151 (u + zs.length) = Int32.ofNat z ∧ mc_R T n f H m t k u c l w d i x zs S (ps_b (ps_b (self sc (i + 1) m) _) _) g S'
        cases q2 : self sc (i + 1) m with
        | error e =>
          rw [q2] at R7
          exact ⟨1 + g2, S7, mp_got G1 G2, a7, O7', R7.1, by have := R7.2; omega⟩
        | ok v =>
          rw [q2] at R7
          obtain ⟨c2, l2, L1, L2, M7, y, Y7, D7⟩ := R7
          obtain ⟨p1, p2, p3, p4, p5, p6, p7, -⟩ := hgd _ _ _ v q2
          have w1 : S7.1 152 t = 20 := by rw [O7.1 152 t (mp_W_n (by omega))]; exact v1
          have w2 : S7.1 153 t = Int32.ofNat x := by rw [O7.1 153 t (mp_W_n (by omega))]; exact v2
          have el : (zs ++ [z]).length = zs.length + 1 := by rw [List.length_append]; rfl
          have M7' : mh_g T n f v.2.2.2.2 (t + 1) (k + 1) (u + (zs ++ [z]).length) (c + v.2.2.1) l2 w v.2.2.2.1 S7 := by
            rw [el]
            exact M7
          obtain ⟨g3, S8, G3, a8, O8, R8⟩ := ih v.2.2.2.1 v.2.2.2.2 (c + v.2.2.1) l2 y (zs ++ [z]) S7 (by omega) M7' w1 w2 Y7 (by rw [el]; omega) (by omega) (by omega)
          rw [el] at O8 a8
          have O8' : of_f (mp_W f m t k (u + zs.length) c l H) S S8 := mp_of_f2 (mp_le p3 (Nat.le_refl _) (Nat.le_refl _) (by omega) (by omega) L1) O7' O8
          have a9 : S8.1 151 (u + zs.length) = Int32.ofNat z := by
            rw [O8.1 151 _ (mp_W_n (by omega))]
            exact a7
          refine ⟨1 + g2 + g3, S8, mp_got (mp_got G1 G2) G3, a9, O8', ?_⟩
          unfold ps_more at R8
          show mc_M T n f m t k u c l w d i x zs.length (ps_b (ps_b (ps_args (tk_K T n) self sc q v.2.2.2.1 v.2.2.2.2) _) _) _ S8
          cases q3 : ps_args (tk_K T n) self sc q v.2.2.2.1 v.2.2.2.2 with
          | error e =>
            rw [q3] at R8
            exact ⟨R8.1, by have := R8.2; omega⟩
          | ok r' =>
            rw [q3] at R8
            obtain ⟨j1, j2, j3, j4, j5, -⟩ := ps_args_good hgd _ _ _ _ q3
            have R8 : mc_M T n f v.2.2.2.2 t k u (c + v.2.2.1) l2 w d v.2.2.2.1 x (zs ++ [z]).length (ps_b (ps_take (tk_K T n) 16 r'.2.2.2.1) (fun i2 => .ok (r', i2))) g3 S8 := R8
            rw [el] at R8
            show mc_M T n f m t k u c l w d i x zs.length (ps_b (ps_take (tk_K T n) 16 r'.2.2.2.1) _) _ S8
            cases q4 : ps_take (tk_K T n) 16 r'.2.2.2.1 with
            | error e =>
              rw [q4] at R8
              exact ⟨R8.1, by have := R8.2; omega⟩
            | ok i2 =>
              rw [q4] at R8
              obtain ⟨-, t6, rfl, -⟩ := ps_take_ok q4
              obtain ⟨k1, l3, k2, k3, k4, k5, k6, zs', k7, k8, rg, rg0, rg1, k9⟩ := R8
              have k1 : g3 + 3 ≤ 12 * (r'.2.2.2.1 + 1 - v.2.2.2.1) := k1
              have k3 : l3 + r'.1.length + 1 + v.2.2.2.1 ≤ l2 + (r'.2.2.2.1 + 1) := k3
              have k4 : mh_g T n f r'.2.2.2.2 (t + 1) k (u + (zs.length + 1 + 1 + r'.1.length)) (c + v.2.2.1 + r'.2.2.1) l3 w (r'.2.2.2.1 + 1) S8 := k4
              have k9 : ∀ j, (hj : j < zs'.length) → mr_t T n f S8 (rg j) (rg (j + 1)) l2 l3 v.2.2.2.2 r'.2.2.2.2 d zs'[j] (tr_ls r'.1 j) := k9
              have rg1 : rg r'.1.length = c + v.2.2.1 + r'.2.2.1 := rg1
              have k7 : zs'.length = r'.1.length := k7
              refine ⟨?_, l3, by omega, ?_, ?_, k5, k6, y :: zs', ?_, fun j hj => ?_, (fun j => if j = 0 then c else rg (j - 1)), if_pos rfl, ?_, fun j hj => ?_⟩
              · show 1 + g2 + g3 + 3 ≤ 12 * (r'.2.2.2.1 + 1 - i)
                omega
              · show l3 + (r'.1.length + 1) + 1 + i ≤ l + (r'.2.2.2.1 + 1)
                omega
              · show mh_g T n f r'.2.2.2.2 (t + 1) k (u + (zs.length + 1 + (r'.1.length + 1))) (c + (v.2.2.1 + r'.2.2.1)) l3 w (r'.2.2.2.1 + 1) S8
                rw [show u + (zs.length + 1 + (r'.1.length + 1)) = u + (zs.length + 1 + 1 + r'.1.length) by omega, ← Nat.add_assoc c]
                exact k4
              · show zs'.length + 1 = r'.1.length + 1
                rw [k7]
              · cases j with
                | zero => exact a8
                | succ j =>
                  have := k8 j (Nat.lt_of_succ_lt_succ hj)
                  rw [show u + (zs.length + 1 + (j + 1)) = u + (zs.length + 1 + 1 + j) by omega]
                  exact this
              · show (if r'.1.length + 1 = 0 then c else rg (r'.1.length + 1 - 1)) = c + (v.2.2.1 + r'.2.2.1)
                rw [if_neg (Nat.succ_ne_zero _), Nat.add_sub_cancel, rg1]
                omega
              · show mr_t T n f S8 (if j = 0 then c else rg (j - 1)) (if j + 1 = 0 then c else rg (j + 1 - 1)) l l3 m r'.2.2.2.2 d (y :: zs')[j] (tr_ls (v.1 :: r'.1) j)
                rw [if_neg (Nat.succ_ne_zero j), Nat.add_sub_cancel]
                cases j with
                | zero =>
                  rw [if_pos rfl, rg0]
                  exact mr_t_m (Nat.le_refl _) (Nat.le_refl _) (Nat.le_refl _) k2 (Nat.le_refl _) j3 (mr_g_W O8 (Nat.le_refl _) (Nat.le_refl _) (Nat.le_refl _)) _ _ _ D7
                | succ j =>
                  rw [if_neg (Nat.succ_ne_zero j), Nat.add_sub_cancel]
                  exact mr_t_m (Nat.le_refl _) (Nat.le_refl _) L1 (Nat.le_refl _) p3 (Nat.le_refl _) ⟨fun _ _ _ => ⟨rfl, rfl, rfl, rfl, rfl, rfl⟩, fun _ _ _ => rfl, fun _ _ _ => rfl⟩ _ _ _ (k9 j (Nat.lt_of_succ_lt_succ hj))
    · rw [if_neg hk17]
      rw [if_neg (fun z => hk17 (tk.mp z))] at f3
      obtain ⟨S4, f4, m4, x4, o4⟩ := mh_push (xs := []) (x := 21) (y := Int32.ofNat x) m3 (by show t + 0 < 4000; omega) (fun j hj => absurd hj (Nat.not_lt_zero _))
      obtain ⟨S5, f5, m5, x5, o5⟩ := mh_push (x := 1) (y := 15) m4 (by show t + 1 < 4000; omega) x4
      rw [f4, wd_d_s, f5, wd_d_s] at f3
      have G1 : mp_go 1 S S5 := mp_g1 f3 rfl
      have O5 : of_f (mp_W f m t k (u + zs.length) c l H) S S5 := mp_of_f2 (fun a b z => mp_le (Nat.le_refl _) (Nat.le_succ _) (Nat.le_refl _) (Nat.le_refl _) (Nat.le_refl _) (Nat.le_refl _) a b (mw_p_W a b z)) (mp_of_f2 mw_p_W O3 o4) o5
      obtain ⟨v1, v2⟩ := x5 0 (show 0 < 2 by decide)
      obtain ⟨v3, v4⟩ := x5 1 (show 1 < 2 by decide)
      have v3 : S5.1 152 (t + 1) = 1 := v3
      have v4 : S5.1 153 (t + 1) = lx_cv 16 := v4
      obtain ⟨S6, G2, o6, R6⟩ := mp_want (kd := 16) h8 m5 (by show t + 1 < 4000; omega) v3 v4 (by decide) (by decide)
      have O6 : of_f (mp_W f m t k (u + zs.length) c l H) S S6 := mp_of_f2 (fun a b z => by
        rcases z with z | z
        · exact nx_W_W a b z
        · exact mw_35_W a b z) O5 o6
      have a6 : S6.1 151 (u + zs.length) = Int32.ofNat z := by
        rw [o6.1 151 _ (by unfold nx_W mw_35; omega), o5.1 151 _ (by unfold mw_p; omega), o4.1 151 _ (by unfold mw_p; omega)]
        exact a3
      refine ⟨1 + 1, S6, mp_got G1 G2, a6, O6, ?_⟩
      show mc_M T n f m t k u c l w d i x zs.length (ps_b (ps_take (tk_K T n) 16 i) _) _ S6
      cases q1 : ps_take (tk_K T n) 16 i with
      | error e =>
        rw [q1] at R6
        exact ⟨R6, by omega⟩
      | ok i2 =>
        rw [q1] at R6
        obtain ⟨-, t6, rfl, -⟩ := ps_take_ok q1
        refine ⟨by show 1 + 1 + 3 ≤ 12 * (i + 1 - i); omega, l, Nat.le_refl _, by show l + 0 + 1 + i ≤ l + (i + 1); omega, ?_, ?_, ?_, [], rfl, fun j hj => absurd hj (Nat.not_lt_zero _), fun _ => c, rfl, rfl, fun j hj => absurd hj (Nat.not_lt_zero _)⟩
        · exact R6
        · rw [o6.1 152 t (by unfold nx_W mw_35; omega)]; exact v1
        · rw [o6.1 153 t (by unfold nx_W mw_35; omega)]; exact v2
end Mg
end
/-! part 84 -/
section
/-! The reference: atoms. -/
section Mb
variable {T : Nat → Int32} {H n f r d m t k u c l w i : Nat} {S S' S1 : wd_S} {e : ps_E} {self : ps_P} {sc : List (Int64 × Nat)}
theorem mt_e_o {e : ps_E} (h : mt_e T n e S) (h1 : S'.1 135 9 = S.1 135 9) (h2 : S'.1 135 10 = S.1 135 10) : mt_e T n e S' := ⟨h.1, h1.trans h.2.1, h2.trans h.2.2⟩
theorem mb_in {W : Nat → Nat → Prop} (hcH : c < H) (hw : ∀ a b, W a b → (143 ≤ a ∧ a ≤ 148 ∧ b = c) ∨ (a = 135 ∧ b = 27)) : ∀ a b, W a b → mp_W f m t k u c l H a b := fun a b z => by
  rcases hw a b z with z | z
  · exact Or.inr (Or.inr (Or.inr (Or.inl ⟨z.1, z.2.1, by omega, by omega⟩)))
  · exact Or.inl ⟨z.1, by omega⟩
/-- a call whose bracket is open, with node c -/
theorem mb_call (h8 : n ≤ 8000) (hE : mp_C T n f H r 0 0 d 1 4 (self sc)) (hgd : ∀ sc i m q, self sc i m = .ok q → ps_good (tk_K T n) d i m q) {o : Nat} (ht : t + 1 + 12 * r ≤ 300) (hk : k + 4 * r ≤ 100) (hw : w + r = 24 ∧ H ≤ 3002) (hm : mh_g T n f m t k u (c + 1) l w i S) (hi : i = o + 2) (hu : u ≤ i) (hc : c + 1501 ≤ H + o) (hl : l + 1501 ≤ H + o) (e143 : S.1 143 c = 8) (e147 : S.1 147 c = Int32.ofNat (tk_p T n o)) (e148 : S.2.1 148 c = tk_V T n o) (e145 : S.1 145 c = Int32.ofNat u) : ∃ g S1 S', (if S.1 135 4 = 15 then fn_Mo_onAtom_220 (Int32.ofNat c) S else wd_d (fn_Mo_push 20 (Int32.ofNat c) S) fun S68 => wd_d (fn_Mo_push 4 0 S68) fun S71 => fn_Mo_onAtom_242 S71) = some S1 ∧ mp_go g S1 S' ∧ of_f (mp_W f m t k u c l H) S S' ∧ match (if tk_K T n i = 16 then ps_b (ps_take (tk_K T n) 16 i) fun i2 => .ok (tr_mk 5 (Int32.ofNat o) o 0 (tr_ls []), [(o, 1)], 1, i2, m) else ps_b (self sc i m) fun q => ps_b (ps_args (tk_K T n) self sc 1500 q.2.2.2.1 q.2.2.2.2) fun r => ps_b (ps_take (tk_K T n) 16 r.2.2.2.1) fun i2 => .ok (tr_mk 5 (Int32.ofNat o) o (r.1.length + 1) (tr_ls (q.1 :: r.1)), (o, r.1.length + 2) :: (q.2.1 ++ r.2.1), 1 + q.2.2.1 + r.2.2.1, i2, r.2.2.2.2) : Except ps_E ps_O) with
    | .error e => mt_e T n e S' ∧ g + 1 ≤ 12 * (1501 - i)
    | .ok q => g + 1 ≤ 12 * (q.2.2.2.1 - i) ∧ ∃ l', l ≤ l' ∧ l' + o ≤ l + q.2.2.2.1 ∧ mh_g T n f q.2.2.2.2 t (k + 1) u (c + q.2.2.1) l' w q.2.2.2.1 S' ∧ ∃ y, S'.1 155 k = Int32.ofNat y ∧ mr_t T n f S' c (c + q.2.2.1) l l' m q.2.2.2.2 (d + 1) y q.1 := by
  have hi15 := hm.1.2.2.2.2.1
  have tk : S.1 135 4 = 15 ↔ tk_K T n i = 16 := ma_tok (kk := 16) hm.1 (by decide)
  by_cases hk16 : tk_K T n i = 16
  · rw [if_pos hk16, if_pos (tk.mpr hk16)]
    obtain ⟨S4, f4, m4, x4, o4⟩ := mh_push (xs := []) (x := 21) (y := Int32.ofNat c) hm (by show t + 0 < 4000; omega) (fun j hj => absurd hj (Nat.not_lt_zero _))
    obtain ⟨S5, f5, m5, x5, o5⟩ := mh_push (x := 1) (y := 15) m4 (by show t + 1 < 4000; omega) x4
    obtain ⟨v1, v2⟩ := x5 0 (show 0 < 2 by decide)
    obtain ⟨v3, v4⟩ := x5 1 (show 1 < 2 by decide)
    have v3 : S5.1 152 (t + 1) = 1 := v3
    have v4 : S5.1 153 (t + 1) = lx_cv 16 := v4
    obtain ⟨S6, G2, o6, R6⟩ := mp_want (kd := 16) h8 m5 (by show t + 1 < 4000; omega) v3 v4 (by decide) (by decide)
    have O6 : of_f (mp_W f m t k u c l H) S S6 := mp_of_f2 (fun a b z => by
      rcases z with z | z
      · exact nx_W_W a b z
      · exact mw_35_W a b z) (mp_of_f2 (fun a b z => mp_le (Nat.le_refl _) (Nat.le_succ _) (Nat.le_refl _) (Nat.le_refl _) (Nat.le_refl _) (Nat.le_refl _) a b (mw_p_W a b z)) (of_mono mw_p_W o4) o5) o6
    have hcode : fn_Mo_onAtom_220 (Int32.ofNat c) S = some S5 := by
      unfold fn_Mo_onAtom_220 fn_Mo_onAtom_242 fn_Mo_onAtom_283
      rw [f4, wd_d_s, f5, wd_d_s]
    have hrow : ∀ a, 143 ≤ a → a ≤ 147 → S6.1 a c = S.1 a c := fun a y1 y2 => by
      rw [o6.1 a c (by unfold nx_W mw_35; omega), o5.1 a c (by unfold mw_p; omega), o4.1 a c (by unfold mw_p; omega)]
    have hrow8 : S6.2.1 148 c = S.2.1 148 c := by
      rw [o6.2.1 148 c (by unfold nx_W mw_35; omega), o5.2.1 148 c (by unfold mw_p; omega), o4.2.1 148 c (by unfold mw_p; omega)]
    cases q1 : ps_take (tk_K T n) 16 i with
    | error e =>
      rw [q1] at R6
      exact ⟨1, S5, S6, hcode, G2, O6, R6, by omega⟩
    | ok i2 =>
      rw [q1] at R6
      obtain ⟨-, t6, rfl, -⟩ := ps_take_ok q1
      have w1 : S6.1 152 t = 21 := by rw [o6.1 152 t (by unfold nx_W mw_35; omega)]; exact v1
      have w2 : S6.1 153 t = Int32.ofNat c := by rw [o6.1 153 t (by unfold nx_W mw_35; omega)]; exact v2
      have R6' : mh_g T n f m (t + 1) k (u + 0) (c + 1) l w (i + 1) S6 := R6
      obtain ⟨S7, G3, M7, z7, a7, b7, d7, O7⟩ := mc_closed R6' (by omega) (by omega) (by omega) (by omega) (by omega) w1 w2 ((hrow 145 (by omega) (by omega)).trans e145)
      refine ⟨1 + 1, S5, S7, hcode, mp_got G2 G3, mp_of_f2 (fun a b z => by
        rcases z with z | z | z | z
        · exact Or.inl ⟨z.1, by omega⟩
        · exact Or.inr (Or.inr (Or.inr (Or.inl ⟨by omega, by omega, by omega⟩)))
        · exact Or.inr (Or.inr (Or.inr (Or.inr (Or.inl ⟨z.1, by omega⟩))))
        · exact Or.inr (Or.inr (Or.inr (Or.inr (Or.inr (Or.inr (Or.inr (Or.inr ⟨z.1, by omega⟩)))))))) O6 O7, by show 1 + 1 + 1 ≤ 12 * (i + 1 - i); omega, l, Nat.le_refl _, by show l + o ≤ l + (i + 1); omega, M7, c, z7, Nat.le_refl _, by show c < c + 1; omega, ?_⟩
      refine Or.inr (Or.inr (Or.inr (Or.inr (Or.inl ⟨rfl, ?_, ?_, ?_, rfl, b7, l, (fun _ => c + 1), a7, Nat.le_refl _, Nat.le_refl _, Nat.lt_succ_self c, Nat.le_refl _, fun j hj => absurd hj (Nat.not_lt_zero _)⟩))))
      · rw [O7.1 143 c (by omega)]; exact (hrow 143 (by omega) (by omega)).trans e143
      · rw [O7.2.1 148 c (by omega)]; exact hrow8.trans e148
      · rw [O7.1 147 c (by omega)]; exact (hrow 147 (by omega) (by omega)).trans e147
  · rw [if_neg hk16, if_neg (fun z => hk16 (tk.mp z))]
    obtain ⟨S4, f4, m4, x4, o4⟩ := mh_push (xs := []) (x := 20) (y := Int32.ofNat c) hm (by show t + 0 < 4000; omega) (fun j hj => absurd hj (Nat.not_lt_zero _))
    obtain ⟨S5, f5, m5, x5, o5⟩ := mh_push (x := 4) (y := 0) m4 (by show t + 1 < 4000; omega) x4
    obtain ⟨v1, v2⟩ := x5 0 (show 0 < 2 by decide)
    obtain ⟨v3, v4⟩ := x5 1 (show 1 < 2 by decide)
    have hcode : (wd_d (fn_Mo_push 20 (Int32.ofNat c) S) fun S68 => wd_d (fn_Mo_push 4 0 S68) fun S71 => fn_Mo_onAtom_242 S71) = some S5 := by
      unfold fn_Mo_onAtom_242 fn_Mo_onAtom_283
      rw [f4, wd_d_s, f5, wd_d_s]
    have O5 : of_f (mp_W f m t k u c l H) S S5 := mp_of_f2 (fun a b z => mp_le (Nat.le_refl _) (Nat.le_succ _) (Nat.le_refl _) (Nat.le_refl _) (Nat.le_refl _) (Nat.le_refl _) a b (mw_p_W a b z)) (of_mono mw_p_W o4) o5
    obtain ⟨g1, S6, G1, O6, R6⟩ := hE i m (t + 1) k u (c + 1) l w S5 m5 v3 (by omega) (by omega) hu (by omega) (by omega) hw
    have O6' : of_f (mp_W f m t k u c l H) S S6 := mp_of_f2 (mp_le (Nat.le_refl _) (Nat.le_succ _) (Nat.le_refl _) (Nat.le_refl _) (Nat.le_succ _) (Nat.le_refl _)) O5 O6
    have hrow : ∀ a, 143 ≤ a → a ≤ 147 → S6.1 a c = S.1 a c := fun a y1 y2 => by
      rw [O6.1 a c (mp_W_n (by omega)), o5.1 a c (by unfold mw_p; omega), o4.1 a c (by unfold mw_p; omega)]
    have hrow8 : S6.2.1 148 c = S.2.1 148 c := by
      rw [O6.2.1 148 c (mp_W_n (by omega)), o5.2.1 148 c (by unfold mw_p; omega), o4.2.1 148 c (by unfold mw_p; omega)]
    cases q1 : self sc i m with
    | error e =>
      rw [q1] at R6
      exact ⟨g1, S5, S6, hcode, G1, O6', R6.1, R6.2⟩
    | ok q =>
      rw [q1] at R6
      obtain ⟨c1, l1, L1, L2, M6, y, Y6, D6⟩ := R6
      obtain ⟨p1, p2, p3, p4, p5, p6, p7, -⟩ := hgd _ _ _ q q1
      have w1 : S6.1 152 t = 20 := by rw [O6.1 152 t (mp_W_n (by omega))]; exact v1
      have w2 : S6.1 153 t = Int32.ofNat c := by rw [O6.1 153 t (mp_W_n (by omega))]; exact v2
      obtain ⟨g2, S7, G2, a7, O7, R7⟩ := mc_args (u := u) (sc := sc) (x := c) h8 hE hgd ht hk hw 1500 q.2.2.2.1 q.2.2.2.2 (c + 1 + q.2.2.1) l1 y [] S6 (by omega) M6 w1 w2 Y6 (by show u + 0 + 1 ≤ _; omega) (by omega) (by omega)
      have O7 : of_f (mp_W f q.2.2.2.2 t k u (c + 1 + q.2.2.1) l1 H) S6 S7 := O7
      have O7' : of_f (mp_W f m t k u c l H) S S7 := mp_of_f2 (mp_le p3 (Nat.le_refl _) (Nat.le_refl _) (Nat.le_refl _) (by omega) L1) O6' O7
      have hrow' : ∀ a, 143 ≤ a → a ≤ 147 → S7.1 a c = S.1 a c := fun a y1 y2 => by
        rw [O7.1 a c (mp_W_n (by omega))]; exact hrow a y1 y2
      have hrow8' : S7.2.1 148 c = S.2.1 148 c := by rw [O7.2.1 148 c (mp_W_n (by omega))]; exact hrow8
      unfold ps_more at R7
      show ∃ g S1 S', _ ∧ _ ∧ _ ∧ (match (ps_b (ps_args (tk_K T n) self sc 1500 q.2.2.2.1 q.2.2.2.2) fun r => ps_b (ps_take (tk_K T n) 16 r.2.2.2.1) fun i2 => .ok (tr_mk 5 (Int32.ofNat o) o (r.1.length + 1) (tr_ls (q.1 :: r.1)), (o, r.1.length + 2) :: (q.2.1 ++ r.2.1), 1 + q.2.2.1 + r.2.2.1, i2, r.2.2.2.2) : Except ps_E ps_O) with
        | .error e => mt_e T n e S' ∧ g + 1 ≤ 12 * (1501 - i)
        | .ok q => _)
      cases q2 : ps_args (tk_K T n) self sc 1500 q.2.2.2.1 q.2.2.2.2 with
      | error e =>
        rw [q2] at R7
        exact ⟨g1 + g2, S5, S7, hcode, mp_got G1 G2, O7', R7.1, by have := R7.2; omega⟩
      | ok r' =>
        rw [q2] at R7
        obtain ⟨j1, j2, j3, j4, j5, -⟩ := ps_args_good hgd _ _ _ _ q2
        have R7 : mc_M T n f q.2.2.2.2 t k u (c + 1 + q.2.2.1) l1 w d q.2.2.2.1 c 0 (ps_b (ps_take (tk_K T n) 16 r'.2.2.2.1) (fun i2 => .ok (r', i2))) g2 S7 := R7
        show ∃ g S1 S', _ ∧ _ ∧ _ ∧ (match (ps_b (ps_take (tk_K T n) 16 r'.2.2.2.1) fun i2 => .ok (tr_mk 5 (Int32.ofNat o) o (r'.1.length + 1) (tr_ls (q.1 :: r'.1)), (o, r'.1.length + 2) :: (q.2.1 ++ r'.2.1), 1 + q.2.2.1 + r'.2.2.1, i2, r'.2.2.2.2) : Except ps_E ps_O) with
          | .error e => mt_e T n e S' ∧ g + 1 ≤ 12 * (1501 - i)
          | .ok q => _)
        cases q3 : ps_take (tk_K T n) 16 r'.2.2.2.1 with
        | error e =>
          rw [q3] at R7
          exact ⟨g1 + g2, S5, S7, hcode, mp_got G1 G2, O7', R7.1, by have := R7.2; omega⟩
        | ok i2 =>
          rw [q3] at R7
          obtain ⟨-, t6, rfl, -⟩ := ps_take_ok q3
          obtain ⟨k1, l3, k2, k3, k4, k5, k6, zs', k7, k8, rg, rg0, rg1, k9⟩ := R7
          have rg1 : rg r'.1.length = c + 1 + q.2.2.1 + r'.2.2.1 := rg1
          have k1 : g2 + 3 ≤ 12 * (r'.2.2.2.1 + 1 - q.2.2.2.1) := k1
          have k3 : l3 + r'.1.length + 1 + q.2.2.2.1 ≤ l1 + (r'.2.2.2.1 + 1) := k3
          have k4 : mh_g T n f r'.2.2.2.2 (t + 1) k (u + (0 + 1 + r'.1.length)) (c + 1 + q.2.2.1 + r'.2.2.1) l3 w (r'.2.2.2.1 + 1) S7 := k4
          have k7 : zs'.length = r'.1.length := k7
          have k9 : ∀ j, (hj : j < zs'.length) → mr_t T n f S7 (rg j) (rg (j + 1)) l1 l3 q.2.2.2.2 r'.2.2.2.2 d zs'[j] (tr_ls r'.1 j) := k9
          obtain ⟨S8, G3, M8, z8, a8, b8, d8, O8⟩ := mc_closed (x := c) k4 (by omega) (by omega) (by omega) (by omega) (by omega) k5 k6 ((hrow' 145 (by omega) (by omega)).trans e145)
          have hM8 : mh_g T n f r'.2.2.2.2 t (k + 1) u (c + (1 + q.2.2.1 + r'.2.2.1)) (l3 + (0 + 1 + r'.1.length)) w (r'.2.2.2.1 + 1) S8 := by
            rw [show c + (1 + q.2.2.1 + r'.2.2.1) = c + 1 + q.2.2.1 + r'.2.2.1 by omega]
            exact M8
          refine ⟨g1 + g2 + 1, S5, S8, hcode, mp_got (mp_got G1 G2) G3, mp_of_f2 (fun a b z => by
            rcases z with z | z | z | z
            · exact Or.inl ⟨z.1, by omega⟩
            · exact Or.inr (Or.inr (Or.inr (Or.inl ⟨by omega, by omega, by omega⟩)))
            · exact Or.inr (Or.inr (Or.inr (Or.inr (Or.inl ⟨z.1, by omega⟩))))
            · exact Or.inr (Or.inr (Or.inr (Or.inr (Or.inr (Or.inr (Or.inr (Or.inr ⟨z.1, by omega⟩)))))))) O7' O8, by show g1 + g2 + 1 + 1 ≤ 12 * (r'.2.2.2.1 + 1 - i); omega, l3 + (0 + 1 + r'.1.length), by omega, by show l3 + (0 + 1 + r'.1.length) + o ≤ l + (r'.2.2.2.1 + 1); omega, hM8, c, z8, Nat.le_refl _, by show c < c + (1 + q.2.2.1 + r'.2.2.1); omega, ?_⟩
          have hb8 : S8.1 145 c = Int32.ofNat (r'.1.length + 1) := by rw [b8, show 0 + 1 + r'.1.length = r'.1.length + 1 by omega]
          refine Or.inr (Or.inr (Or.inr (Or.inr (Or.inl ⟨rfl, ?_, ?_, ?_, rfl, hb8, l3, (fun j => if j = 0 then c + 1 else rg (j - 1)), a8, by omega, by show l3 + (r'.1.length + 1) ≤ l3 + (0 + 1 + r'.1.length); omega, by show c < c + 1; omega, ?_, fun j hj => ?_⟩))))
          · rw [O8.1 143 c (by omega)]; exact (hrow' 143 (by omega) (by omega)).trans e143
          · rw [O8.2.1 148 c (by omega)]; exact hrow8'.trans e148
          · rw [O8.1 147 c (by omega)]; exact (hrow' 147 (by omega) (by omega)).trans e147
          · show (if r'.1.length + 1 = 0 then c + 1 else rg (r'.1.length + 1 - 1)) ≤ c + (1 + q.2.2.1 + r'.2.2.1)
            rw [if_neg (Nat.succ_ne_zero _), Nat.add_sub_cancel, rg1]
            omega
          · have hj : j < r'.1.length + 1 := hj
            show ∃ z, S8.1 149 (l3 + j) = Int32.ofNat z ∧ mr_u T n f S8 l (l3 + (0 + 1 + r'.1.length)) m r'.2.2.2.2 d (if j = 0 then c + 1 else rg (j - 1)) (if j + 1 = 0 then c + 1 else rg (j + 1 - 1)) z (tr_ls (q.1 :: r'.1) j)
            rw [if_neg (Nat.succ_ne_zero j), Nat.add_sub_cancel]
            have ew : S8.1 149 (l3 + j) = S7.1 151 (u + j) := by
              rw [d8 (l3 + j) (by omega) (by omega), show l3 + j - l3 = j by omega]
            cases j with
            | zero =>
              refine ⟨y, ew.trans a7, ?_⟩
              rw [if_pos rfl, rg0]
              show mr_t T n f S8 (c + 1) (c + 1 + q.2.2.1) l (l3 + (0 + 1 + r'.1.length)) m r'.2.2.2.2 d y q.1
              exact mr_t_m (lo := c + 1) (hi := c + 1 + q.2.2.1) (al := l) (ah := l1) (nl := m) (nh := q.2.2.2.2) (Nat.le_refl _) (Nat.le_refl _) (Nat.le_refl _) (by omega) (Nat.le_refl _) j3 (mr_g_t (mr_g_W O7 (Nat.le_refl _) (Nat.le_refl _) (Nat.le_refl _)) (mr_g_o O8 (fun a x y1 y2 y3 y4 => by omega) (fun x y1 y2 => by omega) (fun x y1 y2 => by omega))) _ _ _ D6
            | succ j =>
              have hj2 : j < zs'.length := by rw [k7]; omega
              refine ⟨zs'[j], ?_, ?_⟩
              · rw [ew, ← k8 j hj2, show u + (0 + 1 + j) = u + (j + 1) by omega]
              · rw [if_neg (Nat.succ_ne_zero j), Nat.add_sub_cancel]
                have hrgm : ∀ q', c + 1 ≤ rg q' ∨ zs'.length < q' := fun q' => by
                  rcases Nat.lt_or_ge zs'.length q' with h | h
                  · exact Or.inr h
                  · have hmono : ∀ j, j < zs'.length → rg j < rg (j + 1) := fun j hj => by
                      have := mr_t_b (k9 j hj)
                      omega
                    have := (mr_mono hmono q' h).1
                    omega
                have hrj := hrgm j
                show mr_t T n f S8 (rg j) (rg (j + 1)) l (l3 + (0 + 1 + r'.1.length)) m r'.2.2.2.2 d zs'[j] (tr_ls r'.1 j)
                exact mr_t_m (Nat.le_refl _) (Nat.le_refl _) L1 (by omega) p3 (Nat.le_refl _) (mr_g_o O8 (fun a x y1 y2 y3 y4 => by omega) (fun x y1 y2 => by omega) (fun x y1 y2 => by omega)) _ _ _ (k9 j hj2)
end Mb
end
