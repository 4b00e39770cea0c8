/-! The reference's loop over a row. -/
theorem fr_ii {S : wd_S} {a k : Nat} {x y : Int32} : wd_i (wd_i S a k x) a k y = wd_i S a k y := by
  unfold wd_i
  have h : wd_u (wd_u S.1 a k x) a k y = wd_u S.1 a k y := by
    funext b m
    unfold wd_u
    by_cases q : b = a ∧ m = k
    · rw [if_pos q, if_pos q]
    · rw [if_neg q, if_neg q, if_neg q]
  simp only [h]
theorem lx_ms {n e f : Nat} {l1 : Int32} {l2 l4 : Int64} {S : wd_S} (hn : S.1 135 2 = Int32.ofNat n) (ha : S.1 135 3 = Int32.ofNat e) (he : e < n) (h8 : n ≤ 8000) (hr : ¬((S.1 136 e < 48 ∨ 57 < S.1 136 e) ∧ (S.1 136 e < 97 ∨ 122 < S.1 136 e))) : fn_Mo_row_7 (f + 1) l1 l2 l4 S = fn_Mo_row_7 f (if l1 = 0 then 0 else if S.1 136 e < 48 ∨ 57 < S.1 136 e then 0 else 1) ((l2 <<< ((8 : Int32).toInt64 &&& 63)) ||| (S.1 136 e).toInt64) (if 0 < lg_cmp l4 100000000000 then l4 else (10 * l4 + (S.1 136 e).toInt64) - 48) (wd_i S 135 3 (Int32.ofNat (e + 1))) := by
  have hb : ¬(Int32.ofNat e < 0 ∨ 8000 ≤ e) := by
    rintro (q | q)
    · exact im_neg (by omega) q
    · omega
  have h57 : ∀ s0 : Int32, fn_Mo_row_57 (fn_Mo_row_7 f) l2 l4 s0 S = fn_Mo_row_7 f s0 ((l2 <<< ((8 : Int32).toInt64 &&& 63)) ||| (S.1 136 e).toInt64) (if 0 < lg_cmp l4 100000000000 then l4 else (10 * l4 + (S.1 136 e).toInt64) - 48) (wd_i S 135 3 (Int32.ofNat (e + 1))) := by
    intro s0
    unfold fn_Mo_row_57 fn_Mo_row_109
    simp only [wd_b]
    rw [ha, im_t (by omega), if_neg hb, if_neg hb, im_s]
    by_cases hc : 0 < lg_cmp l4 100000000000
    · rw [if_pos hc, if_pos hc]
    · rw [if_neg hc, if_neg hc]
  rw [fn_Mo_row_7, hn, ha, if_pos ((im_lt (by omega) (by omega)).mpr he), im_t (by omega), if_neg hb, fo_moRow, wd_c_s, if_neg hr, if_neg (by decide), ha, im_t (by omega), if_neg hb, fo_moDigit, wd_c_s]
  unfold fn_Mo_row_56
  by_cases h1 : l1 = 0
  · rw [if_pos h1, if_pos h1, h57]
  · rw [if_neg h1, if_neg h1]
    by_cases hd : S.1 136 e < 48 ∨ 57 < S.1 136 e
    · rw [if_pos hd, if_pos rfl, h57]
    · rw [if_neg hd, if_neg (by decide), h57]
theorem lx_ml {n a k : Nat} {S : wd_S} (hn : S.1 135 2 = Int32.ofNat n) (h8 : n ≤ 8000) (hr : lx_row (S.1 136) n a k) : ∀ (q j f : Nat), j + q = k → q < f → fn_Mo_row_7 f (lx_fg (S.1 136) a j) (lx_pk (S.1 136) a j) (lx_nm (S.1 136) a j) (wd_i S 135 3 (Int32.ofNat (a + j))) = fn_Mo_row_124 (lx_fg (S.1 136) a k) (lx_pk (S.1 136) a k) (lx_nm (S.1 136) a k) (wd_i S 135 3 (Int32.ofNat (a + k))) := by
  intro q
  induction q with
  | zero =>
    intro j f hj hf
    obtain ⟨f, rfl⟩ : ∃ g, f = g + 1 := ⟨f - 1, by omega⟩
    have e : j = k := by omega
    subst e
    rw [fn_Mo_row_7, fr_eq, fr_ne (by decide), hn]
    rcases hr.2 with h | ⟨h1, h2, h3⟩
    · rw [if_neg (fun h1 => by have := (im_lt (by omega) (by omega)).mp h1; omega)]
    · rw [if_pos ((im_lt (by omega) (by omega)).mpr h1), im_t (by omega), if_neg (by rintro (q | q); exact im_neg (by omega) q; omega), fr_ne (by rintro ⟨q, -⟩; exact absurd q (by decide)), fo_moRow, wd_c_s, show (if (S.1 136 (a + j) < 48 ∨ 57 < S.1 136 (a + j)) ∧ (S.1 136 (a + j) < 97 ∨ 122 < S.1 136 (a + j)) then (0 : Int32) else 1) = 0 from if_pos ⟨h2, h3⟩, if_pos rfl]
  | succ q ih =>
    intro j f hj hf
    obtain ⟨f, rfl⟩ : ∃ g, f = g + 1 := ⟨f - 1, by omega⟩
    obtain ⟨h1, h2⟩ := hr.1 j (by omega)
    have e1 : ∀ m, (wd_i S 135 3 (Int32.ofNat (a + j))).1 136 m = S.1 136 m := fun m => fr_ne (by rintro ⟨q, -⟩; exact absurd q (by decide))
    rw [lx_ms (n := n) (e := a + j) (by rw [fr_ne (by decide), hn]) fr_eq h1 h8 (by rw [e1]; exact h2), e1, fr_ii]
    exact ih (j + 1) f (by omega) (by omega)
