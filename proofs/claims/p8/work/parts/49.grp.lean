/-! part 49 -/
section
/-! The reference's loop over a row. -/
theorem fr_ii {S : wd_S} {a k : Nat} {x y : Int32} : wd_i (wd_i S a k x) a k y = wd_i S a k y := by
  unfold wd_i
  have h : wd_u (wd_u S.1 a k x) a k y = wd_u S.1 a k y := by
    funext b m
    unfold wd_u
    by_cases q : b = a ∧ m = k
    · rw [if_pos q, if_pos q]
    · rw [if_neg q, if_neg q, if_neg q]
  simp only [h]
theorem lx_ms {n e f : Nat} {l1 : Int32} {l2 l4 : Int64} {S : wd_S} (hn : S.1 135 2 = Int32.ofNat n) (ha : S.1 135 3 = Int32.ofNat e) (he : e < n) (h8 : n ≤ 8000) (hr : ¬((S.1 136 e < 48 ∨ 57 < S.1 136 e) ∧ (S.1 136 e < 97 ∨ 122 < S.1 136 e))) : fn_Mo_row_7 (f + 1) l1 l2 l4 S = fn_Mo_row_7 f (if l1 = 0 then 0 else if S.1 136 e < 48 ∨ 57 < S.1 136 e then 0 else 1) ((l2 <<< ((8 : Int32).toInt64 &&& 63)) ||| (S.1 136 e).toInt64) (if 0 < lg_cmp l4 100000000000 then l4 else (10 * l4 + (S.1 136 e).toInt64) - 48) (wd_i S 135 3 (Int32.ofNat (e + 1))) := by
  have hb : ¬(Int32.ofNat e < 0 ∨ 8000 ≤ e) := by
    rintro (q | q)
    · exact im_neg (by omega) q
    · omega
  have h57 : ∀ s0 : Int32, fn_Mo_row_57 (fn_Mo_row_7 f) l2 l4 s0 S = fn_Mo_row_7 f s0 ((l2 <<< ((8 : Int32).toInt64 &&& 63)) ||| (S.1 136 e).toInt64) (if 0 < lg_cmp l4 100000000000 then l4 else (10 * l4 + (S.1 136 e).toInt64) - 48) (wd_i S 135 3 (Int32.ofNat (e + 1))) := by
    intro s0
    unfold fn_Mo_row_57 fn_Mo_row_109
    simp only [wd_b]
    rw [ha, im_t (by omega), if_neg hb, if_neg hb, im_s]
    by_cases hc : 0 < lg_cmp l4 100000000000
    · rw [if_pos hc, if_pos hc]
    · rw [if_neg hc, if_neg hc]
  rw [fn_Mo_row_7, hn, ha, if_pos ((im_lt (by omega) (by omega)).mpr he), im_t (by omega), if_neg hb, fo_moRow, wd_c_s, if_neg hr, if_neg (by decide), ha, im_t (by omega), if_neg hb, fo_moDigit, wd_c_s]
  unfold fn_Mo_row_56
  by_cases h1 : l1 = 0
  · rw [if_pos h1, if_pos h1, h57]
  · rw [if_neg h1, if_neg h1]
    by_cases hd : S.1 136 e < 48 ∨ 57 < S.1 136 e
    · rw [if_pos hd, if_pos rfl, h57]
    · rw [if_neg hd, if_neg (by decide), h57]
theorem lx_ml {n a k : Nat} {S : wd_S} (hn : S.1 135 2 = Int32.ofNat n) (h8 : n ≤ 8000) (hr : lx_row (S.1 136) n a k) : ∀ (q j f : Nat), j + q = k → q < f → fn_Mo_row_7 f (lx_fg (S.1 136) a j) (lx_pk (S.1 136) a j) (lx_nm (S.1 136) a j) (wd_i S 135 3 (Int32.ofNat (a + j))) = fn_Mo_row_124 (lx_fg (S.1 136) a k) (lx_pk (S.1 136) a k) (lx_nm (S.1 136) a k) (wd_i S 135 3 (Int32.ofNat (a + k))) := by
  intro q
  induction q with
  | zero =>
    intro j f hj hf
    obtain ⟨f, rfl⟩ : ∃ g, f = g + 1 := ⟨f - 1, by omega⟩
    have e : j = k := by omega
    subst e
    rw [fn_Mo_row_7, fr_eq, fr_ne (by decide), hn]
    rcases hr.2 with h | ⟨h1, h2, h3⟩
    · rw [if_neg (fun h1 => by have := (im_lt (by omega) (by omega)).mp h1; omega)]
    · rw [if_pos ((im_lt (by omega) (by omega)).mpr h1), im_t (by omega), if_neg (by rintro (q | q); exact im_neg (by omega) q; omega), fr_ne (by rintro ⟨q, -⟩; exact absurd q (by decide)), fo_moRow, wd_c_s, show (if (S.1 136 (a + j) < 48 ∨ 57 < S.1 136 (a + j)) ∧ (S.1 136 (a + j) < 97 ∨ 122 < S.1 136 (a + j)) then (0 : Int32) else 1) = 0 from if_pos ⟨h2, h3⟩, if_pos rfl]
  | succ q ih =>
    intro j f hj hf
    obtain ⟨f, rfl⟩ : ∃ g, f = g + 1 := ⟨f - 1, by omega⟩
    obtain ⟨h1, h2⟩ := hr.1 j (by omega)
    have e1 : ∀ m, (wd_i S 135 3 (Int32.ofNat (a + j))).1 136 m = S.1 136 m := fun m => fr_ne (by rintro ⟨q, -⟩; exact absurd q (by decide))
    rw [lx_ms (n := n) (e := a + j) (by rw [fr_ne (by decide), hn]) fr_eq h1 h8 (by rw [e1]; exact h2), e1, fr_ii]
    exact ih (j + 1) f (by omega) (by omega)
end
/-! part 50 -/
section
/-! Every place has its row; a row of at most ten digits counts alike on both sides. -/
theorem lx_ex (T : Nat → Int32) (n : Nat) : ∀ q a, a + q = n → ∃ k, lx_row T n a k := by
  intro q
  induction q with
  | zero => intro a ha; exact ⟨0, fun j hj => by omega, Or.inl (by omega)⟩
  | succ q ih =>
    intro a ha
    by_cases h : (T a < 48 ∨ 57 < T a) ∧ (T a < 97 ∨ 122 < T a)
    · exact ⟨0, fun j hj => by omega, Or.inr ⟨by omega, h.1, h.2⟩⟩
    · obtain ⟨k, h1, h2⟩ := ih (a + 1) (by omega)
      refine ⟨k + 1, fun j hj => ?_, ?_⟩
      · cases j with
        | zero => exact ⟨by omega, h⟩
        | succ j =>
          have := h1 j (by omega)
          rw [show a + 1 + j = a + (j + 1) by omega] at this
          exact this
      · rw [show a + 1 + k = a + (k + 1) by omega] at h2
        exact h2
theorem lx_dig {c : Int32} (h : ¬(c < 48 ∨ 57 < c)) : ∃ d, d ≤ 9 ∧ c = Int32.ofNat (48 + d) := by
  have h1 : ¬c.toInt < 48 := fun q => h (Or.inl (Int32.lt_iff_toInt_lt.mpr q))
  have h2 : ¬(57 : Int) < c.toInt := fun q => h (Or.inr (Int32.lt_iff_toInt_lt.mpr q))
  refine ⟨(c.toInt - 48).toNat, by omega, ?_⟩
  rw [← Int32.toInt_inj, im_i (by omega)]
  omega
theorem lx_up {v : Nat} (h : v < 2147483648) : (Int32.ofNat v).toInt64 = Int64.ofNat v := by
  rw [← Int64.toInt_inj, Int32.toInt_toInt64, im_i h, Int64.toInt_ofNat_of_lt (by omega)]
theorem lx_same {T : Nat → Int32} {a : Nat} : ∀ k, k ≤ 10 → lx_fg T a k = 1 → ∃ v, v < 10 ^ k ∧ lx_nu T a k = Int64.ofNat v ∧ lx_nm T a k = Int64.ofNat v := by
  intro k
  induction k with
  | zero => intro _ _; exact ⟨0, by decide, rfl, rfl⟩
  | succ k ih =>
    intro hk hf
    have hf : (if lx_fg T a k = 0 then 0 else if T (a + k) < 48 ∨ 57 < T (a + k) then 0 else 1) = (1 : Int32) := hf
    by_cases h0 : lx_fg T a k = 0
    · rw [if_pos h0] at hf
      exact absurd hf (by decide)
    · rw [if_neg h0] at hf
      by_cases hd : T (a + k) < 48 ∨ 57 < T (a + k)
      · rw [if_pos hd] at hf
        exact absurd hf (by decide)
      · have h1 : lx_fg T a k = 1 := by
          cases k with
          | zero => rfl
          | succ k =>
            have e : lx_fg T a (k + 1) = if lx_fg T a k = 0 then 0 else if T (a + k) < 48 ∨ 57 < T (a + k) then 0 else 1 := rfl
            rw [e] at h0 ⊢
            by_cases q1 : lx_fg T a k = 0
            · rw [if_pos q1] at h0; exact absurd rfl h0
            · rw [if_neg q1] at h0 ⊢
              by_cases q2 : T (a + k) < 48 ∨ 57 < T (a + k)
              · rw [if_pos q2] at h0; exact absurd rfl h0
              · rw [if_neg q2]
        obtain ⟨v, hv, e1, e2⟩ := ih (by omega) h1
        obtain ⟨d, h9, ed⟩ := lx_dig hd
        have hp : 10 ^ k ≤ 10 ^ 9 := Nat.pow_le_pow_right (by decide) (by omega)
        have hp : 10 ^ k ≤ 1000000000 := hp
        refine ⟨v * 10 + d, ?_, ?_, ?_⟩
        · rw [Nat.pow_succ]; omega
        · show lx_nu T a k * 10 + (T (a + k) - 48).toInt64 = _
          rw [e1, ed, show Int32.ofNat (48 + d) - 48 = Int32.ofNat d by
            have := Int32.ofNat_sub (48 + d) 48 (by omega)
            rw [Nat.add_sub_cancel_left] at this
            exact this.symm, lx_up (by omega), Int64.ofNat_add, Int64.ofNat_mul]
          rfl
        · show (if 0 < lg_cmp (lx_nm T a k) 100000000000 then lx_nm T a k else (10 * lx_nm T a k + (T (a + k)).toInt64) - 48) = _
          have hc : ¬0 < lg_cmp (lx_nm T a k) 100000000000 := by
            rw [sm_gt, e2, Int64.toInt_ofNat_of_lt (by omega)]
            show ¬(100000000000 : Int) < v
            omega
          rw [if_neg hc, e2, ed, lx_up (by omega), show (10 : Int64) = Int64.ofNat 10 from rfl, show (48 : Int64) = Int64.ofNat 48 from rfl, ← Int64.ofNat_mul, ← Int64.ofNat_add, ← Int64.ofNat_sub _ _ (by omega)]
          congr 1
          omega
end
/-! part 51 -/
section
/-! What a row of letters and digits is, on the class's side. -/
def fo_kp (k : Int32) (v : Int64) (S : wd_S) : wd_S := wd_i (lo_put 9 (S.1 4 5) v (ro_put 5 (S.1 4 5) k S)) 4 5 (S.1 4 5 + 1)
theorem fo_keep (k : Int32) (v : Int64) (z : Int32) (S : wd_S) : fn_Tokens_keep k v z S = some (z, fo_kp k v S) := by
  unfold fn_Tokens_keep fo_kp
  simp only [wd_b]
  rw [ro_put_ok, wd_d_s]
  have e1 : (ro_put 5 (S.1 4 5) k S).1 4 5 = S.1 4 5 := by rw [fr_p1, if_neg (by rintro ⟨h, -⟩; exact absurd h (by decide))]
  rw [e1, lo_put_ok, wd_d_s]
  have e2 : (lo_put 9 (S.1 4 5) v (ro_put 5 (S.1 4 5) k S)).1 4 5 = S.1 4 5 := by rw [fr_q2, e1]
  rw [e2]
def fo_wk (p : Int64) : Int32 := if p = 26982 then 4 else if p = 26990 then 13 else if p = 7103860 then 3 else if p = 1952998766 then 11 else if p = 1701606245 then 12 else 2
theorem fo_word (p : Int64) (S : wd_S) : fn_Tokens_wordKind p S = some (fo_wk p, S) := by
  unfold fn_Tokens_wordKind fn_Tokens_wordKind_56 fo_wk
  simp only [sm_eq]
  by_cases h1 : p = 26982
  · rw [if_pos h1, if_pos h1]
  · rw [if_neg h1, if_neg h1]
    by_cases h2 : p = 26990
    · rw [if_pos h2, if_pos h2]
    · rw [if_neg h2, if_neg h2]
      by_cases h3 : p = 7103860
      · rw [if_pos h3, if_pos h3]
      · rw [if_neg h3, if_neg h3]
        by_cases h4 : p = 1952998766
        · rw [if_pos h4, if_pos h4]
        · rw [if_neg h4, if_neg h4]
          by_cases h5 : p = 1701606245
          · rw [if_pos h5, if_pos h5]
          · rw [if_neg h5, if_neg h5]
/-- a row of k bytes from a on: its kind and value -/
def lx_k (T : Nat → Int32) (a k : Nat) : Int32 := if T a < 97 ∨ 122 < T a then (if lx_fg T a k = 0 ∨ 10 < k ∨ (2147483647 : Int) < (lx_nu T a k).toInt then 19 else 1) else if 8 < k then 19 else fo_wk (lx_pk T a k)
def lx_v (T : Nat → Int32) (a k : Nat) : Int64 := if T a < 97 ∨ 122 < T a then (if lx_fg T a k = 0 ∨ 10 < k ∨ (2147483647 : Int) < (lx_nu T a k).toInt then 0 else lx_nu T a k) else if 8 < k then 0 else lx_pk T a k
theorem lx_111 {a k : Nat} {S : wd_S} (ha : a + k ≤ 8000) (h0 : a < 8000) : fn_Tokens_scanRow_111 (Int32.ofNat a) (lx_pk (S.1 3) a k) (lx_nu (S.1 3) a k) (lx_fg (S.1 3) a k) (Int32.ofNat (a + k)) S = some (Int32.ofNat k, fo_kp (lx_k (S.1 3) a k) (lx_v (S.1 3) a k) S) := by
  unfold fn_Tokens_scanRow_111 fn_Tokens_scanRow_187 fn_Tokens_scanRow_188 fn_Tokens_scanRow_216 fn_Tokens_scanRow_161 lx_k lx_v
  have ek : Int32.ofNat (a + k) - Int32.ofNat a = Int32.ofNat k := by
    have := Int32.ofNat_sub (a + k) a (by omega)
    rw [Nat.add_sub_cancel_left] at this
    exact this.symm
  rw [ro_at_ok, wd_c_s, lx_at h0, fo_isLetter, wd_c_s, ek]
  have e10 : (10 : Int32) < Int32.ofNat k ↔ 10 < k := by
    rw [show (10 : Int32) = Int32.ofNat 10 from rfl]
    exact im_lt (by omega) (by omega)
  have e8 : (8 : Int32) < Int32.ofNat k ↔ 8 < k := by
    rw [show (8 : Int32) = Int32.ofNat 8 from rfl]
    exact im_lt (by omega) (by omega)
  have em : 0 < lg_cmp (lx_nu (S.1 3) a k) 2147483647 ↔ (2147483647 : Int) < (lx_nu (S.1 3) a k).toInt := sm_gt
  by_cases hl : S.1 3 a < 97 ∨ 122 < S.1 3 a
  · simp only [if_pos hl, fo_keep, wd_c_s, ↓reduceIte]
    by_cases h1 : lx_fg (S.1 3) a k = 0
    · rw [if_pos h1, if_pos (Or.inl h1), if_pos (Or.inl h1)]
    · rw [if_neg h1]
      by_cases h2 : 10 < k
      · rw [if_pos (e10.mpr h2), if_pos (Or.inr (Or.inl h2)), if_pos (Or.inr (Or.inl h2))]
      · rw [if_neg (fun q => h2 (e10.mp q))]
        by_cases h3 : (2147483647 : Int) < (lx_nu (S.1 3) a k).toInt
        · rw [if_pos (em.mpr h3), if_pos (Or.inr (Or.inr h3)), if_pos (Or.inr (Or.inr h3))]
        · have h4 : ¬(lx_fg (S.1 3) a k = 0 ∨ 10 < k ∨ (2147483647 : Int) < (lx_nu (S.1 3) a k).toInt) := by
            rintro (q | q | q)
            · exact h1 q
            · exact h2 q
            · exact h3 q
          rw [if_neg (fun q => h3 (em.mp q)), if_neg (by decide), if_neg h4, if_neg h4]
  · simp only [if_neg hl, fo_keep, fo_word, wd_c_s]
    rw [if_neg (by decide)]
    by_cases h1 : 8 < k
    · rw [if_pos (e8.mpr h1), if_pos h1, if_pos h1]
    · rw [if_neg (fun q => h1 (e8.mp q)), if_neg h1, if_neg h1]
end
/-! part 52 -/
section
/-! The reference's words. -/
def mo_wk (p : Int64) : Int32 := if p = 26982 then 2 else if p = 1952998766 then 3 else if p = 1701606245 then 4 else if p = 7103860 then 5 else if p = 26990 then 6 else 0
theorem mo_pk1 (S : wd_S) : fn_Mo_packed 0 0 105 102 S = some (26982, S) := by
  unfold fn_Mo_packed
  congr 2
theorem mo_pk2 (S : wd_S) : fn_Mo_packed 116 104 101 110 S = some (1952998766, S) := by
  unfold fn_Mo_packed
  congr 2
theorem mo_pk3 (S : wd_S) : fn_Mo_packed 101 108 115 101 S = some (1701606245, S) := by
  unfold fn_Mo_packed
  congr 2
theorem mo_pk4 (S : wd_S) : fn_Mo_packed 0 108 101 116 S = some (7103860, S) := by
  unfold fn_Mo_packed
  congr 2
theorem mo_pk5 (S : wd_S) : fn_Mo_packed 0 0 105 110 S = some (26990, S) := by
  unfold fn_Mo_packed
  congr 2
theorem mo_word (p : Int64) (S : wd_S) : fn_Mo_wordOf p S = some (mo_wk p, S) := by
  unfold fn_Mo_wordOf fn_Mo_wordOf_97 mo_wk
  simp only [mo_pk1, mo_pk2, mo_pk3, mo_pk4, mo_pk5, wd_c_s, sm_eq]
  by_cases h1 : p = 26982
  · rw [if_pos h1, if_pos h1]
  · rw [if_neg h1, if_neg h1]
    by_cases h2 : p = 1952998766
    · rw [if_pos h2, if_pos h2]
    · rw [if_neg h2, if_neg h2]
      by_cases h3 : p = 1701606245
      · rw [if_pos h3, if_pos h3]
      · rw [if_neg h3, if_neg h3]
        by_cases h4 : p = 7103860
        · rw [if_pos h4, if_pos h4]
        · rw [if_neg h4, if_neg h4]
          by_cases h5 : p = 26990
          · rw [if_pos h5, if_pos h5]
          · rw [if_neg h5, if_neg h5]
/-- the kinds of the class as the reference's -/
def lx_cv (k : Int32) : Int32 := if k = 1 then 11 else if k = 2 then 10 else if k = 3 then 5 else if k = 4 then 2 else if k = 6 then 19 else if k = 7 then 20 else if k = 8 then 21 else if k = 9 then 22 else if k = 10 then 12 else if k = 11 then 3 else if k = 12 then 4 else if k = 13 then 6 else if k = 14 then 13 else if k = 15 then 14 else if k = 16 then 15 else if k = 17 then 16 else if k = 18 then 17 else if k = 20 then 23 else 0
theorem lx_wk (p : Int64) : lx_cv (fo_wk p) = if mo_wk p = 0 then 10 else mo_wk p := by
  unfold fo_wk mo_wk
  by_cases h1 : p = 26982
  · subst h1; decide
  · by_cases h2 : p = 26990
    · subst h2; decide
    · by_cases h3 : p = 7103860
      · subst h3; decide
      · by_cases h4 : p = 1952998766
        · subst h4; decide
        · by_cases h5 : p = 1701606245
          · subst h5; decide
          · rw [if_neg h1, if_neg h2, if_neg h3, if_neg h4, if_neg h5, if_neg h1, if_neg h4, if_neg h5, if_neg h3, if_neg h2]
            decide
theorem mo_stop (k i : Int32) (S : wd_S) : fn_Mo_stop k i S = some (if S.1 135 9 = 0 then wd_i (wd_i S 135 9 k) 135 10 i else S) := by
  unfold fn_Mo_stop fn_Mo_stop_17
  simp only [wd_b]
  by_cases h : S.1 135 9 = 0
  · rw [if_pos h, if_pos h]
  · rw [if_neg h, if_neg h]
end
/-! part 53 -/
section
/-! What a row of letters and digits is, on the reference's side. -/
def mo_tl (S : wd_S) : wd_S := if S.1 135 4 = 0 then (if S.1 135 9 = 0 then wd_i (wd_i S 135 9 1) 135 10 (S.1 135 5) else S) else S
theorem mo_238 (S : wd_S) : fn_Mo_row_238 S = some (mo_tl S) := by
  unfold fn_Mo_row_238 fn_Mo_row_254 mo_tl
  rw [mo_stop, wd_d_s]
  by_cases h : S.1 135 4 = 0
  · rw [if_pos h, if_pos h]
  · rw [if_neg h, if_neg h]
/-- the reference's token of a row that begins with a letter, with a digit -/
def mo_kl (p : Int64) (k : Nat) : Int32 := if 4 < k then (if 8 < k then 0 else 10) else if 0 < mo_wk p then mo_wk p else 10
def mo_kn (g : Int32) (v : Int64) (k : Nat) : Int32 := if g = 0 ∨ 10 < k ∨ (2147483647 : Int) < v.toInt then 0 else 11
theorem mo_124 {a k : Nat} {g : Int32} {p v : Int64} {S : wd_S} (ha : S.1 135 5 = Int32.ofNat a) (he : S.1 135 3 = Int32.ofNat (a + k)) (h0 : a < 8000) (h8 : a + k ≤ 8000) : fn_Mo_row_124 g p v S = some (if S.1 136 a < 48 ∨ 57 < S.1 136 a then mo_tl (wd_l (wd_i S 135 4 (mo_kl p k)) 135 7 p) else mo_tl (wd_i (wd_i S 135 4 (mo_kn g v k)) 135 8 v.toInt32)) := by
  unfold fn_Mo_row_124 fn_Mo_row_204 fn_Mo_row_230 fn_Mo_row_176 fn_Mo_row_177
  simp only [wd_b, mo_238]
  have ek : Int32.ofNat (a + k) - Int32.ofNat a = Int32.ofNat k := by
    have := Int32.ofNat_sub (a + k) a (by omega)
    rw [Nat.add_sub_cancel_left] at this
    exact this.symm
  have e10 : (10 : Int32) < Int32.ofNat k ↔ 10 < k := by
    rw [show (10 : Int32) = Int32.ofNat 10 from rfl]
    exact im_lt (by omega) (by omega)
  have e8 : (8 : Int32) < Int32.ofNat k ↔ 8 < k := by
    rw [show (8 : Int32) = Int32.ofNat 8 from rfl]
    exact im_lt (by omega) (by omega)
  have e4 : (4 : Int32) < Int32.ofNat k ↔ 4 < k := by
    rw [show (4 : Int32) = Int32.ofNat 4 from rfl]
    exact im_lt (by omega) (by omega)
  have em : 0 < lg_cmp v 2147483647 ↔ (2147483647 : Int) < v.toInt := sm_gt
  rw [ha, he, ek, im_t (by omega), if_neg (by rintro (q | q); exact im_neg (by omega) q; omega), fo_moDigit, wd_c_s]
  by_cases hd : S.1 136 a < 48 ∨ 57 < S.1 136 a
  · rw [if_pos hd, if_pos rfl, if_pos hd]
    unfold mo_kl
    by_cases h4 : 4 < k
    · rw [if_pos (e4.mpr h4), if_neg (by decide)]
      by_cases h8 : 8 < k
      · rw [if_pos (e8.mpr h8), if_pos h4, if_pos h8]
      · rw [if_neg (fun q => h8 (e8.mp q)), if_pos h4, if_neg h8]
    · rw [if_neg (fun q => h4 (e4.mp q)), mo_word, wd_c_s]
      by_cases hw : 0 < mo_wk p
      · rw [if_pos hw, if_neg h4, if_pos hw]
      · rw [if_neg hw, if_neg (fun q => by have := e8.mp q; omega), if_neg h4, if_neg hw]
  · rw [if_neg hd, if_neg (by decide), if_neg hd]
    unfold mo_kn
    by_cases h1 : g = 0
    · rw [if_pos h1, if_pos (Or.inl h1)]
    · rw [if_neg h1]
      by_cases h2 : 10 < k
      · rw [if_pos (e10.mpr h2), if_pos (Or.inr (Or.inl h2))]
      · rw [if_neg (fun q => h2 (e10.mp q))]
        by_cases h3 : (2147483647 : Int) < v.toInt
        · rw [if_pos (em.mpr h3), if_pos (Or.inr (Or.inr h3))]
        · rw [if_neg (fun q => h3 (em.mp q)), if_neg]
          rintro (q | q | q)
          · exact h1 q
          · exact h2 q
          · exact h3 q
end
/-! part 54 -/
section
/-! Rows of more than four letters are no words; a row is the same token on both sides. -/
theorem lx_sh {v b : Nat} (hv : v < 2 ^ 56) (hb : b < 256) : (Int64.ofNat v <<< ((8 : Int32).toInt64 &&& 63)) ||| Int64.ofNat b = Int64.ofNat (v * 256 + b) := by
  have e8 : ((8 : Int32).toInt64 &&& 63) = (8 : Int64) := by decide
  rw [e8, ← Int64.toBitVec_inj]
  rw [Int64.toBitVec_or, Int64.toBitVec_shiftLeft]
  have e : ((8 : Int64).toBitVec.smod 64) = 8#64 := by decide
  rw [e]
  show (BitVec.ofNat 64 v <<< 8#64) ||| BitVec.ofNat 64 b = BitVec.ofNat 64 (v * 256 + b)
  apply BitVec.eq_of_toNat_eq
  rw [BitVec.toNat_or, BitVec.shiftLeft_eq', BitVec.toNat_shiftLeft]
  simp only [BitVec.toNat_ofNat]
  have h1 : v % 2 ^ 64 = v := Nat.mod_eq_of_lt (by omega)
  have h2 : b % 2 ^ 64 = b := Nat.mod_eq_of_lt (by omega)
  have h3 : (v * 256 + b) % 2 ^ 64 = v * 256 + b := Nat.mod_eq_of_lt (by omega)
  rw [h1, h2, h3]
  have h4 : v <<< (8 % 2 ^ 64) % 2 ^ 64 = v <<< 8 := by
    show v <<< 8 % 2 ^ 64 = v <<< 8
    rw [Nat.shiftLeft_eq]
    exact Nat.mod_eq_of_lt (by omega)
  rw [h4, ← Nat.shiftLeft_add_eq_or_of_lt (show b < 2 ^ 8 by omega), Nat.shiftLeft_eq]
theorem lx_chr {c : Int32} (h : ¬((c < 48 ∨ 57 < c) ∧ (c < 97 ∨ 122 < c))) : ∃ b, 48 ≤ b ∧ b ≤ 122 ∧ c = Int32.ofNat b ∧ (¬(c < 97 ∨ 122 < c) → 97 ≤ b) := by
  have h1 : 48 ≤ c.toInt ∧ c.toInt ≤ 122 := by
    refine ⟨?_, ?_⟩
    · refine Int.not_lt.mp (fun q => h ⟨Or.inl (Int32.lt_iff_toInt_lt.mpr q), Or.inl (Int32.lt_iff_toInt_lt.mpr (show c.toInt < 97 by omega))⟩)
    · refine Int.not_lt.mp (fun q => h ⟨Or.inr (Int32.lt_iff_toInt_lt.mpr (show (57 : Int) < c.toInt by omega)), Or.inr (Int32.lt_iff_toInt_lt.mpr q)⟩)
  refine ⟨c.toInt.toNat, by omega, by omega, ?_, fun q => ?_⟩
  · rw [← Int32.toInt_inj, im_i (by omega)]
    omega
  · have : ¬c.toInt < 97 := fun z => q (Or.inl (Int32.lt_iff_toInt_lt.mpr z))
    omega
theorem lx_big {T : Nat → Int32} {a : Nat} : ∀ k, k ≤ 8 → (∀ j, j < k → ¬((T (a + j) < 48 ∨ 57 < T (a + j)) ∧ (T (a + j) < 97 ∨ 122 < T (a + j)))) → ∃ v, lx_pk T a k = Int64.ofNat v ∧ v < 123 * 256 ^ (k - 1) ∧ (0 < k → ¬(T a < 97 ∨ 122 < T a) → 97 * 256 ^ (k - 1) ≤ v) := by
  intro k
  induction k with
  | zero => intro _ _; exact ⟨0, rfl, by decide, fun h => absurd h (by decide)⟩
  | succ k ih =>
    intro hk hr
    obtain ⟨v, e, h1, h2⟩ := ih (by omega) (fun j hj => hr j (by omega))
    obtain ⟨b, hb1, hb2, eb, hb3⟩ := lx_chr (hr k (by omega))
    have hp : 256 ^ (k - 1) ≤ 256 ^ 6 := Nat.pow_le_pow_right (by decide) (by omega)
    have hp : 256 ^ (k - 1) ≤ 281474976710656 := hp
    have es : lx_pk T a (k + 1) = Int64.ofNat (v * 256 + b) := by
      show (lx_pk T a k <<< ((8 : Int32).toInt64 &&& 63)) ||| (T (a + k)).toInt64 = _
      rw [e, eb, lx_up (by omega), lx_sh (by omega) (by omega)]
    refine ⟨v * 256 + b, es, ?_, fun _ hl => ?_⟩
    · cases k with
      | zero =>
        have h1 : v < 123 * 1 := h1
        have e0 : v = 0 := by
          have e : Int64.ofNat 0 = Int64.ofNat v := e
          have := congrArg Int64.toInt e
          rw [Int64.toInt_ofNat_of_lt (by omega), Int64.toInt_ofNat_of_lt (by omega)] at this
          omega
        show v * 256 + b < 123 * 1
        omega
      | succ k =>
        have h1 : v < 123 * 256 ^ k := h1
        show v * 256 + b < 123 * 256 ^ (k + 1)
        rw [Nat.pow_succ]
        omega
    · cases k with
      | zero =>
        have := hb3 hl
        show 97 * 1 ≤ v * 256 + b
        omega
      | succ k =>
        have h2 : 97 * 256 ^ k ≤ v := h2 (by omega) hl
        show 97 * 256 ^ (k + 1) ≤ v * 256 + b
        rw [Nat.pow_succ]
        omega
theorem lx_nw {v : Nat} (h1 : 1952998766 < v) (h2 : v < 9223372036854775808) : fo_wk (Int64.ofNat v) = 2 := by
  have hi : (Int64.ofNat v).toInt = v := Int64.toInt_ofNat_of_lt h2
  have hne : ∀ c : Int64, c.toInt ≤ 1952998766 → ¬Int64.ofNat v = c := fun c hc q => by
    rw [q] at hi
    omega
  unfold fo_wk
  rw [if_neg (hne _ (by decide)), if_neg (hne _ (by decide)), if_neg (hne _ (by decide)), if_neg (hne _ (by decide)), if_neg (hne _ (by decide))]
theorem lx_w0 (p : Int64) : 0 < mo_wk p ∨ mo_wk p = 0 := by
  unfold mo_wk
  split
  · exact Or.inl (by decide)
  · split
    · exact Or.inl (by decide)
    · split
      · exact Or.inl (by decide)
      · split
        · exact Or.inl (by decide)
        · split
          · exact Or.inl (by decide)
          · exact Or.inr rfl
theorem lx_fg01 (T : Nat → Int32) (a : Nat) : ∀ k, lx_fg T a k = 0 ∨ lx_fg T a k = 1 := by
  intro k
  cases k with
  | zero => exact Or.inr rfl
  | succ k =>
    show (if lx_fg T a k = 0 then 0 else if T (a + k) < 48 ∨ 57 < T (a + k) then 0 else 1) = (0 : Int32) ∨ (if lx_fg T a k = 0 then 0 else if T (a + k) < 48 ∨ 57 < T (a + k) then 0 else 1) = (1 : Int32)
    split
    · exact Or.inl rfl
    · split
      · exact Or.inl rfl
      · exact Or.inr rfl
/-- a row of letters, the first one being one -/
theorem lx_let {T : Nat → Int32} {n a k : Nat} (hr : lx_row T n a k) (hk : 0 < k) (hl : ¬(T a < 97 ∨ 122 < T a)) : lx_cv (lx_k T a k) = mo_kl (lx_pk T a k) k := by
  unfold lx_k mo_kl
  rw [if_neg hl]
  by_cases h8 : 8 < k
  · rw [if_pos h8, if_pos (show 4 < k by omega), if_pos h8]; rfl
  · rw [if_neg h8]
    by_cases h4 : 4 < k
    · rw [if_pos h4, if_neg h8]
      obtain ⟨v, e, h1, h2⟩ := lx_big (T := T) (a := a) k (by omega) (fun j hj => (hr.1 j hj).2)
      have h2 := h2 hk hl
      have hp : 256 ^ (k - 1) ≤ 256 ^ 7 := Nat.pow_le_pow_right (by decide) (by omega)
      have hp : 256 ^ (k - 1) ≤ 72057594037927936 := hp
      have hq : 256 ^ 4 ≤ 256 ^ (k - 1) := Nat.pow_le_pow_right (by decide) (by omega)
      have hq : 4294967296 ≤ 256 ^ (k - 1) := hq
      rw [e, lx_nw (by omega) (by omega)]
      rfl
    · rw [if_neg h4, lx_wk]
      rcases lx_w0 (lx_pk T a k) with h | h
      · rw [if_pos h, if_neg (fun q => by rw [q] at h; exact absurd h (by decide))]
      · rw [if_pos h, if_neg (fun q => by rw [h] at q; exact absurd q (by decide))]
/-- a row that begins with a digit -/
theorem lx_num {T : Nat → Int32} {a k : Nat} (hl : T a < 97 ∨ 122 < T a) : lx_cv (lx_k T a k) = mo_kn (lx_fg T a k) (lx_nm T a k) k ∧ (lx_k T a k = 1 → lx_v T a k = lx_nm T a k) := by
  unfold lx_k mo_kn lx_v
  rw [if_pos hl, if_pos hl]
  by_cases h0 : lx_fg T a k = 0 ∨ 10 < k
  · have e1 : lx_fg T a k = 0 ∨ 10 < k ∨ (2147483647 : Int) < (lx_nu T a k).toInt := by rcases h0 with h | h; exact Or.inl h; exact Or.inr (Or.inl h)
    have e2 : lx_fg T a k = 0 ∨ 10 < k ∨ (2147483647 : Int) < (lx_nm T a k).toInt := by rcases h0 with h | h; exact Or.inl h; exact Or.inr (Or.inl h)
    rw [if_pos e1, if_pos e1, if_pos e2]
    exact ⟨rfl, fun h => absurd h (by decide)⟩
  · have h1 : lx_fg T a k = 1 := by
      rcases lx_fg01 T a k with h | h
      · exact absurd (Or.inl h) h0
      · exact h
    obtain ⟨v, hv, e1, e2⟩ := lx_same k (by omega) h1
    rw [e1, e2]
    by_cases h3 : lx_fg T a k = 0 ∨ 10 < k ∨ (2147483647 : Int) < (Int64.ofNat v).toInt
    · rw [if_pos h3, if_pos h3, if_pos h3]
      exact ⟨rfl, fun h => absurd h (by decide)⟩
    · rw [if_neg h3, if_neg h3, if_neg h3]
      exact ⟨rfl, fun _ => rfl⟩
end
/-! part 55 -/
section
/-! What a run may write; rows at small places. -/
section Of
variable {W W' : Nat → Nat → Prop} {S S1 S2 : wd_S} {a k r m : Nat} {i v : Int32} {w : Int64}
def of_f (W : Nat → Nat → Prop) (S S' : wd_S) : Prop := (∀ a k, ¬W a k → S'.1 a k = S.1 a k) ∧ (∀ a k, ¬W a k → S'.2.1 a k = S.2.1 a k) ∧ S'.2.2 = S.2.2
theorem of_refl : of_f W S S := ⟨fun _ _ _ => rfl, fun _ _ _ => rfl, rfl⟩
theorem of_trans (h1 : of_f W S S1) (h2 : of_f W S1 S2) : of_f W S S2 := ⟨fun a k h => (h2.1 a k h).trans (h1.1 a k h), fun a k h => (h2.2.1 a k h).trans (h1.2.1 a k h), h2.2.2.trans h1.2.2⟩
theorem of_mono (hw : ∀ a k, W a k → W' a k) (h : of_f W S S1) : of_f W' S S1 := ⟨fun a k q => h.1 a k (fun z => q (hw a k z)), fun a k q => h.2.1 a k (fun z => q (hw a k z)), h.2.2⟩
theorem of_i (hw : W a k) (h : of_f W S S1) : of_f W S (wd_i S1 a k v) := by
  refine ⟨fun b m q => ?_, fun b m q => h.2.1 b m q, h.2.2⟩
  rw [fr_i1, if_neg (fun z => q (by rw [z.1, z.2]; exact hw))]
  exact h.1 b m q
theorem of_l (hw : W a k) (h : of_f W S S1) : of_f W S (wd_l S1 a k w) := by
  refine ⟨fun b m q => h.1 b m q, fun b m q => ?_, h.2.2⟩
  rw [fr_l1, if_neg (fun z => q (by rw [z.1, z.2]; exact hw))]
  exact h.2.1 b m q
theorem of_put (hw : ∀ k, W (r + 1) k) (h : of_f W S S1) : of_f W S (ro_put r i v S1) := by
  unfold ro_put
  split
  · exact h
  · exact of_i (hw _) h
theorem of_lput (hw : ∀ k, W (r + 1) k) (h : of_f W S S1) : of_f W S (lo_put r i w S1) := by
  unfold lo_put
  split
  · exact h
  · exact of_l (hw _) h
theorem ro_nn {L : Nat} (hL : (tp_t (r + 1)).2 = L) (hm : m < L) : ¬(Int32.ofNat m < 0 ∨ (tp_t (r + 1)).2 ≤ (Int32.ofNat m).toNatClampNeg) := by
  have h2 := tp_sm (r + 1)
  rw [im_t (by omega)]
  rintro (h | h)
  · exact im_neg (by omega) h
  · omega
theorem ro_pn {L : Nat} (hL : (tp_t (r + 1)).2 = L) (hm : m < L) : ro_put r (Int32.ofNat m) v S = wd_i S (r + 1) m v := by
  have h2 := tp_sm (r + 1)
  unfold ro_put
  rw [if_neg (ro_nn hL hm), im_t (by omega)]
theorem ro_an {L : Nat} (hL : (tp_t (r + 1)).2 = L) (hm : m < L) : ro_at r (Int32.ofNat m) S = S.1 (r + 1) m := by
  have h2 := tp_sm (r + 1)
  unfold ro_at
  rw [if_neg (ro_nn hL hm), im_t (by omega)]
theorem lo_pn {L : Nat} (hL : (tp_t (r + 1)).2 = L) (hm : m < L) : lo_put r (Int32.ofNat m) w S = wd_l S (r + 1) m w := by
  have h2 := tp_sm (r + 1)
  unfold lo_put
  rw [if_neg (ro_nn hL hm), im_t (by omega)]
theorem lo_an {L : Nat} (hL : (tp_t (r + 1)).2 = L) (hm : m < L) : lo_at r (Int32.ofNat m) S = S.2.1 (r + 1) m := by
  have h2 := tp_sm (r + 1)
  unfold lo_at
  rw [if_neg (ro_nn hL hm), im_t (by omega)]
end Of
/-! Tokens: where they begin, what they are. -/
def tk_rl (T : Nat → Int32) : Nat → Nat → Nat
  | 0, _ => 0
  | f + 1, a => if (T a < 48 ∨ 57 < T a) ∧ (T a < 97 ∨ 122 < T a) then 0 else tk_rl T f (a + 1) + 1
theorem tk_rl_le (T : Nat → Int32) : ∀ f a, tk_rl T f a ≤ f := by
  intro f
  induction f with
  | zero => intro a; exact Nat.le_refl _
  | succ f ih =>
    intro a
    unfold tk_rl
    split
    · exact Nat.zero_le _
    · have := ih (a + 1); omega
theorem tk_row (T : Nat → Int32) (n : Nat) : ∀ f a, a + f = n → lx_row T n a (tk_rl T f a) := by
  intro f
  induction f with
  | zero =>
    intro a h
    exact ⟨fun j hj => absurd hj (Nat.not_lt_zero _), Or.inl h⟩
  | succ f ih =>
    intro a h
    unfold tk_rl
    by_cases hc : (T a < 48 ∨ 57 < T a) ∧ (T a < 97 ∨ 122 < T a)
    · rw [if_pos hc]
      exact ⟨fun j hj => absurd hj (Nat.not_lt_zero _), Or.inr ⟨by omega, hc⟩⟩
    · rw [if_neg hc]
      obtain ⟨h1, h2⟩ := ih (a + 1) (by omega)
      refine ⟨fun j hj => ?_, ?_⟩
      · cases j with
        | zero => exact ⟨by omega, hc⟩
        | succ j =>
          have := h1 j (by omega)
          rw [show a + (j + 1) = a + 1 + j by omega]
          exact this
      · rw [show a + (tk_rl T f (a + 1) + 1) = a + 1 + tk_rl T f (a + 1) by omega]
        exact h2
def tk_sk (T : Nat → Int32) : Nat → Nat → Nat
  | 0, a => a
  | f + 1, a => if T a = 32 ∨ T a = 10 then tk_sk T f (a + 1) else a
theorem tk_sk_le (T : Nat → Int32) : ∀ f a, a ≤ tk_sk T f a ∧ tk_sk T f a ≤ a + f ∧ (tk_sk T f a < a + f → ¬(T (tk_sk T f a) = 32 ∨ T (tk_sk T f a) = 10)) := by
  intro f
  induction f with
  | zero => intro a; exact ⟨Nat.le_refl _, Nat.le_refl _, fun h => absurd h (Nat.lt_irrefl _)⟩
  | succ f ih =>
    intro a
    unfold tk_sk
    by_cases h : T a = 32 ∨ T a = 10
    · rw [if_pos h]
      obtain ⟨h1, h2, h3⟩ := ih (a + 1)
      exact ⟨by omega, by omega, fun q => h3 (by omega)⟩
    · rw [if_neg h]
      exact ⟨Nat.le_refl _, by omega, fun _ => h⟩
def tk_n (T : Nat → Int32) (n p : Nat) : Nat := tk_sk T (n - p) p
theorem tk_n_b {T : Nat → Int32} {n p : Nat} (hp : p < n) (h : T p = 32 ∨ T p = 10) : tk_n T n p = tk_n T n (p + 1) := by
  unfold tk_n
  rw [show n - p = (n - (p + 1)) + 1 by omega]
  exact if_pos h
theorem tk_n_t {T : Nat → Int32} {n p : Nat} (hp : p < n) (h : ¬(T p = 32 ∨ T p = 10)) : tk_n T n p = p := by
  unfold tk_n
  rw [show n - p = (n - (p + 1)) + 1 by omega]
  exact if_neg h
theorem tk_n_e {T : Nat → Int32} {n : Nat} : tk_n T n n = n := by
  unfold tk_n
  rw [Nat.sub_self]
  rfl
theorem tk_n_le {T : Nat → Int32} {n p : Nat} (hp : p ≤ n) : tk_n T n p ≤ n := by
  have := (tk_sk_le T (n - p) p).2.1
  unfold tk_n
  omega
theorem tk_n_nb {T : Nat → Int32} {n p : Nat} (hp : p ≤ n) (h : tk_n T n p < n) : ¬(T (tk_n T n p) = 32 ∨ T (tk_n T n p) = 10) := by
  have := (tk_sk_le T (n - p) p).2.2
  exact this (by unfold tk_n at h; omega)
def tk_sg (c : Int32) : Int32 := if c = 40 then 15 else if c = 41 then 16 else if c = 42 then 8 else if c = 43 then 6 else if c = 44 then 17 else if c = 45 then 7 else if c = 59 then 18 else if c = 60 then 9 else if c = 61 then 14 else 19
def tk_k (T : Nat → Int32) (n p : Nat) : Int32 := if (T p < 48 ∨ 57 < T p) ∧ (T p < 97 ∨ 122 < T p) then (if T p = 61 ∧ p + 1 < n ∧ T (p + 1) = 61 then 10 else tk_sg (T p)) else lx_k T p (tk_rl T (n - p) p)
def tk_v (T : Nat → Int32) (n p : Nat) : Int64 := if (T p < 48 ∨ 57 < T p) ∧ (T p < 97 ∨ 122 < T p) then 0 else lx_v T p (tk_rl T (n - p) p)
def tk_z (T : Nat → Int32) (n p : Nat) : Nat := if (T p < 48 ∨ 57 < T p) ∧ (T p < 97 ∨ 122 < T p) then (if T p = 61 ∧ p + 1 < n ∧ T (p + 1) = 61 then 2 else 1) else tk_rl T (n - p) p
theorem tk_z_ok {T : Nat → Int32} {n p : Nat} (hp : p < n) : 1 ≤ tk_z T n p ∧ p + tk_z T n p ≤ n := by
  unfold tk_z
  by_cases h : (T p < 48 ∨ 57 < T p) ∧ (T p < 97 ∨ 122 < T p)
  · rw [if_pos h]
    by_cases h2 : T p = 61 ∧ p + 1 < n ∧ T (p + 1) = 61
    · rw [if_pos h2]; omega
    · rw [if_neg h2]; omega
  · rw [if_neg h]
    have h3 := tk_rl_le T (n - p) p
    refine ⟨?_, by omega⟩
    rw [show n - p = (n - (p + 1)) + 1 by omega]
    unfold tk_rl
    rw [if_neg h]
    omega
def tk_p (T : Nat → Int32) (n : Nat) : Nat → Nat
  | 0 => tk_n T n 0
  | i + 1 => if tk_p T n i < n then tk_n T n (tk_p T n i + tk_z T n (tk_p T n i)) else n
def tk_K (T : Nat → Int32) (n i : Nat) : Int32 := if tk_p T n i < n then tk_k T n (tk_p T n i) else 20
def tk_V (T : Nat → Int32) (n i : Nat) : Int64 := tk_v T n (tk_p T n i)
theorem tk_p_le (T : Nat → Int32) (n : Nat) : ∀ i, tk_p T n i ≤ n := by
  intro i
  cases i with
  | zero => exact tk_n_le (Nat.zero_le _)
  | succ i =>
    unfold tk_p
    split
    · next h => exact tk_n_le (tk_z_ok h).2
    · exact Nat.le_refl _
theorem tk_p_s {T : Nat → Int32} {n i : Nat} (h : tk_p T n i < n) : tk_p T n (i + 1) = tk_n T n (tk_p T n i + tk_z T n (tk_p T n i)) := if_pos h
theorem tk_p_e {T : Nat → Int32} {n i : Nat} (h : tk_p T n i = n) : ∀ j, tk_p T n (i + j) = n := by
  intro j
  induction j with
  | zero => exact h
  | succ j ih =>
    have h2 : ¬tk_p T n (i + j) < n := by rw [ih]; exact Nat.lt_irrefl _
    exact if_neg h2
theorem tk_sign (c : Int32) (S : wd_S) : fn_Tokens_signKind c S = some (tk_sg c, S) := by
  unfold fn_Tokens_signKind
  by_cases h40 : c = 40
  · subst h40; rfl
  rw [if_neg h40]
  by_cases h41 : c = 41
  · subst h41; rfl
  rw [if_neg h41]
  by_cases h42 : c = 42
  · subst h42; rfl
  rw [if_neg h42]
  by_cases h43 : c = 43
  · subst h43; rfl
  rw [if_neg h43]
  by_cases h44 : c = 44
  · subst h44; rfl
  rw [if_neg h44]
  by_cases h45 : c = 45
  · subst h45; rfl
  rw [if_neg h45]
  by_cases h46 : c = 46
  · subst h46; rfl
  rw [if_neg h46]
  by_cases h47 : c = 47
  · subst h47; rfl
  rw [if_neg h47]
  by_cases h48 : c = 48
  · subst h48; rfl
  rw [if_neg h48]
  by_cases h49 : c = 49
  · subst h49; rfl
  rw [if_neg h49]
  by_cases h50 : c = 50
  · subst h50; rfl
  rw [if_neg h50]
  by_cases h51 : c = 51
  · subst h51; rfl
  rw [if_neg h51]
  by_cases h52 : c = 52
  · subst h52; rfl
  rw [if_neg h52]
  by_cases h53 : c = 53
  · subst h53; rfl
  rw [if_neg h53]
  by_cases h54 : c = 54
  · subst h54; rfl
  rw [if_neg h54]
  by_cases h55 : c = 55
  · subst h55; rfl
  rw [if_neg h55]
  by_cases h56 : c = 56
  · subst h56; rfl
  rw [if_neg h56]
  by_cases h57 : c = 57
  · subst h57; rfl
  rw [if_neg h57]
  by_cases h58 : c = 58
  · subst h58; rfl
  rw [if_neg h58]
  by_cases h59 : c = 59
  · subst h59; rfl
  rw [if_neg h59]
  by_cases h60 : c = 60
  · subst h60; rfl
  rw [if_neg h60]
  by_cases h61 : c = 61
  · subst h61; rfl
  rw [if_neg h61]
  unfold tk_sg
  rw [if_neg h40, if_neg h41, if_neg h42, if_neg h43, if_neg h44, if_neg h45, if_neg h59, if_neg h60, if_neg h61]
theorem sc_one {n p : Nat} {S : wd_S} (hn : S.1 4 4 = Int32.ofNat n) (hp : p < n) (h8 : n ≤ 8000) : fn_Tokens_scanOne (Int32.ofNat p) S = if S.1 3 p = 32 ∨ S.1 3 p = 10 then some (1, S) else some (Int32.ofNat (tk_z (S.1 3) n p), fo_kp (tk_k (S.1 3) n p) (tk_v (S.1 3) n p) S) := by
  have h37 : ¬((S.1 3 p < 48 ∨ 57 < S.1 3 p) ∧ (S.1 3 p < 97 ∨ 122 < S.1 3 p)) → fn_Tokens_scanOne_37 (Int32.ofNat p) S = some (Int32.ofNat (tk_z (S.1 3) n p), fo_kp (tk_k (S.1 3) n p) (tk_v (S.1 3) n p) S) := by
    intro hc
    have hr := tk_row (S.1 3) n (n - p) p (by omega)
    have hl := tk_rl_le (S.1 3) (n - p) p
    have e := lx_cl hn h8 hr _ 0 wd_F (Nat.zero_add _) (by rw [show wd_F = 1000000 from rfl]; omega)
    have e2 := lx_111 (a := p) (k := tk_rl (S.1 3) (n - p) p) (S := S) (by omega) (by omega)
    have e3 : fn_Tokens_scanRow (Int32.ofNat p) S = some (Int32.ofNat (tk_rl (S.1 3) (n - p) p), fo_kp (lx_k (S.1 3) p (tk_rl (S.1 3) (n - p) p)) (lx_v (S.1 3) p (tk_rl (S.1 3) (n - p) p)) S) := e.trans e2
    unfold fn_Tokens_scanOne_37 tk_z tk_k tk_v
    rw [e3, wd_c_s, if_neg hc, if_neg hc, if_neg hc]
  have h83 : (S.1 3 p < 48 ∨ 57 < S.1 3 p) ∧ (S.1 3 p < 97 ∨ 122 < S.1 3 p) → ¬(S.1 3 p = 61 ∧ p + 1 < n ∧ S.1 3 (p + 1) = 61) → fn_Tokens_scanOne_83 (S.1 3 p) S = some (Int32.ofNat (tk_z (S.1 3) n p), fo_kp (tk_k (S.1 3) n p) (tk_v (S.1 3) n p) S) := by
    intro hc h2
    unfold fn_Tokens_scanOne_83 tk_z tk_k tk_v
    rw [tk_sign, wd_c_s, fo_keep, wd_c_s, if_pos hc, if_pos hc, if_pos hc, if_neg h2, if_neg h2]
    rfl
  unfold fn_Tokens_scanOne
  rw [ro_at_ok, wd_c_s, lx_at (by omega)]
  by_cases h1 : S.1 3 p = 32
  · rw [if_pos h1, if_pos (Or.inl h1)]; rfl
  · rw [if_neg h1]
    by_cases h2 : S.1 3 p = 10
    · rw [if_pos h2, if_pos (Or.inr h2)]; rfl
    · rw [if_neg h2, if_neg (show ¬(S.1 3 p = 32 ∨ S.1 3 p = 10) by rintro (q | q); exact h1 q; exact h2 q), fo_isLetter, wd_c_s]
      by_cases hl : S.1 3 p < 97 ∨ 122 < S.1 3 p
      · rw [if_pos hl, if_pos rfl, fo_isDigit, wd_c_s]
        by_cases hd : S.1 3 p < 48 ∨ 57 < S.1 3 p
        · rw [if_pos hd, if_pos rfl]
          by_cases h6 : S.1 3 p = 61
          · rw [if_pos h6, hn, im_s]
            by_cases h7 : p + 1 < n
            · rw [if_pos ((im_lt (by omega) (by omega)).mpr h7), ro_at_ok, wd_c_s, lx_at (by omega)]
              by_cases h9 : S.1 3 (p + 1) = 61
              · rw [if_pos h9, fo_keep, wd_c_s]
                have hrow : (S.1 3 p < 48 ∨ 57 < S.1 3 p) ∧ (S.1 3 p < 97 ∨ 122 < S.1 3 p) := ⟨hd, hl⟩
                have h679 : S.1 3 p = 61 ∧ p + 1 < n ∧ S.1 3 (p + 1) = 61 := ⟨h6, h7, h9⟩
                unfold tk_z tk_k tk_v
                rw [if_pos hrow, if_pos hrow, if_pos hrow, if_pos h679, if_pos h679]
                rfl
              · rw [if_neg h9]
                exact h83 ⟨hd, hl⟩ (fun q => h9 q.2.2)
            · rw [if_neg (fun q => h7 ((im_lt (by omega) (by omega)).mp q))]
              exact h83 ⟨hd, hl⟩ (fun q => h7 q.2.1)
          · rw [if_neg h6]
            exact h83 ⟨hd, hl⟩ (fun q => h6 q.1)
        · rw [if_neg hd, if_neg (by decide)]
          exact h37 (fun q => hd q.1)
      · rw [if_neg hl, if_neg (by decide)]
        exact h37 (fun q => hl q.2)
end
/-! part 56 -/
section
/-! The class takes the tape apart. -/
def sc_W (a k : Nat) : Prop := (a = 4 ∧ k = 5) ∨ a = 6 ∨ a = 8 ∨ a = 10
/-- c tokens are kept -/
def sc_in (T : Nat → Int32) (n : Nat) (S0 : wd_S) (c : Nat) (S : wd_S) : Prop := of_f sc_W S0 S ∧ S.1 4 5 = Int32.ofNat c ∧ c ≤ 1501 ∧ ∀ j, j < c → S.1 6 j = tk_K T n j ∧ S.1 8 j = Int32.ofNat (tk_p T n j) ∧ S.2.1 10 j = tk_V T n j
theorem sc_max {z : Nat} (h1 : 1 ≤ z) (h2 : z < 2147483648) (S : wd_S) : fn_Math_max 1 (Int32.ofNat z) S = some (Int32.ofNat z, S) := by
  unfold fn_Math_max fn_Math_max_10
  by_cases h : (1 : Int32) < Int32.ofNat z
  · rw [if_pos h]
  · rw [if_neg h]
    have e : z = 1 := by
      have := mt (im_lt (m := 1) (n := z) (by decide) h2).mpr h
      omega
    rw [e]
    rfl
theorem sc_loop {T : Nat → Int32} {n : Nat} {S0 : wd_S} (h8 : n ≤ 8000) (hT : S0.1 3 = T) (hn : S0.1 4 4 = Int32.ofNat n) : ∀ (q p c f : Nat) (S : wd_S), p + q = n → q < f → sc_in T n S0 c S → tk_n T n p = tk_p T n c → ∃ S' c', fn_Tokens_scan_12 f (Int32.ofNat p) S = some S' ∧ sc_in T n S0 c' S' ∧ (c' = 1501 ∨ tk_p T n c' = n) := by
  intro q
  induction q using Nat.strongRecOn with
  | ind q ih =>
  intro p c f S hpq hqf hin htk
  obtain ⟨f, rfl⟩ : ∃ g, f = g + 1 := ⟨f - 1, by omega⟩
  obtain ⟨ho, hc, hle, hrow⟩ := hin
  have eT : S.1 3 = T := by
    funext m
    rw [ho.1 3 m (by unfold sc_W; omega), hT]
  have en : S.1 4 4 = Int32.ofNat n := by rw [ho.1 4 4 (by unfold sc_W; omega), hn]
  rw [fn_Tokens_scan_12, en]
  by_cases hpn : p < n
  · rw [if_pos ((im_lt (by omega) (by omega)).mpr hpn), hc]
    by_cases hcl : c < 1501
    · rw [if_pos ((mo_lt (m := 1501) (b := 1501) (by omega) (by omega) rfl).mpr hcl), ro_put_ok, wd_d_s, ro_pn (L := 1501) rfl hcl]
      have eT1 : (wd_i S 8 c (Int32.ofNat p)).1 3 = T := by
        rw [fr_row S (by decide)]
        exact eT
      have en1 : (wd_i S 8 c (Int32.ofNat p)).1 4 4 = Int32.ofNat n := by rw [fr_ne (by omega)]; exact en
      rw [sc_one en1 hpn h8, eT1]
      by_cases hb : T p = 32 ∨ T p = 10
      · rw [if_pos hb, wd_c_s, show (1 : Int32) = Int32.ofNat 1 from rfl, show fn_Math_max (Int32.ofNat 1) = fn_Math_max 1 from rfl, sc_max (by decide) (by decide), wd_c_s, show Int32.ofNat p + Int32.ofNat 1 = Int32.ofNat (p + 1) from im_s p]
        refine ih (n - (p + 1)) (by omega) (p + 1) c f _ (by omega) (by omega) ⟨of_i (by unfold sc_W; omega) ho, ?_, hle, fun j hj => ?_⟩ ?_
        · rw [fr_ne (by omega)]; exact hc
        · obtain ⟨h1, h2, h3⟩ := hrow j hj
          refine ⟨?_, ?_, h3⟩
          · rw [fr_ne (by omega)]; exact h1
          · rw [fr_ne (by omega)]; exact h2
        · rw [← tk_n_b hpn hb]; exact htk
      · obtain ⟨hz1, hz2⟩ := tk_z_ok (T := T) hpn
        have ep : tk_p T n c = p := by rw [← htk, tk_n_t hpn hb]
        rw [if_neg hb, wd_c_s, sc_max hz1 (by omega), wd_c_s, ← Int32.ofNat_add]
        have ec : (wd_i S 8 c (Int32.ofNat p)).1 4 5 = Int32.ofNat c := by rw [fr_ne (by omega)]; exact hc
        unfold fo_kp
        rw [ec, ro_pn (L := 1501) rfl hcl, lo_pn (L := 1501) rfl hcl, im_s]
        refine ih (n - (p + tk_z T n p)) (by omega) (p + tk_z T n p) (c + 1) f _ (by omega) (by omega) ⟨of_i (by unfold sc_W; omega) (of_l (by unfold sc_W; omega) (of_i (by unfold sc_W; omega) (of_i (by unfold sc_W; omega) ho))), fr_eq, by omega, fun j hj => ?_⟩ ?_
        · rw [fr_ne (by omega), fr_ne (by omega)]
          show (wd_i (wd_i S 8 c (Int32.ofNat p)) 6 c (tk_k T n p)).1 6 j = _ ∧ (wd_i (wd_i S 8 c (Int32.ofNat p)) 6 c (tk_k T n p)).1 8 j = _ ∧ (if 10 = 10 ∧ j = c then tk_v T n p else S.2.1 10 j) = _
          by_cases hj2 : j = c
          · rw [hj2, fr_eq, fr_ne (by omega), fr_eq, if_pos ⟨rfl, rfl⟩, ep]
            refine ⟨?_, rfl, ?_⟩
            · unfold tk_K
              rw [ep, if_pos hpn]
            · unfold tk_V
              rw [ep]
          · obtain ⟨h1, h2, h3⟩ := hrow j (by omega)
            rw [fr_ne (fun z => hj2 z.2), fr_ne (by omega), fr_ne (by omega), fr_ne (fun z => hj2 z.2), if_neg (fun z => hj2 z.2)]
            exact ⟨h1, h2, h3⟩
        · rw [tk_p_s (by rw [ep]; exact hpn), ep]
    · rw [if_neg (fun z => hcl ((mo_lt (m := 1501) (b := 1501) (by omega) (by omega) rfl).mp z))]
      exact ⟨S, c, rfl, ⟨ho, hc, hle, hrow⟩, Or.inl (by omega)⟩
  · rw [if_neg (fun z => hpn ((im_lt (by omega) (by omega)).mp z))]
    have e : p = n := by omega
    refine ⟨S, c, rfl, ⟨ho, hc, hle, hrow⟩, Or.inr ?_⟩
    rw [← htk, e, tk_n_e]
/-- what the reader sees of the tokens -/
def tk_ok (T : Nat → Int32) (n : Nat) (S : wd_S) : Prop := ∀ i, i ≤ 1500 → (if Int32.ofNat i < S.1 4 5 then ro_at 5 (Int32.ofNat i) S else 20) = tk_K T n i ∧ (if Int32.ofNat i < S.1 4 5 then ro_at 7 (Int32.ofNat i) S else S.1 4 4) = Int32.ofNat (tk_p T n i) ∧ (tk_p T n i < n → lo_at 9 (Int32.ofNat i) S = tk_V T n i)
theorem sc_scan {n : Nat} {S : wd_S} (h8 : n ≤ 8000) : ∃ S', fn_Tokens_scan (Int32.ofNat n) S = some S' ∧ of_f (fun a k => sc_W a k ∨ (a = 4 ∧ k = 4)) S S' ∧ tk_ok (S.1 3) n S' := by
  unfold fn_Tokens_scan
  simp only [wd_b]
  obtain ⟨S', c, h1, ⟨ho, hc, hle, hrow⟩, hend⟩ := sc_loop (T := S.1 3) (n := n) (S0 := wd_i (wd_i S 4 4 (Int32.ofNat n)) 4 5 0) h8 (by rw [fr_row _ (by decide), fr_row _ (by decide)]) (by rw [fr_ne (by omega), fr_eq]) n 0 0 wd_F (wd_i (wd_i S 4 4 (Int32.ofNat n)) 4 5 0) (Nat.zero_add n) (by rw [show wd_F = 1000000 from rfl]; omega) ⟨of_refl, fr_eq, by decide, fun j hj => absurd hj (Nat.not_lt_zero j)⟩ rfl
  refine ⟨S', h1, ?_, fun i hi => ?_⟩
  · refine of_trans (of_i (by unfold sc_W; omega) (of_i (by omega) of_refl)) (of_mono (fun a k h => Or.inl h) ho)
  · rw [hc]
    have e44 : S'.1 4 4 = Int32.ofNat n := by rw [ho.1 4 4 (by unfold sc_W; omega), fr_ne (by omega), fr_eq]
    have hple := tk_p_le (S.1 3) n i
    by_cases hic : i < c
    · obtain ⟨r1, r2, r3⟩ := hrow i hic
      rw [if_pos ((im_lt (by omega) (by omega)).mpr hic), if_pos ((im_lt (by omega) (by omega)).mpr hic), ro_an (L := 1501) rfl (by omega), ro_an (L := 1501) rfl (by omega), lo_an (L := 1501) rfl (by omega)]
      exact ⟨r1, r2, fun _ => r3⟩
    · have e : tk_p (S.1 3) n i = n := by
        rcases hend with h | h
        · omega
        · have := tk_p_e h (i - c)
          rw [show c + (i - c) = i by omega] at this
          exact this
      rw [if_neg (fun z => hic ((im_lt (by omega) (by omega)).mp z)), if_neg (fun z => hic ((im_lt (by omega) (by omega)).mp z)), e44, e]
      refine ⟨?_, rfl, fun z => absurd z (Nat.lt_irrefl _)⟩
      unfold tk_K
      rw [e, if_neg (Nat.lt_irrefl _)]
end
/-! part 57 -/
section
/-! The reference's next token. -/
def nx_W (a k : Nat) : Prop := a = 135 ∧ 3 ≤ k ∧ k ≤ 10
theorem nx_269 (v : Int32) (S : wd_S) : fn_Mo_next_269 v S = some (mo_tl (wd_i S 135 4 v)) := by
  unfold fn_Mo_next_269 fn_Mo_next_288 mo_tl
  simp only [wd_b, mo_stop, wd_d_s]
  by_cases h : (wd_i S 135 4 v).1 135 4 = 0
  · rw [if_pos h, if_pos h]
  · rw [if_neg h, if_neg h]
theorem nx_168 (c : Int32) (S : wd_S) : fn_Mo_next_168 c S = some (mo_tl (wd_i S 135 4 (lx_cv (tk_sg c)))) := by
  unfold fn_Mo_next_168
  simp only [nx_269]
  by_cases h61 : c = 61
  · subst h61; rfl
  rw [if_neg h61]
  by_cases h40 : c = 40
  · subst h40; rfl
  rw [if_neg h40]
  by_cases h41 : c = 41
  · subst h41; rfl
  rw [if_neg h41]
  by_cases h44 : c = 44
  · subst h44; rfl
  rw [if_neg h44]
  by_cases h59 : c = 59
  · subst h59; rfl
  rw [if_neg h59]
  by_cases h43 : c = 43
  · subst h43; rfl
  rw [if_neg h43]
  by_cases h45 : c = 45
  · subst h45; rfl
  rw [if_neg h45]
  by_cases h42 : c = 42
  · subst h42; rfl
  rw [if_neg h42]
  by_cases h60 : c = 60
  · subst h60; rfl
  rw [if_neg h60]
  have e : tk_sg c = 19 := by
    unfold tk_sg
    rw [if_neg h40, if_neg h41, if_neg h42, if_neg h43, if_neg h44, if_neg h45, if_neg h59, if_neg h60, if_neg h61]
  rw [e]
  rfl
theorem nx_tl {S : wd_S} (hf : S.1 135 9 = 0) : of_f nx_W S (mo_tl S) ∧ (∀ k, k ≠ 9 → k ≠ 10 → (mo_tl S).1 135 k = S.1 135 k) ∧ (mo_tl S).2 = S.2 ∧ (S.1 135 4 = 0 → (mo_tl S).1 135 9 = 1 ∧ (mo_tl S).1 135 10 = S.1 135 5) ∧ (¬S.1 135 4 = 0 → mo_tl S = S) := by
  unfold mo_tl
  by_cases h : S.1 135 4 = 0
  · rw [if_pos h, if_pos hf]
    refine ⟨of_i (by unfold nx_W; omega) (of_i (by unfold nx_W; omega) of_refl), fun k h1 h2 => ?_, rfl, fun _ => ⟨?_, fr_eq⟩, fun q => absurd h q⟩
    · rw [fr_ne (fun q => h2 q.2), fr_ne (fun q => h1 q.2)]
    · rw [fr_ne (by omega), fr_eq]
  · rw [if_neg h]
    exact ⟨of_refl, fun _ _ _ => rfl, rfl, fun q => absurd q h, fun _ => rfl⟩
theorem fr_self (S : wd_S) (a k : Nat) : wd_i S a k (S.1 a k) = S := by
  have e : (wd_i S a k (S.1 a k)).1 = S.1 := by
    funext b m
    rw [fr_i1]
    by_cases h : b = a ∧ m = k
    · rw [if_pos h, h.1, h.2]
    · rw [if_neg h]
  exact Prod.ext e rfl
theorem nx_cv {T : Nat → Int32} {n p : Nat} (h : lx_cv (tk_k T n p) = 0) : tk_k T n p = 19 := by
  unfold tk_k at h ⊢
  split at h
  · next h1 =>
    rw [if_pos h1]
    split at h
    · exact absurd h (by decide)
    · next h2 =>
      rw [if_neg h2]
      revert h
      unfold tk_sg
      iterate 9 (split; · exact fun h => absurd h (by decide))
      exact fun _ => rfl
  · next h1 =>
    rw [if_neg h1]
    revert h
    unfold lx_k
    split
    · split
      · exact fun _ => rfl
      · exact fun h => absurd h (by decide)
    · split
      · exact fun _ => rfl
      · unfold fo_wk
        iterate 5 (split; · exact fun h => absurd h (by decide))
        exact fun h => absurd h (by decide)
theorem nx_sg (c : Int32) : ¬tk_sg c = 1 ∧ ¬tk_sg c = 2 := by
  unfold tk_sg
  by_cases h40 : c = 40
  · rw [if_pos h40]; decide
  rw [if_neg h40]
  by_cases h41 : c = 41
  · rw [if_pos h41]; decide
  rw [if_neg h41]
  by_cases h42 : c = 42
  · rw [if_pos h42]; decide
  rw [if_neg h42]
  by_cases h43 : c = 43
  · rw [if_pos h43]; decide
  rw [if_neg h43]
  by_cases h44 : c = 44
  · rw [if_pos h44]; decide
  rw [if_neg h44]
  by_cases h45 : c = 45
  · rw [if_pos h45]; decide
  rw [if_neg h45]
  by_cases h59 : c = 59
  · rw [if_pos h59]; decide
  rw [if_neg h59]
  by_cases h60 : c = 60
  · rw [if_pos h60]; decide
  rw [if_neg h60]
  by_cases h61 : c = 61
  · rw [if_pos h61]; decide
  rw [if_neg h61]
  decide
theorem nx_w1 (p : Int64) : ¬fo_wk p = 1 := by
  unfold fo_wk
  by_cases h0 : p = 26982
  · rw [if_pos h0]; decide
  rw [if_neg h0]
  by_cases h1 : p = 26990
  · rw [if_pos h1]; decide
  rw [if_neg h1]
  by_cases h2 : p = 7103860
  · rw [if_pos h2]; decide
  rw [if_neg h2]
  by_cases h3 : p = 1952998766
  · rw [if_pos h3]; decide
  rw [if_neg h3]
  by_cases h4 : p = 1701606245
  · rw [if_pos h4]; decide
  rw [if_neg h4]
  decide
/-- the token at p is told -/
def nx_is (T : Nat → Int32) (n p : Nat) (S S' : wd_S) : Prop := of_f nx_W S S' ∧ S'.1 135 5 = Int32.ofNat p ∧ (p = n → S'.1 135 4 = 23 ∧ S'.1 135 3 = Int32.ofNat n ∧ S'.1 135 6 = S.1 135 6 ∧ S'.1 135 9 = 0 ∧ S'.1 135 10 = S.1 135 10) ∧ (p < n → S'.1 135 4 = lx_cv (tk_k T n p) ∧ S'.1 135 3 = Int32.ofNat (p + tk_z T n p) ∧ S'.1 135 6 = S.1 135 6 + 1 ∧ (tk_k T n p = 2 → S'.2.1 135 7 = tk_v T n p) ∧ (tk_k T n p = 1 → S'.1 135 8 = (tk_v T n p).toInt32) ∧ (tk_k T n p = 19 → S'.1 135 9 = 1 ∧ S'.1 135 10 = Int32.ofNat p) ∧ (¬tk_k T n p = 19 → S'.1 135 9 = 0 ∧ S'.1 135 10 = S.1 135 10))
/-- with kind and place laid, what is left is the fault -/
theorem nx_end {T : Nat → Int32} {n p : Nat} {S S' : wd_S} (hp : p < n) (ho : of_f nx_W S S') (h5 : S'.1 135 5 = Int32.ofNat p) (h4 : S'.1 135 4 = lx_cv (tk_k T n p)) (h3 : S'.1 135 3 = Int32.ofNat (p + tk_z T n p)) (h6 : S'.1 135 6 = S.1 135 6 + 1) (h7 : tk_k T n p = 2 → S'.2.1 135 7 = tk_v T n p) (h8 : tk_k T n p = 1 → S'.1 135 8 = (tk_v T n p).toInt32) (h9 : S'.1 135 9 = 0) (h10 : S'.1 135 10 = S.1 135 10) : nx_is T n p S (mo_tl S') := by
  obtain ⟨e1, e2, e3, e4, e5⟩ := nx_tl h9
  refine ⟨of_trans ho e1, (e2 5 (by decide) (by decide)).trans h5, fun q => by omega, fun _ => ⟨(e2 4 (by decide) (by decide)).trans h4, (e2 3 (by decide) (by decide)).trans h3, (e2 6 (by decide) (by decide)).trans h6, fun q => ?_, fun q => (e2 8 (by decide) (by decide)).trans (h8 q), fun q => ?_, fun q => ?_⟩⟩
  · rw [e3]; exact h7 q
  · have := e4 (by rw [h4, q]; rfl)
    rw [h5] at this
    exact this
  · rw [e5 (fun z => q (nx_cv (h4.symm.trans z)))]
    exact ⟨h9, h10⟩
theorem nx_52 {n p : Nat} {S : wd_S} (hn : S.1 135 2 = Int32.ofNat n) (hp : S.1 135 3 = Int32.ofNat p) (hle : p ≤ n) (h8 : n ≤ 8000) (hf : S.1 135 9 = 0) : ∃ S', fn_Mo_next_52 S = some S' ∧ nx_is (S.1 136) n p S S' := by
  unfold fn_Mo_next_52
  simp only [wd_b]
  have g3 : (wd_i S 135 5 (S.1 135 3)).1 135 3 = Int32.ofNat p := by rw [fr_ne (by omega)]; exact hp
  have g2 : (wd_i S 135 5 (S.1 135 3)).1 135 2 = Int32.ofNat n := by rw [fr_ne (by omega)]; exact hn
  have g6 : (wd_i S 135 5 (S.1 135 3)).1 135 6 = S.1 135 6 := fr_ne (by omega)
  rw [g3, g2, g6, hp]
  by_cases he : p = n
  · rw [if_pos (by rw [he])]
    refine ⟨_, rfl, of_i (by unfold nx_W; omega) (of_i (by unfold nx_W; omega) of_refl), ?_, fun _ => ⟨fr_eq, ?_, ?_, ?_, ?_⟩, fun q => by omega⟩
    · rw [fr_ne (by omega), fr_eq]
    · rw [fr_ne (by omega), fr_ne (by omega), hp, he]
    · rw [fr_ne (by omega), fr_ne (by omega)]
    · rw [fr_ne (by omega), fr_ne (by omega), hf]
    · rw [fr_ne (by omega), fr_ne (by omega)]
  · have hlt : p < n := by omega
    rw [if_neg (fun q => he ((im_eq (by omega) (by omega)).mp q))]
    generalize hS4 : wd_i (wd_i S 135 5 (Int32.ofNat p)) 135 6 (S.1 135 6 + 1) = S4
    have o4 : of_f nx_W S S4 := by rw [← hS4]; exact of_i (by unfold nx_W; omega) (of_i (by unfold nx_W; omega) of_refl)
    have k3 : S4.1 135 3 = Int32.ofNat p := by rw [← hS4, fr_ne (by omega), fr_ne (by omega)]; exact hp
    have k2 : S4.1 135 2 = Int32.ofNat n := by rw [← hS4, fr_ne (by omega), fr_ne (by omega)]; exact hn
    have k5 : S4.1 135 5 = Int32.ofNat p := by rw [← hS4, fr_ne (by omega), fr_eq]
    have k6 : S4.1 135 6 = S.1 135 6 + 1 := by rw [← hS4, fr_eq]
    have k9 : S4.1 135 9 = 0 := by rw [← hS4, fr_ne (by omega), fr_ne (by omega)]; exact hf
    have k10 : S4.1 135 10 = S.1 135 10 := by rw [← hS4, fr_ne (by omega), fr_ne (by omega)]
    have kT : S4.1 136 = S.1 136 := by rw [← hS4, fr_row _ (by decide), fr_row _ (by decide)]
    rw [k3, im_t (show p < 2147483648 by omega), if_neg (show ¬(Int32.ofNat p < 0 ∨ 8000 ≤ p) by rintro (q | q); exact im_neg (by omega) q; omega), fo_moRow, wd_c_s, kT]
    generalize hT : S.1 136 = T
    rw [hT] at kT
    by_cases hr : (T p < 48 ∨ 57 < T p) ∧ (T p < 97 ∨ 122 < T p)
    · rw [if_pos hr, if_pos rfl, k3, im_s]
      have j3 : (wd_i S4 135 3 (Int32.ofNat (p + 1))).1 135 3 = Int32.ofNat (p + 1) := fr_eq
      have j2 : (wd_i S4 135 3 (Int32.ofNat (p + 1))).1 135 2 = Int32.ofNat n := by rw [fr_ne (by omega)]; exact k2
      have jT : (wd_i S4 135 3 (Int32.ofNat (p + 1))).1 136 = T := by rw [fr_row _ (by decide)]; exact kT
      have hsg : ¬(T p = 61 ∧ p + 1 < n ∧ T (p + 1) = 61) → ∃ S', fn_Mo_next_168 (T p) (wd_i S4 135 3 (Int32.ofNat (p + 1))) = some S' ∧ nx_is T n p S S' := by
        intro h2
        have ek : tk_k T n p = tk_sg (T p) := by unfold tk_k; rw [if_pos hr, if_neg h2]
        have ez : tk_z T n p = 1 := by unfold tk_z; rw [if_pos hr, if_neg h2]
        refine ⟨_, nx_168 _ _, nx_end hlt (of_i (by unfold nx_W; omega) (of_i (by unfold nx_W; omega) o4)) ?_ ?_ ?_ ?_ ?_ ?_ ?_ ?_⟩
        · rw [fr_ne (by omega), fr_ne (by omega)]; exact k5
        · rw [fr_eq, ek]
        · rw [fr_ne (by omega), fr_eq, ez]
        · rw [fr_ne (by omega), fr_ne (by omega)]; exact k6
        · intro q
          rw [ek] at q
          exact absurd q (nx_sg _).2
        · intro q
          rw [ek] at q
          exact absurd q (nx_sg _).1
        · rw [fr_ne (by omega), fr_ne (by omega)]; exact k9
        · rw [fr_ne (by omega), fr_ne (by omega)]; exact k10
      by_cases h6 : T p = 61
      · rw [if_pos h6, j3, j2]
        by_cases h7 : p + 1 < n
        · rw [if_pos ((im_lt (by omega) (by omega)).mpr h7), im_t (show p + 1 < 2147483648 by omega), if_neg (show ¬(Int32.ofNat (p + 1) < 0 ∨ 8000 ≤ p + 1) by rintro (q | q); exact im_neg (by omega) q; omega), jT]
          by_cases h9 : T (p + 1) = 61
          · rw [if_pos h9]
            have ek : tk_k T n p = 10 := by unfold tk_k; rw [if_pos hr, if_pos ⟨h6, h7, h9⟩]
            have ez : tk_z T n p = 2 := by unfold tk_z; rw [if_pos hr, if_pos ⟨h6, h7, h9⟩]
            refine ⟨_, rfl, of_i (by unfold nx_W; omega) (of_i (by unfold nx_W; omega) (of_i (by unfold nx_W; omega) o4)), ?_, fun q => by omega, fun _ => ⟨?_, ?_, ?_, ?_, ?_, ?_, fun _ => ⟨?_, ?_⟩⟩⟩
            · rw [fr_ne (by omega), fr_ne (by omega), fr_ne (by omega)]; exact k5
            · rw [fr_eq, ek]; rfl
            · rw [fr_ne (by omega), fr_eq, im_s, ez]
            · rw [fr_ne (by omega), fr_ne (by omega), fr_ne (by omega)]; exact k6
            · intro q; rw [ek] at q; exact absurd q (by decide)
            · intro q; rw [ek] at q; exact absurd q (by decide)
            · intro q; rw [ek] at q; exact absurd q (by decide)
            · rw [fr_ne (by omega), fr_ne (by omega), fr_ne (by omega)]; exact k9
            · rw [fr_ne (by omega), fr_ne (by omega), fr_ne (by omega)]; exact k10
          · rw [if_neg h9]
            have := hsg (fun q => h9 q.2.2)
            rw [h6] at this
            rw [h6]
            exact this
        · rw [if_neg (fun q => h7 ((im_lt (by omega) (by omega)).mp q))]
          have := hsg (fun q => h7 q.2.1)
          rw [h6] at this
          rw [h6]
          exact this
      · rw [if_neg h6]
        exact hsg (fun q => h6 q.1)
    · rw [if_neg hr, if_neg (by decide)]
      have hrow := tk_row T n (n - p) p (by omega)
      have hrl := tk_rl_le T (n - p) p
      have hz : tk_z T n p = tk_rl T (n - p) p := by unfold tk_z; rw [if_neg hr]
      have hz1 := (tk_z_ok (T := T) hlt).1
      have ek : tk_k T n p = lx_k T p (tk_rl T (n - p) p) := by unfold tk_k; rw [if_neg hr]
      have ev : tk_v T n p = lx_v T p (tk_rl T (n - p) p) := by unfold tk_v; rw [if_neg hr]
      have e := lx_ml (S := S4) k2 h8 (by rw [kT]; exact hrow) _ 0 wd_F (Nat.zero_add _) (by rw [show wd_F = 1000000 from rfl]; omega)
      rw [kT] at e
      have e0 : wd_i S4 135 3 (Int32.ofNat (p + 0)) = S4 := by
        rw [Nat.add_zero, ← k3]
        exact fr_self S4 135 3
      rw [e0] at e
      have e : fn_Mo_row S4 = _ := e
      generalize hS7 : wd_i S4 135 3 (Int32.ofNat (p + tk_rl T (n - p) p)) = S7 at e
      have i3 : S7.1 135 3 = Int32.ofNat (p + tk_rl T (n - p) p) := by rw [← hS7, fr_eq]
      have i5 : S7.1 135 5 = Int32.ofNat p := by rw [← hS7, fr_ne (by omega)]; exact k5
      have i6 : S7.1 135 6 = S.1 135 6 + 1 := by rw [← hS7, fr_ne (by omega)]; exact k6
      have i9 : S7.1 135 9 = 0 := by rw [← hS7, fr_ne (by omega)]; exact k9
      have i10 : S7.1 135 10 = S.1 135 10 := by rw [← hS7, fr_ne (by omega)]; exact k10
      have iT : S7.1 136 = T := by rw [← hS7, fr_row _ (by decide)]; exact kT
      have o7 : of_f nx_W S S7 := by rw [← hS7]; exact of_i (by unfold nx_W; omega) o4
      rw [mo_124 i5 i3 (by omega) (by omega), iT] at e
      rw [e, wd_d_s]
      by_cases hd : T p < 48 ∨ 57 < T p
      · have hl : ¬(T p < 97 ∨ 122 < T p) := fun q => hr ⟨hd, q⟩
        rw [if_pos hd]
        refine ⟨_, rfl, nx_end hlt (of_l (by unfold nx_W; omega) (of_i (by unfold nx_W; omega) o7)) ?_ ?_ ?_ ?_ ?_ ?_ ?_ ?_⟩
        · rw [fr_l2, fr_ne (by omega)]; exact i5
        · rw [fr_l2, fr_eq, ek, lx_let hrow (by omega) hl]
        · rw [fr_l2, fr_ne (by omega), hz]; exact i3
        · rw [fr_l2, fr_ne (by omega)]; exact i6
        · intro q
          rw [ek] at q
          rw [fr_l1, if_pos ⟨rfl, rfl⟩, ev]
          unfold lx_v lx_k at *
          rw [if_neg hl] at q ⊢
          by_cases h8 : 8 < tk_rl T (n - p) p
          · rw [if_pos h8] at q; exact absurd q (by decide)
          · rw [if_neg h8]
        · intro q
          rw [ek] at q
          exfalso
          unfold lx_k at q
          rw [if_neg hl] at q
          by_cases h8 : 8 < tk_rl T (n - p) p
          · rw [if_pos h8] at q; exact absurd q (by decide)
          · rw [if_neg h8] at q
            exact nx_w1 _ q
        · rw [fr_l2, fr_ne (by omega)]; exact i9
        · rw [fr_l2, fr_ne (by omega)]; exact i10
      · have hl : T p < 97 ∨ 122 < T p := by
          refine Or.inl (Int32.lt_iff_toInt_lt.mpr ?_)
          have : ¬(57 : Int) < (T p).toInt := fun q => hd (Or.inr (Int32.lt_iff_toInt_lt.mpr q))
          show (T p).toInt < 97
          omega
        obtain ⟨n1, n2⟩ := lx_num (T := T) (a := p) (k := tk_rl T (n - p) p) hl
        rw [if_neg hd]
        refine ⟨_, rfl, nx_end hlt (of_i (by unfold nx_W; omega) (of_i (by unfold nx_W; omega) o7)) ?_ ?_ ?_ ?_ ?_ ?_ ?_ ?_⟩
        · rw [fr_ne (by omega), fr_ne (by omega)]; exact i5
        · rw [fr_ne (by omega), fr_eq, ek, n1]
        · rw [fr_ne (by omega), fr_ne (by omega), hz]; exact i3
        · rw [fr_ne (by omega), fr_ne (by omega)]; exact i6
        · intro q
          rw [ek] at q
          exfalso
          unfold lx_k at q
          rw [if_pos hl] at q
          revert q
          split
          · decide
          · decide
        · intro q
          rw [ek] at q
          rw [fr_eq, ev, n2 q]
        · rw [fr_ne (by omega), fr_ne (by omega)]; exact i9
        · rw [fr_ne (by omega), fr_ne (by omega)]; exact i10
theorem nx_sk {n : Nat} {S : wd_S} (hn : S.1 135 2 = Int32.ofNat n) (h8 : n ≤ 8000) : ∀ (f q g : Nat), q + f = n → f < g → fn_Mo_next_0 g (wd_i S 135 3 (Int32.ofNat q)) = fn_Mo_next_52 (wd_i S 135 3 (Int32.ofNat (tk_sk (S.1 136) f q))) := by
  intro f
  induction f with
  | zero =>
    intro q g hq hg
    obtain ⟨g, rfl⟩ : ∃ z, g = z + 1 := ⟨g - 1, by omega⟩
    rw [fn_Mo_next_0, fr_eq, fr_ne (by omega), hn, if_neg (fun z => by have := (im_lt (by omega) (by omega)).mp z; omega)]
    rfl
  | succ f ih =>
    intro q g hq hg
    obtain ⟨g, rfl⟩ : ∃ z, g = z + 1 := ⟨g - 1, by omega⟩
    have e1 : ¬(Int32.ofNat q < 0 ∨ 8000 ≤ (Int32.ofNat q).toNatClampNeg) := by
      rw [im_t (by omega)]
      rintro (z | z)
      · exact im_neg (by omega) z
      · omega
    have e2 : (wd_i S 135 3 (Int32.ofNat q)).1 136 = S.1 136 := fr_row _ (by decide)
    have e3 : fn_Mo_next_39 (fn_Mo_next_0 g) (wd_i S 135 3 (Int32.ofNat q)) = fn_Mo_next_0 g (wd_i S 135 3 (Int32.ofNat (q + 1))) := by
      unfold fn_Mo_next_39
      simp only [wd_b]
      rw [fr_eq, im_s, fr_ii]
    rw [fn_Mo_next_0, fr_eq, fr_ne (by omega), hn, if_pos ((im_lt (by omega) (by omega)).mpr (by omega)), if_neg e1, im_t (by omega), e2]
    unfold tk_sk
    by_cases h1 : S.1 136 q = 32
    · rw [if_pos h1, if_pos (Or.inl h1), e3]
      exact ih (q + 1) g (by omega) (by omega)
    · rw [im_t (by omega)] at e1
      rw [if_neg h1, if_neg e1]
      by_cases h2 : S.1 136 q = 10
      · rw [if_pos h2, if_pos (Or.inr h2), e3]
        exact ih (q + 1) g (by omega) (by omega)
      · rw [if_neg h2, if_neg (by rintro (z | z); exact h1 z; exact h2 z)]
theorem nx_next {n q : Nat} {S : wd_S} (hn : S.1 135 2 = Int32.ofNat n) (hq : S.1 135 3 = Int32.ofNat q) (hle : q ≤ n) (h8 : n ≤ 8000) (hf : S.1 135 9 = 0) : ∃ S', fn_Mo_next S = some S' ∧ nx_is (S.1 136) n (tk_n (S.1 136) n q) S S' := by
  have e := nx_sk hn h8 (n - q) q wd_F (by omega) (by rw [show wd_F = 1000000 from rfl]; omega)
  have e0 : wd_i S 135 3 (Int32.ofNat q) = S := by rw [← hq]; exact fr_self S 135 3
  rw [e0] at e
  have eT : (wd_i S 135 3 (Int32.ofNat (tk_sk (S.1 136) (n - q) q))).1 136 = S.1 136 := fr_row _ (by decide)
  obtain ⟨S', h1, h2⟩ := nx_52 (S := wd_i S 135 3 (Int32.ofNat (tk_sk (S.1 136) (n - q) q))) (n := n) (p := tk_n (S.1 136) n q) (by rw [fr_ne (by omega)]; exact hn) fr_eq (tk_n_le hle) h8 (by rw [fr_ne (by omega)]; exact hf)
  rw [eT] at h2
  refine ⟨S', (show fn_Mo_next S = fn_Mo_next_0 wd_F S from rfl).trans (e.trans h1), ?_⟩
  obtain ⟨a1, a2, a3, a4⟩ := h2
  refine ⟨of_trans (of_i (by unfold nx_W; omega) of_refl) a1, a2, fun z => ?_, fun z => ?_⟩
  · have := a3 z
    rw [fr_ne (by omega), fr_ne (by omega)] at this
    exact this
  · have := a4 z
    rw [fr_ne (by omega), fr_ne (by omega)] at this
    exact this
end
