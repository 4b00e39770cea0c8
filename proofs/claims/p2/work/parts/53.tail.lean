/-! What a row of letters and digits is, on the reference's side. -/
def mo_tl (S : wd_S) : wd_S := if S.1 135 4 = 0 then (if S.1 135 9 = 0 then wd_i (wd_i S 135 9 1) 135 10 (S.1 135 5) else S) else S
theorem mo_238 (S : wd_S) : fn_Mo_row_238 S = some (mo_tl S) := by
  unfold fn_Mo_row_238 fn_Mo_row_254 mo_tl
  rw [mo_stop, wd_d_s]
  by_cases h : S.1 135 4 = 0
  · rw [if_pos h, if_pos h]
  · rw [if_neg h, if_neg h]
/-- the reference's token of a row that begins with a letter, with a digit -/
def mo_kl (p : Int64) (k : Nat) : Int32 := if 4 < k then (if 8 < k then 0 else 10) else if 0 < mo_wk p then mo_wk p else 10
def mo_kn (g : Int32) (v : Int64) (k : Nat) : Int32 := if g = 0 ∨ 10 < k ∨ (2147483647 : Int) < v.toInt then 0 else 11
theorem mo_124 {a k : Nat} {g : Int32} {p v : Int64} {S : wd_S} (ha : S.1 135 5 = Int32.ofNat a) (he : S.1 135 3 = Int32.ofNat (a + k)) (h0 : a < 8000) (h8 : a + k ≤ 8000) : fn_Mo_row_124 g p v S = some (if S.1 136 a < 48 ∨ 57 < S.1 136 a then mo_tl (wd_l (wd_i S 135 4 (mo_kl p k)) 135 7 p) else mo_tl (wd_i (wd_i S 135 4 (mo_kn g v k)) 135 8 v.toInt32)) := by
  unfold fn_Mo_row_124 fn_Mo_row_204 fn_Mo_row_230 fn_Mo_row_176 fn_Mo_row_177
  simp only [wd_b, mo_238]
  have ek : Int32.ofNat (a + k) - Int32.ofNat a = Int32.ofNat k := by
    have := Int32.ofNat_sub (a + k) a (by omega)
    rw [Nat.add_sub_cancel_left] at this
    exact this.symm
  have e10 : (10 : Int32) < Int32.ofNat k ↔ 10 < k := by
    rw [show (10 : Int32) = Int32.ofNat 10 from rfl]
    exact im_lt (by omega) (by omega)
  have e8 : (8 : Int32) < Int32.ofNat k ↔ 8 < k := by
    rw [show (8 : Int32) = Int32.ofNat 8 from rfl]
    exact im_lt (by omega) (by omega)
  have e4 : (4 : Int32) < Int32.ofNat k ↔ 4 < k := by
    rw [show (4 : Int32) = Int32.ofNat 4 from rfl]
    exact im_lt (by omega) (by omega)
  have em : 0 < lg_cmp v 2147483647 ↔ (2147483647 : Int) < v.toInt := sm_gt
  rw [ha, he, ek, im_t (by omega), if_neg (by rintro (q | q); exact im_neg (by omega) q; omega), fo_moDigit, wd_c_s]
  by_cases hd : S.1 136 a < 48 ∨ 57 < S.1 136 a
  · rw [if_pos hd, if_pos rfl, if_pos hd]
    unfold mo_kl
    by_cases h4 : 4 < k
    · rw [if_pos (e4.mpr h4), if_neg (by decide)]
      by_cases h8 : 8 < k
      · rw [if_pos (e8.mpr h8), if_pos h4, if_pos h8]
      · rw [if_neg (fun q => h8 (e8.mp q)), if_pos h4, if_neg h8]
    · rw [if_neg (fun q => h4 (e4.mp q)), mo_word, wd_c_s]
      by_cases hw : 0 < mo_wk p
      · rw [if_pos hw, if_neg h4, if_pos hw]
      · rw [if_neg hw, if_neg (fun q => by have := e8.mp q; omega), if_neg h4, if_neg hw]
  · rw [if_neg hd, if_neg (by decide), if_neg hd]
    unfold mo_kn
    by_cases h1 : g = 0
    · rw [if_pos h1, if_pos (Or.inl h1)]
    · rw [if_neg h1]
      by_cases h2 : 10 < k
      · rw [if_pos (e10.mpr h2), if_pos (Or.inr (Or.inl h2))]
      · rw [if_neg (fun q => h2 (e10.mp q))]
        by_cases h3 : (2147483647 : Int) < v.toInt
        · rw [if_pos (em.mpr h3), if_pos (Or.inr (Or.inr h3))]
        · rw [if_neg (fun q => h3 (em.mp q)), if_neg]
          rintro (q | q | q)
          · exact h1 q
          · exact h2 q
          · exact h3 q
