/-! What a row of letters and digits is, on the class's side. -/
def fo_kp (k : Int32) (v : Int64) (S : wd_S) : wd_S := wd_i (lo_put 9 (S.1 4 5) v (ro_put 5 (S.1 4 5) k S)) 4 5 (S.1 4 5 + 1)
theorem fo_keep (k : Int32) (v : Int64) (z : Int32) (S : wd_S) : fn_Tokens_keep k v z S = some (z, fo_kp k v S) := by
  unfold fn_Tokens_keep fo_kp
  simp only [wd_b]
  rw [ro_put_ok, wd_d_s]
  have e1 : (ro_put 5 (S.1 4 5) k S).1 4 5 = S.1 4 5 := by rw [fr_p1, if_neg (by rintro ⟨h, -⟩; exact absurd h (by decide))]
  rw [e1, lo_put_ok, wd_d_s]
  have e2 : (lo_put 9 (S.1 4 5) v (ro_put 5 (S.1 4 5) k S)).1 4 5 = S.1 4 5 := by rw [fr_q2, e1]
  rw [e2]
def fo_wk (p : Int64) : Int32 := if p = 26982 then 4 else if p = 26990 then 13 else if p = 7103860 then 3 else if p = 1952998766 then 11 else if p = 1701606245 then 12 else 2
theorem fo_word (p : Int64) (S : wd_S) : fn_Tokens_wordKind p S = some (fo_wk p, S) := by
  unfold fn_Tokens_wordKind fn_Tokens_wordKind_56 fo_wk
  simp only [sm_eq]
  by_cases h1 : p = 26982
  · rw [if_pos h1, if_pos h1]
  · rw [if_neg h1, if_neg h1]
    by_cases h2 : p = 26990
    · rw [if_pos h2, if_pos h2]
    · rw [if_neg h2, if_neg h2]
      by_cases h3 : p = 7103860
      · rw [if_pos h3, if_pos h3]
      · rw [if_neg h3, if_neg h3]
        by_cases h4 : p = 1952998766
        · rw [if_pos h4, if_pos h4]
        · rw [if_neg h4, if_neg h4]
          by_cases h5 : p = 1701606245
          · rw [if_pos h5, if_pos h5]
          · rw [if_neg h5, if_neg h5]
/-- a row of k bytes from a on: its kind and value -/
def lx_k (T : Nat → Int32) (a k : Nat) : Int32 := if T a < 97 ∨ 122 < T a then (if lx_fg T a k = 0 ∨ 10 < k ∨ (2147483647 : Int) < (lx_nu T a k).toInt then 19 else 1) else if 8 < k then 19 else fo_wk (lx_pk T a k)
def lx_v (T : Nat → Int32) (a k : Nat) : Int64 := if T a < 97 ∨ 122 < T a then (if lx_fg T a k = 0 ∨ 10 < k ∨ (2147483647 : Int) < (lx_nu T a k).toInt then 0 else lx_nu T a k) else if 8 < k then 0 else lx_pk T a k
theorem lx_111 {a k : Nat} {S : wd_S} (ha : a + k ≤ 8000) (h0 : a < 8000) : fn_Tokens_scanRow_111 (Int32.ofNat a) (lx_pk (S.1 3) a k) (lx_nu (S.1 3) a k) (lx_fg (S.1 3) a k) (Int32.ofNat (a + k)) S = some (Int32.ofNat k, fo_kp (lx_k (S.1 3) a k) (lx_v (S.1 3) a k) S) := by
  unfold fn_Tokens_scanRow_111 fn_Tokens_scanRow_187 fn_Tokens_scanRow_188 fn_Tokens_scanRow_216 fn_Tokens_scanRow_161 lx_k lx_v
  have ek : Int32.ofNat (a + k) - Int32.ofNat a = Int32.ofNat k := by
    have := Int32.ofNat_sub (a + k) a (by omega)
    rw [Nat.add_sub_cancel_left] at this
    exact this.symm
  rw [ro_at_ok, wd_c_s, lx_at h0, fo_isLetter, wd_c_s, ek]
  have e10 : (10 : Int32) < Int32.ofNat k ↔ 10 < k := by
    rw [show (10 : Int32) = Int32.ofNat 10 from rfl]
    exact im_lt (by omega) (by omega)
  have e8 : (8 : Int32) < Int32.ofNat k ↔ 8 < k := by
    rw [show (8 : Int32) = Int32.ofNat 8 from rfl]
    exact im_lt (by omega) (by omega)
  have em : 0 < lg_cmp (lx_nu (S.1 3) a k) 2147483647 ↔ (2147483647 : Int) < (lx_nu (S.1 3) a k).toInt := sm_gt
  by_cases hl : S.1 3 a < 97 ∨ 122 < S.1 3 a
  · simp only [if_pos hl, fo_keep, wd_c_s, ↓reduceIte]
    by_cases h1 : lx_fg (S.1 3) a k = 0
    · rw [if_pos h1, if_pos (Or.inl h1), if_pos (Or.inl h1)]
    · rw [if_neg h1]
      by_cases h2 : 10 < k
      · rw [if_pos (e10.mpr h2), if_pos (Or.inr (Or.inl h2)), if_pos (Or.inr (Or.inl h2))]
      · rw [if_neg (fun q => h2 (e10.mp q))]
        by_cases h3 : (2147483647 : Int) < (lx_nu (S.1 3) a k).toInt
        · rw [if_pos (em.mpr h3), if_pos (Or.inr (Or.inr h3)), if_pos (Or.inr (Or.inr h3))]
        · have h4 : ¬(lx_fg (S.1 3) a k = 0 ∨ 10 < k ∨ (2147483647 : Int) < (lx_nu (S.1 3) a k).toInt) := by
            rintro (q | q | q)
            · exact h1 q
            · exact h2 q
            · exact h3 q
          rw [if_neg (fun q => h3 (em.mp q)), if_neg (by decide), if_neg h4, if_neg h4]
  · simp only [if_neg hl, fo_keep, fo_word, wd_c_s]
    rw [if_neg (by decide)]
    by_cases h1 : 8 < k
    · rw [if_pos (e8.mpr h1), if_pos h1, if_pos h1]
    · rw [if_neg (fun q => h1 (e8.mp q)), if_neg h1, if_neg h1]
