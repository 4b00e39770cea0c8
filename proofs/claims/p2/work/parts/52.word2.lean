/-! The reference's words. -/
def mo_wk (p : Int64) : Int32 := if p = 26982 then 2 else if p = 1952998766 then 3 else if p = 1701606245 then 4 else if p = 7103860 then 5 else if p = 26990 then 6 else 0
theorem mo_pk1 (S : wd_S) : fn_Mo_packed 0 0 105 102 S = some (26982, S) := by
  unfold fn_Mo_packed
  congr 2
theorem mo_pk2 (S : wd_S) : fn_Mo_packed 116 104 101 110 S = some (1952998766, S) := by
  unfold fn_Mo_packed
  congr 2
theorem mo_pk3 (S : wd_S) : fn_Mo_packed 101 108 115 101 S = some (1701606245, S) := by
  unfold fn_Mo_packed
  congr 2
theorem mo_pk4 (S : wd_S) : fn_Mo_packed 0 108 101 116 S = some (7103860, S) := by
  unfold fn_Mo_packed
  congr 2
theorem mo_pk5 (S : wd_S) : fn_Mo_packed 0 0 105 110 S = some (26990, S) := by
  unfold fn_Mo_packed
  congr 2
theorem mo_word (p : Int64) (S : wd_S) : fn_Mo_wordOf p S = some (mo_wk p, S) := by
  unfold fn_Mo_wordOf fn_Mo_wordOf_97 mo_wk
  simp only [mo_pk1, mo_pk2, mo_pk3, mo_pk4, mo_pk5, wd_c_s, sm_eq]
  by_cases h1 : p = 26982
  · rw [if_pos h1, if_pos h1]
  · rw [if_neg h1, if_neg h1]
    by_cases h2 : p = 1952998766
    · rw [if_pos h2, if_pos h2]
    · rw [if_neg h2, if_neg h2]
      by_cases h3 : p = 1701606245
      · rw [if_pos h3, if_pos h3]
      · rw [if_neg h3, if_neg h3]
        by_cases h4 : p = 7103860
        · rw [if_pos h4, if_pos h4]
        · rw [if_neg h4, if_neg h4]
          by_cases h5 : p = 26990
          · rw [if_pos h5, if_pos h5]
          · rw [if_neg h5, if_neg h5]
/-- the kinds of the class as the reference's -/
def lx_cv (k : Int32) : Int32 := if k = 1 then 11 else if k = 2 then 10 else if k = 3 then 5 else if k = 4 then 2 else if k = 6 then 19 else if k = 7 then 20 else if k = 8 then 21 else if k = 9 then 22 else if k = 10 then 12 else if k = 11 then 3 else if k = 12 then 4 else if k = 13 then 6 else if k = 14 then 13 else if k = 15 then 14 else if k = 16 then 15 else if k = 17 then 16 else if k = 18 then 17 else if k = 20 then 23 else 0
theorem lx_wk (p : Int64) : lx_cv (fo_wk p) = if mo_wk p = 0 then 10 else mo_wk p := by
  unfold fo_wk mo_wk
  by_cases h1 : p = 26982
  · subst h1; decide
  · by_cases h2 : p = 26990
    · subst h2; decide
    · by_cases h3 : p = 7103860
      · subst h3; decide
      · by_cases h4 : p = 1952998766
        · subst h4; decide
        · by_cases h5 : p = 1701606245
          · subst h5; decide
          · rw [if_neg h1, if_neg h2, if_neg h3, if_neg h4, if_neg h5, if_neg h1, if_neg h4, if_neg h5, if_neg h3, if_neg h2]
            decide
theorem mo_stop (k i : Int32) (S : wd_S) : fn_Mo_stop k i S = some (if S.1 135 9 = 0 then wd_i (wd_i S 135 9 k) 135 10 i else S) := by
  unfold fn_Mo_stop fn_Mo_stop_17
  simp only [wd_b]
  by_cases h : S.1 135 9 = 0
  · rw [if_pos h, if_pos h]
  · rw [if_neg h, if_neg h]
