/-! Rows of letters and digits: the loops on both sides. -/
theorem lx_at {e : Nat} (he : e < 8000) (S : wd_S) : ro_at 2 (Int32.ofNat e) S = S.1 3 e := by
  unfold ro_at
  rw [im_t (by omega), if_neg]
  rintro (q | q)
  · exact im_neg (by omega) q
  · have : (tp_t (2 + 1)).2 = 8000 := rfl
    omega
theorem lx_cs {n e f : Nat} {l1 : Int32} {l2 l4 : Int64} {l6 : Int32} {S : wd_S} (hn : S.1 4 4 = Int32.ofNat n) (he : e < n) (h8 : n ≤ 8000) (hr : ¬((S.1 3 e < 48 ∨ 57 < S.1 3 e) ∧ (S.1 3 e < 97 ∨ 122 < S.1 3 e))) : fn_Tokens_scanRow_11 (f + 1) l1 l2 l4 l6 (Int32.ofNat e) S = fn_Tokens_scanRow_11 f l1 ((l2 <<< ((8 : Int32).toInt64 &&& 63)) ||| (S.1 3 e).toInt64) (l4 * 10 + (S.1 3 e - 48).toInt64) (if l6 = 0 then 0 else if S.1 3 e < 48 ∨ 57 < S.1 3 e then 0 else 1) (Int32.ofNat (e + 1)) S := by
  have h50 : fn_Tokens_scanRow_50 (fn_Tokens_scanRow_11 f) l1 l2 l4 l6 (Int32.ofNat e) S = fn_Tokens_scanRow_11 f l1 ((l2 <<< ((8 : Int32).toInt64 &&& 63)) ||| (S.1 3 e).toInt64) (l4 * 10 + (S.1 3 e - 48).toInt64) (if l6 = 0 then 0 else if S.1 3 e < 48 ∨ 57 < S.1 3 e then 0 else 1) (Int32.ofNat (e + 1)) S := by
    unfold fn_Tokens_scanRow_50 fn_Tokens_scanRow_102 fn_Tokens_scanRow_103
    rw [ro_at_ok, wd_c_s, lx_at (by omega), fo_isDigit, wd_c_s, im_s]
    by_cases h6 : l6 = 0
    · rw [if_pos h6, if_pos h6]
    · rw [if_neg h6, if_neg h6]
      by_cases hd : S.1 3 e < 48 ∨ 57 < S.1 3 e
      · rw [if_pos hd, if_pos rfl]
      · rw [if_neg hd, if_neg (by decide)]
  rw [fn_Tokens_scanRow_11, hn, if_pos ((im_lt (by omega) (by omega)).mpr he), ro_at_ok, wd_c_s, lx_at (by omega), fo_isLetter, wd_c_s, ro_at_ok, wd_c_s, lx_at (by omega), fo_isDigit, wd_c_s]
  by_cases hl : S.1 3 e < 97 ∨ 122 < S.1 3 e
  · have hd : ¬(S.1 3 e < 48 ∨ 57 < S.1 3 e) := fun q => hr ⟨q, hl⟩
    rw [if_pos hl, if_pos rfl, if_neg hd, if_neg (by decide), h50, if_neg hd]
  · rw [if_neg hl, if_neg (by decide), h50]
/-- what a row is, as the class packs and counts it -/
def lx_pk (T : Nat → Int32) (a : Nat) : Nat → Int64
  | 0 => 0
  | k + 1 => (lx_pk T a k <<< ((8 : Int32).toInt64 &&& 63)) ||| (T (a + k)).toInt64
def lx_nu (T : Nat → Int32) (a : Nat) : Nat → Int64
  | 0 => 0
  | k + 1 => lx_nu T a k * 10 + (T (a + k) - 48).toInt64
def lx_fg (T : Nat → Int32) (a : Nat) : Nat → Int32
  | 0 => 1
  | k + 1 => if lx_fg T a k = 0 then 0 else if T (a + k) < 48 ∨ 57 < T (a + k) then 0 else 1
/-- as the reference counts it -/
def lx_nm (T : Nat → Int32) (a : Nat) : Nat → Int64
  | 0 => 0
  | k + 1 => if 0 < lg_cmp (lx_nm T a k) 100000000000 then lx_nm T a k else (10 * lx_nm T a k + (T (a + k)).toInt64) - 48
/-- k bytes from a on are a row's, and then there is an end or another byte -/
def lx_row (T : Nat → Int32) (n a k : Nat) : Prop := (∀ j, j < k → a + j < n ∧ ¬((T (a + j) < 48 ∨ 57 < T (a + j)) ∧ (T (a + j) < 97 ∨ 122 < T (a + j)))) ∧ (a + k = n ∨ (a + k < n ∧ (T (a + k) < 48 ∨ 57 < T (a + k)) ∧ (T (a + k) < 97 ∨ 122 < T (a + k))))
theorem lx_cl {n a k : Nat} {S : wd_S} (hn : S.1 4 4 = Int32.ofNat n) (h8 : n ≤ 8000) (hr : lx_row (S.1 3) n a k) : ∀ (q j f : Nat), j + q = k → q < f → fn_Tokens_scanRow_11 f (Int32.ofNat a) (lx_pk (S.1 3) a j) (lx_nu (S.1 3) a j) (lx_fg (S.1 3) a j) (Int32.ofNat (a + j)) S = fn_Tokens_scanRow_111 (Int32.ofNat a) (lx_pk (S.1 3) a k) (lx_nu (S.1 3) a k) (lx_fg (S.1 3) a k) (Int32.ofNat (a + k)) S := by
  intro q
  induction q with
  | zero =>
    intro j f hj hf
    obtain ⟨f, rfl⟩ : ∃ g, f = g + 1 := ⟨f - 1, by omega⟩
    have e : j = k := by omega
    subst e
    rw [fn_Tokens_scanRow_11, hn]
    rcases hr.2 with h | ⟨h1, h2, h3⟩
    · rw [if_neg (fun h1 => by have := (im_lt (by omega) (by omega)).mp h1; omega)]
    · rw [if_pos ((im_lt (by omega) (by omega)).mpr h1), ro_at_ok, wd_c_s, lx_at (by omega), fo_isLetter, wd_c_s, ro_at_ok, wd_c_s, lx_at (by omega), fo_isDigit, wd_c_s, if_pos h3, if_pos rfl, if_pos h2, if_pos rfl]
  | succ q ih =>
    intro j f hj hf
    obtain ⟨f, rfl⟩ : ∃ g, f = g + 1 := ⟨f - 1, by omega⟩
    obtain ⟨h1, h2⟩ := hr.1 j (by omega)
    rw [lx_cs hn h1 h8 h2]
    exact ih (j + 1) f (by omega) (by omega)
