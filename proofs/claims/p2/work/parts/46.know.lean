/-! know: the mask of the class, the truth values of the reference. -/
def kn_c (m : Nat) : Nat := m % 2 + m / 2 % 2 + m / 4 % 2 + m / 8 % 2
set_option maxRecDepth 100000 in
theorem kn_bits {m : Nat} (hm : m < 16) (S : wd_S) : fn_Integer_bitCount (Int32.ofNat m) S = some (Int32.ofNat (kn_c m), S) := by
  unfold fn_Integer_bitCount
  congr 2
  revert hm
  revert m
  decide +kernel
theorem kn_or : ∀ m, m < 16 → ∀ i, i < 4 → Int32.ofNat m ||| ((1 : Int32) <<< (Int32.ofNat i &&& 31)) = Int32.ofNat (m ||| 2 ^ i) := by decide +kernel
theorem kn_or16 : ∀ m, m < 16 → ∀ i, i < 4 → m ||| 2 ^ i < 16 := by decide +kernel
/-- the reference's truth values for a mask -/
def kn_is (m : Nat) (S : wd_S) : Prop := ∀ i, i < 4 → S.1 173 i = if m / 2 ^ i % 2 = 1 then 1 else 0
theorem kn_many {m : Nat} {S : wd_S} (h : kn_is m S) : fn_Mo_knownMany S = some (Int32.ofNat (kn_c m), S) := by
  unfold fn_Mo_knownMany
  have st : ∀ (f c i : Nat), i < 4 → fn_Mo_knownMany_4 (f + 1) (Int32.ofNat c) (Int32.ofNat i) S = fn_Mo_knownMany_4 f (Int32.ofNat (c + m / 2 ^ i % 2)) (Int32.ofNat (i + 1)) S := by
    intro f c i hi
    rw [fn_Mo_knownMany_4, if_pos ((mo_lt (m := 4) (b := 4) (by omega) (by omega) rfl).mpr hi), im_t (by omega), if_neg (by rintro (q | q); exact im_neg (by omega) q; omega), h i hi]
    unfold fn_Mo_knownMany_24
    have h2 : m / 2 ^ i % 2 = 1 ∨ m / 2 ^ i % 2 = 0 := by omega
    rcases h2 with h2 | h2
    · rw [if_pos h2, if_neg (by decide), h2, im_s, im_s]
    · rw [show (if m / 2 ^ i % 2 = 1 then (1 : Int32) else 0) = 0 from if_neg (by omega), if_pos rfl, h2, im_s]
      congr 1
      exact (Int32.ofNat_add c 0).symm
  rw [show wd_F = 999995 + 1 + 1 + 1 + 1 + 1 from rfl]
  rw [show fn_Mo_knownMany_4 (999995 + 1 + 1 + 1 + 1 + 1) 0 0 S = fn_Mo_knownMany_4 (999995 + 1 + 1 + 1 + 1 + 1) (Int32.ofNat 0) (Int32.ofNat 0) S from rfl]
  rw [st _ _ 0 (by decide), st _ _ 1 (by decide), st _ _ 2 (by decide), st _ _ 3 (by decide)]
  rw [fn_Mo_knownMany_4, if_neg (by decide)]
  unfold kn_c
  rw [show 0 + m / 2 ^ 0 % 2 + m / 2 ^ 1 % 2 + m / 2 ^ 2 % 2 + m / 2 ^ 3 % 2 = m % 2 + m / 2 % 2 + m / 4 % 2 + m / 8 % 2 by
    rw [Nat.pow_zero, Nat.div_one, Nat.zero_add]]
