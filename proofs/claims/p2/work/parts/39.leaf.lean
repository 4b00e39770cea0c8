/-! Small numbers as ints; the class's rows. -/
section Im
theorem im_t {n : Nat} (h : n < 2147483648) : (Int32.ofNat n).toNatClampNeg = n := Int32.toNatClampNeg_ofNat_of_lt h
theorem im_i {n : Nat} (h : n < 2147483648) : (Int32.ofNat n).toInt = n := Int32.toInt_ofNat_of_lt h
theorem im_lt {m n : Nat} (hm : m < 2147483648) (hn : n < 2147483648) : Int32.ofNat m < Int32.ofNat n ↔ m < n := by
  rw [Int32.lt_iff_toInt_lt, im_i hm, im_i hn]
  omega
theorem im_eq {m n : Nat} (hm : m < 2147483648) (hn : n < 2147483648) : Int32.ofNat m = Int32.ofNat n ↔ m = n := by
  rw [← Int32.toInt_inj, im_i hm, im_i hn]
  omega
theorem im_neg {n : Nat} (h : n < 2147483648) : ¬Int32.ofNat n < 0 := by
  rw [Int32.lt_iff_toInt_lt, im_i h]
  show ¬(n : Int) < 0
  omega
theorem im_s (n : Nat) : Int32.ofNat n + 1 = Int32.ofNat (n + 1) := (Int32.ofNat_add n 1).symm
theorem im_p (n : Nat) : Int32.ofNat (n + 1) - 1 = Int32.ofNat n := by
  have h := Int32.ofNat_sub (n + 1) 1 (by omega)
  rw [Nat.add_sub_cancel] at h
  exact h.symm
theorem im_tn {i : Int32} (hi : ¬i < 0) : (i.toNatClampNeg : Int) = i.toInt := by
  rw [Int32.lt_iff_toInt_lt] at hi
  have hi : ¬i.toInt < 0 := hi
  show ((i.toInt.toNat : Nat) : Int) = i.toInt
  omega
theorem im_of {i : Int32} (hi : ¬i < 0) : Int32.ofNat i.toNatClampNeg = i := Int32.ofNat_toNatClampNeg i (Int32.not_lt.mp hi)
theorem im_ltn {i : Int32} {n : Nat} (hi : ¬i < 0) (hn : n < 2147483648) : i < Int32.ofNat n ↔ i.toNatClampNeg < n := by
  rw [Int32.lt_iff_toInt_lt, im_i hn]
  have := im_tn hi
  omega
end Im
theorem tp_sm (a : Nat) : (tp_t a).2 < 2147483648 := by
  rcases Nat.lt_or_ge a tp_c with h | h
  · exact tp_lt (fun a => (tp_t a).2 < 2147483648) (by decide +kernel) h
  · rw [tp_hi h]; decide
def ro_at (r : Nat) (i : Int32) (S : wd_S) : Int32 := if i < 0 ∨ (tp_t (r + 1)).2 ≤ i.toNatClampNeg then 0 else S.1 (r + 1) i.toNatClampNeg
def ro_put (r : Nat) (i v : Int32) (S : wd_S) : wd_S := if i < 0 ∨ (tp_t (r + 1)).2 ≤ i.toNatClampNeg then S else wd_i S (r + 1) i.toNatClampNeg v
def lo_at (r : Nat) (i : Int32) (S : wd_S) : Int64 := if i < 0 ∨ (tp_t (r + 1)).2 ≤ i.toNatClampNeg then 0 else S.2.1 (r + 1) i.toNatClampNeg
def lo_put (r : Nat) (i : Int32) (v : Int64) (S : wd_S) : wd_S := if i < 0 ∨ (tp_t (r + 1)).2 ≤ i.toNatClampNeg then S else wd_l S (r + 1) i.toNatClampNeg v
theorem ro_at_ok (r : Nat) (i : Int32) (S : wd_S) : fn_Row_at r i S = some (ro_at r i S, S) := by
  unfold fn_Row_at fn_Row_at_22 fn_Row_at_23 ro_at
  by_cases h1 : i < 0
  · rw [if_pos h1, if_pos (Or.inl h1)]
  · rw [if_neg h1]
    by_cases h2 : i.toNatClampNeg < (tp_t (r + 1)).2
    · have h3 : ¬(i < 0 ∨ (tp_t (r + 1)).2 ≤ i.toNatClampNeg) := by rintro (h | h); exact h1 h; omega
      rw [if_pos ((im_ltn h1 (tp_sm _)).mpr h2), if_neg h3, if_neg h3]
    · rw [if_neg (fun h => h2 ((im_ltn h1 (tp_sm _)).mp h)), if_pos (Or.inr (by omega))]
theorem ro_put_ok (r : Nat) (i v : Int32) (S : wd_S) : fn_Row_put r i v S = some (ro_put r i v S) := by
  unfold fn_Row_put fn_Row_put_20 ro_put wd_b
  by_cases h1 : i < 0
  · rw [if_pos h1, if_pos (Or.inl h1)]
  · rw [if_neg h1]
    by_cases h2 : i.toNatClampNeg < (tp_t (r + 1)).2
    · have h3 : ¬(i < 0 ∨ (tp_t (r + 1)).2 ≤ i.toNatClampNeg) := by rintro (h | h); exact h1 h; omega
      rw [if_pos ((im_ltn h1 (tp_sm _)).mpr h2), if_neg h3, if_neg h3]
    · rw [if_neg (fun h => h2 ((im_ltn h1 (tp_sm _)).mp h)), if_pos (Or.inr (by omega))]
theorem lo_at_ok (r : Nat) (i : Int32) (S : wd_S) : fn_LongRow_at r i S = some (lo_at r i S, S) := by
  unfold fn_LongRow_at fn_LongRow_at_22 fn_LongRow_at_23 lo_at
  by_cases h1 : i < 0
  · rw [if_pos h1, if_pos (Or.inl h1)]
  · rw [if_neg h1]
    by_cases h2 : i.toNatClampNeg < (tp_t (r + 1)).2
    · have h3 : ¬(i < 0 ∨ (tp_t (r + 1)).2 ≤ i.toNatClampNeg) := by rintro (h | h); exact h1 h; omega
      rw [if_pos ((im_ltn h1 (tp_sm _)).mpr h2), if_neg h3, if_neg h3]
    · rw [if_neg (fun h => h2 ((im_ltn h1 (tp_sm _)).mp h)), if_pos (Or.inr (by omega))]
theorem lo_put_ok (r : Nat) (i : Int32) (v : Int64) (S : wd_S) : fn_LongRow_put r i v S = some (lo_put r i v S) := by
  unfold fn_LongRow_put fn_LongRow_put_20 lo_put wd_b
  by_cases h1 : i < 0
  · rw [if_pos h1, if_pos (Or.inl h1)]
  · rw [if_neg h1]
    by_cases h2 : i.toNatClampNeg < (tp_t (r + 1)).2
    · have h3 : ¬(i < 0 ∨ (tp_t (r + 1)).2 ≤ i.toNatClampNeg) := by rintro (h | h); exact h1 h; omega
      rw [if_pos ((im_ltn h1 (tp_sm _)).mpr h2), if_neg h3, if_neg h3]
    · rw [if_neg (fun h => h2 ((im_ltn h1 (tp_sm _)).mp h)), if_pos (Or.inr (by omega))]
/-- binds of what is there -/
theorem wd_c_s {α β : Type} {x : α} {S : wd_S} {f : α → wd_S → Option β} : wd_c (some (x, S)) f = f x S := rfl
theorem wd_d_s {β : Type} {S : wd_S} {f : wd_S → Option β} : wd_d (some S) f = f S := rfl
