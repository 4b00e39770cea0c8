/-! part 39 -/
section
/-! Small numbers as ints; the class's rows. -/
section Im
theorem im_t {n : Nat} (h : n < 2147483648) : (Int32.ofNat n).toNatClampNeg = n := Int32.toNatClampNeg_ofNat_of_lt h
theorem im_i {n : Nat} (h : n < 2147483648) : (Int32.ofNat n).toInt = n := Int32.toInt_ofNat_of_lt h
theorem im_lt {m n : Nat} (hm : m < 2147483648) (hn : n < 2147483648) : Int32.ofNat m < Int32.ofNat n ↔ m < n := by
  rw [Int32.lt_iff_toInt_lt, im_i hm, im_i hn]
  omega
theorem im_eq {m n : Nat} (hm : m < 2147483648) (hn : n < 2147483648) : Int32.ofNat m = Int32.ofNat n ↔ m = n := by
  rw [← Int32.toInt_inj, im_i hm, im_i hn]
  omega
theorem im_neg {n : Nat} (h : n < 2147483648) : ¬Int32.ofNat n < 0 := by
  rw [Int32.lt_iff_toInt_lt, im_i h]
  show ¬(n : Int) < 0
  omega
theorem im_s (n : Nat) : Int32.ofNat n + 1 = Int32.ofNat (n + 1) := (Int32.ofNat_add n 1).symm
theorem im_p (n : Nat) : Int32.ofNat (n + 1) - 1 = Int32.ofNat n := by
  have h := Int32.ofNat_sub (n + 1) 1 (by omega)
  rw [Nat.add_sub_cancel] at h
  exact h.symm
theorem im_tn {i : Int32} (hi : ¬i < 0) : (i.toNatClampNeg : Int) = i.toInt := by
  rw [Int32.lt_iff_toInt_lt] at hi
  have hi : ¬i.toInt < 0 := hi
  show ((i.toInt.toNat : Nat) : Int) = i.toInt
  omega
theorem im_of {i : Int32} (hi : ¬i < 0) : Int32.ofNat i.toNatClampNeg = i := Int32.ofNat_toNatClampNeg i (Int32.not_lt.mp hi)
theorem im_ltn {i : Int32} {n : Nat} (hi : ¬i < 0) (hn : n < 2147483648) : i < Int32.ofNat n ↔ i.toNatClampNeg < n := by
  rw [Int32.lt_iff_toInt_lt, im_i hn]
  have := im_tn hi
  omega
end Im
theorem tp_sm (a : Nat) : (tp_t a).2 < 2147483648 := by
  rcases Nat.lt_or_ge a tp_c with h | h
  · exact tp_lt (fun a => (tp_t a).2 < 2147483648) (by decide +kernel) h
  · rw [tp_hi h]; decide
def ro_at (r : Nat) (i : Int32) (S : wd_S) : Int32 := if i < 0 ∨ (tp_t (r + 1)).2 ≤ i.toNatClampNeg then 0 else S.1 (r + 1) i.toNatClampNeg
def ro_put (r : Nat) (i v : Int32) (S : wd_S) : wd_S := if i < 0 ∨ (tp_t (r + 1)).2 ≤ i.toNatClampNeg then S else wd_i S (r + 1) i.toNatClampNeg v
def lo_at (r : Nat) (i : Int32) (S : wd_S) : Int64 := if i < 0 ∨ (tp_t (r + 1)).2 ≤ i.toNatClampNeg then 0 else S.2.1 (r + 1) i.toNatClampNeg
def lo_put (r : Nat) (i : Int32) (v : Int64) (S : wd_S) : wd_S := if i < 0 ∨ (tp_t (r + 1)).2 ≤ i.toNatClampNeg then S else wd_l S (r + 1) i.toNatClampNeg v
theorem ro_at_ok (r : Nat) (i : Int32) (S : wd_S) : fn_Row_at r i S = some (ro_at r i S, S) := by
  unfold fn_Row_at fn_Row_at_22 fn_Row_at_23 ro_at
  by_cases h1 : i < 0
  · rw [if_pos h1, if_pos (Or.inl h1)]
  · rw [if_neg h1]
    by_cases h2 : i.toNatClampNeg < (tp_t (r + 1)).2
    · have h3 : ¬(i < 0 ∨ (tp_t (r + 1)).2 ≤ i.toNatClampNeg) := by rintro (h | h); exact h1 h; omega
      rw [if_pos ((im_ltn h1 (tp_sm _)).mpr h2), if_neg h3, if_neg h3]
    · rw [if_neg (fun h => h2 ((im_ltn h1 (tp_sm _)).mp h)), if_pos (Or.inr (by omega))]
theorem ro_put_ok (r : Nat) (i v : Int32) (S : wd_S) : fn_Row_put r i v S = some (ro_put r i v S) := by
  unfold fn_Row_put fn_Row_put_20 ro_put wd_b
  by_cases h1 : i < 0
  · rw [if_pos h1, if_pos (Or.inl h1)]
  · rw [if_neg h1]
    by_cases h2 : i.toNatClampNeg < (tp_t (r + 1)).2
    · have h3 : ¬(i < 0 ∨ (tp_t (r + 1)).2 ≤ i.toNatClampNeg) := by rintro (h | h); exact h1 h; omega
      rw [if_pos ((im_ltn h1 (tp_sm _)).mpr h2), if_neg h3, if_neg h3]
    · rw [if_neg (fun h => h2 ((im_ltn h1 (tp_sm _)).mp h)), if_pos (Or.inr (by omega))]
theorem lo_at_ok (r : Nat) (i : Int32) (S : wd_S) : fn_LongRow_at r i S = some (lo_at r i S, S) := by
  unfold fn_LongRow_at fn_LongRow_at_22 fn_LongRow_at_23 lo_at
  by_cases h1 : i < 0
  · rw [if_pos h1, if_pos (Or.inl h1)]
  · rw [if_neg h1]
    by_cases h2 : i.toNatClampNeg < (tp_t (r + 1)).2
    · have h3 : ¬(i < 0 ∨ (tp_t (r + 1)).2 ≤ i.toNatClampNeg) := by rintro (h | h); exact h1 h; omega
      rw [if_pos ((im_ltn h1 (tp_sm _)).mpr h2), if_neg h3, if_neg h3]
    · rw [if_neg (fun h => h2 ((im_ltn h1 (tp_sm _)).mp h)), if_pos (Or.inr (by omega))]
theorem lo_put_ok (r : Nat) (i : Int32) (v : Int64) (S : wd_S) : fn_LongRow_put r i v S = some (lo_put r i v S) := by
  unfold fn_LongRow_put fn_LongRow_put_20 lo_put wd_b
  by_cases h1 : i < 0
  · rw [if_pos h1, if_pos (Or.inl h1)]
  · rw [if_neg h1]
    by_cases h2 : i.toNatClampNeg < (tp_t (r + 1)).2
    · have h3 : ¬(i < 0 ∨ (tp_t (r + 1)).2 ≤ i.toNatClampNeg) := by rintro (h | h); exact h1 h; omega
      rw [if_pos ((im_ltn h1 (tp_sm _)).mpr h2), if_neg h3, if_neg h3]
    · rw [if_neg (fun h => h2 ((im_ltn h1 (tp_sm _)).mp h)), if_pos (Or.inr (by omega))]
/-- binds of what is there -/
theorem wd_c_s {α β : Type} {x : α} {S : wd_S} {f : α → wd_S → Option β} : wd_c (some (x, S)) f = f x S := rfl
theorem wd_d_s {β : Type} {S : wd_S} {f : wd_S → Option β} : wd_d (some S) f = f S := rfl
end
/-! part 40 -/
section
/-! Closed forms of the class's small methods, and of the reference's. -/
section Fo
variable (t b : Nat) (i k v c : Int32) (S : wd_S)
theorem fo_b1 : mi_fit .boolean (.int 1) = true := rfl
theorem fo_b0 : mi_fit .boolean (.int 0) = true := rfl
theorem fo_isLetter : fn_Tokens_isLetter c S = some (if c < 97 ∨ 122 < c then 0 else 1, S) := by
  unfold fn_Tokens_isLetter fn_Tokens_isLetter_16 fn_Tokens_isLetter_17
  by_cases h1 : c < 97 <;> by_cases h2 : (122 : Int32) < c <;> simp [h1, h2, fo_b0, fo_b1]
theorem fo_isDigit : fn_Tokens_isDigit c S = some (if c < 48 ∨ 57 < c then 0 else 1, S) := by
  unfold fn_Tokens_isDigit fn_Tokens_isDigit_16 fn_Tokens_isDigit_17
  by_cases h1 : c < 48 <;> by_cases h2 : (57 : Int32) < c <;> simp [h1, h2, fo_b0, fo_b1]
theorem fo_moDigit : fn_Mo_isDigit c S = some (if c < 48 ∨ 57 < c then 0 else 1, S) := by
  unfold fn_Mo_isDigit fn_Mo_isDigit_16 fn_Mo_isDigit_17
  by_cases h1 : c < 48 <;> by_cases h2 : (57 : Int32) < c <;> simp [h1, h2, fo_b0, fo_b1]
theorem fo_moRow : fn_Mo_isRow c S = some (if (c < 48 ∨ 57 < c) ∧ (c < 97 ∨ 122 < c) then 0 else 1, S) := by
  unfold fn_Mo_isRow fn_Mo_isRow_23 fn_Mo_isRow_19 fn_Mo_isRow_24
  rw [fo_moDigit, wd_c_s]
  by_cases h1 : c < 48 <;> by_cases h2 : (57 : Int32) < c <;> by_cases h3 : c < 97 <;> by_cases h4 : (122 : Int32) < c <;> simp [h1, h2, h3, h4, fo_b0, fo_b1]
theorem fo_kind : fn_Tokens_kind i S = some (if i < S.1 4 5 then ro_at 5 i S else 20, S) := by
  unfold fn_Tokens_kind fn_Tokens_kind_21
  rw [ro_at_ok, wd_c_s]
  by_cases h1 : i < S.1 4 5 <;> simp [h1]
theorem fo_start : fn_Tokens_start i S = some (if i < S.1 4 5 then ro_at 7 i S else S.1 4 4, S) := by
  unfold fn_Tokens_start fn_Tokens_start_23
  rw [ro_at_ok, wd_c_s]
  by_cases h1 : i < S.1 4 5 <;> simp [h1]
theorem fo_value : fn_Tokens_value i S = some (lo_at 9 i S, S) := by
  unfold fn_Tokens_value
  rw [lo_at_ok, wd_c_s]
theorem fo_tkind : fn_Trees_kind t i S = some (ro_at (t + 1) i S, S) := by
  unfold fn_Trees_kind
  rw [ro_at_ok, wd_c_s]
theorem fo_tvalue : fn_Trees_value t i S = some (ro_at (t + 3) i S, S) := by
  unfold fn_Trees_value
  rw [ro_at_ok, wd_c_s]
theorem fo_tparts : fn_Trees_parts t i S = some (ro_at (t + 5) i S, S) := by
  unfold fn_Trees_parts
  rw [ro_at_ok, wd_c_s]
theorem fo_tpart : fn_Trees_part t i k S = some (if k < 0 then 0 else if k < 4 then ro_at (t + 7) (i * 4 + k) S else 0, S) := by
  unfold fn_Trees_part fn_Trees_part_24 fn_Trees_part_25
  rw [ro_at_ok, wd_c_s]
  by_cases h1 : k < 0 <;> by_cases h2 : k < 4 <;> simp [h1, h2]
theorem fo_tsize : fn_Trees_size t i S = some (ro_at (t + 9) i S, S) := by
  unfold fn_Trees_size
  rw [ro_at_ok, wd_c_s]
theorem fo_tlets : fn_Trees_lets t i S = some (ro_at (t + 11) i S, S) := by
  unfold fn_Trees_lets
  rw [ro_at_ok, wd_c_s]
/-- a new node -/
def fo_op (t : Nat) (k v : Int32) (S : wd_S) : wd_S := ro_put (t + 11) (S.1 t 6) (if k = 3 then 1 else 0) (ro_put (t + 9) (S.1 t 6) 1 (ro_put (t + 5) (S.1 t 6) 0 (ro_put (t + 3) (S.1 t 6) v (ro_put (t + 1) (S.1 t 6) k (wd_i S t 6 (S.1 t 6 + 1))))))
theorem fo_open : fn_Trees_open t k v S = some (S.1 t 6, fo_op t k v S) := by
  unfold fn_Trees_open fn_Trees_open_66 wd_b fo_op
  simp only [ro_put_ok, wd_d_s]
  by_cases h : k = 3 <;> simp [h]
/-- a part more -/
def fo_ap (t : Nat) (i v : Int32) (S : wd_S) : wd_S :=
  let S1 := if ro_at (t + 5) i S < 4 then ro_put (t + 7) (i * 4 + ro_at (t + 5) i S) v S else S
  let S2 := ro_put (t + 5) i (ro_at (t + 5) i S + 1) S1
  let S3 := ro_put (t + 9) i (ro_at (t + 9) i S2 + ro_at (t + 9) v S2) S2
  ro_put (t + 11) i (ro_at (t + 11) i S3 + ro_at (t + 11) v S3) S3
theorem fo_append : fn_Trees_append t i v S = some (fo_ap t i v S) := by
  unfold fn_Trees_append fn_Trees_append_27 fo_ap
  simp only [ro_put_ok, ro_at_ok, wd_d_s, wd_c_s]
  by_cases h : ro_at (t + 5) i S < 4 <;> simp [h]
theorem fo_join {l r : Int32} : fn_Trees_join t k l r S = some (S.1 t 6, fo_ap t (S.1 t 6) r (fo_ap t (S.1 t 6) l (fo_op t k 0 S))) := by
  unfold fn_Trees_join
  simp only [fo_open, fo_append, wd_d_s, wd_c_s]
theorem fo_lead : fn_Trees_lead t i v S = some (ro_put (t + 3) i v S) := by
  unfold fn_Trees_lead
  simp only [ro_put_ok, wd_d_s]
theorem fo_root : fn_Bodies_root b i S = some (ro_at (b + 14) i S, S) := by
  unfold fn_Bodies_root
  rw [ro_at_ok, wd_c_s]
theorem fo_params : fn_Bodies_params b i S = some (ro_at (b + 16) i S, S) := by
  unfold fn_Bodies_params
  rw [ro_at_ok, wd_c_s]
theorem fo_has : fn_Bodies_has b i S = some (if i < 0 ∨ ¬i < S.1 b 3 then 0 else 1, S) := by
  unfold fn_Bodies_has fn_Bodies_has_16 fn_Bodies_has_17
  by_cases h1 : i < 0 <;> by_cases h2 : i < S.1 b 3 <;> simp [h1, h2, fo_b0, fo_b1]
/-- the reader's fault -/
def fo_fa (k i : Int32) (S : wd_S) : wd_S := if S.1 47 5 = 0 then wd_i (wd_i (wd_i S 47 5 k) 47 6 i) 47 4 20 else S
theorem fo_faultAt : fn_Reader_faultAt k i S = some (fo_fa k i S) := by
  unfold fn_Reader_faultAt fn_Reader_faultAt_23 wd_b fo_fa
  by_cases h : S.1 47 5 = 0 <;> simp [h]
def fo_rf (S : wd_S) : wd_S := fo_fa (if S.1 47 4 = 19 then 1 else 2) (S.1 47 3) S
theorem fo_refuse : fn_Reader_refuse S = some (fo_rf S) := by
  unfold fn_Reader_refuse fn_Reader_refuse_15 fo_rf
  simp only [fo_faultAt, wd_d_s]
  by_cases h : S.1 47 4 = 19 <;> simp [h]
/-- the reader takes a token -/
def fo_tk (k : Int32) (S : wd_S) : wd_S := if S.1 47 4 = k then (if S.1 47 3 < 1500 then wd_i (wd_i S 47 3 (S.1 47 3 + 1)) 47 4 (if S.1 47 3 + 1 < S.1 4 5 then ro_at 5 (S.1 47 3 + 1) S else 20) else fo_fa 6 (S.1 47 3) S) else fo_rf S
end Fo
end
/-! part 41 -/
section
/-! What a write leaves; the reader's tokens. -/
section Fr
variable (S : wd_S) (a b k m r : Nat) (i v : Int32) (w : Int64)
theorem fr_i1 : (wd_i S a k v).1 b m = if b = a ∧ m = k then v else S.1 b m := rfl
theorem fr_i2 : (wd_i S a k v).2 = S.2 := rfl
theorem fr_l1 : (wd_l S a k w).2.1 b m = if b = a ∧ m = k then w else S.2.1 b m := rfl
theorem fr_l2 : (wd_l S a k w).1 = S.1 := rfl
theorem fr_l3 : (wd_l S a k w).2.2 = S.2.2 := rfl
theorem fr_r1 : (wd_r S a k r).2.2.1 b m = if b = a ∧ m = k then r else S.2.2.1 b m := rfl
theorem fr_r2 : (wd_r S a k r).1 = S.1 := rfl
theorem fr_r3 : (wd_r S a k r).2.1 = S.2.1 := rfl
theorem fr_r4 : (wd_r S a k r).2.2.2 = S.2.2.2 := rfl
theorem fr_p1 : (ro_put r i v S).1 b m = if b = r + 1 ∧ m = i.toNatClampNeg ∧ ¬(i < 0 ∨ (tp_t (r + 1)).2 ≤ i.toNatClampNeg) then v else S.1 b m := by
  unfold ro_put
  by_cases h : i < 0 ∨ (tp_t (r + 1)).2 ≤ i.toNatClampNeg
  · rw [if_pos h, if_neg (fun q => q.2.2 h)]
  · rw [if_neg h, fr_i1]
    by_cases h2 : b = r + 1 ∧ m = i.toNatClampNeg
    · rw [if_pos h2, if_pos ⟨h2.1, h2.2, h⟩]
    · rw [if_neg h2, if_neg (fun q => h2 ⟨q.1, q.2.1⟩)]
theorem fr_p2 : (ro_put r i v S).2 = S.2 := by
  unfold ro_put
  by_cases h : i < 0 ∨ (tp_t (r + 1)).2 ≤ i.toNatClampNeg
  · rw [if_pos h]
  · rw [if_neg h]; rfl
theorem fr_q1 : (lo_put r i w S).2.1 b m = if b = r + 1 ∧ m = i.toNatClampNeg ∧ ¬(i < 0 ∨ (tp_t (r + 1)).2 ≤ i.toNatClampNeg) then w else S.2.1 b m := by
  unfold lo_put
  by_cases h : i < 0 ∨ (tp_t (r + 1)).2 ≤ i.toNatClampNeg
  · rw [if_pos h, if_neg (fun q => q.2.2 h)]
  · rw [if_neg h, fr_l1]
    by_cases h2 : b = r + 1 ∧ m = i.toNatClampNeg
    · rw [if_pos h2, if_pos ⟨h2.1, h2.2, h⟩]
    · rw [if_neg h2, if_neg (fun q => h2 ⟨q.1, q.2.1⟩)]
theorem fr_q2 : (lo_put r i w S).1 = S.1 := by
  unfold lo_put
  by_cases h : i < 0 ∨ (tp_t (r + 1)).2 ≤ i.toNatClampNeg
  · rw [if_pos h]
  · rw [if_neg h]; rfl
theorem fr_q3 : (lo_put r i w S).2.2 = S.2.2 := by
  unfold lo_put
  by_cases h : i < 0 ∨ (tp_t (r + 1)).2 ≤ i.toNatClampNeg
  · rw [if_pos h]
  · rw [if_neg h]; rfl
/-- rows of other states -/
theorem fr_at {S S' : wd_S} (h : S'.1 (r + 1) = S.1 (r + 1)) : ro_at r i S' = ro_at r i S := by
  unfold ro_at
  rw [h]
theorem fr_lat {S S' : wd_S} (h : S'.2.1 (r + 1) = S.2.1 (r + 1)) : lo_at r i S' = lo_at r i S := by
  unfold lo_at
  rw [h]
theorem fr_row {a r k : Nat} {v : Int32} (h : r ≠ a) : (wd_i S a k v).1 r = S.1 r := by
  funext m
  rw [fr_i1, if_neg (fun q => h q.1)]
theorem fo_takeKind : fn_Reader_takeKind v S = some (fo_tk v S) := by
  unfold fn_Reader_takeKind fn_Reader_takeKind_63 wd_b fo_tk
  simp only [fo_kind, fo_faultAt, fo_refuse, wd_c_s, wd_d_s]
  by_cases h1 : S.1 47 4 = v
  · rw [if_pos h1, if_pos h1]
    by_cases h2 : S.1 47 3 < 1500
    · rw [if_pos h2, if_pos h2]
      have e1 : (wd_i S 47 3 (S.1 47 3 + 1)).1 47 3 = S.1 47 3 + 1 := by rw [fr_i1, if_pos ⟨rfl, rfl⟩]
      have e2 : (wd_i S 47 3 (S.1 47 3 + 1)).1 4 5 = S.1 4 5 := by rw [fr_i1, if_neg (by decide)]
      rw [e1, e2, fr_at 5 (S.1 47 3 + 1) (fr_row S (by decide))]
    · rw [if_neg h2, if_neg h2]
  · rw [if_neg h1, if_neg h1]
end Fr
/-! the last place of a name -/
theorem fo_lastOf {r : Nat} {x : Int64} {S : wd_S} : ∀ (n f : Nat), n < 2147483648 → n < f → ∃ z : Int32, fn_LongRow_lastOf_5 f r x (Int32.ofNat n - 1) S = some (z, S) ∧ ((z = -1 ∧ ∀ m, m < n → lg_cmp (lo_at r (Int32.ofNat m) S) x ≠ 0) ∨ ∃ m, m < n ∧ z = Int32.ofNat m ∧ lg_cmp (lo_at r (Int32.ofNat m) S) x = 0 ∧ ∀ q, m < q → q < n → lg_cmp (lo_at r (Int32.ofNat q) S) x ≠ 0) := by
  intro n
  induction n with
  | zero =>
    intro f _ hf
    obtain ⟨f, rfl⟩ : ∃ g, f = g + 1 := ⟨f - 1, by omega⟩
    refine ⟨-1, ?_, Or.inl ⟨rfl, fun m hm => by omega⟩⟩
    rw [fn_LongRow_lastOf_5]
    rw [if_pos (by decide)]
  | succ n ih =>
    intro f hn hf
    obtain ⟨f, rfl⟩ : ∃ g, f = g + 1 := ⟨f - 1, by omega⟩
    rw [im_p, fn_LongRow_lastOf_5, if_neg (im_neg (by omega)), lo_at_ok, wd_c_s]
    by_cases h : lg_cmp (lo_at r (Int32.ofNat n) S) x = 0
    · rw [if_pos h]
      exact ⟨Int32.ofNat n, rfl, Or.inr ⟨n, by omega, rfl, h, fun q h1 h2 => by omega⟩⟩
    · rw [if_neg h]
      obtain ⟨z, h1, h2⟩ := ih f (by omega) (by omega)
      refine ⟨z, ?_, ?_⟩
      · have e : Int32.ofNat n + -1 = Int32.ofNat n - 1 := by rw [Int32.sub_eq_add_neg]
        rw [e]
        exact h1
      · rcases h2 with ⟨e1, h3⟩ | ⟨m, h3, h4, h5, h6⟩
        · refine Or.inl ⟨e1, fun m hm => ?_⟩
          rcases Nat.lt_or_ge m n with hl | hl
          · exact h3 m hl
          · have : m = n := by omega
            rw [this]; exact h
        · refine Or.inr ⟨m, by omega, h4, h5, fun q h7 h8 => ?_⟩
          rcases Nat.lt_or_ge q n with hl | hl
          · exact h6 q h7 hl
          · have : q = n := by omega
            rw [this]; exact h
end
/-! part 42 -/
section
/-! The tape: the bytes of a number. -/
theorem tp_255 : ∀ i, i < 32 → ((255#32).getLsbD i = decide (i < 8)) := by decide
theorem tp_bits (x : BitVec 32) (s : Nat) (hs : s ≤ 24) : (x >>> s) &&& 255#32 = (x.sshiftRight s) &&& 255#32 := by
  apply BitVec.eq_of_getLsbD_eq
  intro i hi
  rw [BitVec.getLsbD_and, BitVec.getLsbD_and, tp_255 i hi]
  by_cases h8 : i < 8
  · rw [BitVec.getLsbD_ushiftRight, BitVec.getLsbD_sshiftRight]
    have h1 : s + i < 32 := by omega
    have h2 : ¬(32 ≤ i) := by omega
    simp [h1, h2]
  · simp [h8]
theorem tp_sh24 (x : Int32) : ((x.toUInt32 >>> ((24 : Int32).toUInt32 &&& Int32.toUInt32 31)).toInt32 &&& 255) = (x >>> ((24 : Int32) &&& 31)) &&& 255 := by
  apply Int32.toBitVec.inj
  exact tp_bits x.toBitVec 24 (by decide)
theorem tp_sh16 (x : Int32) : ((x.toUInt32 >>> ((16 : Int32).toUInt32 &&& Int32.toUInt32 31)).toInt32 &&& 255) = (x >>> ((16 : Int32) &&& 31)) &&& 255 := by
  apply Int32.toBitVec.inj
  exact tp_bits x.toBitVec 16 (by decide)
theorem tp_sh8 (x : Int32) : ((x.toUInt32 >>> ((8 : Int32).toUInt32 &&& Int32.toUInt32 31)).toInt32 &&& 255) = (x >>> ((8 : Int32) &&& 31)) &&& 255 := by
  apply Int32.toBitVec.inj
  exact tp_bits x.toBitVec 8 (by decide)
theorem tp_sh0 (x : Int32) : ((x.toUInt32 >>> ((0 : Int32).toUInt32 &&& Int32.toUInt32 31)).toInt32 &&& 255) = (x >>> ((0 : Int32) &&& 31)) &&& 255 := by
  apply Int32.toBitVec.inj
  exact tp_bits x.toBitVec 0 (by decide)
/-- byte q of a number, the first the highest -/
def tp_byte (x : Int32) (q : Nat) : Int32 := if q = 0 then (x >>> ((24 : Int32) &&& 31)) &&& 255 else if q = 1 then (x >>> ((16 : Int32) &&& 31)) &&& 255 else if q = 2 then (x >>> ((8 : Int32) &&& 31)) &&& 255 else (x >>> ((0 : Int32) &&& 31)) &&& 255
/-- a byte more on a tape of n bytes: array a, its length at (b, k) -/
def tp_one (a b k n : Nat) (v : Int32) (S : wd_S) : wd_S := wd_i (wd_i S a n v) b k (Int32.ofNat (n + 1))
theorem tp_put {n : Nat} (h : n < 8000) (v : Int32) (S : wd_S) : fn_Row_put 2 (Int32.ofNat n) v S = some (wd_i S 3 n v) := by
  rw [ro_put_ok]
  unfold ro_put
  rw [im_t (by omega), if_neg]
  rintro (h1 | h1)
  · exact im_neg (by omega) h1
  · have : (tp_t (2 + 1)).2 = 8000 := rfl
    omega
theorem tp_step {n f : Nat} (h : n < 8000) {x l : Int32} {S : wd_S} (hS : S.1 1 1 = Int32.ofNat n) (hl : ¬l < 0) : fn_Sp_feedFour_3 (f + 1) x l S = fn_Sp_feedFour_3 f x (l + -8) (tp_one 3 1 1 n ((x.toUInt32 >>> (l.toUInt32 &&& Int32.toUInt32 31)).toInt32 &&& 255) S) := by
  rw [fn_Sp_feedFour_3, if_neg hl, hS, tp_put h, wd_d_s]
  unfold wd_b tp_one
  have e : (wd_i S 3 n ((x.toUInt32 >>> (l.toUInt32 &&& Int32.toUInt32 31)).toInt32 &&& 255)).1 1 1 = Int32.ofNat n := by
    rw [fr_i1, if_neg (by rintro ⟨h1, -⟩; exact absurd h1 (by decide)), hS]
  rw [e, im_s]
theorem tp_oneL {a b k n : Nat} {v : Int32} {S : wd_S} : (tp_one a b k n v S).1 b k = Int32.ofNat (n + 1) := by
  unfold tp_one
  rw [fr_i1, if_pos ⟨rfl, rfl⟩]
/-- four bytes more -/
def tp_four (a b k n : Nat) (x : Int32) (S : wd_S) : wd_S := tp_one a b k (n + 3) (tp_byte x 3) (tp_one a b k (n + 2) (tp_byte x 2) (tp_one a b k (n + 1) (tp_byte x 1) (tp_one a b k n (tp_byte x 0) S)))
theorem tp_feedFour {n : Nat} (h : n + 4 ≤ 8000) {x : Int32} {S : wd_S} (hS : S.1 1 1 = Int32.ofNat n) : fn_Sp_feedFour x S = some (tp_four 3 1 1 n x S) := by
  unfold fn_Sp_feedFour
  rw [show wd_F = 999994 + 1 + 1 + 1 + 1 + 1 + 1 from rfl]
  rw [tp_step (n := n) (by omega) hS (by decide), tp_sh24]
  rw [show (24 : Int32) + -8 = 16 from rfl, tp_step (n := n + 1) (by omega) tp_oneL (by decide), tp_sh16]
  rw [show (16 : Int32) + -8 = 8 from rfl, tp_step (n := n + 2) (by omega) tp_oneL (by decide), tp_sh8]
  rw [show (8 : Int32) + -8 = 0 from rfl, tp_step (n := n + 3) (by omega) tp_oneL (by decide), tp_sh0]
  rw [show (0 : Int32) + -8 = -8 from rfl, fn_Sp_feedFour_3, if_pos (by decide)]
  rfl
end
/-! part 43 -/
section
/-! feed, on both sides. -/
theorem mo_shift : ∀ q, q < 20 → ((24 : Int32) - ((8 : Int32) * (Int32.ofNat q - Int32.ofNat q / (4 : Int32) * (4 : Int32)))) = (if q % 4 = 0 then 24 else if q % 4 = 1 then 16 else if q % 4 = 2 then 8 else 0) := by decide
theorem mo_byte (x : Int32) {q : Nat} (hq : q < 20) : ((x >>> (((24 : Int32) - ((8 : Int32) * (Int32.ofNat q - Int32.ofNat q / (4 : Int32) * (4 : Int32)))) &&& 31)) &&& (255 : Int32)) = tp_byte x (q % 4) := by
  rw [mo_shift q hq]
  unfold tp_byte
  by_cases h0 : q % 4 = 0
  · rw [if_pos h0, if_pos h0]
  · rw [if_neg h0, if_neg h0]
    by_cases h1 : q % 4 = 1
    · rw [if_pos h1, if_pos h1]
    · rw [if_neg h1, if_neg h1]
      by_cases h2 : q % 4 = 2
      · rw [if_pos h2, if_pos h2]
      · rw [if_neg h2, if_neg h2]
theorem mo_87 {kk : Int32 → Int32 → Int32 → Int32 → Int32 → Int32 → wd_S → Option (Int32 × wd_S)} {l1 l2 l3 l4 l5 s0 : Int32} {n q : Nat} {S : wd_S} (hS : S.1 135 2 = Int32.ofNat n) (hn : n < 8000) (hq : q < 20) : fn_Mo_feed_87 kk l1 l2 l3 l4 l5 (Int32.ofNat q) s0 S = kk l1 l2 l3 l4 l5 (Int32.ofNat (q + 1)) (tp_one 136 135 2 n (tp_byte s0 (q % 4)) S) := by
  unfold fn_Mo_feed_87 wd_b tp_one
  rw [hS, im_t (by omega), if_neg (by rintro (h | h); exact im_neg (by omega) h; omega), mo_byte s0 hq]
  have e : (wd_i S 136 n (tp_byte s0 (q % 4))).1 135 2 = Int32.ofNat n := by
    rw [fr_i1, if_neg (by rintro ⟨h1, -⟩; exact absurd h1 (by decide)), hS]
  simp only []
  rw [e, im_s, im_s]
def mo_sel (l1 l2 l3 l4 l5 : Int32) (q : Nat) : Int32 := if q < 4 then l1 else if q < 8 then l2 else if q < 12 then l3 else if q < 16 then l4 else l5
theorem mo_lt {q m : Nat} (hq : q < 2147483648) (hm : m < 2147483648) {b : Int32} (hb : b = Int32.ofNat m) : Int32.ofNat q < b ↔ q < m := by
  rw [hb]
  exact im_lt hq hm
theorem mo_step {l1 l2 l3 l4 l5 : Int32} {n q f : Nat} {S : wd_S} (hS : S.1 135 2 = Int32.ofNat n) (hn : n < 8000) (hq : q < 20) : fn_Mo_feed_34 (f + 1) l1 l2 l3 l4 l5 (Int32.ofNat q) S = fn_Mo_feed_34 f l1 l2 l3 l4 l5 (Int32.ofNat (q + 1)) (tp_one 136 135 2 n (tp_byte (mo_sel l1 l2 l3 l4 l5 q) (q % 4)) S) := by
  rw [fn_Mo_feed_34, if_pos ((mo_lt (m := 20) (b := 20) (by omega) (by omega) rfl).mpr hq)]
  unfold mo_sel
  by_cases h4 : q < 4
  · rw [if_pos ((mo_lt (m := 4) (b := 4) (by omega) (by omega) rfl).mpr h4), if_pos h4, mo_87 hS hn hq]
  · rw [if_neg (fun h => h4 ((mo_lt (m := 4) (b := 4) (by omega) (by omega) rfl).mp h)), if_neg h4]
    by_cases h8 : q < 8
    · rw [if_pos ((mo_lt (m := 8) (b := 8) (by omega) (by omega) rfl).mpr h8), if_pos h8, mo_87 hS hn hq]
    · rw [if_neg (fun h => h8 ((mo_lt (m := 8) (b := 8) (by omega) (by omega) rfl).mp h)), if_neg h8]
      by_cases h12 : q < 12
      · rw [if_pos ((mo_lt (m := 12) (b := 12) (by omega) (by omega) rfl).mpr h12), if_pos h12, mo_87 hS hn hq]
      · rw [if_neg (fun h => h12 ((mo_lt (m := 12) (b := 12) (by omega) (by omega) rfl).mp h)), if_neg h12]
        by_cases h16 : q < 16
        · rw [if_pos ((mo_lt (m := 16) (b := 16) (by omega) (by omega) rfl).mpr h16), if_pos h16, mo_87 hS hn hq]
        · rw [if_neg (fun h => h16 ((mo_lt (m := 16) (b := 16) (by omega) (by omega) rfl).mp h)), if_neg h16, mo_87 hS hn hq]
/-- twenty bytes more -/
def tp_feed (a b k n : Nat) (x1 x2 x3 x4 x5 : Int32) (S : wd_S) : wd_S := tp_four a b k (n + 16) x5 (tp_four a b k (n + 12) x4 (tp_four a b k (n + 8) x3 (tp_four a b k (n + 4) x2 (tp_four a b k n x1 S))))
theorem tp_fourL {a b k n : Nat} {x : Int32} {S : wd_S} : (tp_four a b k n x S).1 b k = Int32.ofNat (n + 4) := tp_oneL
theorem mo_four {l1 l2 l3 l4 l5 : Int32} {n q f : Nat} {S : wd_S} (hS : S.1 135 2 = Int32.ofNat n) (hn : n + 4 ≤ 8000) (hq : q + 4 ≤ 20) (h4 : q % 4 = 0) : fn_Mo_feed_34 (f + 1 + 1 + 1 + 1) l1 l2 l3 l4 l5 (Int32.ofNat q) S = fn_Mo_feed_34 f l1 l2 l3 l4 l5 (Int32.ofNat (q + 4)) (tp_four 136 135 2 n (mo_sel l1 l2 l3 l4 l5 q) S) := by
  have e : ∀ i, i < 4 → mo_sel l1 l2 l3 l4 l5 (q + i) = mo_sel l1 l2 l3 l4 l5 q := by
    intro i hi
    unfold mo_sel
    have h0 : q = 0 ∨ q = 4 ∨ q = 8 ∨ q = 12 ∨ q = 16 := by omega
    have h1 : i = 0 ∨ i = 1 ∨ i = 2 ∨ i = 3 := by omega
    rcases h0 with rfl | rfl | rfl | rfl | rfl <;> rcases h1 with rfl | rfl | rfl | rfl <;> rfl
  rw [mo_step hS (by omega) (by omega), mo_step (n := n + 1) tp_oneL (by omega) (by omega), mo_step (n := n + 2) tp_oneL (by omega) (by omega), mo_step (n := n + 3) tp_oneL (by omega) (by omega)]
  rw [e 1 (by omega), show q + 1 + 1 = q + 2 from rfl, e 2 (by omega), show q + 2 + 1 = q + 3 from rfl, e 3 (by omega)]
  rw [h4, show (q + 1) % 4 = 1 by omega, show (q + 2) % 4 = 2 by omega, show (q + 3) % 4 = 3 by omega]
  rfl
theorem mo_feed {l1 l2 l3 l4 l5 : Int32} {n : Nat} {S : wd_S} (hS : S.1 135 2 = Int32.ofNat n) (hn : n + 20 ≤ 8000) : fn_Mo_feed_34 wd_F l1 l2 l3 l4 l5 0 S = some (Int32.ofNat (n + 20), tp_feed 136 135 2 n l1 l2 l3 l4 l5 S) := by
  rw [show wd_F = 999979 + 1 + 1 + 1 + 1 + 1 + 1 + 1 + 1 + 1 + 1 + 1 + 1 + 1 + 1 + 1 + 1 + 1 + 1 + 1 + 1 + 1 from rfl, show (0 : Int32) = Int32.ofNat 0 from rfl]
  rw [mo_four (q := 0) hS (by omega) (by omega) rfl, mo_four (q := 4) (n := n + 4) tp_fourL (by omega) (by omega) rfl, mo_four (q := 8) (n := n + 8) tp_fourL (by omega) (by omega) rfl, mo_four (q := 12) (n := n + 12) tp_fourL (by omega) (by omega) rfl, mo_four (q := 16) (n := n + 16) tp_fourL (by omega) (by omega) rfl]
  rw [fn_Mo_feed_34, if_neg (by decide), tp_fourL]
  rfl
/-- the class's feed -/
theorem sp_feed {l1 l2 l3 l4 l5 : Int32} {n : Nat} {S : wd_S} (hS : S.1 1 1 = Int32.ofNat n) (hn : n ≤ 8000) : fn_Sp_feed l1 l2 l3 l4 l5 S = if 8000 < n + 20 then some (.inr "java/lang/IllegalStateException", wd_n S) else some (.inl (Int32.ofNat (n + 20)), tp_feed 3 1 1 n l1 l2 l3 l4 l5 S) := by
  unfold fn_Sp_feed
  have e : (8000 : Int32) < Int32.ofNat n + 20 ↔ 8000 < n + 20 := by
    rw [show Int32.ofNat n + 20 = Int32.ofNat (n + 20) from (Int32.ofNat_add n 20).symm, show (8000 : Int32) = Int32.ofNat 8000 from rfl]
    exact im_lt (by omega) (by omega)
  rw [hS]
  by_cases h : 8000 < n + 20
  · rw [if_pos (e.mpr h), if_pos h]
  · rw [if_neg (fun q => h (e.mp q)), if_neg h]
    rw [tp_feedFour (n := n) (by omega) hS, wd_d_s, tp_feedFour (n := n + 4) (by omega) tp_fourL, wd_d_s, tp_feedFour (n := n + 8) (by omega) tp_fourL, wd_d_s, tp_feedFour (n := n + 12) (by omega) tp_fourL, wd_d_s, tp_feedFour (n := n + 16) (by omega) tp_fourL, wd_d_s, tp_fourL]
    rfl
end
/-! part 44 -/
section
/-! cut, place, give, out, ran: closed forms on both sides. -/
section Lg
variable {x y z : Int64}
theorem sm_lt : lg_cmp x y < 0 ↔ x.toInt < y.toInt := by
  unfold lg_cmp
  by_cases h1 : x > y
  · rw [if_pos h1]
    have h2 : y.toInt < x.toInt := Int64.lt_iff_toInt_lt.mp h1
    exact ⟨fun h => absurd h (by decide), fun h => by omega⟩
  · rw [if_neg h1]
    have h2 : ¬y.toInt < x.toInt := fun h => h1 (Int64.lt_iff_toInt_lt.mpr h)
    by_cases h3 : x = y
    · rw [if_pos h3]
      subst h3
      exact ⟨fun h => absurd h (by decide), fun h => by omega⟩
    · rw [if_neg h3]
      have h4 : x.toInt ≠ y.toInt := fun h => h3 (Int64.toInt_inj.mp h)
      exact ⟨fun _ => by omega, fun _ => by decide⟩
theorem sm_gt : 0 < lg_cmp x y ↔ y.toInt < x.toInt := by
  unfold lg_cmp
  by_cases h1 : x > y
  · rw [if_pos h1]
    have h2 : y.toInt < x.toInt := Int64.lt_iff_toInt_lt.mp h1
    exact ⟨fun _ => h2, fun _ => by decide⟩
  · rw [if_neg h1]
    have h2 : ¬y.toInt < x.toInt := fun h => h1 (Int64.lt_iff_toInt_lt.mpr h)
    by_cases h3 : x = y
    · rw [if_pos h3]
      exact ⟨fun h => absurd h (by decide), fun h => absurd h h2⟩
    · rw [if_neg h3]
      exact ⟨fun h => absurd h (by decide), fun h => absurd h h2⟩
theorem sm_eq : lg_cmp x y = 0 ↔ x = y := by
  unfold lg_cmp
  by_cases h1 : x > y
  · rw [if_pos h1]
    have h2 : y.toInt < x.toInt := Int64.lt_iff_toInt_lt.mp h1
    exact ⟨fun h => absurd h (by decide), fun h => by subst h; omega⟩
  · rw [if_neg h1]
    by_cases h3 : x = y
    · rw [if_pos h3]
      exact ⟨fun _ => h3, fun _ => rfl⟩
    · rw [if_neg h3]
      exact ⟨fun h => absurd h (by decide), fun h => absurd h h3⟩
theorem sm_within (S : wd_S) : fn_Mo_within x y z S = some (if x.toInt < y.toInt ∨ z.toInt < x.toInt then 0 else 1, S) := by
  unfold fn_Mo_within fn_Mo_within_17 fn_Mo_within_18
  by_cases h1 : x.toInt < y.toInt
  · rw [if_pos (sm_lt.mpr h1), if_pos fo_b0, if_pos (Or.inl h1)]
  · rw [if_neg (fun h => h1 (sm_lt.mp h))]
    by_cases h2 : z.toInt < x.toInt
    · rw [if_pos (sm_gt.mpr h2), if_pos fo_b0, if_pos (Or.inr h2)]
    · rw [if_neg (fun h => h2 (sm_gt.mp h)), if_pos fo_b1, if_neg (by rintro (h | h); exact h1 h; exact h2 h)]
end Lg
theorem fr_eq {S : wd_S} {a k : Nat} {v : Int32} : (wd_i S a k v).1 a k = v := by rw [fr_i1, if_pos ⟨rfl, rfl⟩]
theorem fr_ne {S : wd_S} {a k b m : Nat} {v : Int32} (h : ¬(b = a ∧ m = k)) : (wd_i S a k v).1 b m = S.1 b m := by rw [fr_i1, if_neg h]
section Sm
variable (p : Int32) (S : wd_S)
/-- an int within two others, as longs -/
theorem sm_in (a b : Int32) : fn_Mo_within p.toInt64 a.toInt64 b.toInt64 S = some (if p < a ∨ b < p then 0 else 1, S) := by
  rw [sm_within]
  simp only [Int32.toInt_toInt64, Int32.lt_iff_toInt_lt]
theorem sm_z : (0 : Int64) = (0 : Int32).toInt64 := rfl
theorem sp_cut : fn_Sp_cut p S = if p < 0 ∨ S.1 1 1 < p then some (.inr "java/lang/IllegalArgumentException", wd_n S) else some (.inl (S.1 1 1 - p), wd_i S 1 1 p) := by
  unfold fn_Sp_cut fn_Sp_cut_12
  simp only [wd_b]
  by_cases h1 : p < 0 <;> by_cases h2 : S.1 1 1 < p <;> simp [h1, h2]
theorem mo_cut : fn_Mo_cut p S = if p < 0 ∨ S.1 135 2 < p then some (0, wd_i S 135 0 1) else some (S.1 135 2 - p, wd_i (wd_i S 135 0 0) 135 2 p) := by
  unfold fn_Mo_cut fn_Mo_cut_20
  simp only [wd_b]
  rw [sm_z, sm_in, wd_c_s]
  by_cases h : p < 0 ∨ S.1 135 2 < p
  · rw [if_pos h, if_pos h, if_pos rfl]
    rw [fr_eq, if_pos (by decide)]
  · rw [if_neg h, if_neg h, if_neg (by decide)]
    rw [fr_eq, if_neg (by decide), fr_ne (by decide)]
theorem mo_place : fn_Mo_place S = some (S.1 135 10, wd_i S 135 0 0) := by
  unfold fn_Mo_place
  simp only [wd_b]
  rw [fr_ne (by decide)]
theorem sp_give : fn_Sp_give p S = if S.1 1 18 < 4 then some (.inl (S.1 1 18 + 1), wd_i (ro_put 131 (S.1 1 18) p S) 1 18 (S.1 1 18 + 1)) else some (.inr "java/lang/IllegalStateException", wd_n S) := by
  unfold fn_Sp_give
  simp only [wd_b]
  rw [ro_put_ok, wd_d_s]
  have e : (ro_put 131 (S.1 1 18) p S).1 1 18 = S.1 1 18 := by rw [fr_p1, if_neg (by rintro ⟨h, -⟩; exact absurd h (by decide))]
  rw [e, fr_eq]
theorem sp_out : fn_Sp_out p S = if p < 0 ∨ ¬p < S.1 1 15 then some (.inr "java/lang/IndexOutOfBoundsException", wd_n S) else some (.inl (ro_at 126 p S), S) := by
  unfold fn_Sp_out fn_Sp_out_12
  rw [ro_at_ok, wd_c_s]
  by_cases h1 : p < 0 <;> by_cases h2 : p < S.1 1 15 <;> simp [h1, h2]
theorem sp_ran : fn_Sp_ran p S = if p < 0 ∨ 2 < p then some (.inr "java/lang/IndexOutOfBoundsException", wd_n S) else some (.inl (ro_at 133 p S), S) := by
  unfold fn_Sp_ran fn_Sp_ran_9
  rw [ro_at_ok, wd_c_s]
  by_cases h1 : p < 0 <;> by_cases h2 : 2 < p <;> simp [h1, h2]
theorem mo_out {n : Nat} (hn : n ≤ 40000) (hS : S.1 135 89 = Int32.ofNat n) : fn_Mo_out p S = if p < 0 ∨ ¬p < S.1 135 89 then some (0, wd_i S 135 0 1) else some (S.1 175 p.toNatClampNeg, wd_i S 135 0 0) := by
  unfold fn_Mo_out fn_Mo_out_22 fn_Mo_out_42
  simp only [wd_b]
  rw [sm_z, sm_in, wd_c_s]
  have e : S.1 135 89 - 1 < p ↔ ¬p < S.1 135 89 := by
    rw [hS, Int32.lt_iff_toInt_lt, Int32.lt_iff_toInt_lt, im_i (by omega)]
    have h1 : (Int32.ofNat n - 1).toInt = (n : Int) - 1 := by
      cases n with
      | zero => rfl
      | succ n => rw [im_p, im_i (by omega)]; omega
    rw [h1]
    omega
  by_cases h : p < 0 ∨ ¬p < S.1 135 89
  · have h1 : p < 0 ∨ S.1 135 89 - 1 < p := h.imp id e.mpr
    rw [if_pos h, if_pos h1, if_pos rfl, fr_eq, if_pos (by decide)]
  · have h1 : ¬(p < 0 ∨ S.1 135 89 - 1 < p) := fun q => h (q.imp id e.mp)
    have h2 : ¬p < 0 := fun q => h (Or.inl q)
    have h3 : p < S.1 135 89 := Decidable.not_not.mp (fun q => h (Or.inr q))
    rw [hS] at h3
    have h4 := (im_ltn h2 (by omega)).mp h3
    rw [if_neg h, if_neg h1, if_neg (by decide), fr_eq, if_neg (by decide), if_neg (by rintro (q | q); exact h2 q; omega), fr_ne (by rintro ⟨q, -⟩; exact absurd q (by decide))]
end Sm
end
/-! part 45 -/
section
/-! give, ran of the reference; back, on both sides. -/
section Bc
variable (p : Int32) (S : wd_S)
theorem mo_give {g : Nat} (hg : g ≤ 4) (hS : S.1 135 95 = Int32.ofNat g) : fn_Mo_give p S = if g = 4 then some (0, wd_i S 135 0 1) else some (Int32.ofNat (g + 1), wd_i (wd_i (wd_i S 135 0 0) 179 g p) 135 95 (Int32.ofNat (g + 1))) := by
  unfold fn_Mo_give fn_Mo_give_14
  simp only [wd_b]
  have e : S.1 135 95 = 4 ↔ g = 4 := by
    rw [hS, show (4 : Int32) = Int32.ofNat 4 from rfl]
    exact im_eq (by omega) (by omega)
  by_cases h : g = 4
  · rw [if_pos (e.mpr h), if_pos h, fr_eq, if_pos (by decide)]
  · rw [if_neg (fun q => h (e.mp q)), if_neg h, fr_eq, if_neg (by decide)]
    have e1 : (wd_i S 135 0 0).1 135 95 = Int32.ofNat g := by rw [fr_ne (by decide), hS]
    rw [e1, im_t (by omega), if_neg (by rintro (q | q); exact im_neg (by omega) q; omega)]
    have e2 : (wd_i (wd_i S 135 0 0) 179 g p).1 135 95 = Int32.ofNat g := by rw [fr_ne (by rintro ⟨q, -⟩; exact absurd q (by decide)), e1]
    rw [e2, fr_eq, im_s]
theorem mo_ran : fn_Mo_ran p S = if p < 0 ∨ 2 < p then some (0, wd_i S 135 0 1) else some (if p = 0 then S.1 135 96 else if p = 1 then S.1 135 97 else S.1 135 98, wd_i S 135 0 0) := by
  unfold fn_Mo_ran fn_Mo_ran_18 fn_Mo_ran_59
  simp only [wd_b]
  rw [show (2 : Int64) = (2 : Int32).toInt64 from rfl, sm_z, sm_in, wd_c_s]
  by_cases h : p < 0 ∨ 2 < p
  · rw [if_pos h, if_pos h, if_pos rfl, fr_eq, if_pos (by decide)]
  · rw [if_neg h, if_neg h, if_neg (by decide), fr_eq, if_neg (by decide), fr_ne (by decide), fr_ne (by decide), fr_ne (by decide)]
    by_cases h0 : p = 0
    · rw [if_pos h0, if_pos h0]
    · rw [if_neg h0, if_neg h0]
      by_cases h1 : p = 1
      · rw [if_pos h1, if_pos h1]
      · rw [if_neg h1, if_neg h1]
end Bc
/-- the ints i to n of array c copied into array a -/
def wd_cp (a c i n : Nat) (S : wd_S) : wd_S := (fun b m => if b = a ∧ i ≤ m ∧ m < n then S.1 c m else S.1 b m, S.2)
theorem wd_cp0 {a c n : Nat} {S : wd_S} : wd_cp a c n n S = S := by
  unfold wd_cp
  have h : (fun b m => if b = a ∧ n ≤ m ∧ m < n then S.1 c m else S.1 b m) = S.1 := by
    funext b m
    rw [if_neg (by omega)]
  rw [h]
theorem wd_cp1 {a c i n : Nat} {S : wd_S} (hac : c ≠ a) (hi : i < n) : wd_cp a c (i + 1) n (wd_i S a i (S.1 c i)) = wd_cp a c i n S := by
  unfold wd_cp
  have h : (fun b m => if b = a ∧ i + 1 ≤ m ∧ m < n then (wd_i S a i (S.1 c i)).1 c m else (wd_i S a i (S.1 c i)).1 b m) = (fun b m => if b = a ∧ i ≤ m ∧ m < n then S.1 c m else S.1 b m) := by
    funext b m
    rw [fr_ne (b := c) (fun q => hac q.1), fr_i1]
    by_cases hb : b = a
    · by_cases hm : m = i
      · rw [if_neg (by omega), if_pos ⟨hb, hm⟩, if_pos (by omega), hm]
      · rw [show (if b = a ∧ m = i then S.1 c i else S.1 b m) = S.1 b m from if_neg (fun q => hm q.2)]
        by_cases h1 : i + 1 ≤ m ∧ m < n
        · rw [if_pos ⟨hb, h1⟩, if_pos ⟨hb, by omega, h1.2⟩]
        · rw [if_neg (fun q => h1 q.2), if_neg (fun q => h1 ⟨by omega, q.2.2⟩)]
    · rw [if_neg (fun q => hb q.1), if_neg (fun q => hb q.1), if_neg (fun q => hb q.1)]
  rw [h]
  rfl
theorem wd_cpn {a c i n b m : Nat} {S : wd_S} (h : b ≠ a) : (wd_cp a c i n S).1 b m = S.1 b m := if_neg (fun q => h q.1)
theorem sp_back_l {n : Nat} (hn : n ≤ 8000) : ∀ (j i f : Nat) (S : wd_S), i + j = n → j < f → S.1 1 15 = Int32.ofNat n → fn_Sp_back_22 f (Int32.ofNat i) S = some (.inl (Int32.ofNat n), wd_i (wd_cp 3 127 i n S) 1 1 (Int32.ofNat n)) := by
  intro j
  induction j with
  | zero =>
    intro i f S hi hf hS
    obtain ⟨f, rfl⟩ : ∃ g, f = g + 1 := ⟨f - 1, by omega⟩
    have e : i = n := by omega
    subst e
    rw [fn_Sp_back_22, hS, if_neg (fun h => by have := (im_lt (by omega) (by omega)).mp h; omega), wd_cp0]
    simp only [wd_b]
    rw [fr_eq]
  | succ j ih =>
    intro i f S hi hf hS
    obtain ⟨f, rfl⟩ : ∃ g, f = g + 1 := ⟨f - 1, by omega⟩
    have e1 : ro_at 126 (Int32.ofNat i) S = S.1 127 i := by
      unfold ro_at
      rw [im_t (by omega), if_neg]
      rintro (q | q)
      · exact im_neg (by omega) q
      · have : (tp_t (126 + 1)).2 = 40000 := rfl
        omega
    rw [fn_Sp_back_22, hS, if_pos ((im_lt (by omega) (by omega)).mpr (by omega)), ro_at_ok, wd_c_s, tp_put (by omega), wd_d_s, e1, im_s]
    rw [ih (i + 1) f _ (by omega) (by omega) (by rw [fr_ne (by rintro ⟨q, -⟩; exact absurd q (by decide)), hS])]
    rw [wd_cp1 (by decide) (by omega)]
theorem mo_back_l {n : Nat} (hn : n ≤ 8000) : ∀ (j i f : Nat) (S : wd_S), i + j = n → j < f → S.1 135 89 = Int32.ofNat n → fn_Mo_back_30 f (Int32.ofNat i) S = some (Int32.ofNat n, wd_i (wd_cp 136 175 i n S) 135 2 (Int32.ofNat n)) := by
  intro j
  induction j with
  | zero =>
    intro i f S hi hf hS
    obtain ⟨f, rfl⟩ : ∃ g, f = g + 1 := ⟨f - 1, by omega⟩
    have e : i = n := by omega
    subst e
    rw [fn_Mo_back_30, hS, if_neg (fun h => by have := (im_lt (by omega) (by omega)).mp h; omega), wd_cp0]
    simp only [wd_b]
    rw [fr_eq]
  | succ j ih =>
    intro i f S hi hf hS
    obtain ⟨f, rfl⟩ : ∃ g, f = g + 1 := ⟨f - 1, by omega⟩
    rw [fn_Mo_back_30, hS, if_pos ((im_lt (by omega) (by omega)).mpr (by omega)), im_t (by omega), if_neg (by rintro (q | q); exact im_neg (by omega) q; omega), if_neg (by rintro (q | q); exact im_neg (by omega) q; omega)]
    simp only [wd_b]
    rw [im_s, ih (i + 1) f _ (by omega) (by omega) (by rw [fr_ne (by rintro ⟨q, -⟩; exact absurd q (by decide)), hS])]
    rw [wd_cp1 (by decide) (by omega)]
end
/-! part 46 -/
section
/-! know: the mask of the class, the truth values of the reference. -/
def kn_c (m : Nat) : Nat := m % 2 + m / 2 % 2 + m / 4 % 2 + m / 8 % 2
set_option maxRecDepth 100000 in
theorem kn_bits {m : Nat} (hm : m < 16) (S : wd_S) : fn_Integer_bitCount (Int32.ofNat m) S = some (Int32.ofNat (kn_c m), S) := by
  unfold fn_Integer_bitCount
  congr 2
  revert hm
  revert m
  decide +kernel
theorem kn_or : ∀ m, m < 16 → ∀ i, i < 4 → Int32.ofNat m ||| ((1 : Int32) <<< (Int32.ofNat i &&& 31)) = Int32.ofNat (m ||| 2 ^ i) := by decide +kernel
theorem kn_or16 : ∀ m, m < 16 → ∀ i, i < 4 → m ||| 2 ^ i < 16 := by decide +kernel
/-- the reference's truth values for a mask -/
def kn_is (m : Nat) (S : wd_S) : Prop := ∀ i, i < 4 → S.1 173 i = if m / 2 ^ i % 2 = 1 then 1 else 0
theorem kn_many {m : Nat} {S : wd_S} (h : kn_is m S) : fn_Mo_knownMany S = some (Int32.ofNat (kn_c m), S) := by
  unfold fn_Mo_knownMany
  have st : ∀ (f c i : Nat), i < 4 → fn_Mo_knownMany_4 (f + 1) (Int32.ofNat c) (Int32.ofNat i) S = fn_Mo_knownMany_4 f (Int32.ofNat (c + m / 2 ^ i % 2)) (Int32.ofNat (i + 1)) S := by
    intro f c i hi
    rw [fn_Mo_knownMany_4, if_pos ((mo_lt (m := 4) (b := 4) (by omega) (by omega) rfl).mpr hi), im_t (by omega), if_neg (by rintro (q | q); exact im_neg (by omega) q; omega), h i hi]
    unfold fn_Mo_knownMany_24
    have h2 : m / 2 ^ i % 2 = 1 ∨ m / 2 ^ i % 2 = 0 := by omega
    rcases h2 with h2 | h2
    · rw [if_pos h2, if_neg (by decide), h2, im_s, im_s]
    · rw [show (if m / 2 ^ i % 2 = 1 then (1 : Int32) else 0) = 0 from if_neg (by omega), if_pos rfl, h2, im_s]
      congr 1
      exact (Int32.ofNat_add c 0).symm
  rw [show wd_F = 999995 + 1 + 1 + 1 + 1 + 1 from rfl]
  rw [show fn_Mo_knownMany_4 (999995 + 1 + 1 + 1 + 1 + 1) 0 0 S = fn_Mo_knownMany_4 (999995 + 1 + 1 + 1 + 1 + 1) (Int32.ofNat 0) (Int32.ofNat 0) S from rfl]
  rw [st _ _ 0 (by decide), st _ _ 1 (by decide), st _ _ 2 (by decide), st _ _ 3 (by decide)]
  rw [fn_Mo_knownMany_4, if_neg (by decide)]
  unfold kn_c
  rw [show 0 + m / 2 ^ 0 % 2 + m / 2 ^ 1 % 2 + m / 2 ^ 2 % 2 + m / 2 ^ 3 % 2 = m % 2 + m / 2 % 2 + m / 4 % 2 + m / 8 % 2 by
    rw [Nat.pow_zero, Nat.div_one, Nat.zero_add]]
end
/-! part 47 -/
section
/-! know, on both sides. -/
theorem kn_set : ∀ m, m < 16 → ∀ i, i < 4 → ∀ j, j < 4 → (m ||| 2 ^ i) / 2 ^ j % 2 = if j = i then 1 else m / 2 ^ j % 2 := by decide +kernel
theorem sp_know {m i : Nat} (hm : m < 16) (hi : i < 4) {v : Int32} {S : wd_S} (hS : S.1 1 12 = Int32.ofNat m) : fn_Sp_know (Int32.ofNat i) v S = some (.inl (Int32.ofNat (kn_c (m ||| 2 ^ i))), wd_i (wd_i S 1 12 (Int32.ofNat (m ||| 2 ^ i))) 123 i v) := by
  unfold fn_Sp_know
  simp only [wd_b]
  rw [if_neg (im_neg (by omega)), if_pos ((mo_lt (m := 4) (b := 4) (by omega) (by omega) rfl).mpr hi), hS, kn_or m hm i hi, ro_put_ok, wd_d_s]
  have e1 : ro_put 122 (Int32.ofNat i) v (wd_i S 1 12 (Int32.ofNat (m ||| 2 ^ i))) = wd_i (wd_i S 1 12 (Int32.ofNat (m ||| 2 ^ i))) 123 i v := by
    unfold ro_put
    rw [im_t (by omega), if_neg]
    rintro (q | q)
    · exact im_neg (by omega) q
    · have : (tp_t (122 + 1)).2 = 4 := rfl
      omega
  rw [e1]
  have e2 : (wd_i (wd_i S 1 12 (Int32.ofNat (m ||| 2 ^ i))) 123 i v).1 1 12 = Int32.ofNat (m ||| 2 ^ i) := by
    rw [fr_ne (by rintro ⟨q, -⟩; exact absurd q (by decide)), fr_eq]
  rw [e2, kn_bits (kn_or16 m hm i hi), wd_c_s]
theorem sp_know_x {p v : Int32} {S : wd_S} (hp : p < 0 ∨ ¬p < 4) : fn_Sp_know p v S = some (.inr "java/lang/IndexOutOfBoundsException", wd_n S) := by
  unfold fn_Sp_know fn_Sp_know_9
  rcases hp with h | h
  · rw [if_pos h]
  · by_cases h1 : p < 0
    · rw [if_pos h1]
    · rw [if_neg h1, if_neg h]
theorem mo_know {m i : Nat} (hm : m < 16) (hi : i < 4) {v : Int32} {S : wd_S} (h : kn_is m S) : fn_Mo_know (Int32.ofNat i) v S = some (Int32.ofNat (kn_c (m ||| 2 ^ i)), wd_i (wd_i (wd_i S 135 0 0) 173 i 1) 174 i v) ∧ kn_is (m ||| 2 ^ i) (wd_i (wd_i (wd_i S 135 0 0) 173 i 1) 174 i v) := by
  have hk : kn_is (m ||| 2 ^ i) (wd_i (wd_i (wd_i S 135 0 0) 173 i 1) 174 i v) := by
    intro j hj
    rw [fr_ne (by rintro ⟨q, -⟩; exact absurd q (by decide)), fr_i1, kn_set m hm i hi j hj]
    by_cases e : j = i
    · rw [if_pos ⟨rfl, e⟩, if_pos e, if_pos rfl]
    · rw [if_neg (fun q => e q.2), if_neg e, fr_ne (by rintro ⟨q, -⟩; exact absurd q (by decide)), h j hj]
  refine ⟨?_, hk⟩
  unfold fn_Mo_know fn_Mo_know_18
  simp only [wd_b]
  rw [show (3 : Int64) = (3 : Int32).toInt64 from rfl, sm_z, sm_in, wd_c_s]
  have h3 : ¬(Int32.ofNat i < 0 ∨ 3 < Int32.ofNat i) := by
    rintro (q | q)
    · exact im_neg (by omega) q
    · rw [show (3 : Int32) = Int32.ofNat 3 from rfl] at q
      have := (im_lt (by omega) (by omega)).mp q
      omega
  have h4 : ¬(Int32.ofNat i < 0 ∨ 4 ≤ (Int32.ofNat i).toNatClampNeg) := by
    rw [im_t (by omega)]
    rintro (q | q)
    · exact im_neg (by omega) q
    · omega
  rw [if_neg h3, if_neg (by decide), fr_eq, if_neg (by decide), if_neg (by rintro (q | q); exact h4 q; exact q fo_b1), if_neg h4, im_t (by omega), kn_many hk, wd_c_s]
theorem mo_know_x {p v : Int32} {S : wd_S} (hp : p < 0 ∨ ¬p < 4) : fn_Mo_know p v S = some (0, wd_i S 135 0 1) := by
  unfold fn_Mo_know fn_Mo_know_18
  simp only [wd_b]
  rw [show (3 : Int64) = (3 : Int32).toInt64 from rfl, sm_z, sm_in, wd_c_s]
  have h3 : p < 0 ∨ 3 < p := by
    rcases hp with q | q
    · exact Or.inl q
    · refine Or.inr ?_
      rw [Int32.lt_iff_toInt_lt] at q ⊢
      have q : ¬p.toInt < 4 := q
      show (3 : Int) < p.toInt
      omega
  rw [if_pos h3, if_pos rfl, fr_eq, if_pos (by decide)]
end
/-! part 48 -/
section
/-! Rows of letters and digits: the loops on both sides. -/
theorem lx_at {e : Nat} (he : e < 8000) (S : wd_S) : ro_at 2 (Int32.ofNat e) S = S.1 3 e := by
  unfold ro_at
  rw [im_t (by omega), if_neg]
  rintro (q | q)
  · exact im_neg (by omega) q
  · have : (tp_t (2 + 1)).2 = 8000 := rfl
    omega
theorem lx_cs {n e f : Nat} {l1 : Int32} {l2 l4 : Int64} {l6 : Int32} {S : wd_S} (hn : S.1 4 4 = Int32.ofNat n) (he : e < n) (h8 : n ≤ 8000) (hr : ¬((S.1 3 e < 48 ∨ 57 < S.1 3 e) ∧ (S.1 3 e < 97 ∨ 122 < S.1 3 e))) : fn_Tokens_scanRow_11 (f + 1) l1 l2 l4 l6 (Int32.ofNat e) S = fn_Tokens_scanRow_11 f l1 ((l2 <<< ((8 : Int32).toInt64 &&& 63)) ||| (S.1 3 e).toInt64) (l4 * 10 + (S.1 3 e - 48).toInt64) (if l6 = 0 then 0 else if S.1 3 e < 48 ∨ 57 < S.1 3 e then 0 else 1) (Int32.ofNat (e + 1)) S := by
  have h50 : fn_Tokens_scanRow_50 (fn_Tokens_scanRow_11 f) l1 l2 l4 l6 (Int32.ofNat e) S = fn_Tokens_scanRow_11 f l1 ((l2 <<< ((8 : Int32).toInt64 &&& 63)) ||| (S.1 3 e).toInt64) (l4 * 10 + (S.1 3 e - 48).toInt64) (if l6 = 0 then 0 else if S.1 3 e < 48 ∨ 57 < S.1 3 e then 0 else 1) (Int32.ofNat (e + 1)) S := by
    unfold fn_Tokens_scanRow_50 fn_Tokens_scanRow_102 fn_Tokens_scanRow_103
    rw [ro_at_ok, wd_c_s, lx_at (by omega), fo_isDigit, wd_c_s, im_s]
    by_cases h6 : l6 = 0
    · rw [if_pos h6, if_pos h6]
    · rw [if_neg h6, if_neg h6]
      by_cases hd : S.1 3 e < 48 ∨ 57 < S.1 3 e
      · rw [if_pos hd, if_pos rfl]
      · rw [if_neg hd, if_neg (by decide)]
  rw [fn_Tokens_scanRow_11, hn, if_pos ((im_lt (by omega) (by omega)).mpr he), ro_at_ok, wd_c_s, lx_at (by omega), fo_isLetter, wd_c_s, ro_at_ok, wd_c_s, lx_at (by omega), fo_isDigit, wd_c_s]
  by_cases hl : S.1 3 e < 97 ∨ 122 < S.1 3 e
  · have hd : ¬(S.1 3 e < 48 ∨ 57 < S.1 3 e) := fun q => hr ⟨q, hl⟩
    rw [if_pos hl, if_pos rfl, if_neg hd, if_neg (by decide), h50, if_neg hd]
  · rw [if_neg hl, if_neg (by decide), h50]
/-- what a row is, as the class packs and counts it -/
def lx_pk (T : Nat → Int32) (a : Nat) : Nat → Int64
  | 0 => 0
  | k + 1 => (lx_pk T a k <<< ((8 : Int32).toInt64 &&& 63)) ||| (T (a + k)).toInt64
def lx_nu (T : Nat → Int32) (a : Nat) : Nat → Int64
  | 0 => 0
  | k + 1 => lx_nu T a k * 10 + (T (a + k) - 48).toInt64
def lx_fg (T : Nat → Int32) (a : Nat) : Nat → Int32
  | 0 => 1
  | k + 1 => if lx_fg T a k = 0 then 0 else if T (a + k) < 48 ∨ 57 < T (a + k) then 0 else 1
/-- as the reference counts it -/
def lx_nm (T : Nat → Int32) (a : Nat) : Nat → Int64
  | 0 => 0
  | k + 1 => if 0 < lg_cmp (lx_nm T a k) 100000000000 then lx_nm T a k else (10 * lx_nm T a k + (T (a + k)).toInt64) - 48
/-- k bytes from a on are a row's, and then there is an end or another byte -/
def lx_row (T : Nat → Int32) (n a k : Nat) : Prop := (∀ j, j < k → a + j < n ∧ ¬((T (a + j) < 48 ∨ 57 < T (a + j)) ∧ (T (a + j) < 97 ∨ 122 < T (a + j)))) ∧ (a + k = n ∨ (a + k < n ∧ (T (a + k) < 48 ∨ 57 < T (a + k)) ∧ (T (a + k) < 97 ∨ 122 < T (a + k))))
theorem lx_cl {n a k : Nat} {S : wd_S} (hn : S.1 4 4 = Int32.ofNat n) (h8 : n ≤ 8000) (hr : lx_row (S.1 3) n a k) : ∀ (q j f : Nat), j + q = k → q < f → fn_Tokens_scanRow_11 f (Int32.ofNat a) (lx_pk (S.1 3) a j) (lx_nu (S.1 3) a j) (lx_fg (S.1 3) a j) (Int32.ofNat (a + j)) S = fn_Tokens_scanRow_111 (Int32.ofNat a) (lx_pk (S.1 3) a k) (lx_nu (S.1 3) a k) (lx_fg (S.1 3) a k) (Int32.ofNat (a + k)) S := by
  intro q
  induction q with
  | zero =>
    intro j f hj hf
    obtain ⟨f, rfl⟩ : ∃ g, f = g + 1 := ⟨f - 1, by omega⟩
    have e : j = k := by omega
    subst e
    rw [fn_Tokens_scanRow_11, hn]
    rcases hr.2 with h | ⟨h1, h2, h3⟩
    · rw [if_neg (fun h1 => by have := (im_lt (by omega) (by omega)).mp h1; omega)]
    · rw [if_pos ((im_lt (by omega) (by omega)).mpr h1), ro_at_ok, wd_c_s, lx_at (by omega), fo_isLetter, wd_c_s, ro_at_ok, wd_c_s, lx_at (by omega), fo_isDigit, wd_c_s, if_pos h3, if_pos rfl, if_pos h2, if_pos rfl]
  | succ q ih =>
    intro j f hj hf
    obtain ⟨f, rfl⟩ : ∃ g, f = g + 1 := ⟨f - 1, by omega⟩
    obtain ⟨h1, h2⟩ := hr.1 j (by omega)
    rw [lx_cs hn h1 h8 h2]
    exact ih (j + 1) f (by omega) (by omega)
end
