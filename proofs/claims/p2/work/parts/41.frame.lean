/-! What a write leaves; the reader's tokens. -/
section Fr
variable (S : wd_S) (a b k m r : Nat) (i v : Int32) (w : Int64)
theorem fr_i1 : (wd_i S a k v).1 b m = if b = a ∧ m = k then v else S.1 b m := rfl
theorem fr_i2 : (wd_i S a k v).2 = S.2 := rfl
theorem fr_l1 : (wd_l S a k w).2.1 b m = if b = a ∧ m = k then w else S.2.1 b m := rfl
theorem fr_l2 : (wd_l S a k w).1 = S.1 := rfl
theorem fr_l3 : (wd_l S a k w).2.2 = S.2.2 := rfl
theorem fr_r1 : (wd_r S a k r).2.2.1 b m = if b = a ∧ m = k then r else S.2.2.1 b m := rfl
theorem fr_r2 : (wd_r S a k r).1 = S.1 := rfl
theorem fr_r3 : (wd_r S a k r).2.1 = S.2.1 := rfl
theorem fr_r4 : (wd_r S a k r).2.2.2 = S.2.2.2 := rfl
theorem fr_p1 : (ro_put r i v S).1 b m = if b = r + 1 ∧ m = i.toNatClampNeg ∧ ¬(i < 0 ∨ (tp_t (r + 1)).2 ≤ i.toNatClampNeg) then v else S.1 b m := by
  unfold ro_put
  by_cases h : i < 0 ∨ (tp_t (r + 1)).2 ≤ i.toNatClampNeg
  · rw [if_pos h, if_neg (fun q => q.2.2 h)]
  · rw [if_neg h, fr_i1]
    by_cases h2 : b = r + 1 ∧ m = i.toNatClampNeg
    · rw [if_pos h2, if_pos ⟨h2.1, h2.2, h⟩]
    · rw [if_neg h2, if_neg (fun q => h2 ⟨q.1, q.2.1⟩)]
theorem fr_p2 : (ro_put r i v S).2 = S.2 := by
  unfold ro_put
  by_cases h : i < 0 ∨ (tp_t (r + 1)).2 ≤ i.toNatClampNeg
  · rw [if_pos h]
  · rw [if_neg h]; rfl
theorem fr_q1 : (lo_put r i w S).2.1 b m = if b = r + 1 ∧ m = i.toNatClampNeg ∧ ¬(i < 0 ∨ (tp_t (r + 1)).2 ≤ i.toNatClampNeg) then w else S.2.1 b m := by
  unfold lo_put
  by_cases h : i < 0 ∨ (tp_t (r + 1)).2 ≤ i.toNatClampNeg
  · rw [if_pos h, if_neg (fun q => q.2.2 h)]
  · rw [if_neg h, fr_l1]
    by_cases h2 : b = r + 1 ∧ m = i.toNatClampNeg
    · rw [if_pos h2, if_pos ⟨h2.1, h2.2, h⟩]
    · rw [if_neg h2, if_neg (fun q => h2 ⟨q.1, q.2.1⟩)]
theorem fr_q2 : (lo_put r i w S).1 = S.1 := by
  unfold lo_put
  by_cases h : i < 0 ∨ (tp_t (r + 1)).2 ≤ i.toNatClampNeg
  · rw [if_pos h]
  · rw [if_neg h]; rfl
theorem fr_q3 : (lo_put r i w S).2.2 = S.2.2 := by
  unfold lo_put
  by_cases h : i < 0 ∨ (tp_t (r + 1)).2 ≤ i.toNatClampNeg
  · rw [if_pos h]
  · rw [if_neg h]; rfl
/-- rows of other states -/
theorem fr_at {S S' : wd_S} (h : S'.1 (r + 1) = S.1 (r + 1)) : ro_at r i S' = ro_at r i S := by
  unfold ro_at
  rw [h]
theorem fr_lat {S S' : wd_S} (h : S'.2.1 (r + 1) = S.2.1 (r + 1)) : lo_at r i S' = lo_at r i S := by
  unfold lo_at
  rw [h]
theorem fr_row {a r k : Nat} {v : Int32} (h : r ≠ a) : (wd_i S a k v).1 r = S.1 r := by
  funext m
  rw [fr_i1, if_neg (fun q => h q.1)]
theorem fo_takeKind : fn_Reader_takeKind v S = some (fo_tk v S) := by
  unfold fn_Reader_takeKind fn_Reader_takeKind_63 wd_b fo_tk
  simp only [fo_kind, fo_faultAt, fo_refuse, wd_c_s, wd_d_s]
  by_cases h1 : S.1 47 4 = v
  · rw [if_pos h1, if_pos h1]
    by_cases h2 : S.1 47 3 < 1500
    · rw [if_pos h2, if_pos h2]
      have e1 : (wd_i S 47 3 (S.1 47 3 + 1)).1 47 3 = S.1 47 3 + 1 := by rw [fr_i1, if_pos ⟨rfl, rfl⟩]
      have e2 : (wd_i S 47 3 (S.1 47 3 + 1)).1 4 5 = S.1 4 5 := by rw [fr_i1, if_neg (by decide)]
      rw [e1, e2, fr_at 5 (S.1 47 3 + 1) (fr_row S (by decide))]
    · rw [if_neg h2, if_neg h2]
  · rw [if_neg h1, if_neg h1]
end Fr
/-! the last place of a name -/
theorem fo_lastOf {r : Nat} {x : Int64} {S : wd_S} : ∀ (n f : Nat), n < 2147483648 → n < f → ∃ z : Int32, fn_LongRow_lastOf_5 f r x (Int32.ofNat n - 1) S = some (z, S) ∧ ((z = -1 ∧ ∀ m, m < n → lg_cmp (lo_at r (Int32.ofNat m) S) x ≠ 0) ∨ ∃ m, m < n ∧ z = Int32.ofNat m ∧ lg_cmp (lo_at r (Int32.ofNat m) S) x = 0 ∧ ∀ q, m < q → q < n → lg_cmp (lo_at r (Int32.ofNat q) S) x ≠ 0) := by
  intro n
  induction n with
  | zero =>
    intro f _ hf
    obtain ⟨f, rfl⟩ : ∃ g, f = g + 1 := ⟨f - 1, by omega⟩
    refine ⟨-1, ?_, Or.inl ⟨rfl, fun m hm => by omega⟩⟩
    rw [fn_LongRow_lastOf_5]
    rw [if_pos (by decide)]
  | succ n ih =>
    intro f hn hf
    obtain ⟨f, rfl⟩ : ∃ g, f = g + 1 := ⟨f - 1, by omega⟩
    rw [im_p, fn_LongRow_lastOf_5, if_neg (im_neg (by omega)), lo_at_ok, wd_c_s]
    by_cases h : lg_cmp (lo_at r (Int32.ofNat n) S) x = 0
    · rw [if_pos h]
      exact ⟨Int32.ofNat n, rfl, Or.inr ⟨n, by omega, rfl, h, fun q h1 h2 => by omega⟩⟩
    · rw [if_neg h]
      obtain ⟨z, h1, h2⟩ := ih f (by omega) (by omega)
      refine ⟨z, ?_, ?_⟩
      · have e : Int32.ofNat n + -1 = Int32.ofNat n - 1 := by rw [Int32.sub_eq_add_neg]
        rw [e]
        exact h1
      · rcases h2 with ⟨e1, h3⟩ | ⟨m, h3, h4, h5, h6⟩
        · refine Or.inl ⟨e1, fun m hm => ?_⟩
          rcases Nat.lt_or_ge m n with hl | hl
          · exact h3 m hl
          · have : m = n := by omega
            rw [this]; exact h
        · refine Or.inr ⟨m, by omega, h4, h5, fun q h7 h8 => ?_⟩
          rcases Nat.lt_or_ge q n with hl | hl
          · exact h6 q h7 hl
          · have : q = n := by omega
            rw [this]; exact h
