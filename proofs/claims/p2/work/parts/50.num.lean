/-! Every place has its row; a row of at most ten digits counts alike on both sides. -/
theorem lx_ex (T : Nat → Int32) (n : Nat) : ∀ q a, a + q = n → ∃ k, lx_row T n a k := by
  intro q
  induction q with
  | zero => intro a ha; exact ⟨0, fun j hj => by omega, Or.inl (by omega)⟩
  | succ q ih =>
    intro a ha
    by_cases h : (T a < 48 ∨ 57 < T a) ∧ (T a < 97 ∨ 122 < T a)
    · exact ⟨0, fun j hj => by omega, Or.inr ⟨by omega, h.1, h.2⟩⟩
    · obtain ⟨k, h1, h2⟩ := ih (a + 1) (by omega)
      refine ⟨k + 1, fun j hj => ?_, ?_⟩
      · cases j with
        | zero => exact ⟨by omega, h⟩
        | succ j =>
          have := h1 j (by omega)
          rw [show a + 1 + j = a + (j + 1) by omega] at this
          exact this
      · rw [show a + 1 + k = a + (k + 1) by omega] at h2
        exact h2
theorem lx_dig {c : Int32} (h : ¬(c < 48 ∨ 57 < c)) : ∃ d, d ≤ 9 ∧ c = Int32.ofNat (48 + d) := by
  have h1 : ¬c.toInt < 48 := fun q => h (Or.inl (Int32.lt_iff_toInt_lt.mpr q))
  have h2 : ¬(57 : Int) < c.toInt := fun q => h (Or.inr (Int32.lt_iff_toInt_lt.mpr q))
  refine ⟨(c.toInt - 48).toNat, by omega, ?_⟩
  rw [← Int32.toInt_inj, im_i (by omega)]
  omega
theorem lx_up {v : Nat} (h : v < 2147483648) : (Int32.ofNat v).toInt64 = Int64.ofNat v := by
  rw [← Int64.toInt_inj, Int32.toInt_toInt64, im_i h, Int64.toInt_ofNat_of_lt (by omega)]
theorem lx_same {T : Nat → Int32} {a : Nat} : ∀ k, k ≤ 10 → lx_fg T a k = 1 → ∃ v, v < 10 ^ k ∧ lx_nu T a k = Int64.ofNat v ∧ lx_nm T a k = Int64.ofNat v := by
  intro k
  induction k with
  | zero => intro _ _; exact ⟨0, by decide, rfl, rfl⟩
  | succ k ih =>
    intro hk hf
    have hf : (if lx_fg T a k = 0 then 0 else if T (a + k) < 48 ∨ 57 < T (a + k) then 0 else 1) = (1 : Int32) := hf
    by_cases h0 : lx_fg T a k = 0
    · rw [if_pos h0] at hf
      exact absurd hf (by decide)
    · rw [if_neg h0] at hf
      by_cases hd : T (a + k) < 48 ∨ 57 < T (a + k)
      · rw [if_pos hd] at hf
        exact absurd hf (by decide)
      · have h1 : lx_fg T a k = 1 := by
          cases k with
          | zero => rfl
          | succ k =>
            have e : lx_fg T a (k + 1) = if lx_fg T a k = 0 then 0 else if T (a + k) < 48 ∨ 57 < T (a + k) then 0 else 1 := rfl
            rw [e] at h0 ⊢
            by_cases q1 : lx_fg T a k = 0
            · rw [if_pos q1] at h0; exact absurd rfl h0
            · rw [if_neg q1] at h0 ⊢
              by_cases q2 : T (a + k) < 48 ∨ 57 < T (a + k)
              · rw [if_pos q2] at h0; exact absurd rfl h0
              · rw [if_neg q2]
        obtain ⟨v, hv, e1, e2⟩ := ih (by omega) h1
        obtain ⟨d, h9, ed⟩ := lx_dig hd
        have hp : 10 ^ k ≤ 10 ^ 9 := Nat.pow_le_pow_right (by decide) (by omega)
        have hp : 10 ^ k ≤ 1000000000 := hp
        refine ⟨v * 10 + d, ?_, ?_, ?_⟩
        · rw [Nat.pow_succ]; omega
        · show lx_nu T a k * 10 + (T (a + k) - 48).toInt64 = _
          rw [e1, ed, show Int32.ofNat (48 + d) - 48 = Int32.ofNat d by
            have := Int32.ofNat_sub (48 + d) 48 (by omega)
            rw [Nat.add_sub_cancel_left] at this
            exact this.symm, lx_up (by omega), Int64.ofNat_add, Int64.ofNat_mul]
          rfl
        · show (if 0 < lg_cmp (lx_nm T a k) 100000000000 then lx_nm T a k else (10 * lx_nm T a k + (T (a + k)).toInt64) - 48) = _
          have hc : ¬0 < lg_cmp (lx_nm T a k) 100000000000 := by
            rw [sm_gt, e2, Int64.toInt_ofNat_of_lt (by omega)]
            show ¬(100000000000 : Int) < v
            omega
          rw [if_neg hc, e2, ed, lx_up (by omega), show (10 : Int64) = Int64.ofNat 10 from rfl, show (48 : Int64) = Int64.ofNat 48 from rfl, ← Int64.ofNat_mul, ← Int64.ofNat_add, ← Int64.ofNat_sub _ _ (by omega)]
          congr 1
          omega
