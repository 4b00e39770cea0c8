/-! cut, place, give, out, ran: closed forms on both sides. -/
section Lg
variable {x y z : Int64}
theorem sm_lt : lg_cmp x y < 0 ↔ x.toInt < y.toInt := by
  unfold lg_cmp
  by_cases h1 : x > y
  · rw [if_pos h1]
    have h2 : y.toInt < x.toInt := Int64.lt_iff_toInt_lt.mp h1
    exact ⟨fun h => absurd h (by decide), fun h => by omega⟩
  · rw [if_neg h1]
    have h2 : ¬y.toInt < x.toInt := fun h => h1 (Int64.lt_iff_toInt_lt.mpr h)
    by_cases h3 : x = y
    · rw [if_pos h3]
      subst h3
      exact ⟨fun h => absurd h (by decide), fun h => by omega⟩
    · rw [if_neg h3]
      have h4 : x.toInt ≠ y.toInt := fun h => h3 (Int64.toInt_inj.mp h)
      exact ⟨fun _ => by omega, fun _ => by decide⟩
theorem sm_gt : 0 < lg_cmp x y ↔ y.toInt < x.toInt := by
  unfold lg_cmp
  by_cases h1 : x > y
  · rw [if_pos h1]
    have h2 : y.toInt < x.toInt := Int64.lt_iff_toInt_lt.mp h1
    exact ⟨fun _ => h2, fun _ => by decide⟩
  · rw [if_neg h1]
    have h2 : ¬y.toInt < x.toInt := fun h => h1 (Int64.lt_iff_toInt_lt.mpr h)
    by_cases h3 : x = y
    · rw [if_pos h3]
      exact ⟨fun h => absurd h (by decide), fun h => absurd h h2⟩
    · rw [if_neg h3]
      exact ⟨fun h => absurd h (by decide), fun h => absurd h h2⟩
theorem sm_eq : lg_cmp x y = 0 ↔ x = y := by
  unfold lg_cmp
  by_cases h1 : x > y
  · rw [if_pos h1]
    have h2 : y.toInt < x.toInt := Int64.lt_iff_toInt_lt.mp h1
    exact ⟨fun h => absurd h (by decide), fun h => by subst h; omega⟩
  · rw [if_neg h1]
    by_cases h3 : x = y
    · rw [if_pos h3]
      exact ⟨fun _ => h3, fun _ => rfl⟩
    · rw [if_neg h3]
      exact ⟨fun h => absurd h (by decide), fun h => absurd h h3⟩
theorem sm_within (S : wd_S) : fn_Mo_within x y z S = some (if x.toInt < y.toInt ∨ z.toInt < x.toInt then 0 else 1, S) := by
  unfold fn_Mo_within fn_Mo_within_17 fn_Mo_within_18
  by_cases h1 : x.toInt < y.toInt
  · rw [if_pos (sm_lt.mpr h1), if_pos fo_b0, if_pos (Or.inl h1)]
  · rw [if_neg (fun h => h1 (sm_lt.mp h))]
    by_cases h2 : z.toInt < x.toInt
    · rw [if_pos (sm_gt.mpr h2), if_pos fo_b0, if_pos (Or.inr h2)]
    · rw [if_neg (fun h => h2 (sm_gt.mp h)), if_pos fo_b1, if_neg (by rintro (h | h); exact h1 h; exact h2 h)]
end Lg
theorem fr_eq {S : wd_S} {a k : Nat} {v : Int32} : (wd_i S a k v).1 a k = v := by rw [fr_i1, if_pos ⟨rfl, rfl⟩]
theorem fr_ne {S : wd_S} {a k b m : Nat} {v : Int32} (h : ¬(b = a ∧ m = k)) : (wd_i S a k v).1 b m = S.1 b m := by rw [fr_i1, if_neg h]
section Sm
variable (p : Int32) (S : wd_S)
/-- an int within two others, as longs -/
theorem sm_in (a b : Int32) : fn_Mo_within p.toInt64 a.toInt64 b.toInt64 S = some (if p < a ∨ b < p then 0 else 1, S) := by
  rw [sm_within]
  simp only [Int32.toInt_toInt64, Int32.lt_iff_toInt_lt]
theorem sm_z : (0 : Int64) = (0 : Int32).toInt64 := rfl
theorem sp_cut : fn_Sp_cut p S = if p < 0 ∨ S.1 1 1 < p then some (.inr "java/lang/IllegalArgumentException", wd_n S) else some (.inl (S.1 1 1 - p), wd_i S 1 1 p) := by
  unfold fn_Sp_cut fn_Sp_cut_12
  simp only [wd_b]
  by_cases h1 : p < 0 <;> by_cases h2 : S.1 1 1 < p <;> simp [h1, h2]
theorem mo_cut : fn_Mo_cut p S = if p < 0 ∨ S.1 135 2 < p then some (0, wd_i S 135 0 1) else some (S.1 135 2 - p, wd_i (wd_i S 135 0 0) 135 2 p) := by
  unfold fn_Mo_cut fn_Mo_cut_20
  simp only [wd_b]
  rw [sm_z, sm_in, wd_c_s]
  by_cases h : p < 0 ∨ S.1 135 2 < p
  · rw [if_pos h, if_pos h, if_pos rfl]
    rw [fr_eq, if_pos (by decide)]
  · rw [if_neg h, if_neg h, if_neg (by decide)]
    rw [fr_eq, if_neg (by decide), fr_ne (by decide)]
theorem mo_place : fn_Mo_place S = some (S.1 135 10, wd_i S 135 0 0) := by
  unfold fn_Mo_place
  simp only [wd_b]
  rw [fr_ne (by decide)]
theorem sp_give : fn_Sp_give p S = if S.1 1 18 < 4 then some (.inl (S.1 1 18 + 1), wd_i (ro_put 131 (S.1 1 18) p S) 1 18 (S.1 1 18 + 1)) else some (.inr "java/lang/IllegalStateException", wd_n S) := by
  unfold fn_Sp_give
  simp only [wd_b]
  rw [ro_put_ok, wd_d_s]
  have e : (ro_put 131 (S.1 1 18) p S).1 1 18 = S.1 1 18 := by rw [fr_p1, if_neg (by rintro ⟨h, -⟩; exact absurd h (by decide))]
  rw [e, fr_eq]
theorem sp_out : fn_Sp_out p S = if p < 0 ∨ ¬p < S.1 1 15 then some (.inr "java/lang/IndexOutOfBoundsException", wd_n S) else some (.inl (ro_at 126 p S), S) := by
  unfold fn_Sp_out fn_Sp_out_12
  rw [ro_at_ok, wd_c_s]
  by_cases h1 : p < 0 <;> by_cases h2 : p < S.1 1 15 <;> simp [h1, h2]
theorem sp_ran : fn_Sp_ran p S = if p < 0 ∨ 2 < p then some (.inr "java/lang/IndexOutOfBoundsException", wd_n S) else some (.inl (ro_at 133 p S), S) := by
  unfold fn_Sp_ran fn_Sp_ran_9
  rw [ro_at_ok, wd_c_s]
  by_cases h1 : p < 0 <;> by_cases h2 : 2 < p <;> simp [h1, h2]
theorem mo_out {n : Nat} (hn : n ≤ 40000) (hS : S.1 135 89 = Int32.ofNat n) : fn_Mo_out p S = if p < 0 ∨ ¬p < S.1 135 89 then some (0, wd_i S 135 0 1) else some (S.1 175 p.toNatClampNeg, wd_i S 135 0 0) := by
  unfold fn_Mo_out fn_Mo_out_22 fn_Mo_out_42
  simp only [wd_b]
  rw [sm_z, sm_in, wd_c_s]
  have e : S.1 135 89 - 1 < p ↔ ¬p < S.1 135 89 := by
    rw [hS, Int32.lt_iff_toInt_lt, Int32.lt_iff_toInt_lt, im_i (by omega)]
    have h1 : (Int32.ofNat n - 1).toInt = (n : Int) - 1 := by
      cases n with
      | zero => rfl
      | succ n => rw [im_p, im_i (by omega)]; omega
    rw [h1]
    omega
  by_cases h : p < 0 ∨ ¬p < S.1 135 89
  · have h1 : p < 0 ∨ S.1 135 89 - 1 < p := h.imp id e.mpr
    rw [if_pos h, if_pos h1, if_pos rfl, fr_eq, if_pos (by decide)]
  · have h1 : ¬(p < 0 ∨ S.1 135 89 - 1 < p) := fun q => h (q.imp id e.mp)
    have h2 : ¬p < 0 := fun q => h (Or.inl q)
    have h3 : p < S.1 135 89 := Decidable.not_not.mp (fun q => h (Or.inr q))
    rw [hS] at h3
    have h4 := (im_ltn h2 (by omega)).mp h3
    rw [if_neg h, if_neg h1, if_neg (by decide), fr_eq, if_neg (by decide), if_neg (by rintro (q | q); exact h2 q; omega), fr_ne (by rintro ⟨q, -⟩; exact absurd q (by decide))]
end Sm
