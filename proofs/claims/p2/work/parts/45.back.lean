/-! give, ran of the reference; back, on both sides. -/
section Bc
variable (p : Int32) (S : wd_S)
theorem mo_give {g : Nat} (hg : g ≤ 4) (hS : S.1 135 95 = Int32.ofNat g) : fn_Mo_give p S = if g = 4 then some (0, wd_i S 135 0 1) else some (Int32.ofNat (g + 1), wd_i (wd_i (wd_i S 135 0 0) 179 g p) 135 95 (Int32.ofNat (g + 1))) := by
  unfold fn_Mo_give fn_Mo_give_14
  simp only [wd_b]
  have e : S.1 135 95 = 4 ↔ g = 4 := by
    rw [hS, show (4 : Int32) = Int32.ofNat 4 from rfl]
    exact im_eq (by omega) (by omega)
  by_cases h : g = 4
  · rw [if_pos (e.mpr h), if_pos h, fr_eq, if_pos (by decide)]
  · rw [if_neg (fun q => h (e.mp q)), if_neg h, fr_eq, if_neg (by decide)]
    have e1 : (wd_i S 135 0 0).1 135 95 = Int32.ofNat g := by rw [fr_ne (by decide), hS]
    rw [e1, im_t (by omega), if_neg (by rintro (q | q); exact im_neg (by omega) q; omega)]
    have e2 : (wd_i (wd_i S 135 0 0) 179 g p).1 135 95 = Int32.ofNat g := by rw [fr_ne (by rintro ⟨q, -⟩; exact absurd q (by decide)), e1]
    rw [e2, fr_eq, im_s]
theorem mo_ran : fn_Mo_ran p S = if p < 0 ∨ 2 < p then some (0, wd_i S 135 0 1) else some (if p = 0 then S.1 135 96 else if p = 1 then S.1 135 97 else S.1 135 98, wd_i S 135 0 0) := by
  unfold fn_Mo_ran fn_Mo_ran_18 fn_Mo_ran_59
  simp only [wd_b]
  rw [show (2 : Int64) = (2 : Int32).toInt64 from rfl, sm_z, sm_in, wd_c_s]
  by_cases h : p < 0 ∨ 2 < p
  · rw [if_pos h, if_pos h, if_pos rfl, fr_eq, if_pos (by decide)]
  · rw [if_neg h, if_neg h, if_neg (by decide), fr_eq, if_neg (by decide), fr_ne (by decide), fr_ne (by decide), fr_ne (by decide)]
    by_cases h0 : p = 0
    · rw [if_pos h0, if_pos h0]
    · rw [if_neg h0, if_neg h0]
      by_cases h1 : p = 1
      · rw [if_pos h1, if_pos h1]
      · rw [if_neg h1, if_neg h1]
end Bc
/-- the ints i to n of array c copied into array a -/
def wd_cp (a c i n : Nat) (S : wd_S) : wd_S := (fun b m => if b = a ∧ i ≤ m ∧ m < n then S.1 c m else S.1 b m, S.2)
theorem wd_cp0 {a c n : Nat} {S : wd_S} : wd_cp a c n n S = S := by
  unfold wd_cp
  have h : (fun b m => if b = a ∧ n ≤ m ∧ m < n then S.1 c m else S.1 b m) = S.1 := by
    funext b m
    rw [if_neg (by omega)]
  rw [h]
theorem wd_cp1 {a c i n : Nat} {S : wd_S} (hac : c ≠ a) (hi : i < n) : wd_cp a c (i + 1) n (wd_i S a i (S.1 c i)) = wd_cp a c i n S := by
  unfold wd_cp
  have h : (fun b m => if b = a ∧ i + 1 ≤ m ∧ m < n then (wd_i S a i (S.1 c i)).1 c m else (wd_i S a i (S.1 c i)).1 b m) = (fun b m => if b = a ∧ i ≤ m ∧ m < n then S.1 c m else S.1 b m) := by
    funext b m
    rw [fr_ne (b := c) (fun q => hac q.1), fr_i1]
    by_cases hb : b = a
    · by_cases hm : m = i
      · rw [if_neg (by omega), if_pos ⟨hb, hm⟩, if_pos (by omega), hm]
      · rw [show (if b = a ∧ m = i then S.1 c i else S.1 b m) = S.1 b m from if_neg (fun q => hm q.2)]
        by_cases h1 : i + 1 ≤ m ∧ m < n
        · rw [if_pos ⟨hb, h1⟩, if_pos ⟨hb, by omega, h1.2⟩]
        · rw [if_neg (fun q => h1 q.2), if_neg (fun q => h1 ⟨by omega, q.2.2⟩)]
    · rw [if_neg (fun q => hb q.1), if_neg (fun q => hb q.1), if_neg (fun q => hb q.1)]
  rw [h]
  rfl
theorem wd_cpn {a c i n b m : Nat} {S : wd_S} (h : b ≠ a) : (wd_cp a c i n S).1 b m = S.1 b m := if_neg (fun q => h q.1)
theorem sp_back_l {n : Nat} (hn : n ≤ 8000) : ∀ (j i f : Nat) (S : wd_S), i + j = n → j < f → S.1 1 15 = Int32.ofNat n → fn_Sp_back_22 f (Int32.ofNat i) S = some (.inl (Int32.ofNat n), wd_i (wd_cp 3 127 i n S) 1 1 (Int32.ofNat n)) := by
  intro j
  induction j with
  | zero =>
    intro i f S hi hf hS
    obtain ⟨f, rfl⟩ : ∃ g, f = g + 1 := ⟨f - 1, by omega⟩
    have e : i = n := by omega
    subst e
    rw [fn_Sp_back_22, hS, if_neg (fun h => by have := (im_lt (by omega) (by omega)).mp h; omega), wd_cp0]
    simp only [wd_b]
    rw [fr_eq]
  | succ j ih =>
    intro i f S hi hf hS
    obtain ⟨f, rfl⟩ : ∃ g, f = g + 1 := ⟨f - 1, by omega⟩
    have e1 : ro_at 126 (Int32.ofNat i) S = S.1 127 i := by
      unfold ro_at
      rw [im_t (by omega), if_neg]
      rintro (q | q)
      · exact im_neg (by omega) q
      · have : (tp_t (126 + 1)).2 = 40000 := rfl
        omega
    rw [fn_Sp_back_22, hS, if_pos ((im_lt (by omega) (by omega)).mpr (by omega)), ro_at_ok, wd_c_s, tp_put (by omega), wd_d_s, e1, im_s]
    rw [ih (i + 1) f _ (by omega) (by omega) (by rw [fr_ne (by rintro ⟨q, -⟩; exact absurd q (by decide)), hS])]
    rw [wd_cp1 (by decide) (by omega)]
theorem mo_back_l {n : Nat} (hn : n ≤ 8000) : ∀ (j i f : Nat) (S : wd_S), i + j = n → j < f → S.1 135 89 = Int32.ofNat n → fn_Mo_back_30 f (Int32.ofNat i) S = some (Int32.ofNat n, wd_i (wd_cp 136 175 i n S) 135 2 (Int32.ofNat n)) := by
  intro j
  induction j with
  | zero =>
    intro i f S hi hf hS
    obtain ⟨f, rfl⟩ : ∃ g, f = g + 1 := ⟨f - 1, by omega⟩
    have e : i = n := by omega
    subst e
    rw [fn_Mo_back_30, hS, if_neg (fun h => by have := (im_lt (by omega) (by omega)).mp h; omega), wd_cp0]
    simp only [wd_b]
    rw [fr_eq]
  | succ j ih =>
    intro i f S hi hf hS
    obtain ⟨f, rfl⟩ : ∃ g, f = g + 1 := ⟨f - 1, by omega⟩
    rw [fn_Mo_back_30, hS, if_pos ((im_lt (by omega) (by omega)).mpr (by omega)), im_t (by omega), if_neg (by rintro (q | q); exact im_neg (by omega) q; omega), if_neg (by rintro (q | q); exact im_neg (by omega) q; omega)]
    simp only [wd_b]
    rw [im_s, ih (i + 1) f _ (by omega) (by omega) (by rw [fr_ne (by rintro ⟨q, -⟩; exact absurd q (by decide)), hS])]
    rw [wd_cp1 (by decide) (by omega)]
