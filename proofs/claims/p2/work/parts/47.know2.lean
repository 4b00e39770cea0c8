/-! know, on both sides. -/
theorem kn_set : ∀ m, m < 16 → ∀ i, i < 4 → ∀ j, j < 4 → (m ||| 2 ^ i) / 2 ^ j % 2 = if j = i then 1 else m / 2 ^ j % 2 := by decide +kernel
theorem sp_know {m i : Nat} (hm : m < 16) (hi : i < 4) {v : Int32} {S : wd_S} (hS : S.1 1 12 = Int32.ofNat m) : fn_Sp_know (Int32.ofNat i) v S = some (.inl (Int32.ofNat (kn_c (m ||| 2 ^ i))), wd_i (wd_i S 1 12 (Int32.ofNat (m ||| 2 ^ i))) 123 i v) := by
  unfold fn_Sp_know
  simp only [wd_b]
  rw [if_neg (im_neg (by omega)), if_pos ((mo_lt (m := 4) (b := 4) (by omega) (by omega) rfl).mpr hi), hS, kn_or m hm i hi, ro_put_ok, wd_d_s]
  have e1 : ro_put 122 (Int32.ofNat i) v (wd_i S 1 12 (Int32.ofNat (m ||| 2 ^ i))) = wd_i (wd_i S 1 12 (Int32.ofNat (m ||| 2 ^ i))) 123 i v := by
    unfold ro_put
    rw [im_t (by omega), if_neg]
    rintro (q | q)
    · exact im_neg (by omega) q
    · have : (tp_t (122 + 1)).2 = 4 := rfl
      omega
  rw [e1]
  have e2 : (wd_i (wd_i S 1 12 (Int32.ofNat (m ||| 2 ^ i))) 123 i v).1 1 12 = Int32.ofNat (m ||| 2 ^ i) := by
    rw [fr_ne (by rintro ⟨q, -⟩; exact absurd q (by decide)), fr_eq]
  rw [e2, kn_bits (kn_or16 m hm i hi), wd_c_s]
theorem sp_know_x {p v : Int32} {S : wd_S} (hp : p < 0 ∨ ¬p < 4) : fn_Sp_know p v S = some (.inr "java/lang/IndexOutOfBoundsException", wd_n S) := by
  unfold fn_Sp_know fn_Sp_know_9
  rcases hp with h | h
  · rw [if_pos h]
  · by_cases h1 : p < 0
    · rw [if_pos h1]
    · rw [if_neg h1, if_neg h]
theorem mo_know {m i : Nat} (hm : m < 16) (hi : i < 4) {v : Int32} {S : wd_S} (h : kn_is m S) : fn_Mo_know (Int32.ofNat i) v S = some (Int32.ofNat (kn_c (m ||| 2 ^ i)), wd_i (wd_i (wd_i S 135 0 0) 173 i 1) 174 i v) ∧ kn_is (m ||| 2 ^ i) (wd_i (wd_i (wd_i S 135 0 0) 173 i 1) 174 i v) := by
  have hk : kn_is (m ||| 2 ^ i) (wd_i (wd_i (wd_i S 135 0 0) 173 i 1) 174 i v) := by
    intro j hj
    rw [fr_ne (by rintro ⟨q, -⟩; exact absurd q (by decide)), fr_i1, kn_set m hm i hi j hj]
    by_cases e : j = i
    · rw [if_pos ⟨rfl, e⟩, if_pos e, if_pos rfl]
    · rw [if_neg (fun q => e q.2), if_neg e, fr_ne (by rintro ⟨q, -⟩; exact absurd q (by decide)), h j hj]
  refine ⟨?_, hk⟩
  unfold fn_Mo_know fn_Mo_know_18
  simp only [wd_b]
  rw [show (3 : Int64) = (3 : Int32).toInt64 from rfl, sm_z, sm_in, wd_c_s]
  have h3 : ¬(Int32.ofNat i < 0 ∨ 3 < Int32.ofNat i) := by
    rintro (q | q)
    · exact im_neg (by omega) q
    · rw [show (3 : Int32) = Int32.ofNat 3 from rfl] at q
      have := (im_lt (by omega) (by omega)).mp q
      omega
  have h4 : ¬(Int32.ofNat i < 0 ∨ 4 ≤ (Int32.ofNat i).toNatClampNeg) := by
    rw [im_t (by omega)]
    rintro (q | q)
    · exact im_neg (by omega) q
    · omega
  rw [if_neg h3, if_neg (by decide), fr_eq, if_neg (by decide), if_neg (by rintro (q | q); exact h4 q; exact q fo_b1), if_neg h4, im_t (by omega), kn_many hk, wd_c_s]
theorem mo_know_x {p v : Int32} {S : wd_S} (hp : p < 0 ∨ ¬p < 4) : fn_Mo_know p v S = some (0, wd_i S 135 0 1) := by
  unfold fn_Mo_know fn_Mo_know_18
  simp only [wd_b]
  rw [show (3 : Int64) = (3 : Int32).toInt64 from rfl, sm_z, sm_in, wd_c_s]
  have h3 : p < 0 ∨ 3 < p := by
    rcases hp with q | q
    · exact Or.inl q
    · refine Or.inr ?_
      rw [Int32.lt_iff_toInt_lt] at q ⊢
      have q : ¬p.toInt < 4 := q
      show (3 : Int) < p.toInt
      omega
  rw [if_pos h3, if_pos rfl, fr_eq, if_pos (by decide)]
