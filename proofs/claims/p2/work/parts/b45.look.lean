/-! function(), told(): both sides. -/
def fu (pg : pg_T) (p q : Int32) : Option Nat := if p < 0 ∨ ¬p < Int32.ofNat pg.length then none else if q < 0 ∨ 2 < q then none else some (if q = 0 then (pg.getD p.toNatClampNeg (0, tr_z, 0, 0)).1 else if q = 1 then (pg.getD p.toNatClampNeg (0, tr_z, 0, 0)).2.2.1 else (pg.getD p.toNatClampNeg (0, tr_z, 0, 0)).2.2.2)
theorem nd_t_l {t hi : Nat} {S : wd_S} {lo : Nat} : ∀ {d y : Nat} {T : tr_T}, nd_t t S lo hi d y T → y < hi := by
  intro d y T h
  cases d with
  | zero => exact h.elim
  | succ d => exact h.2.1
section Lk
variable {b h : Nat} {pg : pg_T} {S : wd_S} {p q : Int32}
theorem lk_p {n : Nat} (hn : n < 2147483648) (h1 : ¬(p < 0 ∨ ¬p < Int32.ofNat n)) : ∃ f, f < n ∧ p = Int32.ofNat f ∧ p.toNatClampNeg = f := by
  have hp0 : ¬p < 0 := fun q => h1 (Or.inl q)
  exact ⟨p.toNatClampNeg, (im_ltn hp0 hn).mp (Decidable.byContradiction fun q => h1 (Or.inr q)), (im_of hp0).symm, rfl⟩
theorem sp_function (hb : b = 11 ∨ b = 29) (h5 : S.2.2.1 1 5 = b) (hP : cl_P b 1500 pg S) (hpl : pg.length ≤ 48) : fn_Sp_function p q S = match fu pg p q with
    | none => some (.inr "java/lang/IndexOutOfBoundsException", wd_n S)
    | some n => some (.inl (Int32.ofNat n), S) := by
  have t0 : tp_t b = (0, 0) := by rcases hb with z | z <;> rw [z] <;> rfl
  have t17 : (tp_t (b + 16 + 1)).2 = 48 := by rcases hb with z | z <;> rw [z] <;> rfl
  have t15 : (tp_t (b + 14 + 1)).2 = 48 := by rcases hb with z | z <;> rw [z] <;> rfl
  have t11 : (tp_t (b + 1 + 9 + 1)).2 = 1500 := by rcases hb with z | z <;> rw [z] <;> rfl
  have t13 : (tp_t (b + 1 + 11 + 1)).2 = 1500 := by rcases hb with z | z <;> rw [z] <;> rfl
  obtain ⟨c1, c2⟩ := hP
  unfold fu fn_Sp_function fn_Sp_function_20
  rw [h5, if_pos t0, fo_has, wd_c_s, c1]
  by_cases h1 : p < 0 ∨ ¬p < Int32.ofNat pg.length
  · rw [if_pos h1, if_pos h1, if_pos rfl]
  · rw [if_neg h1, if_neg h1, if_neg (show ¬(1 : Int32) = 0 by decide)]
    obtain ⟨f, f1, f2, f3⟩ := lk_p (by omega) h1
    obtain ⟨a1, y, a2, a3, a4, a5⟩ := c2 f f1
    have hy := nd_t_l a3
    by_cases h2 : q < 0
    · rw [if_pos (Or.inl h2), if_pos h2]
    · by_cases h3 : 2 < q
      · rw [if_pos (Or.inr h3), if_neg h2, if_pos h3]
      · rw [if_neg (show ¬(q < 0 ∨ 2 < q) from fun z => z.elim h2 h3), if_neg h2, if_neg h3, f3, List.getD_eq_getElem?_getD, List.getElem?_eq_getElem f1, Option.getD_some]
        by_cases h4 : q = 0
        · rw [if_pos h4, if_pos h4, h5, if_pos t0, fo_params, wd_c_s, f2, ro_an t17 (show f < 48 by omega), show b + 16 + 1 = b + 17 from rfl, a1]
        · rw [if_neg h4, if_neg h4]
          by_cases h6 : q = 1
          · rw [if_pos h6, if_pos h6, h5, if_pos t0]
            unfold fn_Bodies_expressions
            rw [fo_root, wd_c_s, f2, ro_an t15 (show f < 48 by omega), show b + 14 + 1 = b + 15 from rfl, a2, fo_tsize, wd_c_s, ro_an t11 hy, show b + 1 + 9 + 1 = b + 1 + 10 from rfl, a4, wd_c_s]
          · rw [if_neg h6, if_neg h6, h5, if_pos t0]
            unfold fn_Bodies_lets
            rw [fo_root, wd_c_s, f2, ro_an t15 (show f < 48 by omega), show b + 14 + 1 = b + 15 from rfl, a2, fo_tlets, wd_c_s, ro_an t13 hy, show b + 1 + 11 + 1 = b + 1 + 12 from rfl, a5, wd_c_s]
theorem mo_function_x (h41 : S.1 135 41 = 0) : fn_Mo_function p q S = some (0, wd_i S 135 0 1) := by
  unfold fn_Mo_function fn_Mo_isFn fn_Mo_isFn_32 fn_Mo_isFn_33 fn_Mo_function_25 fn_Mo_function_26
  simp only [wd_b]
  rw [h41, if_pos rfl, if_pos fo_b0, wd_c_s, if_pos rfl, fr_eq, if_pos (show (0 : Int32) < 1 by decide)]
theorem mo_function (h41 : S.1 135 41 = 1) (hh : h ≤ 1) (h42 : S.1 135 42 = Int32.ofNat h) (h150 : S.1 150 h = Int32.ofNat pg.length) (hp1 : 1 ≤ pg.length) (hpl : pg.length ≤ 48) (hP : mo_P h pg S) : fn_Mo_function p q S = match fu pg p q with
    | none => some (0, wd_i S 135 0 1)
    | some n => some (Int32.ofNat n, wd_i S 135 0 0) := by
  have e1 : fn_Mo_function_25 p q S = some (0, wd_i S 135 0 1) := by
    unfold fn_Mo_function_25 fn_Mo_function_26
    simp only [wd_b]
    rw [fr_eq, if_pos (show (0 : Int32) < 1 by decide)]
  have hin : fn_Mo_within q.toInt64 0 2 S = some (if q < 0 ∨ 2 < q then 0 else 1, S) := sm_in (p := q) (S := S) 0 2
  unfold fu fn_Mo_function
  rw [mo_isfn h41 hh h42 h150 hp1 (by omega), wd_c_s]
  by_cases h1 : p < 0 ∨ ¬p < Int32.ofNat pg.length
  · rw [if_pos h1, if_pos h1, if_pos rfl]
    exact e1
  · rw [if_neg h1, if_neg h1, if_neg (show ¬(1 : Int32) = 0 by decide), hin, wd_c_s]
    by_cases h2 : q < 0 ∨ 2 < q
    · rw [if_pos h2, if_pos h2, if_pos rfl]
      exact e1
    · rw [if_neg h2, if_neg h2, if_neg (show ¬(1 : Int32) = 0 by decide)]
      obtain ⟨f, f1, f2, f3⟩ := lk_p (by omega) h1
      obtain ⟨a1, a2, a3, -⟩ := hP f f1
      have e48 : (48 : Int32) * Int32.ofNat h + Int32.ofNat f = Int32.ofNat (48 * h + f) := by rw [show (48 : Int32) = Int32.ofNat 48 from rfl, im_ma]
      unfold fn_Mo_function_26 fn_Mo_function_88
      simp only [wd_b]
      rw [fr_eq, if_neg (show ¬(0 : Int32) < 0 by decide), f3, List.getD_eq_getElem?_getD, List.getElem?_eq_getElem f1, Option.getD_some, fr_ne (show ¬(135 = 135 ∧ 42 = 0) by omega), h42, f2, e48, im_t (show 48 * h + f < 2147483648 by omega), fr_ne (show ¬(138 = 135 ∧ _) by omega), a1, fr_ne (show ¬(141 = 135 ∧ _) by omega), a3, fr_ne (show ¬(139 = 135 ∧ _) by omega), a2, if_neg (ms_iy (show 48 * h + f < 96 by omega) (by decide)), im_sb]
      by_cases h4 : q = 0
      · rw [if_pos h4, if_pos h4]
      · rw [if_neg h4, if_neg h4]
        by_cases h6 : q = 1
        · rw [if_pos h6, if_pos h6, if_neg (ms_iy (show 48 * h + f < 96 by omega) (by decide))]
        · rw [if_neg h6, if_neg h6, if_neg (ms_iy (show 48 * h + f < 96 by omega) (by decide)), if_neg (ms_iy (show 48 * h + f < 96 by omega) (by decide))]
/-- told(): goes through; what is told of 5, 6, 7 -/
theorem sp_told {m : Nat} (hm : m < 16) (h12 : S.1 1 12 = Int32.ofNat m) : fn_Sp_told p S = if p < 0 ∨ 7 < p then some (.inr "java/lang/IndexOutOfBoundsException", wd_n S) else some (.inl (if p = 5 then Int32.ofNat (kn_c m) else if p = 6 then S.1 1 18 else if p = 7 then S.1 1 1 else ro_at 124 p S), S) := by
  unfold fn_Sp_told fn_Sp_told_10
  by_cases h1 : p < 0
  · rw [if_pos h1, if_pos (Or.inl h1)]
  · by_cases h2 : 7 < p
    · rw [if_neg h1, if_pos h2, if_pos (Or.inr h2)]
    · rw [if_neg h1, if_neg h2, if_neg (show ¬(p < 0 ∨ 7 < p) from fun z => z.elim h1 h2)]
      by_cases h3 : p = 5
      · rw [if_pos h3, if_pos h3, h12, kn_bits hm, wd_c_s]
      · rw [if_neg h3, if_neg h3]
        by_cases h4 : p = 6
        · rw [if_pos h4, if_pos h4]
        · rw [if_neg h4, if_neg h4]
          by_cases h5 : p = 7
          · rw [if_pos h5, if_pos h5]
          · rw [if_neg h5, if_neg h5, ro_at_ok, wd_c_s]
theorem mo_told {m : Nat} (hk : kn_is m S) : fn_Mo_told p S = if p < 0 ∨ 7 < p then some (0, wd_i S 135 0 1) else some (if p = 0 then S.1 135 59 else if p = 1 then S.1 135 60 else if p = 2 then S.1 135 61 else if p = 3 then S.1 135 62 else if p = 4 then S.1 135 72 else if p = 5 then Int32.ofNat (kn_c m) else if p = 6 then S.1 135 95 else S.1 135 2, wd_i S 135 0 0) := by
  have hin : fn_Mo_within p.toInt64 0 7 S = some (if p < 0 ∨ 7 < p then 0 else 1, S) := sm_in (p := p) (S := S) 0 7
  have hk0 : kn_is m (wd_i S 135 0 0) := fun i hi => by rw [fr_ne (by omega)]; exact hk i hi
  unfold fn_Mo_told fn_Mo_told_18 fn_Mo_told_118
  simp only [wd_b]
  rw [hin, wd_c_s]
  by_cases h1 : p < 0 ∨ 7 < p
  · rw [if_pos h1, if_pos h1, if_pos rfl, fr_eq, if_pos (show (0 : Int32) < 1 by decide)]
  · rw [if_neg h1, if_neg h1, if_neg (show ¬(1 : Int32) = 0 by decide), fr_eq, if_neg (show ¬(0 : Int32) < 0 by decide), fr_ne (by omega), fr_ne (by omega), fr_ne (by omega), fr_ne (by omega), fr_ne (by omega), kn_many hk0, wd_c_s, fr_ne (by omega), fr_ne (by omega)]
    split
    · rfl
    · split
      · rfl
      · split
        · rfl
        · split
          · rfl
          · split
            · rfl
            · split
              · rfl
              · split
                · rfl
                · rfl
end Lk
