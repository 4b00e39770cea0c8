/-! The calls that look. -/
section Op2
variable {S : wd_S} {p q : Int32}
theorem wd_n1 : (wd_n S).1 = S.1 := rfl
theorem op_out (h : RL S) : ∃ x S1 y S2, fn_La_out p S = some (x, S1) ∧ fn_Mo_out p S1 = some (y, S2) ∧ LX x y S S2 := by
  have h0 := h
  obtain ⟨pg, ds, vs, T, n, pl, m, kn, lo, l, r, hD, hc, hs, hm, hms⟩ := h
  have e1 := hs.2.2.2.2.2.1
  have e2 := hms.2.2.2.2.2.1
  have h4 := hD.2.2.1
  unfold fn_La_out
  rw [sp_out, e1]
  by_cases hp : p < 0 ∨ ¬p < Int32.ofNat lo.length
  · rw [if_pos hp]
    refine ⟨1, wd_n S, 0, wd_i (wd_n S) 135 0 1, rfl, ?_, ls_x h0 (by decide)⟩
    rw [mo_out p (wd_n S) h4 e2, show (wd_n S).1 135 89 = Int32.ofNat lo.length from e2, if_pos hp]
  · rw [if_neg hp]
    obtain ⟨f, f1, f2, f3⟩ := lk_p (by omega) hp
    have e3 : ro_at 126 p S = lo[f] := by
      rw [f2, ro_an (show (tp_t (126 + 1)).2 = 40000 from rfl) (by omega)]
      exact hs.2.2.2.2.2.2.1 f f1
    have e4 : S.1 175 f = lo[f] := hms.2.2.2.2.2.2.1 f f1
    rw [e3]
    refine ⟨0, wd_l S 180 0 lo[f].toInt64, lo[f], _, ?_, ?_, ls_v h0⟩
    · rw [wd_c_s]
      show (if (0 : Int32) < 0 ∨ 1 ≤ (0 : Int32).toNatClampNeg then none else _) = _
      rw [if_neg la_g]
      rfl
    · rw [mo_out p (wd_l S 180 0 lo[f].toInt64) h4 e2, show (wd_l S 180 0 lo[f].toInt64).1 135 89 = Int32.ofNat lo.length from e2, if_neg hp, show (wd_l S 180 0 lo[f].toInt64).1 175 p.toNatClampNeg = lo[f] by rw [f3]; exact e4]
theorem op_ran (h : RL S) : ∃ x S1 y S2, fn_La_ran p S = some (x, S1) ∧ fn_Mo_ran p S1 = some (y, S2) ∧ LX x y S S2 := by
  have h0 := h
  obtain ⟨pg, ds, vs, T, n, pl, m, kn, lo, l, r, hD, hc, hs, hm, hms⟩ := h
  have e1 := hs.2.2.2.2.2.2.2.2.2
  obtain ⟨e96, e97, e98⟩ := hms.2.2.2.2.2.2.2.2.2
  unfold fn_La_ran
  rw [sp_ran]
  by_cases hp : p < 0 ∨ 2 < p
  · rw [if_pos hp]
    refine ⟨1, wd_n S, 0, wd_i (wd_n S) 135 0 1, rfl, ?_, ls_x h0 (by decide)⟩
    rw [mo_ran, if_pos hp]
  · rw [if_neg hp]
    have hp0 : ¬p < 0 := fun z => hp (Or.inl z)
    have ep := im_of hp0
    have hp2 : p.toNatClampNeg ≤ 2 := by
      have : ¬2 < p.toNatClampNeg := fun z => hp (Or.inr (by
        rw [← ep]
        exact (im_lt (m := 2) (by omega) (im_tl p)).mpr z))
      omega
    generalize hf : p.toNatClampNeg = f at ep hp2
    have e3 : ro_at 133 p S = r f := by
      rw [← ep, ro_an (show (tp_t (133 + 1)).2 = 3 from rfl) (by omega)]
      exact e1 f (by omega)
    rw [e3]
    have e4 : (if p = 0 then S.1 135 96 else if p = 1 then S.1 135 97 else S.1 135 98) = r f := by
      have hc : f = 0 ∨ f = 1 ∨ f = 2 := by omega
      rcases hc with z | z | z
      · rw [if_pos (by rw [← ep, z]; rfl), e96, z]
      · rw [← ep, z, if_neg (show ¬Int32.ofNat 1 = 0 by decide), if_pos (show Int32.ofNat 1 = 1 from rfl), e97]
      · rw [← ep, z, if_neg (show ¬Int32.ofNat 2 = 0 by decide), if_neg (show ¬Int32.ofNat 2 = 1 by decide), e98]
    refine ⟨0, wd_l S 180 0 (r f).toInt64, r f, _, ?_, ?_, ls_v h0⟩
    · rw [wd_c_s]
      show (if (0 : Int32) < 0 ∨ 1 ≤ (0 : Int32).toNatClampNeg then none else _) = _
      rw [if_neg la_g]
      rfl
    · rw [mo_ran, if_neg hp]
      rw [show (wd_l S 180 0 (r f).toInt64).1 = S.1 from rfl, e4]
theorem op_function (h : RL S) : ∃ x S1 y S2, fn_La_function p q S = some (x, S1) ∧ fn_Mo_function p q S1 = some (y, S2) ∧ LX x y S S2 := by
  have h0 := h
  obtain ⟨pg, ds, vs, T, n, pl, m, kn, lo, l, r, hD, hc, hs, hm, hms⟩ := h
  obtain ⟨⟨b, b', hb, b5, -, hP⟩, -⟩ := hc
  have h48 := hD.2.2.2.2.1.1
  have hmo : ∀ S1 : wd_S, S1.1 = S.1 → fn_Mo_function p q S1 = match fu pg p q with
      | none => some (0, wd_i S1 135 0 1)
      | some n => some (Int32.ofNat n, wd_i S1 135 0 0) := fun S1 e => by
    obtain ⟨h, B, hh, h42, hp, -⟩ := hm
    rcases hp with ⟨p1, p2⟩ | ⟨p1, p2, p3, p4⟩
    · have : fu pg p q = none := by
        unfold fu
        rw [p1]
        refine if_pos ?_
        by_cases z : p < 0
        · exact Or.inl z
        · exact Or.inr z
      rw [this, mo_function_x (by rw [e]; exact p2)]
    · exact mo_function (by rw [e]; exact p2) hh (by rw [e]; exact h42) (by rw [e]; exact p3) p1 h48 (mo_P_o (S := S) (fun a k _ => by rw [e]) h48 p4)
  unfold fn_La_function
  rw [sp_function (by omega) b5 hP h48]
  cases hf : fu pg p q with
  | none =>
    refine ⟨1, wd_n S, 0, wd_i (wd_n S) 135 0 1, rfl, ?_, ls_x h0 (by decide)⟩
    rw [hmo (wd_n S) rfl, hf]
  | some k =>
    refine ⟨0, wd_l S 180 0 (Int32.ofNat k).toInt64, Int32.ofNat k, _, ?_, ?_, ls_v h0⟩
    · show wd_c (some (Sum.inl (Int32.ofNat k), S)) _ = _
      rw [wd_c_s]
      show (if (0 : Int32) < 0 ∨ 1 ≤ (0 : Int32).toNatClampNeg then none else _) = _
      rw [if_neg la_g]
      rfl
    · rw [hmo (wd_l S 180 0 (Int32.ofNat k).toInt64) rfl, hf]
theorem op_version (h : RL S) : ∃ x S1 y S2, fn_La_version p q S = some (x, S1) ∧ fn_Mo_version p q S1 = some (y, S2) ∧ LX x y S S2 := by
  have h0 := h
  obtain ⟨pg, ds, vs, T, n, pl, m, kn, lo, l, r, hD, hc, hs, hm, hms⟩ := h
  obtain ⟨-, v, v', hv, v7, -, hV⟩ := hc
  have hmo : ∀ S1 : wd_S, S1.1 = S.1 → fn_Mo_version p q S1 = match ve ds vs p q with
      | none => some (0, wd_i S1 135 0 1)
      | some x => some (x, wd_i S1 135 0 0) := fun S1 e => by
    obtain ⟨h, B, hh, h42, hp, hV⟩ := hm
    exact mo_version (vm_P_o (S := S) (fun a k _ => by rw [e]) hV)
  unfold fn_La_version
  rw [sp_version v7 hV]
  cases hf : ve ds vs p q with
  | none =>
    refine ⟨1, wd_n S, 0, wd_i (wd_n S) 135 0 1, rfl, ?_, ls_x h0 (by decide)⟩
    rw [hmo (wd_n S) rfl, hf]
  | some k =>
    refine ⟨0, wd_l S 180 0 k.toInt64, k, _, ?_, ?_, ls_v h0⟩
    · show wd_c (some (Sum.inl k, S)) _ = _
      rw [wd_c_s]
      show (if (0 : Int32) < 0 ∨ 1 ≤ (0 : Int32).toNatClampNeg then none else _) = _
      rw [if_neg la_g]
      rfl
    · rw [hmo (wd_l S 180 0 k.toInt64) rfl, hf]
/-- told() goes through; its first five numbers are not held against one another -/
theorem op_told (h : RL S) : ∃ x S1 y S2, fn_La_told p S = some (x, S1) ∧ fn_Mo_told p S1 = some (y, S2) ∧ RL S2 ∧ S2.1 135 0 = x ∧ (x = 0 → (p = 5 ∨ p = 6 ∨ p = 7) → S2.2.1 180 0 = y.toInt64) ∧ S2.2.2.2 ≤ S.2.2.2 + 1 := by
  have h0 := h
  obtain ⟨pg, ds, vs, T, n, pl, m, kn, lo, l, r, hD, hc, hs, hm, hms⟩ := h
  have hm16 := hD.2.1
  have e12 := hs.2.2.2.1
  have hk := hms.2.2.2.1
  unfold fn_La_told
  rw [sp_told hm16 e12]
  by_cases hp : p < 0 ∨ 7 < p
  · rw [if_pos hp]
    obtain ⟨a1, a2, a3, a4⟩ := ls_x (c := 1) h0 (by decide)
    refine ⟨1, wd_n S, 0, wd_i (wd_n S) 135 0 1, rfl, ?_, a1, a2, fun z _ => a3 z, a4⟩
    rw [mo_told (S := wd_n S) (m := m) hk, if_pos hp]
  · rw [if_neg hp]
    generalize hx : (if p = 5 then Int32.ofNat (kn_c m) else if p = 6 then S.1 1 18 else if p = 7 then S.1 1 1 else ro_at 124 p S) = x
    obtain ⟨a1, a2, a3, a4⟩ := ls_v (y := x) h0
    refine ⟨0, wd_l S 180 0 x.toInt64, _, wd_i (wd_l S 180 0 x.toInt64) 135 0 0, ?_, by rw [mo_told (S := wd_l S 180 0 x.toInt64) (m := m) hk, if_neg hp], a1, a2, fun z w => ?_, a4⟩
    · rw [wd_c_s]
      show (if (0 : Int32) < 0 ∨ 1 ≤ (0 : Int32).toNatClampNeg then none else _) = _
      rw [if_neg la_g]
      rfl
    · rw [a3 z, ← hx]
      show _ = (if p = 0 then S.1 135 59 else if p = 1 then S.1 135 60 else if p = 2 then S.1 135 61 else if p = 3 then S.1 135 62 else if p = 4 then S.1 135 72 else if p = 5 then Int32.ofNat (kn_c m) else if p = 6 then S.1 135 95 else S.1 135 2).toInt64
      have s18 := hs.2.2.2.2.2.2.2.1
      have m95 := hms.2.2.2.2.2.2.2.1
      have s1 := hs.2.1
      have m2 := hms.2.1
      rcases w with w | w | w
      · rw [w]; rfl
      · rw [w, s18, m95]; rfl
      · rw [w, s1, m2]; rfl
end Op2
