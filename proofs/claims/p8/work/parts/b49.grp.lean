/-! part b49 -/
section
/-! The calls that look. -/
section Op2
variable {S : wd_S} {p q : Int32}
theorem wd_n1 : (wd_n S).1 = S.1 := rfl
theorem op_out (h : RL S) : ∃ x S1 y S2, fn_La_out p S = some (x, S1) ∧ fn_Mo_out p S1 = some (y, S2) ∧ LX x y S S2 := by
  have h0 := h
  obtain ⟨pg, ds, vs, T, n, pl, m, kn, lo, l, r, hD, hc, hs, hm, hms⟩ := h
  have e1 := hs.2.2.2.2.2.1
  have e2 := hms.2.2.2.2.2.1
  have h4 := hD.2.2.1
  unfold fn_La_out
  rw [sp_out, e1]
  by_cases hp : p < 0 ∨ ¬p < Int32.ofNat lo.length
  · rw [if_pos hp]
    refine ⟨1, wd_n S, 0, wd_i (wd_n S) 135 0 1, rfl, ?_, ls_x h0 (by decide)⟩
    rw [mo_out p (wd_n S) h4 e2, show (wd_n S).1 135 89 = Int32.ofNat lo.length from e2, if_pos hp]
  · rw [if_neg hp]
    obtain ⟨f, f1, f2, f3⟩ := lk_p (by omega) hp
    have e3 : ro_at 126 p S = lo[f] := by
      rw [f2, ro_an (show (tp_t (126 + 1)).2 = 40000 from rfl) (by omega)]
      exact hs.2.2.2.2.2.2.1 f f1
    have e4 : S.1 175 f = lo[f] := hms.2.2.2.2.2.2.1 f f1
    rw [e3]
    refine ⟨0, wd_l S 180 0 lo[f].toInt64, lo[f], _, ?_, ?_, ls_v h0⟩
    · rw [wd_c_s]
      show (if (0 : Int32) < 0 ∨ 1 ≤ (0 : Int32).toNatClampNeg then none else _) = _
      rw [if_neg la_g]
      rfl
    · rw [mo_out p (wd_l S 180 0 lo[f].toInt64) h4 e2, show (wd_l S 180 0 lo[f].toInt64).1 135 89 = Int32.ofNat lo.length from e2, if_neg hp, show (wd_l S 180 0 lo[f].toInt64).1 175 p.toNatClampNeg = lo[f] by rw [f3]; exact e4]
theorem op_ran (h : RL S) : ∃ x S1 y S2, fn_La_ran p S = some (x, S1) ∧ fn_Mo_ran p S1 = some (y, S2) ∧ LX x y S S2 := by
  have h0 := h
  obtain ⟨pg, ds, vs, T, n, pl, m, kn, lo, l, r, hD, hc, hs, hm, hms⟩ := h
  have e1 := hs.2.2.2.2.2.2.2.2.2
  obtain ⟨e96, e97, e98⟩ := hms.2.2.2.2.2.2.2.2.2
  unfold fn_La_ran
  rw [sp_ran]
  by_cases hp : p < 0 ∨ 2 < p
  · rw [if_pos hp]
    refine ⟨1, wd_n S, 0, wd_i (wd_n S) 135 0 1, rfl, ?_, ls_x h0 (by decide)⟩
    rw [mo_ran, if_pos hp]
  · rw [if_neg hp]
    have hp0 : ¬p < 0 := fun z => hp (Or.inl z)
    have ep := im_of hp0
    have hp2 : p.toNatClampNeg ≤ 2 := by
      have : ¬2 < p.toNatClampNeg := fun z => hp (Or.inr (by
        rw [← ep]
        exact (im_lt (m := 2) (by omega) (im_tl p)).mpr z))
      omega
    generalize hf : p.toNatClampNeg = f at ep hp2
    have e3 : ro_at 133 p S = r f := by
      rw [← ep, ro_an (show (tp_t (133 + 1)).2 = 3 from rfl) (by omega)]
      exact e1 f (by omega)
    rw [e3]
    have e4 : (if p = 0 then S.1 135 96 else if p = 1 then S.1 135 97 else S.1 135 98) = r f := by
      have hc : f = 0 ∨ f = 1 ∨ f = 2 := by omega
      rcases hc with z | z | z
      · rw [if_pos (by rw [← ep, z]; rfl), e96, z]
      · rw [← ep, z, if_neg (show ¬Int32.ofNat 1 = 0 by decide), if_pos (show Int32.ofNat 1 = 1 from rfl), e97]
      · rw [← ep, z, if_neg (show ¬Int32.ofNat 2 = 0 by decide), if_neg (show ¬Int32.ofNat 2 = 1 by decide), e98]
    refine ⟨0, wd_l S 180 0 (r f).toInt64, r f, _, ?_, ?_, ls_v h0⟩
    · rw [wd_c_s]
      show (if (0 : Int32) < 0 ∨ 1 ≤ (0 : Int32).toNatClampNeg then none else _) = _
      rw [if_neg la_g]
      rfl
    · rw [mo_ran, if_neg hp]
      rw [show (wd_l S 180 0 (r f).toInt64).1 = S.1 from rfl, e4]
theorem op_function (h : RL S) : ∃ x S1 y S2, fn_La_function p q S = some (x, S1) ∧ fn_Mo_function p q S1 = some (y, S2) ∧ LX x y S S2 := by
  have h0 := h
  obtain ⟨pg, ds, vs, T, n, pl, m, kn, lo, l, r, hD, hc, hs, hm, hms⟩ := h
  obtain ⟨⟨b, b', hb, b5, -, hP⟩, -⟩ := hc
  have h48 := hD.2.2.2.2.1.1
  have hmo : ∀ S1 : wd_S, S1.1 = S.1 → fn_Mo_function p q S1 = match fu pg p q with
      | none => some (0, wd_i S1 135 0 1)
      | some n => some (Int32.ofNat n, wd_i S1 135 0 0) := fun S1 e => by
    obtain ⟨h, B, hh, h42, hp, -⟩ := hm
    rcases hp with ⟨p1, p2⟩ | ⟨p1, p2, p3, p4⟩
    · have : fu pg p q = none := by
        unfold fu
        rw [p1]
        refine if_pos ?_
        by_cases z : p < 0
        · exact Or.inl z
        · exact Or.inr z
      rw [this, mo_function_x (by rw [e]; exact p2)]
    · exact mo_function (by rw [e]; exact p2) hh (by rw [e]; exact h42) (by rw [e]; exact p3) p1 h48 (mo_P_o (S := S) (fun a k _ => by rw [e]) h48 p4)
  unfold fn_La_function
  rw [sp_function (by omega) b5 hP h48]
  cases hf : fu pg p q with
  | none =>
    refine ⟨1, wd_n S, 0, wd_i (wd_n S) 135 0 1, rfl, ?_, ls_x h0 (by decide)⟩
    rw [hmo (wd_n S) rfl, hf]
  | some k =>
    refine ⟨0, wd_l S 180 0 (Int32.ofNat k).toInt64, Int32.ofNat k, _, ?_, ?_, ls_v h0⟩
    · show wd_c (some (Sum.inl (Int32.ofNat k), S)) _ = _
      rw [wd_c_s]
      show (if (0 : Int32) < 0 ∨ 1 ≤ (0 : Int32).toNatClampNeg then none else _) = _
      rw [if_neg la_g]
      rfl
    · rw [hmo (wd_l S 180 0 (Int32.ofNat k).toInt64) rfl, hf]
theorem op_version (h : RL S) : ∃ x S1 y S2, fn_La_version p q S = some (x, S1) ∧ fn_Mo_version p q S1 = some (y, S2) ∧ LX x y S S2 := by
  have h0 := h
  obtain ⟨pg, ds, vs, T, n, pl, m, kn, lo, l, r, hD, hc, hs, hm, hms⟩ := h
  obtain ⟨-, v, v', hv, v7, -, hV⟩ := hc
  have hmo : ∀ S1 : wd_S, S1.1 = S.1 → fn_Mo_version p q S1 = match ve ds vs p q with
      | none => some (0, wd_i S1 135 0 1)
      | some x => some (x, wd_i S1 135 0 0) := fun S1 e => by
    obtain ⟨h, B, hh, h42, hp, hV⟩ := hm
    exact mo_version (vm_P_o (S := S) (fun a k _ => by rw [e]) hV)
  unfold fn_La_version
  rw [sp_version v7 hV]
  cases hf : ve ds vs p q with
  | none =>
    refine ⟨1, wd_n S, 0, wd_i (wd_n S) 135 0 1, rfl, ?_, ls_x h0 (by decide)⟩
    rw [hmo (wd_n S) rfl, hf]
  | some k =>
    refine ⟨0, wd_l S 180 0 k.toInt64, k, _, ?_, ?_, ls_v h0⟩
    · show wd_c (some (Sum.inl k, S)) _ = _
      rw [wd_c_s]
      show (if (0 : Int32) < 0 ∨ 1 ≤ (0 : Int32).toNatClampNeg then none else _) = _
      rw [if_neg la_g]
      rfl
    · rw [hmo (wd_l S 180 0 k.toInt64) rfl, hf]
/-- told() goes through; its first five numbers are not held against one another -/
theorem op_told (h : RL S) : ∃ x S1 y S2, fn_La_told p S = some (x, S1) ∧ fn_Mo_told p S1 = some (y, S2) ∧ RL S2 ∧ S2.1 135 0 = x ∧ (x = 0 → (p = 5 ∨ p = 6 ∨ p = 7) → S2.2.1 180 0 = y.toInt64) ∧ S2.2.2.2 ≤ S.2.2.2 + 1 := by
  have h0 := h
  obtain ⟨pg, ds, vs, T, n, pl, m, kn, lo, l, r, hD, hc, hs, hm, hms⟩ := h
  have hm16 := hD.2.1
  have e12 := hs.2.2.2.1
  have hk := hms.2.2.2.1
  unfold fn_La_told
  rw [sp_told hm16 e12]
  by_cases hp : p < 0 ∨ 7 < p
  · rw [if_pos hp]
    obtain ⟨a1, a2, a3, a4⟩ := ls_x (c := 1) h0 (by decide)
    refine ⟨1, wd_n S, 0, wd_i (wd_n S) 135 0 1, rfl, ?_, a1, a2, fun z _ => a3 z, a4⟩
    rw [mo_told (S := wd_n S) (m := m) hk, if_pos hp]
  · rw [if_neg hp]
    generalize hx : (if p = 5 then Int32.ofNat (kn_c m) else if p = 6 then S.1 1 18 else if p = 7 then S.1 1 1 else ro_at 124 p S) = x
    obtain ⟨a1, a2, a3, a4⟩ := ls_v (y := x) h0
    refine ⟨0, wd_l S 180 0 x.toInt64, _, wd_i (wd_l S 180 0 x.toInt64) 135 0 0, ?_, by rw [mo_told (S := wd_l S 180 0 x.toInt64) (m := m) hk, if_neg hp], a1, a2, fun z w => ?_, a4⟩
    · rw [wd_c_s]
      show (if (0 : Int32) < 0 ∨ 1 ≤ (0 : Int32).toNatClampNeg then none else _) = _
      rw [if_neg la_g]
      rfl
    · rw [a3 z, ← hx]
      show _ = (if p = 0 then S.1 135 59 else if p = 1 then S.1 135 60 else if p = 2 then S.1 135 61 else if p = 3 then S.1 135 62 else if p = 4 then S.1 135 72 else if p = 5 then Int32.ofNat (kn_c m) else if p = 6 then S.1 135 95 else S.1 135 2).toInt64
      have s18 := hs.2.2.2.2.2.2.2.1
      have m95 := hms.2.2.2.2.2.2.2.1
      have s1 := hs.2.1
      have m2 := hms.2.1
      rcases w with w | w | w
      · rw [w]; rfl
      · rw [w, s18, m95]; rfl
      · rw [w, s1, m2]; rfl
end Op2
end
/-! part b50 -/
section
/-! The calls that write: give, know. -/
section Op3
variable {S S2 : wd_S} {p q : Int32} {pg ds : pg_T} {vs : List mk_V} {T : Nat → Int32} {n m : Nat} {pl : Int32} {kn : Nat → Int32} {lo l : List Int32} {r : Nat → Int32}
theorem rl_mk (hD : rl_D pg ds vs n m lo l) (h1 : ∀ a k, 11 ≤ a → a < 104 → S2.1 a k = S.1 a k) (h2 : ∀ k, 5 ≤ k → k ≤ 8 → S2.2.2.1 1 k = S.2.2.1 1 k) (h3 : ∀ a k, rm_K a k → S2.1 a k = S.1 a k) (hc : rc_P pg ds vs S) (hm : rm_P pg ds vs S) (hs : rc_s T n pl m kn lo l r S2) (hms : rm_s T n pl m kn lo l r S2) : RL S2 := ⟨pg, ds, vs, T, n, pl, m, kn, lo, l, r, hD, rc_P_o (fun a q1 q2 => funext fun k => h1 a k q1 q2) h2 hc, hs, rm_P_o h3 hD.2.2.2.2.1.1 hm, hms⟩
theorem l_snoc {f : Nat → Int32} {x : Int32} (h1 : ∀ i, (hi : i < l.length) → f i = l[i]) (h2 : f l.length = x) : ∀ i, (hi : i < (l ++ [x]).length) → f i = (l ++ [x])[i] := fun i hi => by
  have hl : (l ++ [x]).length = l.length + 1 := List.length_append
  by_cases e : i < l.length
  · rw [List.getElem_append_left e]
    exact h1 i e
  · have e : i = l.length := by omega
    subst e
    rw [List.getElem_concat_length rfl, h2]
theorem op_give (h : RL S) : ∃ x S1 y S2, fn_La_give p S = some (x, S1) ∧ fn_Mo_give p S1 = some (y, S2) ∧ LX x y S S2 := by
  have h0 := h
  obtain ⟨pg, ds, vs, T, n, pl, m, kn, lo, l, r, hD, hc, hs, hm, hms⟩ := h
  obtain ⟨s1, s2, s3, s4, s5, s6, s7, s8, s9, s10⟩ := hs
  obtain ⟨t1, t2, t3, t4, t5, t6, t7, t8, t9, t10, t11, t12⟩ := hms
  obtain ⟨d1, d2, d3, d4, d5⟩ := hD
  unfold fn_La_give
  rw [sp_give, s8]
  by_cases hg : l.length = 4
  · rw [if_neg (show ¬Int32.ofNat l.length < 4 by rw [hg]; decide)]
    refine ⟨1, wd_n S, 0, wd_i (wd_n S) 135 0 1, rfl, ?_, ls_x h0 (by decide)⟩
    rw [mo_give p (wd_n S) d4 t8, if_pos hg]
  · rw [if_pos (show Int32.ofNat l.length < 4 from (im_lt (m := l.length) (n := 4) (by omega) (by omega)).mpr (by omega)), im_s, ro_pn (show (tp_t (131 + 1)).2 = 4 from rfl) (show l.length < 4 by omega)]
    generalize hS1 : wd_l (wd_i (wd_i S (131 + 1) l.length p) 1 18 (Int32.ofNat (l.length + 1))) 180 0 (Int32.ofNat (l.length + 1)).toInt64 = S1
    have f1 : ∀ a k, ¬(a = 132 ∧ k = l.length) → ¬(a = 1 ∧ k = 18) → S1.1 a k = S.1 a k := fun a k q1 q2 => by
      rw [← hS1, fr_l2, fr_ne q2, fr_ne q1]
    have e132 : S1.1 132 l.length = p := by
      rw [← hS1, fr_l2, fr_ne (by omega), fr_eq]
    have e18 : S1.1 1 18 = Int32.ofNat (l.length + 1) := by rw [← hS1, fr_l2, fr_eq]
    have e180 : S1.2.1 180 0 = (Int32.ofNat (l.length + 1)).toInt64 := by rw [← hS1, fr_l1, if_pos ⟨rfl, rfl⟩]
    have er : S1.2.2 = S.2.2 := by rw [← hS1]; rfl
    generalize hS2 : wd_i (wd_i (wd_i S1 135 0 0) 179 l.length p) 135 95 (Int32.ofNat (l.length + 1)) = S2
    have f2 : ∀ a k, ¬(a = 135 ∧ (k = 0 ∨ k = 95)) → ¬(a = 179 ∧ k = l.length) → S2.1 a k = S1.1 a k := fun a k q1 q2 => by
      rw [← hS2, fr_ne (by omega), fr_ne q2, fr_ne (by omega)]
    have e179 : S2.1 179 l.length = p := by rw [← hS2, fr_ne (by omega), fr_eq]
    have e95 : S2.1 135 95 = Int32.ofNat (l.length + 1) := by rw [← hS2, fr_eq]
    have e0 : S2.1 135 0 = 0 := by rw [← hS2, fr_ne (by omega), fr_ne (by omega), fr_eq]
    have ll : (l ++ [p]).length = l.length + 1 := List.length_append
    have hf : ∀ a k, ¬(a = 132 ∧ k = l.length) → ¬(a = 1 ∧ k = 18) → ¬(a = 135 ∧ (k = 0 ∨ k = 95)) → ¬(a = 179 ∧ k = l.length) → S2.1 a k = S.1 a k := fun a k q1 q2 q3 q4 => by rw [f2 a k q3 q4, f1 a k q1 q2]
    have er2 : S2.2.2 = S.2.2 := by rw [← hS2]; exact er
    refine ⟨0, S1, Int32.ofNat (l.length + 1), S2, ?_, ?_, ?_, e0, fun _ => by rw [← hS2]; exact e180, by rw [er2]; exact Nat.le_succ _⟩
    · rw [wd_c_s]
      show (if (0 : Int32) < 0 ∨ 1 ≤ (0 : Int32).toNatClampNeg then none else _) = _
      rw [if_neg la_g, ← hS1]
      rfl
    · rw [mo_give p S1 d4 (by rw [f1 135 95 (by omega) (by omega)]; exact t8), if_neg hg, hS2]
    · refine rl_mk (S := S) (l := l ++ [p]) (T := T) (pl := pl) (kn := kn) (r := r) ⟨d1, d2, d3, by rw [ll]; omega, d5⟩ (fun a k q1 q2 => hf a k (by omega) (by omega) (by omega) (by omega)) (fun k _ _ => by rw [er2]) (fun a k q => by unfold rm_K at q; exact hf a k (by omega) (by omega) (by omega) (by omega)) hc hm ⟨by rw [← s1]; exact funext fun k => hf 3 k (by omega) (by omega) (by omega) (by omega), by rw [hf 1 1 (by omega) (by omega) (by omega) (by omega)]; exact s2, by rw [hf 1 2 (by omega) (by omega) (by omega) (by omega)]; exact s3, by rw [hf 1 12 (by omega) (by omega) (by omega) (by omega)]; exact s4, fun i hi => by rw [hf 123 i (by omega) (by omega) (by omega) (by omega)]; exact s5 i hi, by rw [hf 1 15 (by omega) (by omega) (by omega) (by omega)]; exact s6, fun i hi => by rw [hf 127 i (by omega) (by omega) (by omega) (by omega)]; exact s7 i hi, by rw [f2 1 18 (by omega) (by omega), e18, ll], l_snoc (f := fun i => S2.1 132 i) (fun i hi => by show S2.1 132 i = _; rw [hf 132 i (by omega) (by omega) (by omega) (by omega)]; exact s9 i hi) (by show S2.1 132 l.length = p; rw [f2 132 _ (by omega) (by omega)]; exact e132), fun i hi => by rw [hf 134 i (by omega) (by omega) (by omega) (by omega)]; exact s10 i hi⟩ ⟨by rw [← t1]; exact funext fun k => hf 136 k (by omega) (by omega) (by omega) (by omega), by rw [hf 135 2 (by omega) (by omega) (by omega) (by omega)]; exact t2, by rw [hf 135 10 (by omega) (by omega) (by omega) (by omega)]; exact t3, fun i hi => by rw [hf 173 i (by omega) (by omega) (by omega) (by omega)]; exact t4 i hi, fun i hi => by rw [hf 174 i (by omega) (by omega) (by omega) (by omega)]; exact t5 i hi, by rw [hf 135 89 (by omega) (by omega) (by omega) (by omega)]; exact t6, fun i hi => by rw [hf 175 i (by omega) (by omega) (by omega) (by omega)]; exact t7 i hi, by rw [e95, ll], l_snoc (f := fun i => S2.1 179 i) (fun i hi => by show S2.1 179 i = _; rw [hf 179 i (by omega) (by omega) (by omega) (by omega)]; exact t9 i hi) e179, by rw [hf 135 96 (by omega) (by omega) (by omega) (by omega)]; exact t10, by rw [hf 135 97 (by omega) (by omega) (by omega) (by omega)]; exact t11, by rw [hf 135 98 (by omega) (by omega) (by omega) (by omega)]; exact t12⟩
theorem op_know (h : RL S) : ∃ x S1 y S2, fn_La_know p q S = some (x, S1) ∧ fn_Mo_know p q S1 = some (y, S2) ∧ LX x y S S2 := by
  have h0 := h
  obtain ⟨pg, ds, vs, T, n, pl, m, kn, lo, l, r, hD, hc, hs, hm, hms⟩ := h
  obtain ⟨s1, s2, s3, s4, s5, s6, s7, s8, s9, s10⟩ := hs
  obtain ⟨t1, t2, t3, t4, t5, t6, t7, t8, t9, t10, t11, t12⟩ := hms
  obtain ⟨d1, d2, d5⟩ := hD
  unfold fn_La_know
  by_cases hp : p < 0 ∨ ¬p < 4
  · rw [sp_know_x hp]
    refine ⟨1, wd_n S, 0, wd_i (wd_n S) 135 0 1, rfl, ?_, ls_x h0 (by decide)⟩
    rw [mo_know_x hp]
  · obtain ⟨i, i1, i2, i3⟩ := lk_p (n := 4) (by omega) hp
    rw [i2, sp_know d2 i1 s4]
    have h16 := kn_or16 m d2 i i1
    generalize hv : Int32.ofNat (kn_c (m ||| 2 ^ i)) = x
    generalize hS1 : wd_l (wd_i (wd_i S 1 12 (Int32.ofNat (m ||| 2 ^ i))) 123 i q) 180 0 x.toInt64 = S1
    have f1 : ∀ a k, ¬(a = 123 ∧ k = i) → ¬(a = 1 ∧ k = 12) → S1.1 a k = S.1 a k := fun a k q1 q2 => by
      rw [← hS1, fr_l2, fr_ne q1, fr_ne q2]
    have e123 : S1.1 123 i = q := by rw [← hS1, fr_l2, fr_eq]
    have e12 : S1.1 1 12 = Int32.ofNat (m ||| 2 ^ i) := by rw [← hS1, fr_l2, fr_ne (by omega), fr_eq]
    have e180 : S1.2.1 180 0 = x.toInt64 := by rw [← hS1, fr_l1, if_pos ⟨rfl, rfl⟩]
    have er : S1.2.2 = S.2.2 := by rw [← hS1]; rfl
    obtain ⟨k1, k2⟩ := mo_know (i := i) (v := q) (S := S1) d2 i1 (fun j hj => by rw [f1 173 j (by omega) (by omega)]; exact t4 j hj)
    rw [hv] at k1
    generalize hS2 : wd_i (wd_i (wd_i S1 135 0 0) 173 i 1) 174 i q = S2 at k1 k2
    have f2 : ∀ a k, ¬(a = 135 ∧ k = 0) → ¬(a = 173 ∧ k = i) → ¬(a = 174 ∧ k = i) → S2.1 a k = S1.1 a k := fun a k q1 q2 q3 => by
      rw [← hS2, fr_ne q3, fr_ne q2, fr_ne q1]
    have e174 : S2.1 174 i = q := by rw [← hS2, fr_eq]
    have e0 : S2.1 135 0 = 0 := by rw [← hS2, fr_ne (by omega), fr_ne (by omega), fr_eq]
    have er2 : S2.2.2 = S.2.2 := by rw [← hS2]; exact er
    have hf : ∀ a k, ¬(a = 123 ∧ k = i) → ¬(a = 1 ∧ k = 12) → ¬(a = 135 ∧ k = 0) → ¬(a = 173 ∧ k = i) → ¬(a = 174 ∧ k = i) → S2.1 a k = S.1 a k := fun a k q1 q2 q3 q4 q5 => by rw [f2 a k q3 q4 q5, f1 a k q1 q2]
    refine ⟨0, S1, x, S2, ?_, k1, ?_, e0, fun _ => by rw [← hS2]; exact e180, by rw [er2]; exact Nat.le_succ _⟩
    · rw [wd_c_s]
      show (if (0 : Int32) < 0 ∨ 1 ≤ (0 : Int32).toNatClampNeg then none else _) = _
      rw [if_neg la_g, ← hS1]
      rfl
    · have kq : ∀ j, j < 4 → ∀ a, (a = 123 ∨ a = 174) → (∀ j, j < 4 → S.1 a j = kn j) → S2.1 a i = q → S2.1 a j = (if j = i then q else kn j) := fun j hj a ha h1 h2 => by
        by_cases e : j = i
        · rw [if_pos e, e]; exact h2
        · rw [if_neg e, hf a j (by omega) (by omega) (by omega) (by omega) (by omega)]
          exact h1 j hj
      refine rl_mk (S := S) (m := m ||| 2 ^ i) (T := T) (pl := pl) (kn := fun j => if j = i then q else kn j) (r := r) ⟨d1, h16, d5⟩ (fun a k q1 q2 => hf a k (by omega) (by omega) (by omega) (by omega) (by omega)) (fun k _ _ => by rw [er2]) (fun a k q => by unfold rm_K at q; exact hf a k (by omega) (by omega) (by omega) (by omega) (by omega)) hc hm ⟨by rw [← s1]; exact funext fun k => hf 3 k (by omega) (by omega) (by omega) (by omega) (by omega), by rw [hf 1 1 (by omega) (by omega) (by omega) (by omega) (by omega)]; exact s2, by rw [hf 1 2 (by omega) (by omega) (by omega) (by omega) (by omega)]; exact s3, by rw [f2 1 12 (by omega) (by omega) (by omega)]; exact e12, fun j hj => kq j hj 123 (Or.inl rfl) s5 (by rw [f2 123 i (by omega) (by omega) (by omega)]; exact e123), by rw [hf 1 15 (by omega) (by omega) (by omega) (by omega) (by omega)]; exact s6, fun i hi => by rw [hf 127 i (by omega) (by omega) (by omega) (by omega) (by omega)]; exact s7 i hi, by rw [hf 1 18 (by omega) (by omega) (by omega) (by omega) (by omega)]; exact s8, fun i hi => by rw [hf 132 i (by omega) (by omega) (by omega) (by omega) (by omega)]; exact s9 i hi, fun i hi => by rw [hf 134 i (by omega) (by omega) (by omega) (by omega) (by omega)]; exact s10 i hi⟩ ⟨by rw [← t1]; exact funext fun k => hf 136 k (by omega) (by omega) (by omega) (by omega) (by omega), by rw [hf 135 2 (by omega) (by omega) (by omega) (by omega) (by omega)]; exact t2, by rw [hf 135 10 (by omega) (by omega) (by omega) (by omega) (by omega)]; exact t3, k2, fun j hj => kq j hj 174 (Or.inr rfl) t5 e174, by rw [hf 135 89 (by omega) (by omega) (by omega) (by omega) (by omega)]; exact t6, fun i hi => by rw [hf 175 i (by omega) (by omega) (by omega) (by omega) (by omega)]; exact t7 i hi, by rw [hf 135 95 (by omega) (by omega) (by omega) (by omega) (by omega)]; exact t8, fun i hi => by rw [hf 179 i (by omega) (by omega) (by omega) (by omega) (by omega)]; exact t9 i hi, by rw [hf 135 96 (by omega) (by omega) (by omega) (by omega) (by omega)]; exact t10, by rw [hf 135 97 (by omega) (by omega) (by omega) (by omega) (by omega)]; exact t11, by rw [hf 135 98 (by omega) (by omega) (by omega) (by omega) (by omega)]; exact t12⟩
end Op3
end
/-! part b51 -/
section
/-! The calls that write: feed, back. -/
def ft_w (n : Nat) (x : Int32) (T : Nat → Int32) : Nat → Int32 := fun j => if j = n then x else T j
def ft_f (n : Nat) (x : Int32) (T : Nat → Int32) : Nat → Int32 := ft_w (n + 3) (tp_byte x 3) (ft_w (n + 2) (tp_byte x 2) (ft_w (n + 1) (tp_byte x 1) (ft_w n (tp_byte x 0) T)))
section Op4
variable {S S2 : wd_S} {p q x1 x2 x3 x4 x5 : Int32} {a b k n : Nat}
theorem ft_one {v : Int32} (h : ¬a = b) : (tp_one a b k n v S).1 a = ft_w n v (S.1 a) := funext fun j => by
  unfold tp_one ft_w
  rw [fr_ne (fun q => h q.1), fr_i1]
  by_cases e : j = n
  · rw [if_pos ⟨rfl, e⟩, if_pos e]
  · rw [if_neg (fun q => e q.2), if_neg e]
theorem ft_four {x : Int32} (h : ¬a = b) : (tp_four a b k n x S).1 a = ft_f n x (S.1 a) := by
  unfold tp_four ft_f
  rw [ft_one h, ft_one h, ft_one h, ft_one h]
theorem ft_feed (h : ¬a = b) : (tp_feed a b k n x1 x2 x3 x4 x5 S).1 a = ft_f (n + 16) x5 (ft_f (n + 12) x4 (ft_f (n + 8) x3 (ft_f (n + 4) x2 (ft_f n x1 (S.1 a))))) := by
  unfold tp_feed
  rw [ft_four h, ft_four h, ft_four h, ft_four h, ft_four h]
theorem ft_o1 {v : Int32} {c j : Nat} (h1 : ¬c = a) (h2 : ¬(c = b ∧ j = k)) : (tp_one a b k n v S).1 c j = S.1 c j := by
  unfold tp_one
  rw [fr_ne h2, fr_ne (fun q => h1 q.1)]
theorem ft_o4 {x : Int32} {c j : Nat} (h1 : ¬c = a) (h2 : ¬(c = b ∧ j = k)) : (tp_four a b k n x S).1 c j = S.1 c j := by
  unfold tp_four
  rw [ft_o1 h1 h2, ft_o1 h1 h2, ft_o1 h1 h2, ft_o1 h1 h2]
theorem ft_o {c j : Nat} (h1 : ¬c = a) (h2 : ¬(c = b ∧ j = k)) : (tp_feed a b k n x1 x2 x3 x4 x5 S).1 c j = S.1 c j := by
  unfold tp_feed
  rw [ft_o4 h1 h2, ft_o4 h1 h2, ft_o4 h1 h2, ft_o4 h1 h2, ft_o4 h1 h2]
theorem ft_21 {v : Int32} : (tp_one a b k n v S).2 = S.2 := rfl
theorem ft_24 {x : Int32} : (tp_four a b k n x S).2 = S.2 := by
  unfold tp_four
  rw [ft_21, ft_21, ft_21, ft_21]
theorem ft_2 : (tp_feed a b k n x1 x2 x3 x4 x5 S).2 = S.2 := by
  unfold tp_feed
  rw [ft_24, ft_24, ft_24, ft_24, ft_24]
theorem ft_n : (tp_feed a b k n x1 x2 x3 x4 x5 S).1 b k = Int32.ofNat (n + 20) := tp_fourL
/-- tape and its length anew on both sides -/
theorem rl_tape {T' : Nat → Int32} {n' : Nat} {pg ds : pg_T} {vs : List mk_V} {T : Nat → Int32} {m : Nat} {pl : Int32} {kn : Nat → Int32} {lo l : List Int32} {r : Nat → Int32} (hD : rl_D pg ds vs n m lo l) (hc : rc_P pg ds vs S) (hs : rc_s T n pl m kn lo l r S) (hm : rm_P pg ds vs S) (hms : rm_s T n pl m kn lo l r S) (hn : n' ≤ 8000) (hf : ∀ a k, ¬a = 3 → ¬(a = 1 ∧ k = 1) → ¬a = 136 → ¬(a = 135 ∧ (k = 0 ∨ k = 2)) → S2.1 a k = S.1 a k) (hr : S2.2.2.1 = S.2.2.1) (h3 : S2.1 3 = T') (h11 : S2.1 1 1 = Int32.ofNat n') (h136 : S2.1 136 = T') (h2 : S2.1 135 2 = Int32.ofNat n') : RL S2 := by
  obtain ⟨s1, s2, s3, s4, s5, s6, s7, s8, s9, s10⟩ := hs
  obtain ⟨t1, t2, t3, t4, t5, t6, t7, t8, t9, t10, t11, t12⟩ := hms
  obtain ⟨d1, d2⟩ := hD
  have g : ∀ a k, ¬a = 3 ∧ ¬(a = 1 ∧ k = 1) ∧ ¬a = 136 ∧ ¬(a = 135 ∧ (k = 0 ∨ k = 2)) → S2.1 a k = S.1 a k := fun a k q => hf a k q.1 q.2.1 q.2.2.1 q.2.2.2
  exact rl_mk (S := S) (n := n') (T := T') (pl := pl) (kn := kn) (r := r) ⟨hn, d2⟩ (fun a k q1 q2 => g a k (by omega)) (fun k _ _ => by rw [hr]) (fun a k q => g a k (by unfold rm_K at q; omega)) hc hm ⟨h3, h11, by rw [g 1 2 (by omega)]; exact s3, by rw [g 1 12 (by omega)]; exact s4, fun i hi => by rw [g 123 i (by omega)]; exact s5 i hi, by rw [g 1 15 (by omega)]; exact s6, fun i hi => by rw [g 127 i (by omega)]; exact s7 i hi, by rw [g 1 18 (by omega)]; exact s8, fun i hi => by rw [g 132 i (by omega)]; exact s9 i hi, fun i hi => by rw [g 134 i (by omega)]; exact s10 i hi⟩ ⟨h136, h2, by rw [g 135 10 (by omega)]; exact t3, fun i hi => by rw [g 173 i (by omega)]; exact t4 i hi, fun i hi => by rw [g 174 i (by omega)]; exact t5 i hi, by rw [g 135 89 (by omega)]; exact t6, fun i hi => by rw [g 175 i (by omega)]; exact t7 i hi, by rw [g 135 95 (by omega)]; exact t8, fun i hi => by rw [g 179 i (by omega)]; exact t9 i hi, by rw [g 135 96 (by omega)]; exact t10, by rw [g 135 97 (by omega)]; exact t11, by rw [g 135 98 (by omega)]; exact t12⟩
theorem op_feed (h : RL S) : ∃ x S1 y S2, fn_La_feed x1 x2 x3 x4 x5 S = some (x, S1) ∧ fn_Mo_feed x1 x2 x3 x4 x5 S1 = some (y, S2) ∧ LX x y S S2 := by
  have h0 := h
  obtain ⟨pg, ds, vs, T, n, pl, m, kn, lo, l, r, hD, hc, hs, hm, hms⟩ := h
  have e1 := hs.2.1
  have e2 := hms.2.1
  have h8 := hD.1
  have e20 : Int32.ofNat n + 20 = Int32.ofNat (n + 20) := (Int32.ofNat_add n 20).symm
  have hcmp : (8000 : Int32) < Int32.ofNat (n + 20) ↔ 8000 < n + 20 := im_lt (m := 8000) (by omega) (by omega)
  unfold fn_La_feed
  rw [sp_feed e1 h8]
  by_cases hp : 8000 < n + 20
  · rw [if_pos hp]
    refine ⟨1, wd_n S, 0, wd_i (wd_n S) 135 0 1, rfl, ?_, ls_x h0 (by decide)⟩
    unfold fn_Mo_feed fn_Mo_feed_19
    simp only [wd_b]
    rw [show (wd_n S).1 135 2 = Int32.ofNat n from e2, e20, if_pos (hcmp.mpr hp), fr_eq, if_pos (show (0 : Int32) < 1 by decide)]
  · rw [if_neg hp]
    generalize hS1 : wd_l (tp_feed 3 1 1 n x1 x2 x3 x4 x5 S) 180 0 (Int32.ofNat (n + 20)).toInt64 = S1
    have f1 : ∀ a k, ¬a = 3 → ¬(a = 1 ∧ k = 1) → S1.1 a k = S.1 a k := fun a k q1 q2 => by rw [← hS1, fr_l2, ft_o q1 q2]
    have g3 : S1.1 3 = ft_f (n + 16) x5 (ft_f (n + 12) x4 (ft_f (n + 8) x3 (ft_f (n + 4) x2 (ft_f n x1 T)))) := by rw [← hS1, fr_l2, ft_feed (by decide), hs.1]
    have g1 : S1.1 1 1 = Int32.ofNat (n + 20) := by rw [← hS1, fr_l2, ft_n]
    have e180 : S1.2.1 180 0 = (Int32.ofNat (n + 20)).toInt64 := by rw [← hS1, fr_l1, if_pos ⟨rfl, rfl⟩]
    have er : S1.2.2 = S.2.2 := by rw [← hS1, fr_l3, ft_2]
    have hS2n : (wd_i S1 135 0 0).1 135 2 = Int32.ofNat n := by rw [fr_ne (by omega), f1 135 2 (by omega) (by omega)]; exact e2
    generalize hS2 : tp_feed 136 135 2 n x1 x2 x3 x4 x5 (wd_i S1 135 0 0) = S2
    have f2 : ∀ a k, ¬a = 136 → ¬(a = 135 ∧ (k = 0 ∨ k = 2)) → S2.1 a k = S1.1 a k := fun a k q1 q2 => by rw [← hS2, ft_o q1 (by omega), fr_ne (by omega)]
    have e0 : S2.1 135 0 = 0 := by rw [← hS2, ft_o (by omega) (by omega), fr_eq]
    have e136 : (wd_i S1 135 0 0).1 136 = T := by
      rw [← hms.1]
      exact funext fun k => by rw [fr_ne (by omega), f1 136 k (by omega) (by omega)]
    have g136 : S2.1 136 = ft_f (n + 16) x5 (ft_f (n + 12) x4 (ft_f (n + 8) x3 (ft_f (n + 4) x2 (ft_f n x1 T)))) := by rw [← hS2, ft_feed (by decide), e136]
    have g2 : S2.1 135 2 = Int32.ofNat (n + 20) := by rw [← hS2, ft_n]
    have er2 : S2.2.2 = S.2.2 := by rw [← hS2, ft_2]; exact er
    refine ⟨0, S1, Int32.ofNat (n + 20), S2, ?_, ?_, ?_, e0, fun _ => by rw [← hS2, ft_2]; exact e180, by rw [er2]; exact Nat.le_succ _⟩
    · rw [wd_c_s]
      show (if (0 : Int32) < 0 ∨ 1 ≤ (0 : Int32).toNatClampNeg then none else _) = _
      rw [if_neg la_g, ← hS1]
      rfl
    · unfold fn_Mo_feed fn_Mo_feed_19
      simp only [wd_b]
      rw [f1 135 2 (by omega) (by omega), e2, e20, if_neg (fun q => hp (hcmp.mp q)), fr_eq, if_neg (show ¬(0 : Int32) < 0 by decide), mo_feed hS2n (by omega), hS2]
    · exact rl_tape (n' := n + 20) hD hc hs hm hms (by omega) (fun a k q1 q2 q3 q4 => by rw [f2 a k q3 q4, f1 a k q1 q2]) (by rw [er2]) (by rw [← g3]; exact funext fun k => f2 3 k (by omega) (by omega)) (by rw [f2 1 1 (by omega) (by omega)]; exact g1) g136 g2
theorem op_back (h : RL S) : ∃ x S1 y S2, fn_La_back S = some (x, S1) ∧ fn_Mo_back S1 = some (y, S2) ∧ LX x y S S2 := by
  have h0 := h
  obtain ⟨pg, ds, vs, T, n, pl, m, kn, lo, l, r, hD, hc, hs, hm, hms⟩ := h
  have e1 := hs.2.2.2.2.2.1
  have e2 := hms.2.2.2.2.2.1
  have h4 := hD.2.2.1
  have hcmp : (8000 : Int32) < Int32.ofNat lo.length ↔ 8000 < lo.length := im_lt (m := 8000) (by omega) (by omega)
  unfold fn_La_back fn_Sp_back
  rw [e1]
  by_cases hp : 8000 < lo.length
  · rw [if_pos (hcmp.mpr hp)]
    refine ⟨1, wd_n S, 0, wd_i (wd_n S) 135 0 1, rfl, ?_, ls_x h0 (by decide)⟩
    unfold fn_Mo_back fn_Mo_back_16
    simp only [wd_b]
    rw [show (wd_n S).1 135 89 = Int32.ofNat lo.length from e2, if_pos (hcmp.mpr hp), fr_eq, if_pos (show (0 : Int32) < 1 by decide)]
  · rw [if_neg (fun q => hp (hcmp.mp q))]
    have hb := sp_back_l (n := lo.length) (by omega) lo.length 0 wd_F S (by omega) (by rw [show wd_F = 1000000 from rfl]; omega) e1
    have hb : fn_Sp_back_22 wd_F 0 S = some (.inl (Int32.ofNat lo.length), wd_i (wd_cp 3 127 0 lo.length S) 1 1 (Int32.ofNat lo.length)) := hb
    rw [hb]
    generalize hS1 : wd_l (wd_i (wd_cp 3 127 0 lo.length S) 1 1 (Int32.ofNat lo.length)) 180 0 (Int32.ofNat lo.length).toInt64 = S1
    have f1 : ∀ a k, ¬a = 3 → ¬(a = 1 ∧ k = 1) → S1.1 a k = S.1 a k := fun a k q1 q2 => by rw [← hS1, fr_l2, fr_ne q2, wd_cpn q1]
    have g3 : S1.1 3 = fun j => if j < lo.length then lo.getD j 0 else T j := funext fun j => by
      rw [← hS1, fr_l2, fr_ne (by omega)]
      show (if 3 = 3 ∧ 0 ≤ j ∧ j < lo.length then S.1 127 j else S.1 3 j) = _
      by_cases e : j < lo.length
      · rw [if_pos ⟨rfl, Nat.zero_le _, e⟩, if_pos e, hs.2.2.2.2.2.2.1 j e, List.getD_eq_getElem?_getD, List.getElem?_eq_getElem e]
        rfl
      · rw [if_neg (fun q => e q.2.2), if_neg e, hs.1]
    have g1 : S1.1 1 1 = Int32.ofNat lo.length := by rw [← hS1, fr_l2, fr_eq]
    have e180 : S1.2.1 180 0 = (Int32.ofNat lo.length).toInt64 := by rw [← hS1, fr_l1, if_pos ⟨rfl, rfl⟩]
    have er : S1.2.2 = S.2.2 := by rw [← hS1]; rfl
    have h89 : (wd_i S1 135 0 0).1 135 89 = Int32.ofNat lo.length := by rw [fr_ne (by omega), f1 135 89 (by omega) (by omega)]; exact e2
    have mb := mo_back_l (n := lo.length) (by omega) lo.length 0 wd_F (wd_i S1 135 0 0) (by omega) (by rw [show wd_F = 1000000 from rfl]; omega) h89
    have mb : fn_Mo_back_30 wd_F 0 (wd_i S1 135 0 0) = some (Int32.ofNat lo.length, wd_i (wd_cp 136 175 0 lo.length (wd_i S1 135 0 0)) 135 2 (Int32.ofNat lo.length)) := mb
    generalize hS2 : wd_i (wd_cp 136 175 0 lo.length (wd_i S1 135 0 0)) 135 2 (Int32.ofNat lo.length) = S2 at mb
    have f2 : ∀ a k, ¬a = 136 → ¬(a = 135 ∧ (k = 0 ∨ k = 2)) → S2.1 a k = S1.1 a k := fun a k q1 q2 => by rw [← hS2, fr_ne (by omega), wd_cpn q1, fr_ne (by omega)]
    have e0 : S2.1 135 0 = 0 := by rw [← hS2, fr_ne (by omega), wd_cpn (by omega), fr_eq]
    have g136 : S2.1 136 = fun j => if j < lo.length then lo.getD j 0 else T j := funext fun j => by
      rw [← hS2, fr_ne (by omega)]
      show (if 136 = 136 ∧ 0 ≤ j ∧ j < lo.length then (wd_i S1 135 0 0).1 175 j else (wd_i S1 135 0 0).1 136 j) = _
      by_cases e : j < lo.length
      · rw [if_pos ⟨rfl, Nat.zero_le _, e⟩, if_pos e, fr_ne (by omega), f1 175 j (by omega) (by omega), hms.2.2.2.2.2.2.1 j e, List.getD_eq_getElem?_getD, List.getElem?_eq_getElem e]
        rfl
      · rw [if_neg (fun q => e q.2.2), if_neg e, fr_ne (by omega), f1 136 j (by omega) (by omega), hms.1]
    have g2 : S2.1 135 2 = Int32.ofNat lo.length := by rw [← hS2, fr_eq]
    have er2 : S2.2.2 = S.2.2 := by rw [← hS2]; exact er
    refine ⟨0, S1, Int32.ofNat lo.length, S2, ?_, ?_, ?_, e0, fun _ => by rw [← hS2]; exact e180, by rw [er2]; exact Nat.le_succ _⟩
    · rw [wd_c_s]
      show (if (0 : Int32) < 0 ∨ 1 ≤ (0 : Int32).toNatClampNeg then none else _) = _
      rw [if_neg la_g, ← hS1]
      rfl
    · unfold fn_Mo_back fn_Mo_back_16
      simp only [wd_b]
      rw [f1 135 89 (by omega) (by omega), e2, if_neg (fun q => hp (hcmp.mp q)), fr_eq, if_neg (show ¬(0 : Int32) < 0 by decide), mb]
    · exact rl_tape (n' := lo.length) hD hc hs hm hms (by omega) (fun a k q1 q2 q3 q4 => by rw [f2 a k q3 q4, f1 a k q1 q2]) (by rw [er2]) (by rw [← g3]; exact funext fun k => f2 3 k (by omega) (by omega)) (by rw [f2 1 1 (by omega) (by omega)]; exact g1) g136 g2
end Op4
end
/-! part b52 -/
section
/-! The calls: print, run. -/
section Op5
variable {S S1 S2 : wd_S} {p lim t : Int32} {pg ds : pg_T} {vs : List mk_V} {T : Nat → Int32} {n m : Nat} {pl : Int32} {kn : Nat → Int32} {lo l : List Int32} {r : Nat → Int32}
theorem rl_wf (hD : rl_D pg ds vs n m lo l) : ∀ d, d ∈ ds → d.1 ≤ 4 ∧ wf_t False vs.length (mk_ar pg vs) 96 (fun i => i < d.1) d.2.1 ∧ tr_sz 96 d.2.1 ≤ d.2.2.1 := fun d hd => by
  obtain ⟨-, -, -, -, hP, hl, hok, -, s, rfl, hW⟩ := hD
  obtain ⟨j, hj, rfl⟩ := List.getElem_of_mem hd
  obtain ⟨w1, w2, w3⟩ := hW.1 j hj
  refine ⟨?_, by rw [w1]; exact w2, w3 96⟩
  rw [w1, mk_ar_g (show j < s.1.length by omega)]
  have := mk_lf_le s.1[j].2.1 (pg_n pg s.1[j].1)
  have := hP.2.1 s.1[j].1
  omega
theorem rl_78 (hD : rl_D pg ds vs n m lo l) : vs.length ≤ 78 := by
  have := mk_ok_len hD.2.2.2.2.2.2.1
  have := hD.2.2.2.2.1.1
  omega
theorem rl_pr (hD : rl_D pg ds vs n m lo l) : ∃ k, pr_vs 0 ds = some k ∧ k.length ≤ 40000 := by
  obtain ⟨k, h1, h2⟩ := pr_vs_nn (rl_78 hD) ds 0 (rl_wf hD)
  refine ⟨k, h1, ?_⟩
  have h78 := rl_78 hD
  obtain ⟨-, -, -, -, hP, hl, hok, -, s, rfl, hW⟩ := hD
  have := hW.2.1
  have := hW.2.2
  omega
theorem rl_pv {v : Nat} (hD : rl_D pg ds vs n m lo l) (hV : vc_P v pg ds vs S) : pv_P v ds S := by
  obtain ⟨hv, hl, h78, ⟨c1, -, c3⟩, hDf, har⟩ := hV
  refine ⟨by rw [c1, hl], by omega, fun j hj => ?_⟩
  obtain ⟨a1, a2, a3, a4⟩ := c3 j (by omega)
  obtain ⟨y, d1, d2, -⟩ := hDf j hj
  exact ⟨by rw [a3, har j hj, mk_ar_g], (rl_wf hD ds[j] (List.getElem_mem hj)).1, y, d1, d2⟩
theorem op_print (h : RL S) : ∃ x S1 y S2, fn_La_print S = some (x, S1) ∧ fn_Mo_print S1 = some (y, S2) ∧ LX x y S S2 := by
  have h0 := h
  obtain ⟨pg, ds, vs, T, n, pl, m, kn, lo, l, r, hD, hc, hs, hm, hms⟩ := h
  obtain ⟨-, v, v', hv, v7, v8, hV⟩ := id hc
  have hPv := rl_pv hD hV
  obtain ⟨h, B, hh, h42, hp, hVm⟩ := id hm
  have h59 := hVm.2.2.2.1
  unfold fn_La_print
  by_cases hz : ds.length = 0
  · rw [sp_print_x (v := v) (by omega) v7 (by rw [hPv.1, hz]; rfl)]
    refine ⟨1, wd_n S, 0, wd_i (wd_n S) 135 0 1, rfl, ?_, ls_x h0 (by decide)⟩
    exact mo_print_x (S := wd_n S) (by rw [wd_n1, h59, hz]; rfl)
  · obtain ⟨k, k1, k2⟩ := rl_pr hD
    obtain ⟨Sa, a1, a2, a3, a4⟩ := sp_print (v := v) (by omega) v7 hPv (by omega) k1 k2
    generalize hS1 : wd_l Sa 180 0 (Int32.ofNat k.length).toInt64 = S1
    have f1 : ∀ a j, ¬pq_W a j → S1.1 a j = S.1 a j := fun a j q => by rw [← hS1, fr_l2]; exact a4.1 a j q
    have e180 : S1.2.1 180 0 = (Int32.ofNat k.length).toInt64 := by rw [← hS1, fr_l1, if_pos ⟨rfl, rfl⟩]
    have er : ∀ a j, ¬pq_R a j → S1.2.2.1 a j = S.2.2.1 a j := fun a j q => by rw [← hS1, fr_l3]; exact a4.2.2.1 a j q
    have en : S1.2.2.2 = S.2.2.2 := by rw [← hS1, fr_l3]; exact a4.2.2.2
    have hVm1 := vm_P_o (S' := S1) (fun a j q => f1 a j (by unfold pq_W; omega)) hVm
    obtain ⟨S2, b1, b2, b3, b4, b5⟩ := mo_print hVm1.2.2.2.2.2.2.2.2 (by omega) k1 k2
    have hf : ∀ a j, ¬pq_W a j ∧ ¬pw_W a j → S2.1 a j = S.1 a j := fun a j q => by rw [b5.1 a j q.2, f1 a j q.1]
    obtain ⟨s1, s2, s3, s4, s5, s6, s7, s8, s9, s10⟩ := hs
    obtain ⟨t1, t2, t3, t4, t5, t6, t7, t8, t9, t10, t11, t12⟩ := hms
    obtain ⟨d1, d2, d3, d4⟩ := hD
    refine ⟨0, S1, Int32.ofNat k.length, S2, ?_, b1, ?_, b2, fun _ => by rw [b5.2.1 180 0 (by unfold pw_W; omega)]; exact e180, by rw [b5.2.2]; omega⟩
    · rw [a1, wd_c_s]
      show (if (0 : Int32) < 0 ∨ 1 ≤ (0 : Int32).toNatClampNeg then none else _) = _
      rw [if_neg la_g, ← hS1]
      rfl
    · refine rl_mk (S := S) (lo := k) (T := T) (pl := pl) (kn := kn) (r := r) ⟨d1, d2, k2, d4⟩ (fun a j q1 q2 => hf a j (by unfold pq_W pw_W; omega)) (fun j q1 q2 => by rw [b5.2.2, er 1 j (by unfold pq_R; omega)]) (fun a j q => hf a j (by unfold rm_K at q; unfold pq_W pw_W; omega)) hc hm ⟨by rw [← s1]; exact funext fun j => hf 3 j (by unfold pq_W pw_W; omega), by rw [hf 1 1 (by unfold pq_W pw_W; omega)]; exact s2, by rw [hf 1 2 (by unfold pq_W pw_W; omega)]; exact s3, by rw [hf 1 12 (by unfold pq_W pw_W; omega)]; exact s4, fun i hi => by rw [hf 123 i (by unfold pq_W pw_W; omega)]; exact s5 i hi, by rw [b5.1 1 15 (by unfold pw_W; omega), ← hS1, fr_l2]; exact a2, fun i hi => by rw [b5.1 127 i (by unfold pw_W; omega), ← hS1, fr_l2]; exact a3 i hi, by rw [hf 1 18 (by unfold pq_W pw_W; omega)]; exact s8, fun i hi => by rw [hf 132 i (by unfold pq_W pw_W; omega)]; exact s9 i hi, fun i hi => by rw [hf 134 i (by unfold pq_W pw_W; omega)]; exact s10 i hi⟩ ⟨by rw [← t1]; exact funext fun j => hf 136 j (by unfold pq_W pw_W; omega), by rw [hf 135 2 (by unfold pq_W pw_W; omega)]; exact t2, by rw [hf 135 10 (by unfold pq_W pw_W; omega)]; exact t3, fun i hi => by rw [hf 173 i (by unfold pq_W pw_W; omega)]; exact t4 i hi, fun i hi => by rw [hf 174 i (by unfold pq_W pw_W; omega)]; exact t5 i hi, b3, b4, by rw [hf 135 95 (by unfold pq_W pw_W; omega)]; exact t8, fun i hi => by rw [hf 179 i (by unfold pq_W pw_W; omega)]; exact t9 i hi, by rw [hf 135 96 (by unfold pq_W pw_W; omega)]; exact t10, by rw [hf 135 97 (by unfold pq_W pw_W; omega)]; exact t11, by rw [hf 135 98 (by unfold pq_W pw_W; omega)]; exact t12⟩
end Op5
end
/-! part b53 -/
section
/-! The calls: run. -/
section Op6
variable {S S1 S2 : wd_S} {p lim t : Int32} {pg ds : pg_T} {vs : List mk_V} {T : Nat → Int32} {n m : Nat} {pl : Int32} {kn : Nat → Int32} {lo l : List Int32} {r : Nat → Int32}
theorem rn_ok_p (hP : wf_P pg) : rn_ok pg l := fun f k hf hl he => by
  have := ev_nn (fr := True) (P := pg_P pg) (ar := pg_n pg) (lim := k) (fun f hf => ⟨96, by rw [pg_P_l] at hf ⊢; exact hP.2.2 f hf⟩) 160 96 _ (ev_l l) 0 0 _ (by rw [pg_P_l]; exact hP.2.2 f hf) (fun i hi => by
    have hi : i < pg_n pg f := hi
    exact ⟨l[i]'(by omega), List.getElem?_eq_getElem _⟩)
  rw [he] at this
  exact this
theorem rn_ok_v (hD : rl_D pg ds vs n m lo l) (l : List Int32) : rn_ok ds l := fun f k hf hl he => by
  obtain ⟨-, -, -, -, hP, hlen, hok, -, s, rfl, hW⟩ := hD
  have hw : ∀ f, f < ds.length → wf_t False (pg_P ds).length (mk_ar pg s.1) 96 (fun i => i < mk_ar pg s.1 f) ((pg_P ds).getD f tr_z) := fun f hf => by
    rw [pg_P_l, hlen, pg_P_g hf]
    exact (hW.1 f hf).2.1
  have := ev_nn (fr := False) (P := pg_P ds) (ar := mk_ar pg s.1) (lim := k) (fun f hf => ⟨96, hw f (by rw [pg_P_l] at hf; exact hf)⟩) 160 96 _ (ev_l l) 0 0 _ (hw f hf) (fun i hi => by
    have hi : i < mk_ar pg s.1 f := hi
    rw [pg_n_g hf, (hW.1 f hf).1] at hl
    exact ⟨l[i]'(by omega), List.getElem?_eq_getElem _⟩)
  rw [he] at this
  exact this
theorem rn_E {E : String} (h : rn pg l p lim = .inl E) : E = "java/lang/IllegalStateException" ∨ E = "java/lang/IndexOutOfBoundsException" ∨ E = "java/lang/IllegalArgumentException" := by
  rw [rn_rr] at h
  split at h
  · cases h; exact Or.inl rfl
  · split at h
    · cases h; exact Or.inr (Or.inl rfl)
    · split at h
      · cases h; exact Or.inr (Or.inr rfl)
      · split at h
        · cases h
        · cases h; exact Or.inr (Or.inr rfl)
theorem rn_0 : rn [] l p lim = .inl "java/lang/IllegalStateException" := by
  rw [rn_rr]
  exact if_pos rfl
def rn_C (x : String ⊕ (Int32 × Int32 × Nat × Nat)) (t p lim : Int32) (S : wd_S) : Prop := match x with
    | .inl E => fn_Sp_run t p lim S = some (.inr E, wd_n S)
    | .inr r => ∃ S', fn_Sp_run t p lim S = some (.inl r.1, S') ∧ S'.1 1 18 = 0 ∧ S'.1 134 0 = r.2.1 ∧ S'.1 134 1 = Int32.ofNat r.2.2.1 ∧ S'.1 134 2 = Int32.ofNat r.2.2.2 ∧ of_r rn_W cx_R S S'
theorem rn_c (hD : rl_D pg ds vs n m lo l) (hc : rc_P pg ds vs S) (hs : rc_s T n pl m kn lo l r S) : rn_C (rn (if t = 0 then pg else ds) l p lim) t p lim S := by
  obtain ⟨⟨b, b', hb, b5, -, hP⟩, v, v', hv, v7, -, hV⟩ := hc
  have h8 := hs.2.2.2.2.2.2.2.1
  have h9 := hs.2.2.2.2.2.2.2.2.1
  unfold rn_C
  by_cases ht : t = 0
  · rw [if_pos ht]
    have hb1 : b = 11 ∨ b = 29 := by omega
    have cb : cb_ok b 1500 48 := by rcases hb1 with z | z <;> subst z <;> exact ⟨by decide, rfl, rfl, ⟨rfl, rfl, rfl, rfl, rfl, rfl⟩, rfl, by decide, by decide⟩
    have t17 : (tp_t (b + 16 + 1)).2 = 48 := by rcases hb1 with z | z <;> rw [z] <;> rfl
    have t0 : tp_t b = (0, 0) := cb.2.1
    have key := sp_run18 (p := p) (lim := lim) (l := l) (pg := pg) cb hD.2.2.2.2.1.1 t17 hP.1 (fun j hj => ⟨(hP.2 j hj).1, by have := hD.2.2.2.2.1.2.1 j; rw [pg_n_g hj] at this; exact this⟩) (fun j hj => by
      have hj' : j < pg.length := by rw [pg_P_l] at hj; exact hj
      obtain ⟨-, y, a2, a3, -⟩ := hP.2 j hj'
      exact ⟨y, a2, by rw [pg_P_e hj hj']; exact a3⟩) h8 hD.2.2.2.1 h9 (rn_ok_p hD.2.2.2.2.1) (by omega)
    have e : fn_Sp_run t p lim S = fn_Sp_run_18 p lim b S := by
      unfold fn_Sp_run
      rw [if_pos ht, b5, if_pos t0]
    rw [e]
    exact key
  · rw [if_neg ht]
    have hv1 : v = 54 ∨ v = 79 := by omega
    have hPv := rl_pv hD hV
    have cb : cb_ok (v + 1) 1000 78 := by rcases hv1 with z | z <;> subst z <;> exact ⟨by decide, rfl, rfl, ⟨rfl, rfl, rfl, rfl, rfl, rfl⟩, rfl, by decide, by decide⟩
    have t17 : (tp_t (v + 1 + 16 + 1)).2 = 78 := by rcases hv1 with z | z <;> rw [z] <;> rfl
    have t9 : tp_t v = (0, 9) := by rcases hv1 with z | z <;> rw [z] <;> rfl
    have t0 : tp_t (v + 1) = (0, 0) := cb.2.1
    have key := sp_run18 (p := p) (lim := lim) (l := l) (pg := ds) cb hPv.2.1 t17 hPv.1 (fun j hj => ⟨by rw [show v + 1 + 17 = v + 18 from rfl]; exact (hPv.2.2 j hj).1, (hPv.2.2 j hj).2.1⟩) (fun j hj => by
      have hj' : j < ds.length := by rw [pg_P_l] at hj; exact hj
      obtain ⟨-, -, y, a2, a3⟩ := hPv.2.2 j hj'
      exact ⟨y, a2, by rw [pg_P_e hj hj']; exact a3⟩) h8 hD.2.2.2.1 h9 (rn_ok_v hD l) (by omega)
    have e : fn_Sp_run t p lim S = fn_Sp_run_18 p lim (v + 1) S := by
      unfold fn_Sp_run fn_Versions_bodies
      rw [if_neg ht, v7, if_pos t9, wd_c_s, if_pos t0]
    rw [e]
    exact key
theorem rn_m (hD : rl_D pg ds vs n m lo l) (hm : rm_P pg ds vs S) (h95 : S.1 135 95 = Int32.ofNat l.length) (h179 : ∀ i, (hi : i < l.length) → S.1 179 i = l[i]) : rn_M l (rn (if t = 0 then pg else ds) l p lim) t p lim S := by
  obtain ⟨h, B, hh, h42, hp, hV⟩ := hm
  have h59 := hV.2.2.2.1
  have c1 : mr_c "java/lang/IllegalStateException" = 1 := by decide
  rcases hp with ⟨p1, p2⟩ | ⟨p1, p2, p3, p4⟩
  · have hd : ds = [] := hD.2.2.2.2.2.2.2.1 p1
    have e : (if t = 0 then pg else ds) = [] := by rw [p1, hd, ite_self]
    rw [e, rn_0]
    show fn_Mo_run t p lim S = some (0, wd_i S 135 0 (mr_c "java/lang/IllegalStateException"))
    rw [c1]
    exact mo_run_x p2 (by rw [h59, hd]; rfl)
  · by_cases ht : t = 0
    · rw [if_pos ht, ht]
      exact mo_run_p p2 hh h42 p3 p1 hD.2.2.2.2.1.1 hD.2.2.2.2.1.2.1 p4 hD.2.2.2.1 h95 h179 (rn_ok_p hD.2.2.2.2.1)
    · rw [if_neg ht]
      by_cases hz : ds.length = 0
      · have hd : ds = [] := List.length_eq_zero_iff.mp hz
        rw [hd, rn_0]
        show fn_Mo_run t p lim S = some (0, wd_i S 135 0 (mr_c "java/lang/IllegalStateException"))
        rw [c1]
        exact mo_run_v0 p2 (by rw [h59, hd]; rfl) ht
      · exact mo_run_v p2 (by omega) hV.2.2.2.2.2.2.2.2 ht hD.2.2.2.1 h95 h179 (rn_ok_v hD l)
theorem op_run (h : RL S) : ∃ x S1 y S2, fn_La_run t p lim S = some (x, S1) ∧ fn_Mo_run t p lim S1 = some (y, S2) ∧ LX x y S S2 := by
  have h0 := h
  obtain ⟨pg, ds, vs, T, n, pl, m, kn, lo, l, r, hD, hc, hs, hm, hms⟩ := h
  have hcc := rn_c (t := t) (p := p) (lim := lim) hD hc hs
  have h48 := hD.2.2.2.2.1.1
  have h95 := hms.2.2.2.2.2.2.2.1
  have h179 := hms.2.2.2.2.2.2.2.2.1
  cases hr : rn (if t = 0 then pg else ds) l p lim with
  | inl E =>
    have hE := rn_E hr
    have hmm := rn_m (S := wd_n S) (t := t) (p := p) (lim := lim) hD (rm_P_o (S := S) (fun a k _ => rfl) h48 hm) h95 h179
    rw [hr] at hcc hmm
    have hcc : fn_Sp_run t p lim S = some (.inr E, wd_n S) := hcc
    have hmm : fn_Mo_run t p lim (wd_n S) = some (0, wd_i (wd_n S) 135 0 (mr_c E)) := hmm
    have hc0 : ¬mr_c E = 0 := by rcases hE with z | z | z <;> rw [z] <;> decide
    refine ⟨mr_c E, wd_n S, 0, wd_i (wd_n S) 135 0 (mr_c E), ?_, hmm, ls_x h0 hc0⟩
    unfold fn_La_run
    rw [hcc]
    rcases hE with z | z | z <;> rw [z] <;> rfl
  | inr ρ =>
    rw [hr] at hcc
    obtain ⟨Sa, a1, a2, a3, a4, a5, a6⟩ := hcc
    generalize hS1 : wd_l Sa 180 0 ρ.1.toInt64 = S1
    have f1 : ∀ a j, ¬rn_W a j → S1.1 a j = S.1 a j := fun a j q => by rw [← hS1, fr_l2]; exact a6.1 a j q
    have e180 : S1.2.1 180 0 = ρ.1.toInt64 := by rw [← hS1, fr_l1, if_pos ⟨rfl, rfl⟩]
    have er : ∀ a j, ¬cx_R a j → S1.2.2.1 a j = S.2.2.1 a j := fun a j q => by rw [← hS1, fr_l3]; exact a6.2.2.1 a j q
    have en : S1.2.2.2 = S.2.2.2 := by rw [← hS1, fr_l3]; exact a6.2.2.2
    have hmm := rn_m (S := S1) (t := t) (p := p) (lim := lim) hD (rm_P_o (S := S) (fun a k q => f1 a k (by unfold rm_K at q; unfold rn_W cx_W; omega)) h48 hm) (by rw [f1 135 95 (by unfold rn_W cx_W; omega)]; exact h95) (fun i hi => by rw [f1 179 i (by unfold rn_W cx_W; omega)]; exact h179 i hi)
    rw [hr] at hmm
    obtain ⟨S2, b1, b2, b3, b4, b5, b6, b7⟩ := hmm
    have hf : ∀ a j, ¬rn_W a j ∧ ¬mr_W a j → S2.1 a j = S.1 a j := fun a j q => by rw [b7.1 a j q.2, f1 a j q.1]
    obtain ⟨s1, s2, s3, s4, s5, s6, s7, s8, s9, s10⟩ := hs
    obtain ⟨t1, t2, t3, t4, t5, t6, t7, t8, t9, t10, t11, t12⟩ := hms
    obtain ⟨d1, d2, d3, d4, d5⟩ := hD
    refine ⟨0, S1, ρ.1, S2, ?_, b1, ?_, b2, fun _ => by rw [b7.2.1 180 0 (by unfold mr_W mgX; omega)]; exact e180, by rw [b7.2.2]; omega⟩
    · unfold fn_La_run
      rw [a1, wd_c_s]
      show (if (0 : Int32) < 0 ∨ 1 ≤ (0 : Int32).toNatClampNeg then none else _) = _
      rw [if_neg la_g, ← hS1]
      rfl
    · refine rl_mk (S := S) (l := []) (T := T) (pl := pl) (kn := kn) (r := fun i => if i = 0 then ρ.2.1 else if i = 1 then Int32.ofNat ρ.2.2.1 else Int32.ofNat ρ.2.2.2) ⟨d1, d2, d3, Nat.zero_le _, d5⟩ (fun a j q1 q2 => hf a j (by unfold rn_W cx_W mr_W mgX; omega)) (fun j q1 q2 => by rw [b7.2.2, er 1 j (by unfold cx_R; omega)]) (fun a j q => hf a j (by unfold rm_K at q; unfold rn_W cx_W mr_W mgX; omega)) hc hm ⟨by rw [← s1]; exact funext fun j => hf 3 j (by unfold rn_W cx_W mr_W mgX; omega), by rw [hf 1 1 (by unfold rn_W cx_W mr_W mgX; omega)]; exact s2, by rw [hf 1 2 (by unfold rn_W cx_W mr_W mgX; omega)]; exact s3, by rw [hf 1 12 (by unfold rn_W cx_W mr_W mgX; omega)]; exact s4, fun i hi => by rw [hf 123 i (by unfold rn_W cx_W mr_W mgX; omega)]; exact s5 i hi, by rw [hf 1 15 (by unfold rn_W cx_W mr_W mgX; omega)]; exact s6, fun i hi => by rw [hf 127 i (by unfold rn_W cx_W mr_W mgX; omega)]; exact s7 i hi, by rw [b7.1 1 18 (by unfold mr_W mgX; omega), ← hS1, fr_l2]; exact a2, fun i hi => absurd hi (Nat.not_lt_zero _), fun i hi => ?_⟩ ⟨by rw [← t1]; exact funext fun j => hf 136 j (by unfold rn_W cx_W mr_W mgX; omega), by rw [hf 135 2 (by unfold rn_W cx_W mr_W mgX; omega)]; exact t2, by rw [hf 135 10 (by unfold rn_W cx_W mr_W mgX; omega)]; exact t3, fun i hi => by rw [hf 173 i (by unfold rn_W cx_W mr_W mgX; omega)]; exact t4 i hi, fun i hi => by rw [hf 174 i (by unfold rn_W cx_W mr_W mgX; omega)]; exact t5 i hi, by rw [hf 135 89 (by unfold rn_W cx_W mr_W mgX; omega)]; exact t6, fun i hi => by rw [hf 175 i (by unfold rn_W cx_W mr_W mgX; omega)]; exact t7 i hi, b3, fun i hi => absurd hi (Nat.not_lt_zero _), b4, b5, b6⟩
      have hi3 : i = 0 ∨ i = 1 ∨ i = 2 := by omega
      have e134 : S2.1 134 i = Sa.1 134 i := by rw [b7.1 134 i (by unfold mr_W mgX; omega), ← hS1, fr_l2]
      rw [e134]
      rcases hi3 with z | z | z <;> subst z
      · exact a3
      · exact a4
      · exact a5
end Op6
end
/-! part b54 -/
section
/-! The calls: make. -/
section Op7
variable {S S' S1 S2 : wd_S} {p : Int32} {pg ds : pg_T} {vs : List mk_V} {T : Nat → Int32} {n m h B : Nat} {pl : Int32} {kn : Nat → Int32} {lo l : List Int32} {r : Nat → Int32}
theorem vm_P_o2 (ho : ∀ a k, (a = 135 ∧ (k = 59 ∨ k = 63)) ∨ (a = 138 ∧ 48 * h ≤ k ∧ k < 48 * h + 48) ∨ (143 ≤ a ∧ a ≤ 149 ∧ 3004 + 6002 * B ≤ k ∧ k < 3004 + 6002 * B + 1000) ∨ (159 ≤ a ∧ a ≤ 160 ∧ 80 * B ≤ k ∧ k < 80 * B + 80) ∨ (a = 161 ∧ 320 * B ≤ k ∧ k < 320 * B + 320) ∨ (162 ≤ a ∧ a ≤ 164 ∧ 80 * B ≤ k ∧ k < 80 * B + 80) → S'.1 a k = S.1 a k) (hP : vm_P h B pg ds vs S) : vm_P h B pg ds vs S' := by
  obtain ⟨hB, hh, h63, h59, hl, h78, hv, hD, hw⟩ := hP
  have hg : mj_g (3004 + 6002 * B) (3004 + 6002 * B + 1000) (3004 + 6002 * B) (3004 + 6002 * B + 1000) S S' := ⟨fun x x1 x2 => ⟨ho 143 x (by omega), ho 144 x (by omega), ho 145 x (by omega), ho 146 x (by omega)⟩, fun x x1 x2 => ho 149 x (by omega)⟩
  have ht : ∀ y t, mm_t B 1000 1000 96 y t S → mm_t B 1000 1000 96 y t S' := fun y t q => mj_t_m (Nat.le_refl _) (Nat.le_refl _) (Nat.le_refl _) (Nat.le_refl _) hg 96 y t q
  refine ⟨hB, hh, by rw [ho 135 63 (by omega)]; exact h63, by rw [ho 135 59 (by omega)]; exact h59, hl, h78, fun j hj => ?_, fun j hj => ?_, ?_⟩
  · obtain ⟨a0, a1, a2, a3⟩ := hv j hj
    exact ⟨a0, by rw [ho 159 _ (by omega)]; exact a1, by rw [ho 160 _ (by omega)]; exact a2, fun i hi => by rw [ho 161 _ (by omega)]; exact a3 i hi⟩
  · obtain ⟨y, d1, d2, d3, d4⟩ := hD j hj
    exact ⟨y, by rw [ho 162 _ (by omega)]; exact d1, ht _ _ d2, by rw [ho 163 _ (by omega)]; exact d3, by rw [ho 164 _ (by omega)]; exact d4⟩
  · obtain ⟨-, -, -, h4, h5⟩ := hw
    refine ⟨hB, by rw [ho 135 63 (by omega)]; exact h63, by rw [ho 135 59 (by omega)]; exact h59, h4, fun j hj => ?_⟩
    obtain ⟨a1, ⟨g, m, n, b1, b2, b3, b4, b5, b6, b7⟩, y, c1, c2⟩ := h5 j hj
    obtain ⟨a0, a1', -⟩ := hv j (by omega)
    have eg : g = 48 * h + vs[j].1 := by
      rw [a1'] at b4
      exact ((im_eq (by omega) (by omega)).mp b4).symm
    exact ⟨a1, ⟨g, m, n, b1, b2, b3, by rw [ho 159 _ (by omega)]; exact b4, by rw [ho 160 _ (by omega)]; exact b5, by rw [ho 138 g (by omega)]; exact b6, b7⟩, y, by rw [ho 162 _ (by omega)]; exact c1, ht _ _ c2⟩
/-- the versions that were made, in the reference -/
theorem vm_made {q : pg_T × mk_S} {mn ma : Nat} (hP : wf_P pg) (hB : B ≤ 1) (hh : h ≤ 1) (h63 : S.1 135 63 = Int32.ofNat B) (h59 : S.1 135 59 = Int32.ofNat q.2.1.length) (hv : mm_v B h pg q.2.1 S) (hD : md_D B mn ma q.1 S) (hmn : mn ≤ 1000) (hma : ma ≤ 1000) (hl : q.1.length = q.2.1.length) (hW : wl_D pg q.1 q.2) (hm : mo_P h pg S) : vm_P h B pg q.1 q.2.1 S := by
  obtain ⟨-, hok, hr⟩ := hv
  have h78 : q.2.1.length ≤ 78 := by
    have := mk_ok_len hok
    have := hP.1
    omega
  have hD2 : md_D B 1000 1000 q.1 S := fun j hj => by
    obtain ⟨y, d1, d2, d3, d4⟩ := hD j hj
    exact ⟨y, d1, mj_t_m (Nat.le_refl _) (by omega) (Nat.le_refl _) (by omega) ⟨fun _ _ _ => ⟨rfl, rfl, rfl, rfl⟩, fun _ _ _ => rfl⟩ 96 y _ d2, d3, d4⟩
  refine ⟨hB, hh, h63, by rw [h59, hl], hl, h78, fun j hj => ?_, hD2, hB, h63, by rw [h59, hl], by omega, fun j hj => ?_⟩
  · obtain ⟨a1, a2, a3⟩ := hr j hj
    have := (hok.1 q.2.1[j] (List.getElem_mem hj)).1
    have := hP.1
    exact ⟨by omega, a1, a2, a3⟩
  · have hj' : j < q.2.1.length := by omega
    obtain ⟨a1, a2, a3⟩ := hr j hj'
    obtain ⟨g1, g2⟩ := hok.1 q.2.1[j] (List.getElem_mem hj')
    obtain ⟨w1, -⟩ := hW.1 j hj
    obtain ⟨y, d1, d2, -⟩ := hD2 j hj
    have h4 := hP.2.1 q.2.1[j].1
    have h48 := hP.1
    rw [mk_ar_g hj'] at w1
    have hle := mk_lf_le q.2.1[j].2.1 (pg_n pg q.2.1[j].1)
    obtain ⟨x1, -⟩ := hm q.2.1[j].1 g1
    exact ⟨by omega, ⟨48 * h + q.2.1[j].1, q.2.1[j].2.1, pg_n pg q.2.1[j].1, by omega, h4, g2, a1, a2, by rw [x1, pg_n_g g1], w1⟩, y, d1, d2⟩
end Op7
end
/-! part b55 -/
section
/-! The calls: make, both. -/
section Op8
variable {S S' S1 S2 : wd_S} {p : Int32}
theorem op_make (h : RL S) : ∃ x S1 y S2, fn_La_make p S = some (x, S1) ∧ fn_Mo_make p S1 = some (y, S2) ∧ LX x y S S2 := by
  have h0 := h
  obtain ⟨pg, ds, vs, T, n, pl, m, kn, lo, l, r, hD, hc, hs, hm, hms⟩ := h
  obtain ⟨⟨b, b', hb, b5, b6, hP⟩, v, v', hv, v7, v8, hV⟩ := id hc
  obtain ⟨h, B, hh, h42, hp, hVm⟩ := id hm
  obtain ⟨d1, d2, d3, d4, dP, d6⟩ := id hD
  have h48 := dP.1
  have h63 := hVm.2.2.1
  have hB := hVm.1
  obtain ⟨s1, s2, s3, s4, s5, s6, s7, s8, s9, s10⟩ := id hs
  obtain ⟨t1, t2, t3, t4, t5, t6, t7, t8, t9, t10, t11, t12⟩ := id hms
  have key := sp_make (p := p) (v := v') (v' := v) (m := m) (kn := kn) (b := b) (pg := pg) (by omega) (by omega) b5 v7 v8 hP h48 dP.2.1 d2 s4 s5
  unfold ck_x at key
  unfold fn_La_make
  by_cases hz : pg.length = 0
  · rw [if_pos hz] at key
    rw [show fn_Sp_make p S = _ from key]
    refine ⟨1, wd_n S, 0, wd_i (wd_n S) 135 0 1, rfl, ?_, ls_x h0 (by decide)⟩
    refine mo_make_x (S := wd_n S) ?_
    rcases hp with ⟨-, p2⟩ | ⟨p1, -⟩
    · exact p2
    · omega
  · rw [if_neg hz] at key
    obtain ⟨p1, p2, p3, p4⟩ : 1 ≤ pg.length ∧ S.1 135 41 = 1 ∧ S.1 150 h = Int32.ofNat pg.length ∧ mo_P h pg S := by
      rcases hp with ⟨p1, -⟩ | hp
      · rw [p1] at hz; exact absurd rfl hz
      · exact hp
    by_cases hr : p < 0 ∨ ¬p < Int32.ofNat pg.length
    · rw [if_pos hr] at key
      rw [show fn_Sp_make p S = _ from key]
      exact ⟨2, wd_n S, 0, wd_i (wd_n S) 135 0 2, rfl, mo_make_i (S := wd_n S) p2 hh h42 p3 p1 (by omega) hr, ls_x h0 (by decide)⟩
    · rw [if_neg hr] at key
      obtain ⟨f, f1, f2, f3⟩ := lk_p (by omega) hr
      rw [f3] at key
      have hmm : m % 2 ^ pg_n pg f < 2 ^ pg_n pg f := Nat.mod_lt _ (Nat.two_pow_pos _)
      have hgd := mk_all_nn (kn := kn) dP f1 hmm
      have hmo : ∀ S1 : wd_S, (∀ a k, 135 ≤ a → S1.1 a k = S.1 a k) → _ := fun S1 e => mo_make_ok (S := S1) (V := B) (B := 1 - B) (h := h) (pg := pg) (f := f) (m := m) (kn := kn) hB rfl (by rw [e 135 63 (by omega)]; exact h63) (by rw [e 135 41 (by omega)]; exact p2) hh (by rw [e 135 42 (by omega)]; exact h42) (by rw [e 150 h (by omega)]; exact p3) (mo_P_o (S := S) (fun a k q => e a k (by omega)) h48 p4) h48 dP.2.1 f1 d2 (fun i hi => by rw [e 173 i (by omega)]; exact t4 i hi) (fun i hi => by rw [e 174 i (by omega)]; exact t5 i hi)
      rw [f2]
      rw [f2] at key
      cases hq : mk_all pg f (m % 2 ^ pg_n pg f) kn with
      | error u =>
        cases u with
        | none => rw [hq] at hgd; exact hgd.elim
        | some u =>
          rw [hq] at key
          obtain ⟨Sa, a1, a2⟩ := key
          have g1 : ∀ a k, ¬cf_W v' a k → (wd_n Sa).1 a k = S.1 a k := fun a k q => a2.1 a k q
          have hm1 := hmo (wd_n Sa) (fun a k q => g1 a k (by unfold cf_W cm_W cx_W; omega))
          rw [hq] at hm1
          obtain ⟨S2, c1, c2, c3⟩ := hm1
          have hf : ∀ a k, ¬cf_W v' a k ∧ ¬mf_F (1 - B) a k → S2.1 a k = S.1 a k := fun a k q => by rw [c3.1 a k q.2, g1 a k q.1]
          refine ⟨3, wd_n Sa, 0, S2, by rw [a1]; rfl, c1, ?_, c2, fun z => absurd z (by decide), by rw [c3.2.2]; show Sa.2.2.2 + 1 ≤ _; rw [a2.2.2.2]; exact Nat.le_refl _⟩
          refine ⟨pg, ds, vs, T, n, pl, m, kn, lo, l, r, hD, ⟨⟨b, b', hb, ?_, ?_, ?_⟩, v, v', hv, ?_, ?_, ?_⟩, ?_, ⟨h, B, hh, ?_, Or.inr ⟨p1, ?_, ?_, ?_⟩, ?_⟩, ?_⟩
          · rw [c3.2.2]; show Sa.2.2.1 1 5 = b; rw [a2.2.2.1 1 5 (by unfold cx_R; omega)]; exact b5
          · rw [c3.2.2]; show Sa.2.2.1 1 6 = b'; rw [a2.2.2.1 1 6 (by unfold cx_R; omega)]; exact b6
          · exact cl_P_o (S := S) (by omega) (fun a q1 q2 => funext fun k => hf a k (by unfold cf_W cm_W cx_W mf_F me_F mm_F; omega)) hP
          · rw [c3.2.2]; show Sa.2.2.1 1 7 = v; rw [a2.2.2.1 1 7 (by unfold cx_R; omega)]; exact v7
          · rw [c3.2.2]; show Sa.2.2.1 1 8 = v'; rw [a2.2.2.1 1 8 (by unfold cx_R; omega)]; exact v8
          · exact vc_P_o (S := S) (fun a q1 q2 => funext fun k => hf a k (by unfold cf_W cm_W cx_W mf_F me_F mm_F; omega)) (hf _ _ (by unfold cf_W cm_W cx_W mf_F me_F mm_F; omega)) hV
          · exact ⟨by rw [← s1]; exact funext fun k => hf 3 k (by unfold cf_W cm_W cx_W mf_F me_F mm_F; omega), by rw [hf 1 1 (by unfold cf_W cm_W cx_W mf_F me_F mm_F; omega)]; exact s2, by rw [hf 1 2 (by unfold cf_W cm_W cx_W mf_F me_F mm_F; omega)]; exact s3, by rw [hf 1 12 (by unfold cf_W cm_W cx_W mf_F me_F mm_F; omega)]; exact s4, fun i hi => by rw [hf 123 i (by unfold cf_W cm_W cx_W mf_F me_F mm_F; omega)]; exact s5 i hi, by rw [hf 1 15 (by unfold cf_W cm_W cx_W mf_F me_F mm_F; omega)]; exact s6, fun i hi => by rw [hf 127 i (by unfold cf_W cm_W cx_W mf_F me_F mm_F; omega)]; exact s7 i hi, by rw [hf 1 18 (by unfold cf_W cm_W cx_W mf_F me_F mm_F; omega)]; exact s8, fun i hi => by rw [hf 132 i (by unfold cf_W cm_W cx_W mf_F me_F mm_F; omega)]; exact s9 i hi, fun i hi => by rw [hf 134 i (by unfold cf_W cm_W cx_W mf_F me_F mm_F; omega)]; exact s10 i hi⟩
          · rw [hf 135 42 (by unfold cf_W cm_W cx_W mf_F me_F mm_F; omega)]; exact h42
          · rw [hf 135 41 (by unfold cf_W cm_W cx_W mf_F me_F mm_F; omega)]; exact p2
          · rw [hf 150 h (by unfold cf_W cm_W cx_W mf_F me_F mm_F; omega)]; exact p3
          · exact mo_P_o (S := S) (fun a k q => hf a k (by unfold cf_W cm_W cx_W mf_F me_F mm_F; omega)) h48 p4
          · exact vm_P_o2 (S := S) (fun a k q => hf a k (by unfold cf_W cm_W cx_W mf_F me_F mm_F; omega)) hVm
          · exact rm_s_o (S := S) (fun a k q => hf a k (by unfold cf_W cm_W cx_W mf_F me_F mm_F; omega)) hms
      | ok q =>
        rw [hq] at key hgd
        obtain ⟨Sa, a1, a2, a3, a4, a5, a6, a7, a8⟩ := key
        obtain ⟨q1, q2, q3⟩ := hgd
        generalize hS1 : wd_l Sa 180 0 (Int32.ofNat q.2.1.length).toInt64 = S1
        have g1 : ∀ a k, ¬ck_W v' a k → S1.1 a k = S.1 a k := fun a k q => by rw [← hS1, fr_l2]; exact a2.1 a k q
        have e180 : S1.2.1 180 0 = (Int32.ofNat q.2.1.length).toInt64 := by rw [← hS1, fr_l1, if_pos ⟨rfl, rfl⟩]
        have er : S1.2.2 = Sa.2.2 := by rw [← hS1]; rfl
        have e1 : S1.1 = Sa.1 := by rw [← hS1]; rfl
        have hm1 := hmo S1 (fun a k q => g1 a k (by unfold ck_W cf_W cm_W cx_W; omega))
        rw [hq] at hm1
        obtain ⟨S2, mn, ma, c1, c2, c3, c4, c5, c6, c7, c8, c9, c10, c11⟩ := hm1
        have hf : ∀ a k, ¬ck_W v' a k ∧ ¬mg_F (1 - B) a k → S2.1 a k = S.1 a k := fun a k q => by rw [c11.1 a k q.2, g1 a k q.1]
        have hcl : ∀ a, a < 135 → S2.1 a = Sa.1 a := fun a ha => funext fun k => by rw [c11.1 a k (by unfold mg_F mf_F me_F mm_F; omega), e1]
        have hmP : mo_P h pg S2 := mo_P_o (S := S) (fun a k q => hf a k (by unfold ck_W cf_W cm_W cx_W mg_F mf_F me_F mm_F; omega)) h48 p4
        refine ⟨0, S1, Int32.ofNat q.2.1.length, S2, ?_, c1, ?_, c2, fun _ => by rw [c11.2.1 180 0 (by unfold mg_F mf_F me_F mm_F; omega)]; exact e180, by rw [c11.2.2, er, a2.2.2.2]; exact Nat.le_succ _⟩
        · rw [a1, wd_c_s]
          show (if (0 : Int32) < 0 ∨ 1 ≤ (0 : Int32).toNatClampNeg then none else _) = _
          rw [if_neg la_g, ← hS1]
          rfl
        · refine ⟨pg, q.1, q.2.1, T, n, pl, 0, kn, lo, l, r, ⟨d1, by decide, d3, d4, dP, q1, q2, fun z => absurd (by rw [z]; rfl) hz, q.2, rfl, q3⟩, ⟨⟨b, b', hb, ?_, ?_, ?_⟩, v', v, by omega, ?_, ?_, ?_⟩, ?_, ⟨h, 1 - B, hh, ?_, Or.inr ⟨p1, ?_, ?_, hmP⟩, ?_⟩, ?_⟩
          · rw [c11.2.2, er, a2.2.2.1 1 5 (by unfold ck_R cx_R; omega)]; exact b5
          · rw [c11.2.2, er, a2.2.2.1 1 6 (by unfold ck_R cx_R; omega)]; exact b6
          · exact cl_P_o (S := S) (by omega) (fun a q1 q2 => funext fun k => hf a k (by unfold ck_W cf_W cm_W cx_W mg_F mf_F me_F mm_F; omega)) hP
          · rw [c11.2.2, er]; exact a3
          · rw [c11.2.2, er]; exact a4
          · refine vc_P_o (S := Sa) (fun a q1 q2 => hcl a (by omega)) (by rw [hcl (v' + 1) (by omega)]) ⟨by omega, q1, ?_, a6, a8, fun j hj => (q3.1 j hj).1⟩
            have := mk_ok_len q2
            omega
          · exact ⟨by rw [← s1]; exact funext fun k => hf 3 k (by unfold ck_W cf_W cm_W cx_W mg_F mf_F me_F mm_F; omega), by rw [hf 1 1 (by unfold ck_W cf_W cm_W cx_W mg_F mf_F me_F mm_F; omega)]; exact s2, by rw [hf 1 2 (by unfold ck_W cf_W cm_W cx_W mg_F mf_F me_F mm_F; omega)]; exact s3, by rw [hcl 1 (by omega)]; exact a5, fun i hi => by rw [hf 123 i (by unfold ck_W cf_W cm_W cx_W mg_F mf_F me_F mm_F; omega)]; exact s5 i hi, by rw [hf 1 15 (by unfold ck_W cf_W cm_W cx_W mg_F mf_F me_F mm_F; omega)]; exact s6, fun i hi => by rw [hf 127 i (by unfold ck_W cf_W cm_W cx_W mg_F mf_F me_F mm_F; omega)]; exact s7 i hi, by rw [hf 1 18 (by unfold ck_W cf_W cm_W cx_W mg_F mf_F me_F mm_F; omega)]; exact s8, fun i hi => by rw [hf 132 i (by unfold ck_W cf_W cm_W cx_W mg_F mf_F me_F mm_F; omega)]; exact s9 i hi, fun i hi => by rw [hf 134 i (by unfold ck_W cf_W cm_W cx_W mg_F mf_F me_F mm_F; omega)]; exact s10 i hi⟩
          · rw [hf 135 42 (by unfold ck_W cf_W cm_W cx_W mg_F mf_F me_F mm_F; omega)]; exact h42
          · rw [hf 135 41 (by unfold ck_W cf_W cm_W cx_W mg_F mf_F me_F mm_F; omega)]; exact p2
          · rw [hf 150 h (by unfold ck_W cf_W cm_W cx_W mg_F mf_F me_F mm_F; omega)]; exact p3
          · exact vm_made dP (by omega) hh c3 c4 c6 c7 c8 c9 q1 q3 hmP
          · exact ⟨by rw [← t1]; exact funext fun k => hf 136 k (by unfold ck_W cf_W cm_W cx_W mg_F mf_F me_F mm_F; omega), by rw [hf 135 2 (by unfold ck_W cf_W cm_W cx_W mg_F mf_F me_F mm_F; omega)]; exact t2, by rw [hf 135 10 (by unfold ck_W cf_W cm_W cx_W mg_F mf_F me_F mm_F; omega)]; exact t3, fun i hi => by rw [c5 i hi, Nat.zero_div]; rfl, fun i hi => by rw [hf 174 i (by unfold ck_W cf_W cm_W cx_W mg_F mf_F me_F mm_F; omega)]; exact t5 i hi, by rw [hf 135 89 (by unfold ck_W cf_W cm_W cx_W mg_F mf_F me_F mm_F; omega)]; exact t6, fun i hi => by rw [hf 175 i (by unfold ck_W cf_W cm_W cx_W mg_F mf_F me_F mm_F; omega)]; exact t7 i hi, by rw [hf 135 95 (by unfold ck_W cf_W cm_W cx_W mg_F mf_F me_F mm_F; omega)]; exact t8, fun i hi => by rw [hf 179 i (by unfold ck_W cf_W cm_W cx_W mg_F mf_F me_F mm_F; omega)]; exact t9 i hi, by rw [hf 135 96 (by unfold ck_W cf_W cm_W cx_W mg_F mf_F me_F mm_F; omega)]; exact t10, by rw [hf 135 97 (by unfold ck_W cf_W cm_W cx_W mg_F mf_F me_F mm_F; omega)]; exact t11, by rw [hf 135 98 (by unfold ck_W cf_W cm_W cx_W mg_F mf_F me_F mm_F; omega)]; exact t12⟩
end Op8
end
/-! part b56 -/
section
/-! The calls: read. -/
theorem ps_funs_le {K : Nat → Int32} {V : Nat → Int64} : ∀ (f i : Nat) (fs fs' : List ps_F), ps_funs K V f fs i = .ok fs' → fs.length ≤ fs'.length := by
  intro f
  induction f with
  | zero => intro i fs fs' h; cases h; exact Nat.le_refl _
  | succ f ih =>
    intro i fs fs' h
    unfold ps_funs at h
    split at h
    · cases h; exact Nat.le_refl _
    · obtain ⟨q, k1, k2⟩ := ps_b_ok h
      have := ih _ _ _ k2
      rw [List.length_append] at this
      omega
theorem ps_read_1 {K : Nat → Int32} {V : Nat → Int64} {fs : List ps_F} (h : ps_read K V = .ok fs) : 1 ≤ fs.length := by
  unfold ps_read at h
  obtain ⟨fs', k1, k2⟩ := ps_b_ok h
  cases e : ps_first V fs' (ps_M fs') with
  | some x => rw [e] at k2; cases k2
  | none =>
    rw [e] at k2
    cases k2
    unfold ps_prog at k1
    split at k1
    · cases k1
    · obtain ⟨q, j1, j2⟩ := ps_b_ok k1
      exact ps_funs_le _ _ _ _ j2
theorem mk_ok_0 {pg : pg_T} : mk_ok pg [] := ⟨fun q hq => absurd hq List.not_mem_nil, fun q hq => absurd hq List.not_mem_nil, List.nodup_nil⟩
theorem vm_0 {pg : pg_T} {h B : Nat} {S : wd_S} (hB : B ≤ 1) (hh : h ≤ 1) (h63 : S.1 135 63 = Int32.ofNat B) (h59 : S.1 135 59 = 0) : vm_P h B pg [] [] S := ⟨hB, hh, h63, h59, rfl, Nat.zero_le _, fun j hj => absurd hj (Nat.not_lt_zero _), fun j hj => absurd hj (Nat.not_lt_zero _), hB, h63, h59, Nat.zero_le _, fun j hj => absurd hj (Nat.not_lt_zero _)⟩
section Op9
variable {S : wd_S}
theorem op_read (h : RL S) : ∃ x S1 S2, fn_Sp_read S = some (x, S1) ∧ fn_Mo_read S1 = some (x, S2) ∧ RL S2 ∧ S2.1 135 0 = 0 ∧ S2.2.2.2 = S.2.2.2 := by
  obtain ⟨pg, ds, vs, T, n, pl, m, kn, lo, l, r, hD, hc, hs, hm, hms⟩ := h
  obtain ⟨⟨b, b', hb, b5, b6, hP⟩, v, v', hv, v7, v8, hV⟩ := hc
  obtain ⟨h, B, hh, h42, hp, hVm⟩ := hm
  obtain ⟨d1, d2, d3, d4, dP, d6, d7, d8, d9⟩ := hD
  have h48 := dP.1
  obtain ⟨s1, s2, s3, s4, s5, s6, s7, s8, s9, s10⟩ := hs
  obtain ⟨t1, t2, t3, t4, t5, t6, t7, t8, t9, t10, t11, t12⟩ := hms
  obtain ⟨x, S1, x1, x2, x3, x4⟩ := sp_read (n := n) (b := b') (b' := b) (v := v) s2 d1 (by omega) b6 b5 (by omega) v7
  rw [s1] at x4
  have g : ∀ a k, 135 ≤ a → S1.1 a k = S.1 a k := fun a k q => x2.1 a k (by unfold re_W; omega)
  have eT : S1.1 136 = T := by rw [← t1]; exact funext fun k => g 136 k (by omega)
  obtain ⟨y, S2, y1, y2, y3, y4⟩ := mo_read (S := S1) (h := h) (B := if S1.1 135 41 = 0 then h else 1 - h) d1 eT (by rw [g 135 2 (by omega)]; exact t2) hh (by rw [g 135 42 (by omega)]; exact h42) rfl
  have e41 : S1.1 135 41 = S.1 135 41 := g 135 41 (by omega)
  rw [e41] at y4
  cases hr : ps_read (tk_K T n) (tk_V T n) with
  | error e =>
    rw [hr] at x4 y4
    obtain ⟨u1, u2, u3, u4, u5, u6⟩ := x4
    obtain ⟨w1, w2, w3, w4⟩ := y4
    generalize hQ : (if S.1 135 41 = 0 then h else 1 - h) = Q at w1
    have hQ1 : Q ≤ 1 := by rw [← hQ]; split <;> omega
    have hf : ∀ a k, ¬re_W b' v a k ∧ ¬mo_We Q a k → S2.1 a k = S.1 a k := fun a k q => by rw [w1.1 a k q.2, x2.1 a k q.1]
    have hcl : ∀ a k, a < 135 → S2.1 a k = S1.1 a k := fun a k q => w1.1 a k (by unfold mo_We; omega)
    refine ⟨x, S1, S2, x1, by rw [y1, u1, w2], ?_, y2, by rw [w1.2.2]; exact x2.2.2.2⟩
    refine ⟨pg, ds, vs, T, 0, Int32.ofNat (tk_p T n e.2), m, kn, lo, l, r, ⟨Nat.zero_le _, d2, d3, d4, dP, d6, d7, d8, d9⟩, ⟨⟨b, b', hb, ?_, ?_, ?_⟩, v, v', hv, ?_, ?_, ?_⟩, ?_, ⟨h, B, hh, ?_, ?_, ?_⟩, ?_⟩
    · rw [w1.2.2]; exact u4
    · rw [w1.2.2]; exact u5
    · obtain ⟨c1, c2⟩ := hP
      have hrw : ∀ a, b ≤ a → a ≤ b + 17 → S2.1 a = S.1 a := fun a q1 q2 => funext fun k => hf a k (by unfold re_W mo_We; omega)
      refine ⟨by rw [hrw b (by omega) (by omega)]; exact c1, fun j hj => ?_⟩
      obtain ⟨a1, z, a2, a3, a4, a5⟩ := c2 j hj
      exact ⟨by rw [hrw (b + 17) (by omega) (by omega)]; exact a1, z, by rw [hrw (b + 15) (by omega) (by omega)]; exact a2, nd_t_g (nd_rows (fun a q1 q2 => hrw a (by omega) (by omega))) _ _ _ a3, by rw [hrw (b + 1 + 10) (by omega) (by omega)]; exact a4, by rw [hrw (b + 1 + 12) (by omega) (by omega)]; exact a5⟩
    · rw [w1.2.2, x2.2.2.1 1 7 (by unfold re_R; omega)]; exact v7
    · rw [w1.2.2, x2.2.2.1 1 8 (by unfold re_R; omega)]; exact v8
    · exact vc_P_o (S := S) (fun a q1 q2 => funext fun k => hf a k (by unfold re_W mo_We; omega)) (by rw [hcl (v + 1) 3 (by omega)]; exact u6) hV
    · exact ⟨by rw [← s1]; exact funext fun k => hf 3 k (by unfold re_W mo_We; omega), by rw [hcl 1 1 (by omega)]; exact x3, by rw [hcl 1 2 (by omega)]; exact u3, by rw [hf 1 12 (by unfold re_W mo_We; omega)]; exact s4, fun i hi => by rw [hf 123 i (by unfold re_W mo_We; omega)]; exact s5 i hi, by rw [hf 1 15 (by unfold re_W mo_We; omega)]; exact s6, fun i hi => by rw [hf 127 i (by unfold re_W mo_We; omega)]; exact s7 i hi, by rw [hf 1 18 (by unfold re_W mo_We; omega)]; exact s8, fun i hi => by rw [hf 132 i (by unfold re_W mo_We; omega)]; exact s9 i hi, fun i hi => by rw [hf 134 i (by unfold re_W mo_We; omega)]; exact s10 i hi⟩
    · rw [hf 135 42 (by unfold re_W mo_We; omega)]; exact h42
    · rcases hp with ⟨p1, p2⟩ | ⟨p1, p2, p3, p4⟩
      · exact Or.inl ⟨p1, by rw [hf 135 41 (by unfold re_W mo_We; omega)]; exact p2⟩
      · have hQh : Q = 1 - h := by rw [← hQ, p2, if_neg (show ¬(1 : Int32) = 0 by decide)]
        exact Or.inr ⟨p1, by rw [hf 135 41 (by unfold re_W mo_We; omega)]; exact p2, by rw [hf 150 h (by unfold re_W mo_We; omega)]; exact p3, mo_P_o (S := S) (fun a k q => hf a k (by unfold re_W mo_We; omega)) h48 p4⟩
    · rcases hp with ⟨p1, p2⟩ | ⟨p1, p2, p3, p4⟩
      · have hd := d8 p1
        have hvs : vs = [] := List.length_eq_zero_iff.mp (by rw [← d6, hd]; rfl)
        rw [hd, hvs]
        exact vm_0 hVm.1 hh (by rw [hf 135 63 (by unfold re_W mo_We; omega)]; exact hVm.2.2.1) (by rw [hf 135 59 (by unfold re_W mo_We; omega), hVm.2.2.2.1, hd]; rfl)
      · have hQh : Q = 1 - h := by rw [← hQ, p2, if_neg (show ¬(1 : Int32) = 0 by decide)]
        have hB := hVm.1
        exact vm_P_o2 (S := S) (fun a k q => hf a k (by unfold re_W mo_We; omega)) hVm
    · exact ⟨by rw [← t1]; exact funext fun k => hf 136 k (by unfold re_W mo_We; omega), y3, w4, fun i hi => by rw [hf 173 i (by unfold re_W mo_We; omega)]; exact t4 i hi, fun i hi => by rw [hf 174 i (by unfold re_W mo_We; omega)]; exact t5 i hi, by rw [hf 135 89 (by unfold re_W mo_We; omega)]; exact t6, fun i hi => by rw [hf 175 i (by unfold re_W mo_We; omega)]; exact t7 i hi, by rw [hf 135 95 (by unfold re_W mo_We; omega)]; exact t8, fun i hi => by rw [hf 179 i (by unfold re_W mo_We; omega)]; exact t9 i hi, by rw [hf 135 96 (by unfold re_W mo_We; omega)]; exact t10, by rw [hf 135 97 (by unfold re_W mo_We; omega)]; exact t11, by rw [hf 135 98 (by unfold re_W mo_We; omega)]; exact t12⟩
  | ok fs =>
    rw [hr] at x4 y4
    obtain ⟨u1, u2, u3, u4, u5, u6⟩ := x4
    obtain ⟨w1, w2, w3, w4, w5, w6, w7, -, -, -, -, w12⟩ := y4
    generalize hQ : (if S.1 135 41 = 0 then h else 1 - h) = Q at w1 w4 w6 w12
    have hQ1 : Q ≤ 1 := by rw [← hQ]; split <;> omega
    have hf : ∀ a k, ¬re_W b' v a k ∧ ¬mo_W Q a k → S2.1 a k = S.1 a k := fun a k q => by rw [w1.1 a k q.2, x2.1 a k q.1]
    have hcl : ∀ a, a < 135 → S2.1 a = S1.1 a := fun a q => funext fun k => w1.1 a k (by unfold mo_W mo_We; omega)
    have hl := ps_out_l (tk_V T n) fs
    refine ⟨x, S1, S2, x1, by rw [y1, u1, w2], ?_, y2, by rw [w1.2.2]; exact x2.2.2.2⟩
    refine ⟨ps_out (tk_V T n) fs, [], [], T, 0, -1, m, kn, lo, l, r, ⟨Nat.zero_le _, d2, d3, d4, wf_read hr, rfl, mk_ok_0, fun _ => rfl, ([], 0, 0, 0), rfl, fun j hj => absurd hj (Nat.not_lt_zero _), Nat.le_refl _, Nat.zero_le _⟩, ⟨⟨b', b, by omega, ?_, ?_, ?_⟩, v, v', hv, ?_, ?_, ?_⟩, ?_, ⟨Q, B, hQ1, w4, Or.inr ⟨?_, w5, ?_, w12⟩, ?_⟩, ?_⟩
    · rw [w1.2.2]; exact u3
    · rw [w1.2.2]; exact u4
    · exact cl_P_o (S := S1) (by omega) (fun a q1 q2 => hcl a (by omega)) u5
    · rw [w1.2.2, x2.2.2.1 1 7 (by unfold re_R; omega)]; exact v7
    · rw [w1.2.2, x2.2.2.1 1 8 (by unfold re_R; omega)]; exact v8
    · exact ⟨by omega, rfl, Nat.zero_le _, ⟨by rw [hcl (v + 1) (by omega)]; exact u6, mk_ok_0, fun j hj => absurd hj (Nat.not_lt_zero _)⟩, fun j hj => absurd hj (Nat.not_lt_zero _), fun j hj => absurd hj (Nat.not_lt_zero _)⟩
    · exact ⟨by rw [← s1]; exact funext fun k => hf 3 k (by unfold re_W mo_W mo_We; omega), by rw [hcl 1 (by omega)]; exact x3, by rw [hcl 1 (by omega)]; exact u2, by rw [hf 1 12 (by unfold re_W mo_W mo_We; omega)]; exact s4, fun i hi => by rw [hf 123 i (by unfold re_W mo_W mo_We; omega)]; exact s5 i hi, by rw [hf 1 15 (by unfold re_W mo_W mo_We; omega)]; exact s6, fun i hi => by rw [hf 127 i (by unfold re_W mo_W mo_We; omega)]; exact s7 i hi, by rw [hf 1 18 (by unfold re_W mo_W mo_We; omega)]; exact s8, fun i hi => by rw [hf 132 i (by unfold re_W mo_W mo_We; omega)]; exact s9 i hi, fun i hi => by rw [hf 134 i (by unfold re_W mo_W mo_We; omega)]; exact s10 i hi⟩
    · rw [hl]; exact ps_read_1 hr
    · rw [hl]; exact w6
    · exact vm_0 hVm.1 hQ1 (by rw [hf 135 63 (by unfold re_W mo_W mo_We; omega)]; exact hVm.2.2.1) w7
    · exact ⟨by rw [← t1]; exact funext fun k => hf 136 k (by unfold re_W mo_W mo_We; omega), y3, w3, fun i hi => by rw [hf 173 i (by unfold re_W mo_W mo_We; omega)]; exact t4 i hi, fun i hi => by rw [hf 174 i (by unfold re_W mo_W mo_We; omega)]; exact t5 i hi, by rw [hf 135 89 (by unfold re_W mo_W mo_We; omega)]; exact t6, fun i hi => by rw [hf 175 i (by unfold re_W mo_W mo_We; omega)]; exact t7 i hi, by rw [hf 135 95 (by unfold re_W mo_W mo_We; omega)]; exact t8, fun i hi => by rw [hf 179 i (by unfold re_W mo_W mo_We; omega)]; exact t9 i hi, by rw [hf 135 96 (by unfold re_W mo_W mo_We; omega)]; exact t10, by rw [hf 135 97 (by unfold re_W mo_W mo_We; omega)]; exact t11, by rw [hf 135 98 (by unfold re_W mo_W mo_We; omega)]; exact t12⟩
end Op9
end
