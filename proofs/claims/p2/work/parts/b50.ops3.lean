/-! The calls that write: give, know. -/
section Op3
variable {S S2 : wd_S} {p q : Int32} {pg ds : pg_T} {vs : List mk_V} {T : Nat → Int32} {n m : Nat} {pl : Int32} {kn : Nat → Int32} {lo l : List Int32} {r : Nat → Int32}
theorem rl_mk (hD : rl_D pg ds vs n m lo l) (h1 : ∀ a k, 11 ≤ a → a < 104 → S2.1 a k = S.1 a k) (h2 : ∀ k, 5 ≤ k → k ≤ 8 → S2.2.2.1 1 k = S.2.2.1 1 k) (h3 : ∀ a k, rm_K a k → S2.1 a k = S.1 a k) (hc : rc_P pg ds vs S) (hm : rm_P pg ds vs S) (hs : rc_s T n pl m kn lo l r S2) (hms : rm_s T n pl m kn lo l r S2) : RL S2 := ⟨pg, ds, vs, T, n, pl, m, kn, lo, l, r, hD, rc_P_o (fun a q1 q2 => funext fun k => h1 a k q1 q2) h2 hc, hs, rm_P_o h3 hD.2.2.2.2.1.1 hm, hms⟩
theorem l_snoc {f : Nat → Int32} {x : Int32} (h1 : ∀ i, (hi : i < l.length) → f i = l[i]) (h2 : f l.length = x) : ∀ i, (hi : i < (l ++ [x]).length) → f i = (l ++ [x])[i] := fun i hi => by
  have hl : (l ++ [x]).length = l.length + 1 := List.length_append
  by_cases e : i < l.length
  · rw [List.getElem_append_left e]
    exact h1 i e
  · have e : i = l.length := by omega
    subst e
    rw [List.getElem_concat_length rfl, h2]
theorem op_give (h : RL S) : ∃ x S1 y S2, fn_La_give p S = some (x, S1) ∧ fn_Mo_give p S1 = some (y, S2) ∧ LX x y S S2 := by
  have h0 := h
  obtain ⟨pg, ds, vs, T, n, pl, m, kn, lo, l, r, hD, hc, hs, hm, hms⟩ := h
  obtain ⟨s1, s2, s3, s4, s5, s6, s7, s8, s9, s10⟩ := hs
  obtain ⟨t1, t2, t3, t4, t5, t6, t7, t8, t9, t10, t11, t12⟩ := hms
  obtain ⟨d1, d2, d3, d4, d5⟩ := hD
  unfold fn_La_give
  rw [sp_give, s8]
  by_cases hg : l.length = 4
  · rw [if_neg (show ¬Int32.ofNat l.length < 4 by rw [hg]; decide)]
    refine ⟨1, wd_n S, 0, wd_i (wd_n S) 135 0 1, rfl, ?_, ls_x h0 (by decide)⟩
    rw [mo_give p (wd_n S) d4 t8, if_pos hg]
  · rw [if_pos (show Int32.ofNat l.length < 4 from (im_lt (m := l.length) (n := 4) (by omega) (by omega)).mpr (by omega)), im_s, ro_pn (show (tp_t (131 + 1)).2 = 4 from rfl) (show l.length < 4 by omega)]
    generalize hS1 : wd_l (wd_i (wd_i S (131 + 1) l.length p) 1 18 (Int32.ofNat (l.length + 1))) 180 0 (Int32.ofNat (l.length + 1)).toInt64 = S1
    have f1 : ∀ a k, ¬(a = 132 ∧ k = l.length) → ¬(a = 1 ∧ k = 18) → S1.1 a k = S.1 a k := fun a k q1 q2 => by
      rw [← hS1, fr_l2, fr_ne q2, fr_ne q1]
    have e132 : S1.1 132 l.length = p := by
      rw [← hS1, fr_l2, fr_ne (by omega), fr_eq]
    have e18 : S1.1 1 18 = Int32.ofNat (l.length + 1) := by rw [← hS1, fr_l2, fr_eq]
    have e180 : S1.2.1 180 0 = (Int32.ofNat (l.length + 1)).toInt64 := by rw [← hS1, fr_l1, if_pos ⟨rfl, rfl⟩]
    have er : S1.2.2 = S.2.2 := by rw [← hS1]; rfl
    generalize hS2 : wd_i (wd_i (wd_i S1 135 0 0) 179 l.length p) 135 95 (Int32.ofNat (l.length + 1)) = S2
    have f2 : ∀ a k, ¬(a = 135 ∧ (k = 0 ∨ k = 95)) → ¬(a = 179 ∧ k = l.length) → S2.1 a k = S1.1 a k := fun a k q1 q2 => by
      rw [← hS2, fr_ne (by omega), fr_ne q2, fr_ne (by omega)]
    have e179 : S2.1 179 l.length = p := by rw [← hS2, fr_ne (by omega), fr_eq]
    have e95 : S2.1 135 95 = Int32.ofNat (l.length + 1) := by rw [← hS2, fr_eq]
    have e0 : S2.1 135 0 = 0 := by rw [← hS2, fr_ne (by omega), fr_ne (by omega), fr_eq]
    have ll : (l ++ [p]).length = l.length + 1 := List.length_append
    have hf : ∀ a k, ¬(a = 132 ∧ k = l.length) → ¬(a = 1 ∧ k = 18) → ¬(a = 135 ∧ (k = 0 ∨ k = 95)) → ¬(a = 179 ∧ k = l.length) → S2.1 a k = S.1 a k := fun a k q1 q2 q3 q4 => by rw [f2 a k q3 q4, f1 a k q1 q2]
    have er2 : S2.2.2 = S.2.2 := by rw [← hS2]; exact er
    refine ⟨0, S1, Int32.ofNat (l.length + 1), S2, ?_, ?_, ?_, e0, fun _ => by rw [← hS2]; exact e180, by rw [er2]; exact Nat.le_succ _⟩
    · rw [wd_c_s]
      show (if (0 : Int32) < 0 ∨ 1 ≤ (0 : Int32).toNatClampNeg then none else _) = _
      rw [if_neg la_g, ← hS1]
      rfl
    · rw [mo_give p S1 d4 (by rw [f1 135 95 (by omega) (by omega)]; exact t8), if_neg hg, hS2]
    · refine rl_mk (S := S) (l := l ++ [p]) (T := T) (pl := pl) (kn := kn) (r := r) ⟨d1, d2, d3, by rw [ll]; omega, d5⟩ (fun a k q1 q2 => hf a k (by omega) (by omega) (by omega) (by omega)) (fun k _ _ => by rw [er2]) (fun a k q => by unfold rm_K at q; exact hf a k (by omega) (by omega) (by omega) (by omega)) hc hm ⟨by rw [← s1]; exact funext fun k => hf 3 k (by omega) (by omega) (by omega) (by omega), by rw [hf 1 1 (by omega) (by omega) (by omega) (by omega)]; exact s2, by rw [hf 1 2 (by omega) (by omega) (by omega) (by omega)]; exact s3, by rw [hf 1 12 (by omega) (by omega) (by omega) (by omega)]; exact s4, fun i hi => by rw [hf 123 i (by omega) (by omega) (by omega) (by omega)]; exact s5 i hi, by rw [hf 1 15 (by omega) (by omega) (by omega) (by omega)]; exact s6, fun i hi => by rw [hf 127 i (by omega) (by omega) (by omega) (by omega)]; exact s7 i hi, by rw [f2 1 18 (by omega) (by omega), e18, ll], l_snoc (f := fun i => S2.1 132 i) (fun i hi => by show S2.1 132 i = _; rw [hf 132 i (by omega) (by omega) (by omega) (by omega)]; exact s9 i hi) (by show S2.1 132 l.length = p; rw [f2 132 _ (by omega) (by omega)]; exact e132), fun i hi => by rw [hf 134 i (by omega) (by omega) (by omega) (by omega)]; exact s10 i hi⟩ ⟨by rw [← t1]; exact funext fun k => hf 136 k (by omega) (by omega) (by omega) (by omega), by rw [hf 135 2 (by omega) (by omega) (by omega) (by omega)]; exact t2, by rw [hf 135 10 (by omega) (by omega) (by omega) (by omega)]; exact t3, fun i hi => by rw [hf 173 i (by omega) (by omega) (by omega) (by omega)]; exact t4 i hi, fun i hi => by rw [hf 174 i (by omega) (by omega) (by omega) (by omega)]; exact t5 i hi, by rw [hf 135 89 (by omega) (by omega) (by omega) (by omega)]; exact t6, fun i hi => by rw [hf 175 i (by omega) (by omega) (by omega) (by omega)]; exact t7 i hi, by rw [e95, ll], l_snoc (f := fun i => S2.1 179 i) (fun i hi => by show S2.1 179 i = _; rw [hf 179 i (by omega) (by omega) (by omega) (by omega)]; exact t9 i hi) e179, by rw [hf 135 96 (by omega) (by omega) (by omega) (by omega)]; exact t10, by rw [hf 135 97 (by omega) (by omega) (by omega) (by omega)]; exact t11, by rw [hf 135 98 (by omega) (by omega) (by omega) (by omega)]; exact t12⟩
theorem op_know (h : RL S) : ∃ x S1 y S2, fn_La_know p q S = some (x, S1) ∧ fn_Mo_know p q S1 = some (y, S2) ∧ LX x y S S2 := by
  have h0 := h
  obtain ⟨pg, ds, vs, T, n, pl, m, kn, lo, l, r, hD, hc, hs, hm, hms⟩ := h
  obtain ⟨s1, s2, s3, s4, s5, s6, s7, s8, s9, s10⟩ := hs
  obtain ⟨t1, t2, t3, t4, t5, t6, t7, t8, t9, t10, t11, t12⟩ := hms
  obtain ⟨d1, d2, d5⟩ := hD
  unfold fn_La_know
  by_cases hp : p < 0 ∨ ¬p < 4
  · rw [sp_know_x hp]
    refine ⟨1, wd_n S, 0, wd_i (wd_n S) 135 0 1, rfl, ?_, ls_x h0 (by decide)⟩
    rw [mo_know_x hp]
  · obtain ⟨i, i1, i2, i3⟩ := lk_p (n := 4) (by omega) hp
    rw [i2, sp_know d2 i1 s4]
    have h16 := kn_or16 m d2 i i1
    generalize hv : Int32.ofNat (kn_c (m ||| 2 ^ i)) = x
    generalize hS1 : wd_l (wd_i (wd_i S 1 12 (Int32.ofNat (m ||| 2 ^ i))) 123 i q) 180 0 x.toInt64 = S1
    have f1 : ∀ a k, ¬(a = 123 ∧ k = i) → ¬(a = 1 ∧ k = 12) → S1.1 a k = S.1 a k := fun a k q1 q2 => by
      rw [← hS1, fr_l2, fr_ne q1, fr_ne q2]
    have e123 : S1.1 123 i = q := by rw [← hS1, fr_l2, fr_eq]
    have e12 : S1.1 1 12 = Int32.ofNat (m ||| 2 ^ i) := by rw [← hS1, fr_l2, fr_ne (by omega), fr_eq]
    have e180 : S1.2.1 180 0 = x.toInt64 := by rw [← hS1, fr_l1, if_pos ⟨rfl, rfl⟩]
    have er : S1.2.2 = S.2.2 := by rw [← hS1]; rfl
    obtain ⟨k1, k2⟩ := mo_know (i := i) (v := q) (S := S1) d2 i1 (fun j hj => by rw [f1 173 j (by omega) (by omega)]; exact t4 j hj)
    rw [hv] at k1
    generalize hS2 : wd_i (wd_i (wd_i S1 135 0 0) 173 i 1) 174 i q = S2 at k1 k2
    have f2 : ∀ a k, ¬(a = 135 ∧ k = 0) → ¬(a = 173 ∧ k = i) → ¬(a = 174 ∧ k = i) → S2.1 a k = S1.1 a k := fun a k q1 q2 q3 => by
      rw [← hS2, fr_ne q3, fr_ne q2, fr_ne q1]
    have e174 : S2.1 174 i = q := by rw [← hS2, fr_eq]
    have e0 : S2.1 135 0 = 0 := by rw [← hS2, fr_ne (by omega), fr_ne (by omega), fr_eq]
    have er2 : S2.2.2 = S.2.2 := by rw [← hS2]; exact er
    have hf : ∀ a k, ¬(a = 123 ∧ k = i) → ¬(a = 1 ∧ k = 12) → ¬(a = 135 ∧ k = 0) → ¬(a = 173 ∧ k = i) → ¬(a = 174 ∧ k = i) → S2.1 a k = S.1 a k := fun a k q1 q2 q3 q4 q5 => by rw [f2 a k q3 q4 q5, f1 a k q1 q2]
    refine ⟨0, S1, x, S2, ?_, k1, ?_, e0, fun _ => by rw [← hS2]; exact e180, by rw [er2]; exact Nat.le_succ _⟩
    · rw [wd_c_s]
      show (if (0 : Int32) < 0 ∨ 1 ≤ (0 : Int32).toNatClampNeg then none else _) = _
      rw [if_neg la_g, ← hS1]
      rfl
    · have kq : ∀ j, j < 4 → ∀ a, (a = 123 ∨ a = 174) → (∀ j, j < 4 → S.1 a j = kn j) → S2.1 a i = q → S2.1 a j = (if j = i then q else kn j) := fun j hj a ha h1 h2 => by
        by_cases e : j = i
        · rw [if_pos e, e]; exact h2
        · rw [if_neg e, hf a j (by omega) (by omega) (by omega) (by omega) (by omega)]
          exact h1 j hj
      refine rl_mk (S := S) (m := m ||| 2 ^ i) (T := T) (pl := pl) (kn := fun j => if j = i then q else kn j) (r := r) ⟨d1, h16, d5⟩ (fun a k q1 q2 => hf a k (by omega) (by omega) (by omega) (by omega) (by omega)) (fun k _ _ => by rw [er2]) (fun a k q => by unfold rm_K at q; exact hf a k (by omega) (by omega) (by omega) (by omega) (by omega)) hc hm ⟨by rw [← s1]; exact funext fun k => hf 3 k (by omega) (by omega) (by omega) (by omega) (by omega), by rw [hf 1 1 (by omega) (by omega) (by omega) (by omega) (by omega)]; exact s2, by rw [hf 1 2 (by omega) (by omega) (by omega) (by omega) (by omega)]; exact s3, by rw [f2 1 12 (by omega) (by omega) (by omega)]; exact e12, fun j hj => kq j hj 123 (Or.inl rfl) s5 (by rw [f2 123 i (by omega) (by omega) (by omega)]; exact e123), by rw [hf 1 15 (by omega) (by omega) (by omega) (by omega) (by omega)]; exact s6, fun i hi => by rw [hf 127 i (by omega) (by omega) (by omega) (by omega) (by omega)]; exact s7 i hi, by rw [hf 1 18 (by omega) (by omega) (by omega) (by omega) (by omega)]; exact s8, fun i hi => by rw [hf 132 i (by omega) (by omega) (by omega) (by omega) (by omega)]; exact s9 i hi, fun i hi => by rw [hf 134 i (by omega) (by omega) (by omega) (by omega) (by omega)]; exact s10 i hi⟩ ⟨by rw [← t1]; exact funext fun k => hf 136 k (by omega) (by omega) (by omega) (by omega) (by omega), by rw [hf 135 2 (by omega) (by omega) (by omega) (by omega) (by omega)]; exact t2, by rw [hf 135 10 (by omega) (by omega) (by omega) (by omega) (by omega)]; exact t3, k2, fun j hj => kq j hj 174 (Or.inr rfl) t5 e174, by rw [hf 135 89 (by omega) (by omega) (by omega) (by omega) (by omega)]; exact t6, fun i hi => by rw [hf 175 i (by omega) (by omega) (by omega) (by omega) (by omega)]; exact t7 i hi, by rw [hf 135 95 (by omega) (by omega) (by omega) (by omega) (by omega)]; exact t8, fun i hi => by rw [hf 179 i (by omega) (by omega) (by omega) (by omega) (by omega)]; exact t9 i hi, by rw [hf 135 96 (by omega) (by omega) (by omega) (by omega) (by omega)]; exact t10, by rw [hf 135 97 (by omega) (by omega) (by omega) (by omega) (by omega)]; exact t11, by rw [hf 135 98 (by omega) (by omega) (by omega) (by omega) (by omega)]; exact t12⟩
end Op3
