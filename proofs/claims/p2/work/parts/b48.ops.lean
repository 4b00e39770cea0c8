/-! The calls, one by one: small ones. -/
def LX (x y : Int32) (S S2 : wd_S) : Prop := RL S2 ∧ S2.1 135 0 = x ∧ (x = 0 → S2.2.1 180 0 = y.toInt64) ∧ S2.2.2.2 ≤ S.2.2.2 + 1
theorem la_g : ¬((0 : Int32) < 0 ∨ 1 ≤ (0 : Int32).toNatClampNeg) := by decide
section Op
variable {S : wd_S} {p q : Int32}
theorem rl_e {S' : wd_S} (h1 : ∀ a k, ¬(a = 135 ∧ k = 0) → S'.1 a k = S.1 a k) (h2 : S'.2.2.1 = S.2.2.1) (h : RL S) : RL S' := by
  obtain ⟨pg, ds, vs, T, n, pl, m, kn, lo, l, r, hD, hc, hs, hm, hms⟩ := h
  refine ⟨pg, ds, vs, T, n, pl, m, kn, lo, l, r, hD, rc_P_o (fun a q1 q2 => funext fun k => h1 a k (by omega)) (fun k _ _ => by rw [h2]) hc, rc_s_o (fun a q => funext fun k => h1 a k (by omega)) hs, rm_P_o (fun a k q => h1 a k (by unfold rm_K at q; omega)) hD.2.2.2.2.1.1 hm, rm_s_o (fun a k q => h1 a k (by omega)) hms⟩
theorem ls_x {c : Int32} (h : RL S) (hc : ¬c = 0) : LX c 0 S (wd_i (wd_n S) 135 0 c) := ⟨rl_e (S := S) (fun a k q => (show (wd_i (wd_n S) 135 0 c).1 a k = (wd_n S).1 a k from fr_ne q)) rfl h, fr_eq, fun z => absurd z hc, Nat.le_refl _⟩
theorem ls_v {y : Int32} (h : RL S) : LX 0 y S (wd_i (wd_l S 180 0 y.toInt64) 135 0 0) := ⟨rl_e (S := S) (fun a k q => (show (wd_i (wd_l S 180 0 y.toInt64) 135 0 0).1 a k = (wd_l S 180 0 y.toInt64).1 a k from fr_ne q)) rfl h, fr_eq, fun _ => by show (wd_l S 180 0 y.toInt64).2.1 180 0 = _; rw [fr_l1, if_pos ⟨rfl, rfl⟩], Nat.le_succ _⟩
theorem op_place (h : RL S) : ∃ x y S2, fn_Sp_place S = some (x, S) ∧ fn_Mo_place S = some (y, S2) ∧ RL S2 ∧ x = y ∧ S2.1 135 0 = 0 ∧ S2.2.2.2 = S.2.2.2 := by
  have h0 := h
  obtain ⟨pg, ds, vs, T, n, pl, m, kn, lo, l, r, hD, hc, hs, hm, hms⟩ := h
  exact ⟨_, _, _, rfl, mo_place S, rl_e (fun a k q => fr_ne q) rfl h0, by rw [hs.2.2.1, hms.2.2.1], fr_eq, rfl⟩
theorem op_cut (h : RL S) : ∃ x S1 y S2, fn_La_cut p S = some (x, S1) ∧ fn_Mo_cut p S1 = some (y, S2) ∧ LX x y S S2 := by
  have h0 := h
  obtain ⟨pg, ds, vs, T, n, pl, m, kn, lo, l, r, hD, hc, hs, hm, hms⟩ := h
  have e1 := hs.2.1
  have e2 := hms.2.1
  have h8 := hD.1
  unfold fn_La_cut
  rw [sp_cut, e1]
  by_cases hp : p < 0 ∨ Int32.ofNat n < p
  · rw [if_pos hp]
    refine ⟨1, wd_n S, 0, wd_i (wd_n S) 135 0 1, rfl, ?_, ls_x h0 (by decide)⟩
    rw [mo_cut, show (wd_n S).1 135 2 = Int32.ofNat n from e2, if_pos hp]
  · rw [if_neg hp]
    have hp0 : ¬p < 0 := fun z => hp (Or.inl z)
    have hpn : p.toNatClampNeg ≤ n := by
      have : ¬n < p.toNatClampNeg := fun z => hp (Or.inr (by
        rw [← im_of hp0]
        exact (im_lt (by omega) (im_tl p)).mpr z))
      omega
    have ep := im_of hp0
    refine ⟨0, wd_l (wd_i S 1 1 p) 180 0 (Int32.ofNat n - p).toInt64, Int32.ofNat n - p, wd_i (wd_i (wd_l (wd_i S 1 1 p) 180 0 (Int32.ofNat n - p).toInt64) 135 0 0) 135 2 p, ?_, ?_, ?_, ?_, fun _ => ?_, Nat.le_succ _⟩
    · show wd_c (some (Sum.inl (Int32.ofNat n - p), wd_i S 1 1 p)) _ = _
      rw [wd_c_s]
      show (if (0 : Int32) < 0 ∨ 1 ≤ (0 : Int32).toNatClampNeg then none else _) = _
      rw [if_neg la_g]
      rfl
    · have e3 : (wd_l (wd_i S 1 1 p) 180 0 (Int32.ofNat n - p).toInt64).1 135 2 = Int32.ofNat n := by
        show (wd_i S 1 1 p).1 135 2 = _
        rw [fr_ne (by omega)]
        exact e2
      rw [mo_cut, e3, if_neg hp]
    · generalize hS2 : wd_i (wd_i (wd_l (wd_i S 1 1 p) 180 0 (Int32.ofNat n - p).toInt64) 135 0 0) 135 2 p = S2
      have hf : ∀ a k, ¬(a = 1 ∧ k = 1) → ¬(a = 135 ∧ (k = 0 ∨ k = 2)) → S2.1 a k = S.1 a k := fun a k q1 q2 => by
        rw [← hS2, fr_ne (by omega), fr_ne (by omega)]
        show (wd_i S 1 1 p).1 a k = _
        rw [fr_ne q1]
      have f1 : S2.1 1 1 = p := by
        rw [← hS2, fr_ne (by omega), fr_ne (by omega)]
        show (wd_i S 1 1 p).1 1 1 = _
        rw [fr_eq]
      have f2 : S2.1 135 2 = p := by rw [← hS2, fr_eq]
      obtain ⟨s1, s2, s3, s4, s5, s6, s7, s8, s9, s10⟩ := hs
      obtain ⟨t1, t2, t3, t4, t5, t6, t7, t8, t9, t10, t11, t12⟩ := hms
      obtain ⟨d1, d2⟩ := hD
      refine ⟨pg, ds, vs, T, p.toNatClampNeg, pl, m, kn, lo, l, r, ⟨by omega, d2⟩, rc_P_o (fun a q1 q2 => funext fun k => hf a k (by omega) (by omega)) (fun k _ _ => by rw [← hS2]; rfl) hc, ⟨by rw [← s1]; exact funext fun k => hf 3 k (by omega) (by omega), by rw [f1, ep], by rw [hf 1 2 (by omega) (by omega)]; exact s3, by rw [hf 1 12 (by omega) (by omega)]; exact s4, fun i hi => by rw [hf 123 i (by omega) (by omega)]; exact s5 i hi, by rw [hf 1 15 (by omega) (by omega)]; exact s6, fun i hi => by rw [hf 127 i (by omega) (by omega)]; exact s7 i hi, by rw [hf 1 18 (by omega) (by omega)]; exact s8, fun i hi => by rw [hf 132 i (by omega) (by omega)]; exact s9 i hi, fun i hi => by rw [hf 134 i (by omega) (by omega)]; exact s10 i hi⟩, rm_P_o (fun a k q => hf a k (by unfold rm_K at q; omega) (by unfold rm_K at q; omega)) d2.2.2.2.1.1 hm, ⟨by rw [← t1]; exact funext fun k => hf 136 k (by omega) (by omega), by rw [f2, ep], by rw [hf 135 10 (by omega) (by omega)]; exact t3, fun i hi => by rw [hf 173 i (by omega) (by omega)]; exact t4 i hi, fun i hi => by rw [hf 174 i (by omega) (by omega)]; exact t5 i hi, by rw [hf 135 89 (by omega) (by omega)]; exact t6, fun i hi => by rw [hf 175 i (by omega) (by omega)]; exact t7 i hi, by rw [hf 135 95 (by omega) (by omega)]; exact t8, fun i hi => by rw [hf 179 i (by omega) (by omega)]; exact t9 i hi, by rw [hf 135 96 (by omega) (by omega)]; exact t10, by rw [hf 135 97 (by omega) (by omega)]; exact t11, by rw [hf 135 98 (by omega) (by omega)]; exact t12⟩⟩
    · rw [fr_ne (by omega), fr_eq]
    · show (wd_l (wd_i S 1 1 p) 180 0 (Int32.ofNat n - p).toInt64).2.1 180 0 = _
      rw [fr_l1, if_pos ⟨rfl, rfl⟩]
end Op
