/-! The calls that write: feed, back. -/
def ft_w (n : Nat) (x : Int32) (T : Nat → Int32) : Nat → Int32 := fun j => if j = n then x else T j
def ft_f (n : Nat) (x : Int32) (T : Nat → Int32) : Nat → Int32 := ft_w (n + 3) (tp_byte x 3) (ft_w (n + 2) (tp_byte x 2) (ft_w (n + 1) (tp_byte x 1) (ft_w n (tp_byte x 0) T)))
section Op4
variable {S S2 : wd_S} {p q x1 x2 x3 x4 x5 : Int32} {a b k n : Nat}
theorem ft_one {v : Int32} (h : ¬a = b) : (tp_one a b k n v S).1 a = ft_w n v (S.1 a) := funext fun j => by
  unfold tp_one ft_w
  rw [fr_ne (fun q => h q.1), fr_i1]
  by_cases e : j = n
  · rw [if_pos ⟨rfl, e⟩, if_pos e]
  · rw [if_neg (fun q => e q.2), if_neg e]
theorem ft_four {x : Int32} (h : ¬a = b) : (tp_four a b k n x S).1 a = ft_f n x (S.1 a) := by
  unfold tp_four ft_f
  rw [ft_one h, ft_one h, ft_one h, ft_one h]
theorem ft_feed (h : ¬a = b) : (tp_feed a b k n x1 x2 x3 x4 x5 S).1 a = ft_f (n + 16) x5 (ft_f (n + 12) x4 (ft_f (n + 8) x3 (ft_f (n + 4) x2 (ft_f n x1 (S.1 a))))) := by
  unfold tp_feed
  rw [ft_four h, ft_four h, ft_four h, ft_four h, ft_four h]
theorem ft_o1 {v : Int32} {c j : Nat} (h1 : ¬c = a) (h2 : ¬(c = b ∧ j = k)) : (tp_one a b k n v S).1 c j = S.1 c j := by
  unfold tp_one
  rw [fr_ne h2, fr_ne (fun q => h1 q.1)]
theorem ft_o4 {x : Int32} {c j : Nat} (h1 : ¬c = a) (h2 : ¬(c = b ∧ j = k)) : (tp_four a b k n x S).1 c j = S.1 c j := by
  unfold tp_four
  rw [ft_o1 h1 h2, ft_o1 h1 h2, ft_o1 h1 h2, ft_o1 h1 h2]
theorem ft_o {c j : Nat} (h1 : ¬c = a) (h2 : ¬(c = b ∧ j = k)) : (tp_feed a b k n x1 x2 x3 x4 x5 S).1 c j = S.1 c j := by
  unfold tp_feed
  rw [ft_o4 h1 h2, ft_o4 h1 h2, ft_o4 h1 h2, ft_o4 h1 h2, ft_o4 h1 h2]
theorem ft_21 {v : Int32} : (tp_one a b k n v S).2 = S.2 := rfl
theorem ft_24 {x : Int32} : (tp_four a b k n x S).2 = S.2 := by
  unfold tp_four
  rw [ft_21, ft_21, ft_21, ft_21]
theorem ft_2 : (tp_feed a b k n x1 x2 x3 x4 x5 S).2 = S.2 := by
  unfold tp_feed
  rw [ft_24, ft_24, ft_24, ft_24, ft_24]
theorem ft_n : (tp_feed a b k n x1 x2 x3 x4 x5 S).1 b k = Int32.ofNat (n + 20) := tp_fourL
/-- tape and its length anew on both sides -/
theorem rl_tape {T' : Nat → Int32} {n' : Nat} {pg ds : pg_T} {vs : List mk_V} {T : Nat → Int32} {m : Nat} {pl : Int32} {kn : Nat → Int32} {lo l : List Int32} {r : Nat → Int32} (hD : rl_D pg ds vs n m lo l) (hc : rc_P pg ds vs S) (hs : rc_s T n pl m kn lo l r S) (hm : rm_P pg ds vs S) (hms : rm_s T n pl m kn lo l r S) (hn : n' ≤ 8000) (hf : ∀ a k, ¬a = 3 → ¬(a = 1 ∧ k = 1) → ¬a = 136 → ¬(a = 135 ∧ (k = 0 ∨ k = 2)) → S2.1 a k = S.1 a k) (hr : S2.2.2.1 = S.2.2.1) (h3 : S2.1 3 = T') (h11 : S2.1 1 1 = Int32.ofNat n') (h136 : S2.1 136 = T') (h2 : S2.1 135 2 = Int32.ofNat n') : RL S2 := by
  obtain ⟨s1, s2, s3, s4, s5, s6, s7, s8, s9, s10⟩ := hs
  obtain ⟨t1, t2, t3, t4, t5, t6, t7, t8, t9, t10, t11, t12⟩ := hms
  obtain ⟨d1, d2⟩ := hD
  have g : ∀ a k, ¬a = 3 ∧ ¬(a = 1 ∧ k = 1) ∧ ¬a = 136 ∧ ¬(a = 135 ∧ (k = 0 ∨ k = 2)) → S2.1 a k = S.1 a k := fun a k q => hf a k q.1 q.2.1 q.2.2.1 q.2.2.2
  exact rl_mk (S := S) (n := n') (T := T') (pl := pl) (kn := kn) (r := r) ⟨hn, d2⟩ (fun a k q1 q2 => g a k (by omega)) (fun k _ _ => by rw [hr]) (fun a k q => g a k (by unfold rm_K at q; omega)) hc hm ⟨h3, h11, by rw [g 1 2 (by omega)]; exact s3, by rw [g 1 12 (by omega)]; exact s4, fun i hi => by rw [g 123 i (by omega)]; exact s5 i hi, by rw [g 1 15 (by omega)]; exact s6, fun i hi => by rw [g 127 i (by omega)]; exact s7 i hi, by rw [g 1 18 (by omega)]; exact s8, fun i hi => by rw [g 132 i (by omega)]; exact s9 i hi, fun i hi => by rw [g 134 i (by omega)]; exact s10 i hi⟩ ⟨h136, h2, by rw [g 135 10 (by omega)]; exact t3, fun i hi => by rw [g 173 i (by omega)]; exact t4 i hi, fun i hi => by rw [g 174 i (by omega)]; exact t5 i hi, by rw [g 135 89 (by omega)]; exact t6, fun i hi => by rw [g 175 i (by omega)]; exact t7 i hi, by rw [g 135 95 (by omega)]; exact t8, fun i hi => by rw [g 179 i (by omega)]; exact t9 i hi, by rw [g 135 96 (by omega)]; exact t10, by rw [g 135 97 (by omega)]; exact t11, by rw [g 135 98 (by omega)]; exact t12⟩
theorem op_feed (h : RL S) : ∃ x S1 y S2, fn_La_feed x1 x2 x3 x4 x5 S = some (x, S1) ∧ fn_Mo_feed x1 x2 x3 x4 x5 S1 = some (y, S2) ∧ LX x y S S2 := by
  have h0 := h
  obtain ⟨pg, ds, vs, T, n, pl, m, kn, lo, l, r, hD, hc, hs, hm, hms⟩ := h
  have e1 := hs.2.1
  have e2 := hms.2.1
  have h8 := hD.1
  have e20 : Int32.ofNat n + 20 = Int32.ofNat (n + 20) := (Int32.ofNat_add n 20).symm
  have hcmp : (8000 : Int32) < Int32.ofNat (n + 20) ↔ 8000 < n + 20 := im_lt (m := 8000) (by omega) (by omega)
  unfold fn_La_feed
  rw [sp_feed e1 h8]
  by_cases hp : 8000 < n + 20
  · rw [if_pos hp]
    refine ⟨1, wd_n S, 0, wd_i (wd_n S) 135 0 1, rfl, ?_, ls_x h0 (by decide)⟩
    unfold fn_Mo_feed fn_Mo_feed_19
    simp only [wd_b]
    rw [show (wd_n S).1 135 2 = Int32.ofNat n from e2, e20, if_pos (hcmp.mpr hp), fr_eq, if_pos (show (0 : Int32) < 1 by decide)]
  · rw [if_neg hp]
    generalize hS1 : wd_l (tp_feed 3 1 1 n x1 x2 x3 x4 x5 S) 180 0 (Int32.ofNat (n + 20)).toInt64 = S1
    have f1 : ∀ a k, ¬a = 3 → ¬(a = 1 ∧ k = 1) → S1.1 a k = S.1 a k := fun a k q1 q2 => by rw [← hS1, fr_l2, ft_o q1 q2]
    have g3 : S1.1 3 = ft_f (n + 16) x5 (ft_f (n + 12) x4 (ft_f (n + 8) x3 (ft_f (n + 4) x2 (ft_f n x1 T)))) := by rw [← hS1, fr_l2, ft_feed (by decide), hs.1]
    have g1 : S1.1 1 1 = Int32.ofNat (n + 20) := by rw [← hS1, fr_l2, ft_n]
    have e180 : S1.2.1 180 0 = (Int32.ofNat (n + 20)).toInt64 := by rw [← hS1, fr_l1, if_pos ⟨rfl, rfl⟩]
    have er : S1.2.2 = S.2.2 := by rw [← hS1, fr_l3, ft_2]
    have hS2n : (wd_i S1 135 0 0).1 135 2 = Int32.ofNat n := by rw [fr_ne (by omega), f1 135 2 (by omega) (by omega)]; exact e2
    generalize hS2 : tp_feed 136 135 2 n x1 x2 x3 x4 x5 (wd_i S1 135 0 0) = S2
    have f2 : ∀ a k, ¬a = 136 → ¬(a = 135 ∧ (k = 0 ∨ k = 2)) → S2.1 a k = S1.1 a k := fun a k q1 q2 => by rw [← hS2, ft_o q1 (by omega), fr_ne (by omega)]
    have e0 : S2.1 135 0 = 0 := by rw [← hS2, ft_o (by omega) (by omega), fr_eq]
    have e136 : (wd_i S1 135 0 0).1 136 = T := by
      rw [← hms.1]
      exact funext fun k => by rw [fr_ne (by omega), f1 136 k (by omega) (by omega)]
    have g136 : S2.1 136 = ft_f (n + 16) x5 (ft_f (n + 12) x4 (ft_f (n + 8) x3 (ft_f (n + 4) x2 (ft_f n x1 T)))) := by rw [← hS2, ft_feed (by decide), e136]
    have g2 : S2.1 135 2 = Int32.ofNat (n + 20) := by rw [← hS2, ft_n]
    have er2 : S2.2.2 = S.2.2 := by rw [← hS2, ft_2]; exact er
    refine ⟨0, S1, Int32.ofNat (n + 20), S2, ?_, ?_, ?_, e0, fun _ => by rw [← hS2, ft_2]; exact e180, by rw [er2]; exact Nat.le_succ _⟩
    · rw [wd_c_s]
      show (if (0 : Int32) < 0 ∨ 1 ≤ (0 : Int32).toNatClampNeg then none else _) = _
      rw [if_neg la_g, ← hS1]
      rfl
    · unfold fn_Mo_feed fn_Mo_feed_19
      simp only [wd_b]
      rw [f1 135 2 (by omega) (by omega), e2, e20, if_neg (fun q => hp (hcmp.mp q)), fr_eq, if_neg (show ¬(0 : Int32) < 0 by decide), mo_feed hS2n (by omega), hS2]
    · exact rl_tape (n' := n + 20) hD hc hs hm hms (by omega) (fun a k q1 q2 q3 q4 => by rw [f2 a k q3 q4, f1 a k q1 q2]) (by rw [er2]) (by rw [← g3]; exact funext fun k => f2 3 k (by omega) (by omega)) (by rw [f2 1 1 (by omega) (by omega)]; exact g1) g136 g2
theorem op_back (h : RL S) : ∃ x S1 y S2, fn_La_back S = some (x, S1) ∧ fn_Mo_back S1 = some (y, S2) ∧ LX x y S S2 := by
  have h0 := h
  obtain ⟨pg, ds, vs, T, n, pl, m, kn, lo, l, r, hD, hc, hs, hm, hms⟩ := h
  have e1 := hs.2.2.2.2.2.1
  have e2 := hms.2.2.2.2.2.1
  have h4 := hD.2.2.1
  have hcmp : (8000 : Int32) < Int32.ofNat lo.length ↔ 8000 < lo.length := im_lt (m := 8000) (by omega) (by omega)
  unfold fn_La_back fn_Sp_back
  rw [e1]
  by_cases hp : 8000 < lo.length
  · rw [if_pos (hcmp.mpr hp)]
    refine ⟨1, wd_n S, 0, wd_i (wd_n S) 135 0 1, rfl, ?_, ls_x h0 (by decide)⟩
    unfold fn_Mo_back fn_Mo_back_16
    simp only [wd_b]
    rw [show (wd_n S).1 135 89 = Int32.ofNat lo.length from e2, if_pos (hcmp.mpr hp), fr_eq, if_pos (show (0 : Int32) < 1 by decide)]
  · rw [if_neg (fun q => hp (hcmp.mp q))]
    have hb := sp_back_l (n := lo.length) (by omega) lo.length 0 wd_F S (by omega) (by rw [show wd_F = 1000000 from rfl]; omega) e1
    have hb : fn_Sp_back_22 wd_F 0 S = some (.inl (Int32.ofNat lo.length), wd_i (wd_cp 3 127 0 lo.length S) 1 1 (Int32.ofNat lo.length)) := hb
    rw [hb]
    generalize hS1 : wd_l (wd_i (wd_cp 3 127 0 lo.length S) 1 1 (Int32.ofNat lo.length)) 180 0 (Int32.ofNat lo.length).toInt64 = S1
    have f1 : ∀ a k, ¬a = 3 → ¬(a = 1 ∧ k = 1) → S1.1 a k = S.1 a k := fun a k q1 q2 => by rw [← hS1, fr_l2, fr_ne q2, wd_cpn q1]
    have g3 : S1.1 3 = fun j => if j < lo.length then lo.getD j 0 else T j := funext fun j => by
      rw [← hS1, fr_l2, fr_ne (by omega)]
      show (if 3 = 3 ∧ 0 ≤ j ∧ j < lo.length then S.1 127 j else S.1 3 j) = _
      by_cases e : j < lo.length
      · rw [if_pos ⟨rfl, Nat.zero_le _, e⟩, if_pos e, hs.2.2.2.2.2.2.1 j e, List.getD_eq_getElem?_getD, List.getElem?_eq_getElem e]
        rfl
      · rw [if_neg (fun q => e q.2.2), if_neg e, hs.1]
    have g1 : S1.1 1 1 = Int32.ofNat lo.length := by rw [← hS1, fr_l2, fr_eq]
    have e180 : S1.2.1 180 0 = (Int32.ofNat lo.length).toInt64 := by rw [← hS1, fr_l1, if_pos ⟨rfl, rfl⟩]
    have er : S1.2.2 = S.2.2 := by rw [← hS1]; rfl
    have h89 : (wd_i S1 135 0 0).1 135 89 = Int32.ofNat lo.length := by rw [fr_ne (by omega), f1 135 89 (by omega) (by omega)]; exact e2
    have mb := mo_back_l (n := lo.length) (by omega) lo.length 0 wd_F (wd_i S1 135 0 0) (by omega) (by rw [show wd_F = 1000000 from rfl]; omega) h89
    have mb : fn_Mo_back_30 wd_F 0 (wd_i S1 135 0 0) = some (Int32.ofNat lo.length, wd_i (wd_cp 136 175 0 lo.length (wd_i S1 135 0 0)) 135 2 (Int32.ofNat lo.length)) := mb
    generalize hS2 : wd_i (wd_cp 136 175 0 lo.length (wd_i S1 135 0 0)) 135 2 (Int32.ofNat lo.length) = S2 at mb
    have f2 : ∀ a k, ¬a = 136 → ¬(a = 135 ∧ (k = 0 ∨ k = 2)) → S2.1 a k = S1.1 a k := fun a k q1 q2 => by rw [← hS2, fr_ne (by omega), wd_cpn q1, fr_ne (by omega)]
    have e0 : S2.1 135 0 = 0 := by rw [← hS2, fr_ne (by omega), wd_cpn (by omega), fr_eq]
    have g136 : S2.1 136 = fun j => if j < lo.length then lo.getD j 0 else T j := funext fun j => by
      rw [← hS2, fr_ne (by omega)]
      show (if 136 = 136 ∧ 0 ≤ j ∧ j < lo.length then (wd_i S1 135 0 0).1 175 j else (wd_i S1 135 0 0).1 136 j) = _
      by_cases e : j < lo.length
      · rw [if_pos ⟨rfl, Nat.zero_le _, e⟩, if_pos e, fr_ne (by omega), f1 175 j (by omega) (by omega), hms.2.2.2.2.2.2.1 j e, List.getD_eq_getElem?_getD, List.getElem?_eq_getElem e]
        rfl
      · rw [if_neg (fun q => e q.2.2), if_neg e, fr_ne (by omega), f1 136 j (by omega) (by omega), hms.1]
    have g2 : S2.1 135 2 = Int32.ofNat lo.length := by rw [← hS2, fr_eq]
    have er2 : S2.2.2 = S.2.2 := by rw [← hS2]; exact er
    refine ⟨0, S1, Int32.ofNat lo.length, S2, ?_, ?_, ?_, e0, fun _ => by rw [← hS2]; exact e180, by rw [er2]; exact Nat.le_succ _⟩
    · rw [wd_c_s]
      show (if (0 : Int32) < 0 ∨ 1 ≤ (0 : Int32).toNatClampNeg then none else _) = _
      rw [if_neg la_g, ← hS1]
      rfl
    · unfold fn_Mo_back fn_Mo_back_16
      simp only [wd_b]
      rw [f1 135 89 (by omega) (by omega), e2, if_neg (fun q => hp (hcmp.mp q)), fr_eq, if_neg (show ¬(0 : Int32) < 0 by decide), mb]
    · exact rl_tape (n' := lo.length) hD hc hs hm hms (by omega) (fun a k q1 q2 q3 q4 => by rw [f2 a k q3 q4, f1 a k q1 q2]) (by rw [er2]) (by rw [← g3]; exact funext fun k => f2 3 k (by omega) (by omega)) (by rw [f2 1 1 (by omega) (by omega)]; exact g1) g136 g2
end Op4
