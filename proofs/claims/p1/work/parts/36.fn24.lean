/-! Methods as functions: printed by wip/whole/gen_fn.py. -/
theorem mx_207 : mi_mx tb_P 207 = 2 := rfl
noncomputable def fn_Mo_ran_59 (s0 : Int32) (S : wd_S) : Option (Int32 × wd_S) :=
  some (s0, S)
set_option maxRecDepth 100000 in
theorem sn_Mo_ran_59 {L : Nat} {xs : Nat → Int32} {s0 : Int32} {S : wd_S} {x : Int32} {S' : wd_S} (h : fn_Mo_ran_59 s0 S = some (x, S')) : go_r tb_P L xs 1 207 59 [] [.int s0] (wd_k S) (.inl (some (.int x)), wd_k S') := by
  unfold fn_Mo_ran_59 at h
  cases h
  exact bk_t tb_c_207_0 rfl rfl
noncomputable def fn_Mo_ran_18 (l1 : Int32) (s1 : Int32) (S : wd_S) : Option (Int32 × wd_S) :=
  (wd_b (wd_i S 135 0 s1) fun S5 =>
  (if 0 < (S5.1 135 0) then
    fn_Mo_ran_59 (0 : Int32) S5
  else
    (if l1 = 0 then
      fn_Mo_ran_59 (S5.1 135 96) S5
    else
      (if l1 = (1 : Int32) then
        fn_Mo_ran_59 (S5.1 135 97) S5
      else
        fn_Mo_ran_59 (S5.1 135 98) S5))))
set_option maxRecDepth 100000 in
theorem sn_Mo_ran_18 {L : Nat} {xs : Nat → Int32} {l1 : Int32} {s1 : Int32} {S : wd_S} {x : Int32} {S' : wd_S} (h : fn_Mo_ran_18 l1 s1 S = some (x, S')) : go_r tb_P L xs 1 207 18 [(0, .ref 135), (1, .int l1)] [.int s1, .ref 135] (wd_k S) (.inl (some (.int x)), wd_k S') := by
  unfold fn_Mo_ran_18 at h
  obtain ⟨S5, eS5, h⟩ := wd_bx h
  refine bk_pi tb_c_207_0 rfl rfl (ci := 11) (k := 0) rfl rfl rfl rfl ?_
  rw [eS5]
  refine bk_b (q := (22, [(0, .ref 135), (1, .int l1)], [.ref 135])) tb_c_207_0 mx_207 1 rfl ?_
  refine bk_gi tb_c_207_0 rfl rfl (ci := 11) (k := 0) rfl rfl rfl ?_
  by_cases g6 : 0 < (S5.1 135 0)
  · rw [if_pos g6] at h
    refine bk_zf tb_c_207_0 rfl (pc' := 28) rfl (t := 32) rfl (cm_le_f g6) ?_
    refine bk_b (q := (59, [(0, .ref 135), (1, .int l1)], [.int (0 : Int32)])) tb_c_207_0 mx_207 2 rfl ?_
    exact go_lv ls_nil (sn_Mo_ran_59 h)
  · rw [if_neg g6] at h
    refine bk_zt tb_c_207_0 rfl (pc' := 32) rfl (cm_le_t g6) ?_
    refine bk_b (q := (33, [(0, .ref 135), (1, .int l1)], [.int l1])) tb_c_207_0 mx_207 1 rfl ?_
    by_cases g7 : l1 = 0
    · rw [if_pos g7] at h
      refine bk_zf tb_c_207_0 rfl (pc' := 36) rfl (t := 43) rfl (cm_ne_f g7) ?_
      refine bk_b (q := (37, [(0, .ref 135), (1, .int l1)], [.ref 135])) tb_c_207_0 mx_207 1 rfl ?_
      refine bk_gi tb_c_207_0 rfl rfl (ci := 11) (k := 96) rfl rfl rfl ?_
      refine bk_b (q := (59, [(0, .ref 135), (1, .int l1)], [.int (S5.1 135 96)])) tb_c_207_0 mx_207 1 rfl ?_
      exact go_lv ls_nil (sn_Mo_ran_59 h)
    · rw [if_neg g7] at h
      refine bk_zt tb_c_207_0 rfl (pc' := 43) rfl (cm_ne_t g7) ?_
      refine bk_b (q := (45, [(0, .ref 135), (1, .int l1)], [.int (1 : Int32), .int l1])) tb_c_207_0 mx_207 2 rfl ?_
      by_cases g8 : l1 = (1 : Int32)
      · rw [if_pos g8] at h
        refine bk_jf tb_c_207_0 rfl (pc' := 48) rfl (t := 55) rfl (cm_ne_f g8) ?_
        refine bk_b (q := (49, [(0, .ref 135), (1, .int l1)], [.ref 135])) tb_c_207_0 mx_207 1 rfl ?_
        refine bk_gi tb_c_207_0 rfl rfl (ci := 11) (k := 97) rfl rfl rfl ?_
        refine bk_b (q := (59, [(0, .ref 135), (1, .int l1)], [.int (S5.1 135 97)])) tb_c_207_0 mx_207 1 rfl ?_
        exact go_lv ls_nil (sn_Mo_ran_59 h)
      · rw [if_neg g8] at h
        refine bk_jt tb_c_207_0 rfl (pc' := 55) rfl (cm_ne_t g8) ?_
        refine bk_b (q := (56, [(0, .ref 135), (1, .int l1)], [.ref 135])) tb_c_207_0 mx_207 1 rfl ?_
        refine bk_gi tb_c_207_0 rfl rfl (ci := 11) (k := 98) rfl rfl rfl ?_
        exact go_lv ls_nil (sn_Mo_ran_59 h)
/-- SpecialiserModel.ran(I)I -/
noncomputable def fn_Mo_ran (p1 : Int32) (S : wd_S) : Option (Int32 × wd_S) :=
  (wd_c (fn_Mo_within ((p1).toInt64) (0 : Int64) (2 : Int64) S) fun x2 S1 =>
  (if x2 = 0 then
    fn_Mo_ran_18 p1 (1 : Int32) S1
  else
    fn_Mo_ran_18 p1 (0 : Int32) S1))
set_option maxRecDepth 100000 in
theorem sn_Mo_ran {L : Nat} {xs : Nat → Int32} {p1 : Int32} {S : wd_S} {x : Int32} {S' : wd_S} (h : fn_Mo_ran p1 S = some (x, S')) : ev_r tb_P L xs (1 + 1) 207 [.ref 135, .int p1] (wd_k S) (.inl (some (.int x)), wd_k S') := by
  unfold fn_Mo_ran at h
  refine ev_of (Nat.le_of_ble_eq_true rfl) ?_
  show go_r tb_P L xs 1 207 0 [(0, .ref 135), (1, .int p1)] [] (wd_k S) (.inl (some (.int x)), wd_k S')
  refine bk_b (q := (4, [(0, .ref 135), (1, .int p1)], [.long (0 : Int64), .long ((p1).toInt64), .ref 135])) tb_c_207_0 mx_207 4 rfl ?_
  refine bk_c8 tb_c_207_0 rfl rfl (x := (2 : Int64)) rfl ?_
  obtain ⟨x2, S1, c3, h⟩ := wd_cx h
  refine bk_ks tb_c_207_0 rfl rfl rfl (by decide) rfl rfl (ev_up (Nat.le_of_ble_eq_true rfl) (sn_Mo_within c3)) ?_
  by_cases g4 : x2 = 0
  · rw [if_pos g4] at h
    refine bk_zt tb_c_207_0 rfl (pc' := 17) rfl (cm_eq_t g4) ?_
    refine bk_b (q := (18, [(0, .ref 135), (1, .int p1)], [.int (1 : Int32), .ref 135])) tb_c_207_0 mx_207 1 rfl ?_
    exact go_lv (ls_sc rfl rfl (ls_sc rfl rfl ls_nil)) (sn_Mo_ran_18 h)
  · rw [if_neg g4] at h
    refine bk_zf tb_c_207_0 rfl (pc' := 13) rfl (t := 17) rfl (cm_eq_f g4) ?_
    refine bk_b (q := (18, [(0, .ref 135), (1, .int p1)], [.int (0 : Int32), .ref 135])) tb_c_207_0 mx_207 2 rfl ?_
    exact go_lv (ls_sc rfl rfl (ls_sc rfl rfl ls_nil)) (sn_Mo_ran_18 h)
theorem mx_208 : mi_mx tb_P 208 = 8 := rfl
/-- SpecialiserLaw.feed(LSpecialiser;IIIII[J)I -/
noncomputable def fn_La_feed (p1 : Int32) (p2 : Int32) (p3 : Int32) (p4 : Int32) (p5 : Int32) (S : wd_S) : Option (Int32 × wd_S) :=
  (wd_c (fn_Sp_feed p1 p2 p3 p4 p5 S) fun x2o S1 => wd_o x2o (fun x2 =>
  (if (0 : Int32) < 0 ∨ 1 ≤ (0 : Int32).toNatClampNeg then none else
  (wd_b (wd_l S1 180 (0 : Int32).toNatClampNeg ((x2).toInt64)) fun S6 =>
  some ((0 : Int32), S6)))) (fun E4 =>
    (if E4 = "java/lang/IllegalStateException" then
      some ((1 : Int32), S1)
    else
    none)))
set_option maxRecDepth 100000 in
theorem sn_La_feed {L : Nat} {xs : Nat → Int32} {p1 : Int32} {p2 : Int32} {p3 : Int32} {p4 : Int32} {p5 : Int32} {S : wd_S} {x : Int32} {S' : wd_S} (h : fn_La_feed p1 p2 p3 p4 p5 S = some (x, S')) : ev_r tb_P L xs (3 + 1) 208 [.ref 1, .int p1, .int p2, .int p3, .int p4, .int p5, .ref 180] (wd_k S) (.inl (some (.int x)), wd_k S') := by
  unfold fn_La_feed at h
  refine ev_of (Nat.le_of_ble_eq_true rfl) ?_
  show go_r tb_P L xs 3 208 0 [(0, .ref 1), (1, .int p1), (2, .int p2), (3, .int p3), (4, .int p4), (5, .int p5), (6, .ref 180)] [] (wd_k S) (.inl (some (.int x)), wd_k S')
  refine bk_b (q := (11, [(0, .ref 1), (1, .int p1), (2, .int p2), (3, .int p3), (4, .int p4), (5, .int p5), (6, .ref 180)], [.int p5, .int p4, .int p3, .int p2, .int p1, .ref 1, .int (0 : Int32), .ref 180])) tb_c_208_0 mx_208 8 rfl ?_
  obtain ⟨x2o, S1, c3, h⟩ := wd_cx h
  rcases wd_ox h with ⟨x2, rfl, nx2⟩ | ⟨E4, rfl, nx2⟩
  · replace h := nx2
    refine bk_kv tb_c_208_0 rfl rfl rfl rfl rfl (ci := 10) rfl rfl (ev_up (Nat.le_of_ble_eq_true rfl) (sn_Sp_feed c3)) ?_
    refine bk_b (q := (15, [(0, .ref 1), (1, .int p1), (2, .int p2), (3, .int p3), (4, .int p4), (5, .int p5), (6, .ref 180)], [.long ((x2).toInt64), .int (0 : Int32), .ref 180])) tb_c_208_0 mx_208 1 rfl ?_
    by_cases g5 : (0 : Int32) < 0 ∨ 1 ≤ (0 : Int32).toNatClampNeg
    · rw [if_pos g5] at h; cases h
    · rw [if_neg g5] at h
      obtain ⟨S6, eS6, h⟩ := wd_bx h
      refine bk_s8 tb_c_208_0 rfl rfl rfl g5 ?_
      rw [eS6]
      refine bk_b (q := (24, [(0, .ref 1), (1, .int p1), (2, .int p2), (3, .int p3), (4, .int p4), (5, .int p5), (6, .ref 180)], [.int (0 : Int32)])) tb_c_208_0 mx_208 2 rfl ?_
      cases h
      exact bk_t tb_c_208_0 rfl rfl
  · replace h := nx2
    by_cases g7 : E4 = "java/lang/IllegalStateException"
    · rw [if_pos g7] at h
      subst g7
      refine bk_kw tb_c_208_0 rfl rfl rfl rfl (ci := 10) rfl rfl (ev_up (Nat.le_of_ble_eq_true rfl) (sn_Sp_feed c3)) (hp := 19) (show mi_ca tb_P 208 11 "java/lang/IllegalStateException" = some 19 by decide +kernel) tb_c_208_0 (pc' := 21) rfl rfl rfl (lv' := [(0, .ref 1), (1, .int p1), (2, .int p2), (3, .int p3), (4, .int p4), (5, .int p5), (6, .ref 180)]) rfl ?_
      refine bk_b (q := (22, [(0, .ref 1), (1, .int p1), (2, .int p2), (3, .int p3), (4, .int p4), (5, .int p5), (6, .ref 180)], [.int (1 : Int32)])) tb_c_208_0 mx_208 1 rfl ?_
      cases h
      exact bk_t tb_c_208_0 rfl rfl
    · rw [if_neg g7] at h
      cases h
theorem mx_209 : mi_mx tb_P 209 = 4 := rfl
/-- SpecialiserLaw.cut(LSpecialiser;I[J)I -/
noncomputable def fn_La_cut (p1 : Int32) (S : wd_S) : Option (Int32 × wd_S) :=
  (wd_c (fn_Sp_cut p1 S) fun x2o S1 => wd_o x2o (fun x2 =>
  (if (0 : Int32) < 0 ∨ 1 ≤ (0 : Int32).toNatClampNeg then none else
  (wd_b (wd_l S1 180 (0 : Int32).toNatClampNeg ((x2).toInt64)) fun S6 =>
  some ((0 : Int32), S6)))) (fun E4 =>
    (if E4 = "java/lang/IllegalArgumentException" then
      some ((1 : Int32), S1)
    else
    none)))
set_option maxRecDepth 100000 in
theorem sn_La_cut {L : Nat} {xs : Nat → Int32} {p1 : Int32} {S : wd_S} {x : Int32} {S' : wd_S} (h : fn_La_cut p1 S = some (x, S')) : ev_r tb_P L xs (1 + 1) 209 [.ref 1, .int p1, .ref 180] (wd_k S) (.inl (some (.int x)), wd_k S') := by
  unfold fn_La_cut at h
  refine ev_of (Nat.le_of_ble_eq_true rfl) ?_
  show go_r tb_P L xs 1 209 0 [(0, .ref 1), (1, .int p1), (2, .ref 180)] [] (wd_k S) (.inl (some (.int x)), wd_k S')
  refine bk_b (q := (4, [(0, .ref 1), (1, .int p1), (2, .ref 180)], [.int p1, .ref 1, .int (0 : Int32), .ref 180])) tb_c_209_0 mx_209 4 rfl ?_
  obtain ⟨x2o, S1, c3, h⟩ := wd_cx h
  rcases wd_ox h with ⟨x2, rfl, nx2⟩ | ⟨E4, rfl, nx2⟩
  · replace h := nx2
    refine bk_kv tb_c_209_0 rfl rfl rfl rfl rfl (ci := 10) rfl rfl (ev_up (Nat.le_of_ble_eq_true rfl) (sn_Sp_cut c3)) ?_
    refine bk_b (q := (8, [(0, .ref 1), (1, .int p1), (2, .ref 180)], [.long ((x2).toInt64), .int (0 : Int32), .ref 180])) tb_c_209_0 mx_209 1 rfl ?_
    by_cases g5 : (0 : Int32) < 0 ∨ 1 ≤ (0 : Int32).toNatClampNeg
    · rw [if_pos g5] at h; cases h
    · rw [if_neg g5] at h
      obtain ⟨S6, eS6, h⟩ := wd_bx h
      refine bk_s8 tb_c_209_0 rfl rfl rfl g5 ?_
      rw [eS6]
      refine bk_b (q := (16, [(0, .ref 1), (1, .int p1), (2, .ref 180)], [.int (0 : Int32)])) tb_c_209_0 mx_209 2 rfl ?_
      cases h
      exact bk_t tb_c_209_0 rfl rfl
  · replace h := nx2
    by_cases g7 : E4 = "java/lang/IllegalArgumentException"
    · rw [if_pos g7] at h
      subst g7
      refine bk_kn tb_c_209_0 rfl rfl rfl rfl (ci := 10) rfl rfl (ev_up (Nat.le_of_ble_eq_true rfl) (sn_Sp_cut c3)) (hp := 12) (show mi_ca tb_P 209 4 "java/lang/IllegalArgumentException" = some 12 by decide +kernel) tb_c_209_0 (pc' := 13) rfl rfl rfl (lv' := [(0, .ref 1), (1, .int p1), (2, .ref 180)]) rfl ?_
      refine bk_b (q := (14, [(0, .ref 1), (1, .int p1), (2, .ref 180)], [.int (1 : Int32)])) tb_c_209_0 mx_209 1 rfl ?_
      cases h
      exact bk_t tb_c_209_0 rfl rfl
    · rw [if_neg g7] at h
      cases h
theorem mx_210 : mi_mx tb_P 210 = 5 := rfl
/-- SpecialiserLaw.function(LSpecialiser;II[J)I -/
noncomputable def fn_La_function (p1 : Int32) (p2 : Int32) (S : wd_S) : Option (Int32 × wd_S) :=
  (wd_c (fn_Sp_function p1 p2 S) fun x2o S1 => wd_o x2o (fun x2 =>
  (if (0 : Int32) < 0 ∨ 1 ≤ (0 : Int32).toNatClampNeg then none else
  (wd_b (wd_l S1 180 (0 : Int32).toNatClampNeg ((x2).toInt64)) fun S6 =>
  some ((0 : Int32), S6)))) (fun E4 =>
    (if E4 = "java/lang/IndexOutOfBoundsException" then
      some ((1 : Int32), S1)
    else
    none)))
set_option maxRecDepth 100000 in
theorem sn_La_function {L : Nat} {xs : Nat → Int32} {p1 : Int32} {p2 : Int32} {S : wd_S} {x : Int32} {S' : wd_S} (h : fn_La_function p1 p2 S = some (x, S')) : ev_r tb_P L xs (4 + 1) 210 [.ref 1, .int p1, .int p2, .ref 180] (wd_k S) (.inl (some (.int x)), wd_k S') := by
  unfold fn_La_function at h
  refine ev_of (Nat.le_of_ble_eq_true rfl) ?_
  show go_r tb_P L xs 4 210 0 [(0, .ref 1), (1, .int p1), (2, .int p2), (3, .ref 180)] [] (wd_k S) (.inl (some (.int x)), wd_k S')
  refine bk_b (q := (5, [(0, .ref 1), (1, .int p1), (2, .int p2), (3, .ref 180)], [.int p2, .int p1, .ref 1, .int (0 : Int32), .ref 180])) tb_c_210_0 mx_210 5 rfl ?_
  obtain ⟨x2o, S1, c3, h⟩ := wd_cx h
  rcases wd_ox h with ⟨x2, rfl, nx2⟩ | ⟨E4, rfl, nx2⟩
  · replace h := nx2
    refine bk_kv tb_c_210_0 rfl rfl rfl rfl rfl (ci := 10) rfl rfl (ev_up (Nat.le_of_ble_eq_true rfl) (sn_Sp_function c3)) ?_
    refine bk_b (q := (9, [(0, .ref 1), (1, .int p1), (2, .int p2), (3, .ref 180)], [.long ((x2).toInt64), .int (0 : Int32), .ref 180])) tb_c_210_0 mx_210 1 rfl ?_
    by_cases g5 : (0 : Int32) < 0 ∨ 1 ≤ (0 : Int32).toNatClampNeg
    · rw [if_pos g5] at h; cases h
    · rw [if_neg g5] at h
      obtain ⟨S6, eS6, h⟩ := wd_bx h
      refine bk_s8 tb_c_210_0 rfl rfl rfl g5 ?_
      rw [eS6]
      refine bk_b (q := (18, [(0, .ref 1), (1, .int p1), (2, .int p2), (3, .ref 180)], [.int (0 : Int32)])) tb_c_210_0 mx_210 2 rfl ?_
      cases h
      exact bk_t tb_c_210_0 rfl rfl
  · replace h := nx2
    by_cases g7 : E4 = "java/lang/IndexOutOfBoundsException"
    · rw [if_pos g7] at h
      subst g7
      refine bk_kw tb_c_210_0 rfl rfl rfl rfl (ci := 10) rfl rfl (ev_up (Nat.le_of_ble_eq_true rfl) (sn_Sp_function c3)) (hp := 13) (show mi_ca tb_P 210 5 "java/lang/IndexOutOfBoundsException" = some 13 by decide +kernel) tb_c_210_0 (pc' := 15) rfl rfl rfl (lv' := [(0, .ref 1), (1, .int p1), (2, .int p2), (3, .ref 180)]) rfl ?_
      refine bk_b (q := (16, [(0, .ref 1), (1, .int p1), (2, .int p2), (3, .ref 180)], [.int (1 : Int32)])) tb_c_210_0 mx_210 1 rfl ?_
      cases h
      exact bk_t tb_c_210_0 rfl rfl
    · rw [if_neg g7] at h
      cases h
theorem mx_211 : mi_mx tb_P 211 = 5 := rfl
/-- SpecialiserLaw.know(LSpecialiser;II[J)I -/
noncomputable def fn_La_know (p1 : Int32) (p2 : Int32) (S : wd_S) : Option (Int32 × wd_S) :=
  (wd_c (fn_Sp_know p1 p2 S) fun x2o S1 => wd_o x2o (fun x2 =>
  (if (0 : Int32) < 0 ∨ 1 ≤ (0 : Int32).toNatClampNeg then none else
  (wd_b (wd_l S1 180 (0 : Int32).toNatClampNeg ((x2).toInt64)) fun S6 =>
  some ((0 : Int32), S6)))) (fun E4 =>
    (if E4 = "java/lang/IndexOutOfBoundsException" then
      some ((1 : Int32), S1)
    else
    none)))
set_option maxRecDepth 100000 in
theorem sn_La_know {L : Nat} {xs : Nat → Int32} {p1 : Int32} {p2 : Int32} {S : wd_S} {x : Int32} {S' : wd_S} (h : fn_La_know p1 p2 S = some (x, S')) : ev_r tb_P L xs (2 + 1) 211 [.ref 1, .int p1, .int p2, .ref 180] (wd_k S) (.inl (some (.int x)), wd_k S') := by
  unfold fn_La_know at h
  refine ev_of (Nat.le_of_ble_eq_true rfl) ?_
  show go_r tb_P L xs 2 211 0 [(0, .ref 1), (1, .int p1), (2, .int p2), (3, .ref 180)] [] (wd_k S) (.inl (some (.int x)), wd_k S')
  refine bk_b (q := (5, [(0, .ref 1), (1, .int p1), (2, .int p2), (3, .ref 180)], [.int p2, .int p1, .ref 1, .int (0 : Int32), .ref 180])) tb_c_211_0 mx_211 5 rfl ?_
  obtain ⟨x2o, S1, c3, h⟩ := wd_cx h
  rcases wd_ox h with ⟨x2, rfl, nx2⟩ | ⟨E4, rfl, nx2⟩
  · replace h := nx2
    refine bk_kv tb_c_211_0 rfl rfl rfl rfl rfl (ci := 10) rfl rfl (ev_up (Nat.le_of_ble_eq_true rfl) (sn_Sp_know c3)) ?_
    refine bk_b (q := (9, [(0, .ref 1), (1, .int p1), (2, .int p2), (3, .ref 180)], [.long ((x2).toInt64), .int (0 : Int32), .ref 180])) tb_c_211_0 mx_211 1 rfl ?_
    by_cases g5 : (0 : Int32) < 0 ∨ 1 ≤ (0 : Int32).toNatClampNeg
    · rw [if_pos g5] at h; cases h
    · rw [if_neg g5] at h
      obtain ⟨S6, eS6, h⟩ := wd_bx h
      refine bk_s8 tb_c_211_0 rfl rfl rfl g5 ?_
      rw [eS6]
      refine bk_b (q := (18, [(0, .ref 1), (1, .int p1), (2, .int p2), (3, .ref 180)], [.int (0 : Int32)])) tb_c_211_0 mx_211 2 rfl ?_
      cases h
      exact bk_t tb_c_211_0 rfl rfl
  · replace h := nx2
    by_cases g7 : E4 = "java/lang/IndexOutOfBoundsException"
    · rw [if_pos g7] at h
      subst g7
      refine bk_kw tb_c_211_0 rfl rfl rfl rfl (ci := 10) rfl rfl (ev_up (Nat.le_of_ble_eq_true rfl) (sn_Sp_know c3)) (hp := 13) (show mi_ca tb_P 211 5 "java/lang/IndexOutOfBoundsException" = some 13 by decide +kernel) tb_c_211_0 (pc' := 15) rfl rfl rfl (lv' := [(0, .ref 1), (1, .int p1), (2, .int p2), (3, .ref 180)]) rfl ?_
      refine bk_b (q := (16, [(0, .ref 1), (1, .int p1), (2, .int p2), (3, .ref 180)], [.int (1 : Int32)])) tb_c_211_0 mx_211 1 rfl ?_
      cases h
      exact bk_t tb_c_211_0 rfl rfl
    · rw [if_neg g7] at h
      cases h
theorem mx_212 : mi_mx tb_P 212 = 4 := rfl
/-- SpecialiserLaw.make(LSpecialiser;I[J)I -/
noncomputable def fn_La_make (p1 : Int32) (S : wd_S) : Option (Int32 × wd_S) :=
  (wd_c (fn_Sp_make p1 S) fun x2o S1 => wd_o x2o (fun x2 =>
  (if (0 : Int32) < 0 ∨ 1 ≤ (0 : Int32).toNatClampNeg then none else
  (wd_b (wd_l S1 180 (0 : Int32).toNatClampNeg ((x2).toInt64)) fun S6 =>
  some ((0 : Int32), S6)))) (fun E4 =>
    (if E4 = "java/lang/IllegalStateException" then
      some ((1 : Int32), S1)
    else
    (if E4 = "java/lang/IndexOutOfBoundsException" then
      some ((2 : Int32), S1)
    else
    (if E4 = "java/lang/UnsupportedOperationException" then
      some ((3 : Int32), S1)
    else
    none)))))
set_option maxRecDepth 100000 in
theorem sn_La_make {L : Nat} {xs : Nat → Int32} {p1 : Int32} {S : wd_S} {x : Int32} {S' : wd_S} (h : fn_La_make p1 S = some (x, S')) : ev_r tb_P L xs (206 + 1) 212 [.ref 1, .int p1, .ref 180] (wd_k S) (.inl (some (.int x)), wd_k S') := by
  unfold fn_La_make at h
  refine ev_of (Nat.le_of_ble_eq_true rfl) ?_
  show go_r tb_P L xs 206 212 0 [(0, .ref 1), (1, .int p1), (2, .ref 180)] [] (wd_k S) (.inl (some (.int x)), wd_k S')
  refine bk_b (q := (4, [(0, .ref 1), (1, .int p1), (2, .ref 180)], [.int p1, .ref 1, .int (0 : Int32), .ref 180])) tb_c_212_0 mx_212 4 rfl ?_
  obtain ⟨x2o, S1, c3, h⟩ := wd_cx h
  rcases wd_ox h with ⟨x2, rfl, nx2⟩ | ⟨E4, rfl, nx2⟩
  · replace h := nx2
    refine bk_kv tb_c_212_0 rfl rfl rfl rfl rfl (ci := 10) rfl rfl (ev_up (Nat.le_of_ble_eq_true rfl) (sn_Sp_make c3)) ?_
    refine bk_b (q := (8, [(0, .ref 1), (1, .int p1), (2, .ref 180)], [.long ((x2).toInt64), .int (0 : Int32), .ref 180])) tb_c_212_0 mx_212 1 rfl ?_
    by_cases g5 : (0 : Int32) < 0 ∨ 1 ≤ (0 : Int32).toNatClampNeg
    · rw [if_pos g5] at h; cases h
    · rw [if_neg g5] at h
      obtain ⟨S6, eS6, h⟩ := wd_bx h
      refine bk_s8 tb_c_212_0 rfl rfl rfl g5 ?_
      rw [eS6]
      refine bk_b (q := (22, [(0, .ref 1), (1, .int p1), (2, .ref 180)], [.int (0 : Int32)])) tb_c_212_0 mx_212 2 rfl ?_
      cases h
      exact bk_t tb_c_212_0 rfl rfl
  · replace h := nx2
    by_cases g7 : E4 = "java/lang/IllegalStateException"
    · rw [if_pos g7] at h
      subst g7
      refine bk_kn tb_c_212_0 rfl rfl rfl rfl (ci := 10) rfl rfl (ev_up (Nat.le_of_ble_eq_true rfl) (sn_Sp_make c3)) (hp := 12) (show mi_ca tb_P 212 4 "java/lang/IllegalStateException" = some 12 by decide +kernel) tb_c_212_0 (pc' := 13) rfl rfl rfl (lv' := [(0, .ref 1), (1, .int p1), (2, .ref 180)]) rfl ?_
      refine bk_b (q := (14, [(0, .ref 1), (1, .int p1), (2, .ref 180)], [.int (1 : Int32)])) tb_c_212_0 mx_212 1 rfl ?_
      cases h
      exact bk_t tb_c_212_0 rfl rfl
    · rw [if_neg g7] at h
      by_cases g8 : E4 = "java/lang/IndexOutOfBoundsException"
      · rw [if_pos g8] at h
        subst g8
        refine bk_kn tb_c_212_0 rfl rfl rfl rfl (ci := 10) rfl rfl (ev_up (Nat.le_of_ble_eq_true rfl) (sn_Sp_make c3)) (hp := 15) (show mi_ca tb_P 212 4 "java/lang/IndexOutOfBoundsException" = some 15 by decide +kernel) tb_c_212_0 (pc' := 16) rfl rfl rfl (lv' := [(0, .ref 1), (1, .int p1), (2, .ref 180)]) rfl ?_
        refine bk_b (q := (17, [(0, .ref 1), (1, .int p1), (2, .ref 180)], [.int (2 : Int32)])) tb_c_212_0 mx_212 1 rfl ?_
        cases h
        exact bk_t tb_c_212_0 rfl rfl
      · rw [if_neg g8] at h
        by_cases g9 : E4 = "java/lang/UnsupportedOperationException"
        · rw [if_pos g9] at h
          subst g9
          refine bk_kn tb_c_212_0 rfl rfl rfl rfl (ci := 10) rfl rfl (ev_up (Nat.le_of_ble_eq_true rfl) (sn_Sp_make c3)) (hp := 18) (show mi_ca tb_P 212 4 "java/lang/UnsupportedOperationException" = some 18 by decide +kernel) tb_c_212_0 (pc' := 19) rfl rfl rfl (lv' := [(0, .ref 1), (1, .int p1), (2, .ref 180)]) rfl ?_
          refine bk_b (q := (20, [(0, .ref 1), (1, .int p1), (2, .ref 180)], [.int (3 : Int32)])) tb_c_212_0 mx_212 1 rfl ?_
          cases h
          exact bk_t tb_c_212_0 rfl rfl
        · rw [if_neg g9] at h
          cases h
theorem mx_213 : mi_mx tb_P 213 = 5 := rfl
/-- SpecialiserLaw.version(LSpecialiser;II[J)I -/
noncomputable def fn_La_version (p1 : Int32) (p2 : Int32) (S : wd_S) : Option (Int32 × wd_S) :=
  (wd_c (fn_Sp_version p1 p2 S) fun x2o S1 => wd_o x2o (fun x2 =>
  (if (0 : Int32) < 0 ∨ 1 ≤ (0 : Int32).toNatClampNeg then none else
  (wd_b (wd_l S1 180 (0 : Int32).toNatClampNeg ((x2).toInt64)) fun S6 =>
  some ((0 : Int32), S6)))) (fun E4 =>
    (if E4 = "java/lang/IndexOutOfBoundsException" then
      some ((1 : Int32), S1)
    else
    none)))
set_option maxRecDepth 100000 in
theorem sn_La_version {L : Nat} {xs : Nat → Int32} {p1 : Int32} {p2 : Int32} {S : wd_S} {x : Int32} {S' : wd_S} (h : fn_La_version p1 p2 S = some (x, S')) : ev_r tb_P L xs (4 + 1) 213 [.ref 1, .int p1, .int p2, .ref 180] (wd_k S) (.inl (some (.int x)), wd_k S') := by
  unfold fn_La_version at h
  refine ev_of (Nat.le_of_ble_eq_true rfl) ?_
  show go_r tb_P L xs 4 213 0 [(0, .ref 1), (1, .int p1), (2, .int p2), (3, .ref 180)] [] (wd_k S) (.inl (some (.int x)), wd_k S')
  refine bk_b (q := (5, [(0, .ref 1), (1, .int p1), (2, .int p2), (3, .ref 180)], [.int p2, .int p1, .ref 1, .int (0 : Int32), .ref 180])) tb_c_213_0 mx_213 5 rfl ?_
  obtain ⟨x2o, S1, c3, h⟩ := wd_cx h
  rcases wd_ox h with ⟨x2, rfl, nx2⟩ | ⟨E4, rfl, nx2⟩
  · replace h := nx2
    refine bk_kv tb_c_213_0 rfl rfl rfl rfl rfl (ci := 10) rfl rfl (ev_up (Nat.le_of_ble_eq_true rfl) (sn_Sp_version c3)) ?_
    refine bk_b (q := (9, [(0, .ref 1), (1, .int p1), (2, .int p2), (3, .ref 180)], [.long ((x2).toInt64), .int (0 : Int32), .ref 180])) tb_c_213_0 mx_213 1 rfl ?_
    by_cases g5 : (0 : Int32) < 0 ∨ 1 ≤ (0 : Int32).toNatClampNeg
    · rw [if_pos g5] at h; cases h
    · rw [if_neg g5] at h
      obtain ⟨S6, eS6, h⟩ := wd_bx h
      refine bk_s8 tb_c_213_0 rfl rfl rfl g5 ?_
      rw [eS6]
      refine bk_b (q := (18, [(0, .ref 1), (1, .int p1), (2, .int p2), (3, .ref 180)], [.int (0 : Int32)])) tb_c_213_0 mx_213 2 rfl ?_
      cases h
      exact bk_t tb_c_213_0 rfl rfl
  · replace h := nx2
    by_cases g7 : E4 = "java/lang/IndexOutOfBoundsException"
    · rw [if_pos g7] at h
      subst g7
      refine bk_kw tb_c_213_0 rfl rfl rfl rfl (ci := 10) rfl rfl (ev_up (Nat.le_of_ble_eq_true rfl) (sn_Sp_version c3)) (hp := 13) (show mi_ca tb_P 213 5 "java/lang/IndexOutOfBoundsException" = some 13 by decide +kernel) tb_c_213_0 (pc' := 15) rfl rfl rfl (lv' := [(0, .ref 1), (1, .int p1), (2, .int p2), (3, .ref 180)]) rfl ?_
      refine bk_b (q := (16, [(0, .ref 1), (1, .int p1), (2, .int p2), (3, .ref 180)], [.int (1 : Int32)])) tb_c_213_0 mx_213 1 rfl ?_
      cases h
      exact bk_t tb_c_213_0 rfl rfl
    · rw [if_neg g7] at h
      cases h
theorem mx_214 : mi_mx tb_P 214 = 4 := rfl
/-- SpecialiserLaw.told(LSpecialiser;I[J)I -/
noncomputable def fn_La_told (p1 : Int32) (S : wd_S) : Option (Int32 × wd_S) :=
  (wd_c (fn_Sp_told p1 S) fun x2o S1 => wd_o x2o (fun x2 =>
  (if (0 : Int32) < 0 ∨ 1 ≤ (0 : Int32).toNatClampNeg then none else
  (wd_b (wd_l S1 180 (0 : Int32).toNatClampNeg ((x2).toInt64)) fun S6 =>
  some ((0 : Int32), S6)))) (fun E4 =>
    (if E4 = "java/lang/IndexOutOfBoundsException" then
      some ((1 : Int32), S1)
    else
    none)))
set_option maxRecDepth 100000 in
theorem sn_La_told {L : Nat} {xs : Nat → Int32} {p1 : Int32} {S : wd_S} {x : Int32} {S' : wd_S} (h : fn_La_told p1 S = some (x, S')) : ev_r tb_P L xs (2 + 1) 214 [.ref 1, .int p1, .ref 180] (wd_k S) (.inl (some (.int x)), wd_k S') := by
  unfold fn_La_told at h
  refine ev_of (Nat.le_of_ble_eq_true rfl) ?_
  show go_r tb_P L xs 2 214 0 [(0, .ref 1), (1, .int p1), (2, .ref 180)] [] (wd_k S) (.inl (some (.int x)), wd_k S')
  refine bk_b (q := (4, [(0, .ref 1), (1, .int p1), (2, .ref 180)], [.int p1, .ref 1, .int (0 : Int32), .ref 180])) tb_c_214_0 mx_214 4 rfl ?_
  obtain ⟨x2o, S1, c3, h⟩ := wd_cx h
  rcases wd_ox h with ⟨x2, rfl, nx2⟩ | ⟨E4, rfl, nx2⟩
  · replace h := nx2
    refine bk_kv tb_c_214_0 rfl rfl rfl rfl rfl (ci := 10) rfl rfl (ev_up (Nat.le_of_ble_eq_true rfl) (sn_Sp_told c3)) ?_
    refine bk_b (q := (8, [(0, .ref 1), (1, .int p1), (2, .ref 180)], [.long ((x2).toInt64), .int (0 : Int32), .ref 180])) tb_c_214_0 mx_214 1 rfl ?_
    by_cases g5 : (0 : Int32) < 0 ∨ 1 ≤ (0 : Int32).toNatClampNeg
    · rw [if_pos g5] at h; cases h
    · rw [if_neg g5] at h
      obtain ⟨S6, eS6, h⟩ := wd_bx h
      refine bk_s8 tb_c_214_0 rfl rfl rfl g5 ?_
      rw [eS6]
      refine bk_b (q := (16, [(0, .ref 1), (1, .int p1), (2, .ref 180)], [.int (0 : Int32)])) tb_c_214_0 mx_214 2 rfl ?_
      cases h
      exact bk_t tb_c_214_0 rfl rfl
  · replace h := nx2
    by_cases g7 : E4 = "java/lang/IndexOutOfBoundsException"
    · rw [if_pos g7] at h
      subst g7
      refine bk_kn tb_c_214_0 rfl rfl rfl rfl (ci := 10) rfl rfl (ev_up (Nat.le_of_ble_eq_true rfl) (sn_Sp_told c3)) (hp := 12) (show mi_ca tb_P 214 4 "java/lang/IndexOutOfBoundsException" = some 12 by decide +kernel) tb_c_214_0 (pc' := 13) rfl rfl rfl (lv' := [(0, .ref 1), (1, .int p1), (2, .ref 180)]) rfl ?_
      refine bk_b (q := (14, [(0, .ref 1), (1, .int p1), (2, .ref 180)], [.int (1 : Int32)])) tb_c_214_0 mx_214 1 rfl ?_
      cases h
      exact bk_t tb_c_214_0 rfl rfl
    · rw [if_neg g7] at h
      cases h
theorem mx_216 : mi_mx tb_P 216 = 4 := rfl
/-- SpecialiserLaw.out(LSpecialiser;I[J)I -/
noncomputable def fn_La_out (p1 : Int32) (S : wd_S) : Option (Int32 × wd_S) :=
  (wd_c (fn_Sp_out p1 S) fun x2o S1 => wd_o x2o (fun x2 =>
  (if (0 : Int32) < 0 ∨ 1 ≤ (0 : Int32).toNatClampNeg then none else
  (wd_b (wd_l S1 180 (0 : Int32).toNatClampNeg ((x2).toInt64)) fun S6 =>
  some ((0 : Int32), S6)))) (fun E4 =>
    (if E4 = "java/lang/IndexOutOfBoundsException" then
      some ((1 : Int32), S1)
    else
    none)))
set_option maxRecDepth 100000 in
theorem sn_La_out {L : Nat} {xs : Nat → Int32} {p1 : Int32} {S : wd_S} {x : Int32} {S' : wd_S} (h : fn_La_out p1 S = some (x, S')) : ev_r tb_P L xs (2 + 1) 216 [.ref 1, .int p1, .ref 180] (wd_k S) (.inl (some (.int x)), wd_k S') := by
  unfold fn_La_out at h
  refine ev_of (Nat.le_of_ble_eq_true rfl) ?_
  show go_r tb_P L xs 2 216 0 [(0, .ref 1), (1, .int p1), (2, .ref 180)] [] (wd_k S) (.inl (some (.int x)), wd_k S')
  refine bk_b (q := (4, [(0, .ref 1), (1, .int p1), (2, .ref 180)], [.int p1, .ref 1, .int (0 : Int32), .ref 180])) tb_c_216_0 mx_216 4 rfl ?_
  obtain ⟨x2o, S1, c3, h⟩ := wd_cx h
  rcases wd_ox h with ⟨x2, rfl, nx2⟩ | ⟨E4, rfl, nx2⟩
  · replace h := nx2
    refine bk_kv tb_c_216_0 rfl rfl rfl rfl rfl (ci := 10) rfl rfl (ev_up (Nat.le_of_ble_eq_true rfl) (sn_Sp_out c3)) ?_
    refine bk_b (q := (8, [(0, .ref 1), (1, .int p1), (2, .ref 180)], [.long ((x2).toInt64), .int (0 : Int32), .ref 180])) tb_c_216_0 mx_216 1 rfl ?_
    by_cases g5 : (0 : Int32) < 0 ∨ 1 ≤ (0 : Int32).toNatClampNeg
    · rw [if_pos g5] at h; cases h
    · rw [if_neg g5] at h
      obtain ⟨S6, eS6, h⟩ := wd_bx h
      refine bk_s8 tb_c_216_0 rfl rfl rfl g5 ?_
      rw [eS6]
      refine bk_b (q := (16, [(0, .ref 1), (1, .int p1), (2, .ref 180)], [.int (0 : Int32)])) tb_c_216_0 mx_216 2 rfl ?_
      cases h
      exact bk_t tb_c_216_0 rfl rfl
  · replace h := nx2
    by_cases g7 : E4 = "java/lang/IndexOutOfBoundsException"
    · rw [if_pos g7] at h
      subst g7
      refine bk_kn tb_c_216_0 rfl rfl rfl rfl (ci := 10) rfl rfl (ev_up (Nat.le_of_ble_eq_true rfl) (sn_Sp_out c3)) (hp := 12) (show mi_ca tb_P 216 4 "java/lang/IndexOutOfBoundsException" = some 12 by decide +kernel) tb_c_216_0 (pc' := 13) rfl rfl rfl (lv' := [(0, .ref 1), (1, .int p1), (2, .ref 180)]) rfl ?_
      refine bk_b (q := (14, [(0, .ref 1), (1, .int p1), (2, .ref 180)], [.int (1 : Int32)])) tb_c_216_0 mx_216 1 rfl ?_
      cases h
      exact bk_t tb_c_216_0 rfl rfl
    · rw [if_neg g7] at h
      cases h
theorem mx_217 : mi_mx tb_P 217 = 3 := rfl
/-- SpecialiserLaw.back(LSpecialiser;[J)I -/
noncomputable def fn_La_back (S : wd_S) : Option (Int32 × wd_S) :=
  (wd_c (fn_Sp_back  S) fun x2o S1 => wd_o x2o (fun x2 =>
  (if (0 : Int32) < 0 ∨ 1 ≤ (0 : Int32).toNatClampNeg then none else
  (wd_b (wd_l S1 180 (0 : Int32).toNatClampNeg ((x2).toInt64)) fun S6 =>
  some ((0 : Int32), S6)))) (fun E4 =>
    (if E4 = "java/lang/IllegalStateException" then
      some ((1 : Int32), S1)
    else
    none)))
set_option maxRecDepth 100000 in
theorem sn_La_back {L : Nat} {xs : Nat → Int32} {S : wd_S} {x : Int32} {S' : wd_S} (h : fn_La_back  S = some (x, S')) : ev_r tb_P L xs (2 + 1) 217 [.ref 1, .ref 180] (wd_k S) (.inl (some (.int x)), wd_k S') := by
  unfold fn_La_back at h
  refine ev_of (Nat.le_of_ble_eq_true rfl) ?_
  show go_r tb_P L xs 2 217 0 [(0, .ref 1), (1, .ref 180)] [] (wd_k S) (.inl (some (.int x)), wd_k S')
  refine bk_b (q := (3, [(0, .ref 1), (1, .ref 180)], [.ref 1, .int (0 : Int32), .ref 180])) tb_c_217_0 mx_217 3 rfl ?_
  obtain ⟨x2o, S1, c3, h⟩ := wd_cx h
  rcases wd_ox h with ⟨x2, rfl, nx2⟩ | ⟨E4, rfl, nx2⟩
  · replace h := nx2
    refine bk_kv tb_c_217_0 rfl rfl rfl rfl rfl (ci := 10) rfl rfl (ev_up (Nat.le_of_ble_eq_true rfl) (sn_Sp_back c3)) ?_
    refine bk_b (q := (7, [(0, .ref 1), (1, .ref 180)], [.long ((x2).toInt64), .int (0 : Int32), .ref 180])) tb_c_217_0 mx_217 1 rfl ?_
    by_cases g5 : (0 : Int32) < 0 ∨ 1 ≤ (0 : Int32).toNatClampNeg
    · rw [if_pos g5] at h; cases h
    · rw [if_neg g5] at h
      obtain ⟨S6, eS6, h⟩ := wd_bx h
      refine bk_s8 tb_c_217_0 rfl rfl rfl g5 ?_
      rw [eS6]
      refine bk_b (q := (15, [(0, .ref 1), (1, .ref 180)], [.int (0 : Int32)])) tb_c_217_0 mx_217 2 rfl ?_
      cases h
      exact bk_t tb_c_217_0 rfl rfl
  · replace h := nx2
    by_cases g7 : E4 = "java/lang/IllegalStateException"
    · rw [if_pos g7] at h
      subst g7
      refine bk_kn tb_c_217_0 rfl rfl rfl rfl (ci := 10) rfl rfl (ev_up (Nat.le_of_ble_eq_true rfl) (sn_Sp_back c3)) (hp := 11) (show mi_ca tb_P 217 3 "java/lang/IllegalStateException" = some 11 by decide +kernel) tb_c_217_0 (pc' := 12) rfl rfl rfl (lv' := [(0, .ref 1), (1, .ref 180)]) rfl ?_
      refine bk_b (q := (13, [(0, .ref 1), (1, .ref 180)], [.int (1 : Int32)])) tb_c_217_0 mx_217 1 rfl ?_
      cases h
      exact bk_t tb_c_217_0 rfl rfl
    · rw [if_neg g7] at h
      cases h
theorem mx_218 : mi_mx tb_P 218 = 4 := rfl
/-- SpecialiserLaw.give(LSpecialiser;I[J)I -/
noncomputable def fn_La_give (p1 : Int32) (S : wd_S) : Option (Int32 × wd_S) :=
  (wd_c (fn_Sp_give p1 S) fun x2o S1 => wd_o x2o (fun x2 =>
  (if (0 : Int32) < 0 ∨ 1 ≤ (0 : Int32).toNatClampNeg then none else
  (wd_b (wd_l S1 180 (0 : Int32).toNatClampNeg ((x2).toInt64)) fun S6 =>
  some ((0 : Int32), S6)))) (fun E4 =>
    (if E4 = "java/lang/IllegalStateException" then
      some ((1 : Int32), S1)
    else
    none)))
set_option maxRecDepth 100000 in
theorem sn_La_give {L : Nat} {xs : Nat → Int32} {p1 : Int32} {S : wd_S} {x : Int32} {S' : wd_S} (h : fn_La_give p1 S = some (x, S')) : ev_r tb_P L xs (2 + 1) 218 [.ref 1, .int p1, .ref 180] (wd_k S) (.inl (some (.int x)), wd_k S') := by
  unfold fn_La_give at h
  refine ev_of (Nat.le_of_ble_eq_true rfl) ?_
  show go_r tb_P L xs 2 218 0 [(0, .ref 1), (1, .int p1), (2, .ref 180)] [] (wd_k S) (.inl (some (.int x)), wd_k S')
  refine bk_b (q := (4, [(0, .ref 1), (1, .int p1), (2, .ref 180)], [.int p1, .ref 1, .int (0 : Int32), .ref 180])) tb_c_218_0 mx_218 4 rfl ?_
  obtain ⟨x2o, S1, c3, h⟩ := wd_cx h
  rcases wd_ox h with ⟨x2, rfl, nx2⟩ | ⟨E4, rfl, nx2⟩
  · replace h := nx2
    refine bk_kv tb_c_218_0 rfl rfl rfl rfl rfl (ci := 10) rfl rfl (ev_up (Nat.le_of_ble_eq_true rfl) (sn_Sp_give c3)) ?_
    refine bk_b (q := (8, [(0, .ref 1), (1, .int p1), (2, .ref 180)], [.long ((x2).toInt64), .int (0 : Int32), .ref 180])) tb_c_218_0 mx_218 1 rfl ?_
    by_cases g5 : (0 : Int32) < 0 ∨ 1 ≤ (0 : Int32).toNatClampNeg
    · rw [if_pos g5] at h; cases h
    · rw [if_neg g5] at h
      obtain ⟨S6, eS6, h⟩ := wd_bx h
      refine bk_s8 tb_c_218_0 rfl rfl rfl g5 ?_
      rw [eS6]
      refine bk_b (q := (16, [(0, .ref 1), (1, .int p1), (2, .ref 180)], [.int (0 : Int32)])) tb_c_218_0 mx_218 2 rfl ?_
      cases h
      exact bk_t tb_c_218_0 rfl rfl
  · replace h := nx2
    by_cases g7 : E4 = "java/lang/IllegalStateException"
    · rw [if_pos g7] at h
      subst g7
      refine bk_kn tb_c_218_0 rfl rfl rfl rfl (ci := 10) rfl rfl (ev_up (Nat.le_of_ble_eq_true rfl) (sn_Sp_give c3)) (hp := 12) (show mi_ca tb_P 218 4 "java/lang/IllegalStateException" = some 12 by decide +kernel) tb_c_218_0 (pc' := 13) rfl rfl rfl (lv' := [(0, .ref 1), (1, .int p1), (2, .ref 180)]) rfl ?_
      refine bk_b (q := (14, [(0, .ref 1), (1, .int p1), (2, .ref 180)], [.int (1 : Int32)])) tb_c_218_0 mx_218 1 rfl ?_
      cases h
      exact bk_t tb_c_218_0 rfl rfl
    · rw [if_neg g7] at h
      cases h
theorem mx_219 : mi_mx tb_P 219 = 6 := rfl
/-- SpecialiserLaw.run(LSpecialiser;ZII[J)I -/
noncomputable def fn_La_run (p1 : Int32) (p2 : Int32) (p3 : Int32) (S : wd_S) : Option (Int32 × wd_S) :=
  (wd_c (fn_Sp_run p1 p2 p3 S) fun x2o S1 => wd_o x2o (fun x2 =>
  (if (0 : Int32) < 0 ∨ 1 ≤ (0 : Int32).toNatClampNeg then none else
  (wd_b (wd_l S1 180 (0 : Int32).toNatClampNeg ((x2).toInt64)) fun S6 =>
  some ((0 : Int32), S6)))) (fun E4 =>
    (if E4 = "java/lang/IllegalArgumentException" then
      some ((3 : Int32), S1)
    else
    (if E4 = "java/lang/IllegalStateException" then
      some ((1 : Int32), S1)
    else
    (if E4 = "java/lang/IndexOutOfBoundsException" then
      some ((2 : Int32), S1)
    else
    none)))))
set_option maxRecDepth 100000 in
theorem sn_La_run {L : Nat} {xs : Nat → Int32} {p1 : Int32} {p2 : Int32} {p3 : Int32} {S : wd_S} {x : Int32} {S' : wd_S} (h : fn_La_run p1 p2 p3 S = some (x, S')) : ev_r tb_P L xs (5 + 1) 219 [.ref 1, .int p1, .int p2, .int p3, .ref 180] (wd_k S) (.inl (some (.int x)), wd_k S') := by
  unfold fn_La_run at h
  refine ev_of (Nat.le_of_ble_eq_true rfl) ?_
  show go_r tb_P L xs 5 219 0 [(0, .ref 1), (1, .int p1), (2, .int p2), (3, .int p3), (4, .ref 180)] [] (wd_k S) (.inl (some (.int x)), wd_k S')
  refine bk_b (q := (7, [(0, .ref 1), (1, .int p1), (2, .int p2), (3, .int p3), (4, .ref 180)], [.int p3, .int p2, .int p1, .ref 1, .int (0 : Int32), .ref 180])) tb_c_219_0 mx_219 6 rfl ?_
  obtain ⟨x2o, S1, c3, h⟩ := wd_cx h
  rcases wd_ox h with ⟨x2, rfl, nx2⟩ | ⟨E4, rfl, nx2⟩
  · replace h := nx2
    refine bk_kv tb_c_219_0 rfl rfl rfl rfl rfl (ci := 10) rfl rfl (ev_up (Nat.le_of_ble_eq_true rfl) (sn_Sp_run c3)) ?_
    refine bk_b (q := (11, [(0, .ref 1), (1, .int p1), (2, .int p2), (3, .int p3), (4, .ref 180)], [.long ((x2).toInt64), .int (0 : Int32), .ref 180])) tb_c_219_0 mx_219 1 rfl ?_
    by_cases g5 : (0 : Int32) < 0 ∨ 1 ≤ (0 : Int32).toNatClampNeg
    · rw [if_pos g5] at h; cases h
    · rw [if_neg g5] at h
      obtain ⟨S6, eS6, h⟩ := wd_bx h
      refine bk_s8 tb_c_219_0 rfl rfl rfl g5 ?_
      rw [eS6]
      refine bk_b (q := (28, [(0, .ref 1), (1, .int p1), (2, .int p2), (3, .int p3), (4, .ref 180)], [.int (0 : Int32)])) tb_c_219_0 mx_219 2 rfl ?_
      cases h
      exact bk_t tb_c_219_0 rfl rfl
  · replace h := nx2
    by_cases g7 : E4 = "java/lang/IllegalArgumentException"
    · rw [if_pos g7] at h
      subst g7
      refine bk_kw tb_c_219_0 rfl rfl rfl rfl (ci := 10) rfl rfl (ev_up (Nat.le_of_ble_eq_true rfl) (sn_Sp_run c3)) (hp := 23) (show mi_ca tb_P 219 7 "java/lang/IllegalArgumentException" = some 23 by decide +kernel) tb_c_219_0 (pc' := 25) rfl rfl rfl (lv' := [(0, .ref 1), (1, .int p1), (2, .int p2), (3, .int p3), (4, .ref 180)]) rfl ?_
      refine bk_b (q := (26, [(0, .ref 1), (1, .int p1), (2, .int p2), (3, .int p3), (4, .ref 180)], [.int (3 : Int32)])) tb_c_219_0 mx_219 1 rfl ?_
      cases h
      exact bk_t tb_c_219_0 rfl rfl
    · rw [if_neg g7] at h
      by_cases g8 : E4 = "java/lang/IllegalStateException"
      · rw [if_pos g8] at h
        subst g8
        refine bk_kw tb_c_219_0 rfl rfl rfl rfl (ci := 10) rfl rfl (ev_up (Nat.le_of_ble_eq_true rfl) (sn_Sp_run c3)) (hp := 15) (show mi_ca tb_P 219 7 "java/lang/IllegalStateException" = some 15 by decide +kernel) tb_c_219_0 (pc' := 17) rfl rfl rfl (lv' := [(0, .ref 1), (1, .int p1), (2, .int p2), (3, .int p3), (4, .ref 180)]) rfl ?_
        refine bk_b (q := (18, [(0, .ref 1), (1, .int p1), (2, .int p2), (3, .int p3), (4, .ref 180)], [.int (1 : Int32)])) tb_c_219_0 mx_219 1 rfl ?_
        cases h
        exact bk_t tb_c_219_0 rfl rfl
      · rw [if_neg g8] at h
        by_cases g9 : E4 = "java/lang/IndexOutOfBoundsException"
        · rw [if_pos g9] at h
          subst g9
          refine bk_kw tb_c_219_0 rfl rfl rfl rfl (ci := 10) rfl rfl (ev_up (Nat.le_of_ble_eq_true rfl) (sn_Sp_run c3)) (hp := 19) (show mi_ca tb_P 219 7 "java/lang/IndexOutOfBoundsException" = some 19 by decide +kernel) tb_c_219_0 (pc' := 21) rfl rfl rfl (lv' := [(0, .ref 1), (1, .int p1), (2, .int p2), (3, .int p3), (4, .ref 180)]) rfl ?_
          refine bk_b (q := (22, [(0, .ref 1), (1, .int p1), (2, .int p2), (3, .int p3), (4, .ref 180)], [.int (2 : Int32)])) tb_c_219_0 mx_219 1 rfl ?_
          cases h
          exact bk_t tb_c_219_0 rfl rfl
        · rw [if_neg g9] at h
          cases h
theorem mx_220 : mi_mx tb_P 220 = 4 := rfl
/-- SpecialiserLaw.ran(LSpecialiser;I[J)I -/
noncomputable def fn_La_ran (p1 : Int32) (S : wd_S) : Option (Int32 × wd_S) :=
  (wd_c (fn_Sp_ran p1 S) fun x2o S1 => wd_o x2o (fun x2 =>
  (if (0 : Int32) < 0 ∨ 1 ≤ (0 : Int32).toNatClampNeg then none else
  (wd_b (wd_l S1 180 (0 : Int32).toNatClampNeg ((x2).toInt64)) fun S6 =>
  some ((0 : Int32), S6)))) (fun E4 =>
    (if E4 = "java/lang/IndexOutOfBoundsException" then
      some ((1 : Int32), S1)
    else
    none)))
set_option maxRecDepth 100000 in
theorem sn_La_ran {L : Nat} {xs : Nat → Int32} {p1 : Int32} {S : wd_S} {x : Int32} {S' : wd_S} (h : fn_La_ran p1 S = some (x, S')) : ev_r tb_P L xs (2 + 1) 220 [.ref 1, .int p1, .ref 180] (wd_k S) (.inl (some (.int x)), wd_k S') := by
  unfold fn_La_ran at h
  refine ev_of (Nat.le_of_ble_eq_true rfl) ?_
  show go_r tb_P L xs 2 220 0 [(0, .ref 1), (1, .int p1), (2, .ref 180)] [] (wd_k S) (.inl (some (.int x)), wd_k S')
  refine bk_b (q := (4, [(0, .ref 1), (1, .int p1), (2, .ref 180)], [.int p1, .ref 1, .int (0 : Int32), .ref 180])) tb_c_220_0 mx_220 4 rfl ?_
  obtain ⟨x2o, S1, c3, h⟩ := wd_cx h
  rcases wd_ox h with ⟨x2, rfl, nx2⟩ | ⟨E4, rfl, nx2⟩
  · replace h := nx2
    refine bk_kv tb_c_220_0 rfl rfl rfl rfl rfl (ci := 10) rfl rfl (ev_up (Nat.le_of_ble_eq_true rfl) (sn_Sp_ran c3)) ?_
    refine bk_b (q := (8, [(0, .ref 1), (1, .int p1), (2, .ref 180)], [.long ((x2).toInt64), .int (0 : Int32), .ref 180])) tb_c_220_0 mx_220 1 rfl ?_
    by_cases g5 : (0 : Int32) < 0 ∨ 1 ≤ (0 : Int32).toNatClampNeg
    · rw [if_pos g5] at h; cases h
    · rw [if_neg g5] at h
      obtain ⟨S6, eS6, h⟩ := wd_bx h
      refine bk_s8 tb_c_220_0 rfl rfl rfl g5 ?_
      rw [eS6]
      refine bk_b (q := (16, [(0, .ref 1), (1, .int p1), (2, .ref 180)], [.int (0 : Int32)])) tb_c_220_0 mx_220 2 rfl ?_
      cases h
      exact bk_t tb_c_220_0 rfl rfl
  · replace h := nx2
    by_cases g7 : E4 = "java/lang/IndexOutOfBoundsException"
    · rw [if_pos g7] at h
      subst g7
      refine bk_kn tb_c_220_0 rfl rfl rfl rfl (ci := 10) rfl rfl (ev_up (Nat.le_of_ble_eq_true rfl) (sn_Sp_ran c3)) (hp := 12) (show mi_ca tb_P 220 4 "java/lang/IndexOutOfBoundsException" = some 12 by decide +kernel) tb_c_220_0 (pc' := 13) rfl rfl rfl (lv' := [(0, .ref 1), (1, .int p1), (2, .ref 180)]) rfl ?_
      refine bk_b (q := (14, [(0, .ref 1), (1, .int p1), (2, .ref 180)], [.int (1 : Int32)])) tb_c_220_0 mx_220 1 rfl ?_
      cases h
      exact bk_t tb_c_220_0 rfl rfl
    · rw [if_neg g7] at h
      cases h
