/-! Methods as functions: printed by wip/whole/gen_fn.py. -/
theorem mx_207 : mi_mx tb_P 207 = 2 := rfl
noncomputable def fn_Mo_ran_59 (s0 : Int32) (S : wd_S) : Option (Int32 × wd_S) :=
  some (s0, S)
set_option maxRecDepth 100000 in
theorem sn_Mo_ran_59 {L : Nat} {xs : Nat → Int32} {s0 : Int32} {S : wd_S} {x : Int32} {S' : wd_S} (h : fn_Mo_ran_59 s0 S = some (x, S')) : go_r tb_P L xs 1 207 59 [] [.int s0] (wd_k S) (.inl (some (.int x)), wd_k S') := by
  unfold fn_Mo_ran_59 at h
  cases h
  exact bk_t tb_c_207_0 rfl rfl
noncomputable def fn_Mo_ran_18 (l1 : Int32) (s1 : Int32) (S : wd_S) : Option (Int32 × wd_S) :=
  (wd_b (wd_i S 135 0 s1) fun S5 =>
  (if 0 < (S5.1 135 0) then
    fn_Mo_ran_59 (0 : Int32) S5
  else
    (if l1 = 0 then
      fn_Mo_ran_59 (S5.1 135 96) S5
    else
      (if l1 = (1 : Int32) then
        fn_Mo_ran_59 (S5.1 135 97) S5
      else
        fn_Mo_ran_59 (S5.1 135 98) S5))))
set_option maxRecDepth 100000 in
theorem sn_Mo_ran_18 {L : Nat} {xs : Nat → Int32} {l1 : Int32} {s1 : Int32} {S : wd_S} {x : Int32} {S' : wd_S} (h : fn_Mo_ran_18 l1 s1 S = some (x, S')) : go_r tb_P L xs 1 207 18 [(0, .ref 135), (1, .int l1)] [.int s1, .ref 135] (wd_k S) (.inl (some (.int x)), wd_k S') := by
  unfold fn_Mo_ran_18 at h
  obtain ⟨S5, eS5, h⟩ := wd_bx h
  refine bk_pi tb_c_207_0 rfl rfl (ci := 11) (k := 0) rfl rfl rfl rfl ?_
  rw [eS5]
  refine bk_b (q := (22, [(0, .ref 135), (1, .int l1)], [.ref 135])) tb_c_207_0 mx_207 1 rfl ?_
  refine bk_gi tb_c_207_0 rfl rfl (ci := 11) (k := 0) rfl rfl rfl ?_
  by_cases g6 : 0 < (S5.1 135 0)
  · rw [if_pos g6] at h
    refine bk_zf tb_c_207_0 rfl (pc' := 28) rfl (t := 32) rfl (cm_le_f g6) ?_
    refine bk_b (q := (59, [(0, .ref 135), (1, .int l1)], [.int (0 : Int32)])) tb_c_207_0 mx_207 2 rfl ?_
    exact go_lv ls_nil (sn_Mo_ran_59 h)
  · rw [if_neg g6] at h
    refine bk_zt tb_c_207_0 rfl (pc' := 32) rfl (cm_le_t g6) ?_
    refine bk_b (q := (33, [(0, .ref 135), (1, .int l1)], [.int l1])) tb_c_207_0 mx_207 1 rfl ?_
    by_cases g7 : l1 = 0
    · rw [if_pos g7] at h
      refine bk_zf tb_c_207_0 rfl (pc' := 36) rfl (t := 43) rfl (cm_ne_f g7) ?_
      refine bk_b (q := (37, [(0, .ref 135), (1, .int l1)], [.ref 135])) tb_c_207_0 mx_207 1 rfl ?_
      refine bk_gi tb_c_207_0 rfl rfl (ci := 11) (k := 96) rfl rfl rfl ?_
      refine bk_b (q := (59, [(0, .ref 135), (1, .int l1)], [.int (S5.1 135 96)])) tb_c_207_0 mx_207 1 rfl ?_
      exact go_lv ls_nil (sn_Mo_ran_59 h)
    · rw [if_neg g7] at h
      refine bk_zt tb_c_207_0 rfl (pc' := 43) rfl (cm_ne_t g7) ?_
      refine bk_b (q := (45, [(0, .ref 135), (1, .int l1)], [.int (1 : Int32), .int l1])) tb_c_207_0 mx_207 2 rfl ?_
      by_cases g8 : l1 = (1 : Int32)
      · rw [if_pos g8] at h
        refine bk_jf tb_c_207_0 rfl (pc' := 48) rfl (t := 55) rfl (cm_ne_f g8) ?_
        refine bk_b (q := (49, [(0, .ref 135), (1, .int l1)], [.ref 135])) tb_c_207_0 mx_207 1 rfl ?_
        refine bk_gi tb_c_207_0 rfl rfl (ci := 11) (k := 97) rfl rfl rfl ?_
        refine bk_b (q := (59, [(0, .ref 135), (1, .int l1)], [.int (S5.1 135 97)])) tb_c_207_0 mx_207 1 rfl ?_
        exact go_lv ls_nil (sn_Mo_ran_59 h)
      · rw [if_neg g8] at h
        refine bk_jt tb_c_207_0 rfl (pc' := 55) rfl (cm_ne_t g8) ?_
        refine bk_b (q := (56, [(0, .ref 135), (1, .int l1)], [.ref 135])) tb_c_207_0 mx_207 1 rfl ?_
        refine bk_gi tb_c_207_0 rfl rfl (ci := 11) (k := 98) rfl rfl rfl ?_
        exact go_lv ls_nil (sn_Mo_ran_59 h)
/-- SpecialiserModel.ran(I)I -/
noncomputable def fn_Mo_ran (p1 : Int32) (S : wd_S) : Option (Int32 × wd_S) :=
  (wd_c (fn_Mo_within ((p1).toInt64) (0 : Int64) (2 : Int64) S) fun x2 S1 =>
  (if x2 = 0 then
    fn_Mo_ran_18 p1 (1 : Int32) S1
  else
    fn_Mo_ran_18 p1 (0 : Int32) S1))
set_option maxRecDepth 100000 in
theorem sn_Mo_ran {L : Nat} {xs : Nat → Int32} {p1 : Int32} {S : wd_S} {x : Int32} {S' : wd_S} (h : fn_Mo_ran p1 S = some (x, S')) : ev_r tb_P L xs (1 + 1) 207 [.ref 135, .int p1] (wd_k S) (.inl (some (.int x)), wd_k S') := by
  unfold fn_Mo_ran at h
  refine ev_of (Nat.le_of_ble_eq_true rfl) ?_
  show go_r tb_P L xs 1 207 0 [(0, .ref 135), (1, .int p1)] [] (wd_k S) (.inl (some (.int x)), wd_k S')
  refine bk_b (q := (4, [(0, .ref 135), (1, .int p1)], [.long (0 : Int64), .long ((p1).toInt64), .ref 135])) tb_c_207_0 mx_207 4 rfl ?_
  refine bk_c8 tb_c_207_0 rfl rfl (x := (2 : Int64)) rfl ?_
  obtain ⟨x2, S1, c3, h⟩ := wd_cx h
  refine bk_ks tb_c_207_0 rfl rfl rfl (by decide) rfl rfl (ev_up (Nat.le_of_ble_eq_true rfl) (sn_Mo_within c3)) ?_
  by_cases g4 : x2 = 0
  · rw [if_pos g4] at h
    refine bk_zt tb_c_207_0 rfl (pc' := 17) rfl (cm_eq_t g4) ?_
    refine bk_b (q := (18, [(0, .ref 135), (1, .int p1)], [.int (1 : Int32), .ref 135])) tb_c_207_0 mx_207 1 rfl ?_
    exact go_lv (ls_sc rfl rfl (ls_sc rfl rfl ls_nil)) (sn_Mo_ran_18 h)
  · rw [if_neg g4] at h
    refine bk_zf tb_c_207_0 rfl (pc' := 13) rfl (t := 17) rfl (cm_eq_f g4) ?_
    refine bk_b (q := (18, [(0, .ref 135), (1, .int p1)], [.int (0 : Int32), .ref 135])) tb_c_207_0 mx_207 2 rfl ?_
    exact go_lv (ls_sc rfl rfl (ls_sc rfl rfl ls_nil)) (sn_Mo_ran_18 h)
theorem mx_208 : mi_mx tb_P 208 = 8 := rfl
/-- SpecialiserLaw.feed(LSpecialiser;IIIII[J)I -/
noncomputable def fn_La_feed (p1 : Int32) (p2 : Int32) (p3 : Int32) (p4 : Int32) (p5 : Int32) (S : wd_S) : Option (Int32 × wd_S) :=
  (wd_c (fn_Sp_feed p1 p2 p3 p4 p5 S) fun x2o S1 => wd_o x2o (fun x2 =>
  (if (0 : Int32) < 0 ∨ 1 ≤ (0 : Int32).toNatClampNeg then none else
  (wd_b (wd_l S1 180 (0 : Int32).toNatClampNeg ((x2).toInt64)) fun S6 =>
  some ((0 : Int32), S6)))) (fun E4 =>
    (if E4 = "java/lang/IllegalStateException" then
      some ((1 : Int32), S1)
    else
    none)))
set_option maxRecDepth 100000 in
theorem sn_La_feed {L : Nat} {xs : Nat → Int32} {p1 : Int32} {p2 : Int32} {p3 : Int32} {p4 : Int32} {p5 : Int32} {S : wd_S} {x : Int32} {S' : wd_S} (h : fn_La_feed p1 p2 p3 p4 p5 S = some (x, S')) : ev_r tb_P L xs (3 + 1) 208 [.ref 1, .int p1, .int p2, .int p3, .int p4, .int p5, .ref 180] (wd_k S) (.inl (some (.int x)), wd_k S') := by
  unfold fn_La_feed at h
  refine ev_of (Nat.le_of_ble_eq_true rfl) ?_
  show go_r tb_P L xs 3 208 0 [(0, .ref 1), (1, .int p1), (2, .int p2), (3, .int p3), (4, .int p4), (5, .int p5), (6, .ref 180)] [] (wd_k S) (.inl (some (.int x)), wd_k S')
  refine bk_b (q := (11, [(0, .ref 1), (1, .int p1), (2, .int p2), (3, .int p3), (4, .int p4), (5, .int p5), (6, .ref 180)], [.int p5, .int p4, .int p3, .int p2, .int p1, .ref 1, .int (0 : Int32), .ref 180])) tb_c_208_0 mx_208 8 rfl ?_
  obtain ⟨x2o, S1, c3, h⟩ := wd_cx h
  rcases wd_ox h with ⟨x2, rfl, nx2⟩ | ⟨E4, rfl, nx2⟩
  · replace h := nx2
    refine bk_kv tb_c_208_0 rfl rfl rfl rfl rfl (ci := 10) rfl rfl (ev_up (Nat.le_of_ble_eq_true rfl) (sn_Sp_feed c3)) ?_
    refine bk_b (q := (15, [(0, .ref 1), (1, .int p1), (2, .int p2), (3, .int p3), (4, .int p4), (5, .int p5), (6, .ref 180)], [.long ((x2).toInt64), .int (0 : Int32), .ref 180])) tb_c_208_0 mx_208 1 rfl ?_
    by_cases g5 : (0 : Int32) < 0 ∨ 1 ≤ (0 : Int32).toNatClampNeg
    · rw [if_pos g5] at h; cases h
    · rw [if_neg g5] at h
      obtain ⟨S6, eS6, h⟩ := wd_bx h
      refine bk_s8 tb_c_208_0 rfl rfl rfl g5 ?_
      rw [eS6]
      refine bk_b (q := (24, [(0, .ref 1), (1, .int p1), (2, .int p2), (3, .int p3), (4, .int p4), (5, .int p5), (6, .ref 180)], [.int (0 : Int32)])) tb_c_208_0 mx_208 2 rfl ?_
      cases h
      exact bk_t tb_c_208_0 rfl rfl
  · replace h := nx2
    by_cases g7 : E4 = "java/lang/IllegalStateException"
    · rw [if_pos g7] at h
      subst g7
      refine bk_kw tb_c_208_0 rfl rfl rfl rfl (ci := 10) rfl rfl (ev_up (Nat.le_of_ble_eq_true rfl) (sn_Sp_feed c3)) (hp := 19) (show mi_ca tb_P 208 11 "java/lang/IllegalStateException" = some 19 by decide +kernel) tb_c_208_0 (pc' := 21) rfl rfl rfl (lv' := [(0, .ref 1), (1, .int p1), (2, .int p2), (3, .int p3), (4, .int p4), (5, .int p5), (6, .ref 180)]) rfl ?_
      refine bk_b (q := (22, [(0, .ref 1), (1, .int p1), (2, .int p2), (3, .int p3), (4, .int p4), (5, .int p5), (6, .ref 180)], [.int (1 : Int32)])) tb_c_208_0 mx_208 1 rfl ?_
      cases h
      exact bk_t tb_c_208_0 rfl rfl
    · rw [if_neg g7] at h
      cases h
theorem mx_209 : mi_mx tb_P 209 = 4 := rfl
/-- SpecialiserLaw.cut(LSpecialiser;I[J)I -/
noncomputable def fn_La_cut (p1 : Int32) (S : wd_S) : Option (Int32 × wd_S) :=
  (wd_c (fn_Sp_cut p1 S) fun x2o S1 => wd_o x2o (fun x2 =>
  (if (0 : Int32) < 0 ∨ 1 ≤ (0 : Int32).toNatClampNeg then none else
  (wd_b (wd_l S1 180 (0 : Int32).toNatClampNeg ((x2).toInt64)) fun S6 =>
  some ((0 : Int32), S6)))) (fun E4 =>
    (if E4 = "java/lang/IllegalArgumentException" then
      some ((1 : Int32), S1)
    else
    none)))
set_option maxRecDepth 100000 in
theorem sn_La_cut {L : Nat} {xs : Nat → Int32} {p1 : Int32} {S : wd_S} {x : Int32} {S' : wd_S} (h : fn_La_cut p1 S = some (x, S')) : ev_r tb_P L xs (1 + 1) 209 [.ref 1, .int p1, .ref 180] (wd_k S) (.inl (some (.int x)), wd_k S') := by
  unfold fn_La_cut at h
  refine ev_of (Nat.le_of_ble_eq_true rfl) ?_
  show go_r tb_P L xs 1 209 0 [(0, .ref 1), (1, .int p1), (2, .ref 180)] [] (wd_k S) (.inl (some (.int x)), wd_k S')
  refine bk_b (q := (4, [(0, .ref 1), (1, .int p1), (2, .ref 180)], [.int p1, .ref 1, .int (0 : Int32), .ref 180])) tb_c_209_0 mx_209 4 rfl ?_
  obtain ⟨x2o, S1, c3, h⟩ := wd_cx h
  rcases wd_ox h with ⟨x2, rfl, nx2⟩ | ⟨E4, rfl, nx2⟩
  · replace h := nx2
    refine bk_kv tb_c_209_0 rfl rfl rfl rfl rfl (ci := 10) rfl rfl (ev_up (Nat.le_of_ble_eq_true rfl) (sn_Sp_cut c3)) ?_
    refine bk_b (q := (8, [(0, .ref 1), (1, .int p1), (2, .ref 180)], [.long ((x2).toInt64), .int (0 : Int32), .ref 180])) tb_c_209_0 mx_209 1 rfl ?_
    by_cases g5 : (0 : Int32) < 0 ∨ 1 ≤ (0 : Int32).toNatClampNeg
    · rw [if_pos g5] at h; cases h
    · rw [if_neg g5] at h
      obtain ⟨S6, eS6, h⟩ := wd_bx h
      refine bk_s8 tb_c_209_0 rfl rfl rfl g5 ?_
      rw [eS6]
      refine bk_b (q := (16, [(0, .ref 1), (1, .int p1), (2, .ref 180)], [.int (0 : Int32)])) tb_c_209_0 mx_209 2 rfl ?_
      cases h
      exact bk_t tb_c_209_0 rfl rfl
  · replace h := nx2
    by_cases g7 : E4 = "java/lang/IllegalArgumentException"
    · rw [if_pos g7] at h
      subst g7
      refine bk_kn tb_c_209_0 rfl rfl rfl rfl (ci := 10) rfl rfl (ev_up (Nat.le_of_ble_eq_true rfl) (sn_Sp_cut c3)) (hp := 12) (show mi_ca tb_P 209 4 "java/lang/IllegalArgumentException" = some 12 by decide +kernel) tb_c_209_0 (pc' := 13) rfl rfl rfl (lv' := [(0, .ref 1), (1, .int p1), (2, .ref 180)]) rfl ?_
      refine bk_b (q := (14, [(0, .ref 1), (1, .int p1), (2, .ref 180)], [.int (1 : Int32)])) tb_c_209_0 mx_209 1 rfl ?_
      cases h
      exact bk_t tb_c_209_0 rfl rfl
    · rw [if_neg g7] at h
      cases h
theorem mx_210 : mi_mx tb_P 210 = 5 := rfl
/-- SpecialiserLaw.function(LSpecialiser;II[J)I -/
noncomputable def fn_La_function (p1 : Int32) (p2 : Int32) (S : wd_S) : Option (Int32 × wd_S) :=
  (wd_c (fn_Sp_function p1 p2 S) fun x2o S1 => wd_o x2o (fun x2 =>
  (if (0 : Int32) < 0 ∨ 1 ≤ (0 : Int32).toNatClampNeg then none else
  (wd_b (wd_l S1 180 (0 : Int32).toNatClampNeg ((x2).toInt64)) fun S6 =>
  some ((0 : Int32), S6)))) (fun E4 =>
    (if E4 = "java/lang/IndexOutOfBoundsException" then
      some ((1 : Int32), S1)
    else
    none)))
set_option maxRecDepth 100000 in
theorem sn_La_function {L : Nat} {xs : Nat → Int32} {p1 : Int32} {p2 : Int32} {S : wd_S} {x : Int32} {S' : wd_S} (h : fn_La_function p1 p2 S = some (x, S')) : ev_r tb_P L xs (4 + 1) 210 [.ref 1, .int p1, .int p2, .ref 180] (wd_k S) (.inl (some (.int x)), wd_k S') := by
  unfold fn_La_function at h
  refine ev_of (Nat.le_of_ble_eq_true rfl) ?_
  show go_r tb_P L xs 4 210 0 [(0, .ref 1), (1, .int p1), (2, .int p2), (3, .ref 180)] [] (wd_k S) (.inl (some (.int x)), wd_k S')
  refine bk_b (q := (5, [(0, .ref 1), (1, .int p1), (2, .int p2), (3, .ref 180)], [.int p2, .int p1, .ref 1, .int (0 : Int32), .ref 180])) tb_c_210_0 mx_210 5 rfl ?_
  obtain ⟨x2o, S1, c3, h⟩ := wd_cx h
  rcases wd_ox h with ⟨x2, rfl, nx2⟩ | ⟨E4, rfl, nx2⟩
  · replace h := nx2
    refine bk_kv tb_c_210_0 rfl rfl rfl rfl rfl (ci := 10) rfl rfl (ev_up (Nat.le_of_ble_eq_true rfl) (sn_Sp_function c3)) ?_
    refine bk_b (q := (9, [(0, .ref 1), (1, .int p1), (2, .int p2), (3, .ref 180)], [.long ((x2).toInt64), .int (0 : Int32), .ref 180])) tb_c_210_0 mx_210 1 rfl ?_
    by_cases g5 : (0 : Int32) < 0 ∨ 1 ≤ (0 : Int32).toNatClampNeg
    · rw [if_pos g5] at h; cases h
    · rw [if_neg g5] at h
      obtain ⟨S6, eS6, h⟩ := wd_bx h
      refine bk_s8 tb_c_210_0 rfl rfl rfl g5 ?_
      rw [eS6]
      refine bk_b (q := (18, [(0, .ref 1), (1, .int p1), (2, .int p2), (3, .ref 180)], [.int (0 : Int32)])) tb_c_210_0 mx_210 2 rfl ?_
      cases h
      exact bk_t tb_c_210_0 rfl rfl
  · replace h := nx2
    by_cases g7 : E4 = "java/lang/IndexOutOfBoundsException"
    · rw [if_pos g7] at h
      subst g7
      refine bk_kw tb_c_210_0 rfl rfl rfl rfl (ci := 10) rfl rfl (ev_up (Nat.le_of_ble_eq_true rfl) (sn_Sp_function c3)) (hp := 13) (show mi_ca tb_P 210 5 "java/lang/IndexOutOfBoundsException" = some 13 by decide +kernel) tb_c_210_0 (pc' := 15) rfl rfl rfl (lv' := [(0, .ref 1), (1, .int p1), (2, .int p2), (3, .ref 180)]) rfl ?_
      refine bk_b (q := (16, [(0, .ref 1), (1, .int p1), (2, .int p2), (3, .ref 180)], [.int (1 : Int32)])) tb_c_210_0 mx_210 1 rfl ?_
      cases h
      exact bk_t tb_c_210_0 rfl rfl
    · rw [if_neg g7] at h
      cases h
theorem mx_211 : mi_mx tb_P 211 = 5 := rfl
/-- SpecialiserLaw.know(LSpecialiser;II[J)I -/
noncomputable def fn_La_know (p1 : Int32) (p2 : Int32) (S : wd_S) : Option (Int32 × wd_S) :=
  (wd_c (fn_Sp_know p1 p2 S) fun x2o S1 => wd_o x2o (fun x2 =>
  (if (0 : Int32) < 0 ∨ 1 ≤ (0 : Int32).toNatClampNeg then none else
  (wd_b (wd_l S1 180 (0 : Int32).toNatClampNeg ((x2).toInt64)) fun S6 =>
  some ((0 : Int32), S6)))) (fun E4 =>
    (if E4 = "java/lang/IndexOutOfBoundsException" then
      some ((1 : Int32), S1)
    else
    none)))
set_option maxRecDepth 100000 in
theorem sn_La_know {L : Nat} {xs : Nat → Int32} {p1 : Int32} {p2 : Int32} {S : wd_S} {x : Int32} {S' : wd_S} (h : fn_La_know p1 p2 S = some (x, S')) : ev_r tb_P L xs (2 + 1) 211 [.ref 1, .int p1, .int p2, .ref 180] (wd_k S) (.inl (some (.int x)), wd_k S') := by
  unfold fn_La_know at h
  refine ev_of (Nat.le_of_ble_eq_true rfl) ?_
  show go_r tb_P L xs 2 211 0 [(0, .ref 1), (1, .int p1), (2, .int p2), (3, .ref 180)] [] (wd_k S) (.inl (some (.int x)), wd_k S')
  refine bk_b (q := (5, [(0, .ref 1), (1, .int p1), (2, .int p2), (3, .ref 180)], [.int p2, .int p1, .ref 1, .int (0 : Int32), .ref 180])) tb_c_211_0 mx_211 5 rfl ?_
  obtain ⟨x2o, S1, c3, h⟩ := wd_cx h
  rcases wd_ox h with ⟨x2, rfl, nx2⟩ | ⟨E4, rfl, nx2⟩
  · replace h := nx2
    refine bk_kv tb_c_211_0 rfl rfl rfl rfl rfl (ci := 10) rfl rfl (ev_up (Nat.le_of_ble_eq_true rfl) (sn_Sp_know c3)) ?_
    refine bk_b (q := (9, [(0, .ref 1), (1, .int p1), (2, .int p2), (3, .ref 180)], [.long ((x2).toInt64), .int (0 : Int32), .ref 180])) tb_c_211_0 mx_211 1 rfl ?_
    by_cases g5 : (0 : Int32) < 0 ∨ 1 ≤ (0 : Int32).toNatClampNeg
    · rw [if_pos g5] at h; cases h
    · rw [if_neg g5] at h
      obtain ⟨S6, eS6, h⟩ := wd_bx h
      refine bk_s8 tb_c_211_0 rfl rfl rfl g5 ?_
      rw [eS6]
      refine bk_b (q := (18, [(0, .ref 1), (1, .int p1), (2, .int p2), (3, .ref 180)], [.int (0 : Int32)])) tb_c_211_0 mx_211 2 rfl ?_
      cases h
      exact bk_t tb_c_211_0 rfl rfl
  · replace h := nx2
    by_cases g7 : E4 = "java/lang/IndexOutOfBoundsException"
    · rw [if_pos g7] at h
      subst g7
      refine bk_kw tb_c_211_0 rfl rfl rfl rfl (ci := 10) rfl rfl (ev_up (Nat.le_of_ble_eq_true rfl) (sn_Sp_know c3)) (hp := 13) (show mi_ca tb_P 211 5 "java/lang/IndexOutOfBoundsException" = some 13 by decide +kernel) tb_c_211_0 (pc' := 15) rfl rfl rfl (lv' := [(0, .ref 1), (1, .int p1), (2, .int p2), (3, .ref 180)]) rfl ?_
      refine bk_b (q := (16, [(0, .ref 1), (1, .int p1), (2, .int p2), (3, .ref 180)], [.int (1 : Int32)])) tb_c_211_0 mx_211 1 rfl ?_
      cases h
      exact bk_t tb_c_211_0 rfl rfl
    · rw [if_neg g7] at h
      cases h
theorem mx_212 : mi_mx tb_P 212 = 4 := rfl
/-- SpecialiserLaw.make(LSpecialiser;I[J)I -/
noncomputable def fn_La_make (p1 : Int32) (S : wd_S) : Option (Int32 × wd_S) :=
  (wd_c (fn_Sp_make p1 S) fun x2o S1 => wd_o x2o (fun x2 =>
  (if (0 : Int32) < 0 ∨ 1 ≤ (0 : Int32).toNatClampNeg then none else
  (wd_b (wd_l S1 180 (0 : Int32).toNatClampNeg ((x2).toInt64)) fun S6 =>
  some ((0 : Int32), S6)))) (fun E4 =>
    (if E4 = "java/lang/IllegalStateException" then
      some ((1 : Int32), S1)
    else
    (if E4 = "java/lang/IndexOutOfBoundsException" then
      some ((2 : Int32), S1)
    else
    (if E4 = "java/lang/UnsupportedOperationException" then
      some ((3 : Int32), S1)
    else
    none)))))
set_option maxRecDepth 100000 in
theorem sn_La_make {L : Nat} {xs : Nat → Int32} {p1 : Int32} {S : wd_S} {x : Int32} {S' : wd_S} (h : fn_La_make p1 S = some (x, S')) : ev_r tb_P L xs (206 + 1) 212 [.ref 1, .int p1, .ref 180] (wd_k S) (.inl (some (.int x)), wd_k S') := by
  unfold fn_La_make at h
  refine ev_of (Nat.le_of_ble_eq_true rfl) ?_
  show go_r tb_P L xs 206 212 0 [(0, .ref 1), (1, .int p1), (2, .ref 180)] [] (wd_k S) (.inl (some (.int x)), wd_k S')
  refine bk_b (q := (4, [(0, .ref 1), (1, .int p1), (2, .ref 180)], [.int p1, .ref 1, .int (0 : Int32), .ref 180])) tb_c_212_0 mx_212 4 rfl ?_
  obtain ⟨x2o, S1, c3, h⟩ := wd_cx h
  rcases wd_ox h with ⟨x2, rfl, nx2⟩ | ⟨E4, rfl, nx2⟩
  · replace h := nx2
    refine bk_kv tb_c_212_0 rfl rfl rfl rfl rfl (ci := 10) rfl rfl (ev_up (Nat.le_of_ble_eq_true rfl) (sn_Sp_make c3)) ?_
    refine bk_b (q := (8, [(0, .ref 1), (1, .int p1), (2, .ref 180)], [.long ((x2).toInt64), .int (0 : Int32), .ref 180])) tb_c_212_0 mx_212 1 rfl ?_
    by_cases g5 : (0 : Int32) < 0 ∨ 1 ≤ (0 : Int32).toNatClampNeg
    · rw [if_pos g5] at h; cases h
    · rw [if_neg g5] at h
      obtain ⟨S6, eS6, h⟩ := wd_bx h
      refine bk_s8 tb_c_212_0 rfl rfl rfl g5 ?_
      rw [eS6]
      refine bk_b (q := (22, [(0, .ref 1), (1, .int p1), (2, .ref 180)], [.int (0 : Int32)])) tb_c_212_0 mx_212 2 rfl ?_
      cases h
      exact bk_t tb_c_212_0 rfl rfl
  · replace h := nx2
    by_cases g7 : E4 = "java/lang/IllegalStateException"
    · rw [if_pos g7] at h
      subst g7
      refine bk_kn tb_c_212_0 rfl rfl rfl rfl (ci := 10) rfl rfl (ev_up (Nat.le_of_ble_eq_true rfl) (sn_Sp_make c3)) (hp := 12) (show mi_ca tb_P 212 4 "java/lang/IllegalStateException" = some 12 by decide +kernel) tb_c_212_0 (pc' := 13) rfl rfl rfl (lv' := [(0, .ref 1), (1, .int p1), (2, .ref 180)]) rfl ?_
      refine bk_b (q := (14, [(0, .ref 1), (1, .int p1), (2, .ref 180)], [.int (1 : Int32)])) tb_c_212_0 mx_212 1 rfl ?_
      cases h
      exact bk_t tb_c_212_0 rfl rfl
    · rw [if_neg g7] at h
      by_cases g8 : E4 = "java/lang/IndexOutOfBoundsException"
      · rw [if_pos g8] at h
        subst g8
        refine bk_kn tb_c_212_0 rfl rfl rfl rfl (ci := 10) rfl rfl (ev_up (Nat.le_of_ble_eq_true rfl) (sn_Sp_make c3)) (hp := 15) (show mi_ca tb_P 212 4 "java/lang/IndexOutOfBoundsException" = some 15 by decide +kernel) tb_c_212_0 (pc' := 16) rfl rfl rfl (lv' := [(0, .ref 1), (1, .int p1), (2, .ref 180)]) rfl ?_
        refine bk_b (q := (17, [(0, .ref 1), (1, .int p1), (2, .ref 180)], [.int (2 : Int32)])) tb_c_212_0 mx_212 1 rfl ?_
        cases h
        exact bk_t tb_c_212_0 rfl rfl
      · rw [if_neg g8] at h
        by_cases g9 : E4 = "java/lang/UnsupportedOperationException"
        · rw [if_pos g9] at h
          subst g9
          refine bk_kn tb_c_212_0 rfl rfl rfl rfl (ci := 10) rfl rfl (ev_up (Nat.le_of_ble_eq_true rfl) (sn_Sp_make c3)) (hp := 18) (show mi_ca tb_P 212 4 "java/lang/UnsupportedOperationException" = some 18 by decide +kernel) tb_c_212_0 (pc' := 19) rfl rfl rfl (lv' := [(0, .ref 1), (1, .int p1), (2, .ref 180)]) rfl ?_
          refine bk_b (q := (20, [(0, .ref 1), (1, .int p1), (2, .ref 180)], [.int (3 : Int32)])) tb_c_212_0 mx_212 1 rfl ?_
          cases h
          exact bk_t tb_c_212_0 rfl rfl
        · rw [if_neg g9] at h
          cases h
theorem mx_213 : mi_mx tb_P 213 = 5 := rfl
/-- SpecialiserLaw.version(LSpecialiser;II[J)I -/
noncomputable def fn_La_version (p1 : Int32) (p2 : Int32) (S : wd_S) : Option (Int32 × wd_S) :=
  (wd_c (fn_Sp_version p1 p2 S) fun x2o S1 => wd_o x2o (fun x2 =>
  (if (0 : Int32) < 0 ∨ 1 ≤ (0 : Int32).toNatClampNeg then none else
  (wd_b (wd_l S1 180 (0 : Int32).toNatClampNeg ((x2).toInt64)) fun S6 =>
  some ((0 : Int32), S6)))) (fun E4 =>
    (if E4 = "java/lang/IndexOutOfBoundsException" then
      some ((1 : Int32), S1)
    else
    none)))
set_option maxRecDepth 100000 in
theorem sn_La_version {L : Nat} {xs : Nat → Int32} {p1 : Int32} {p2 : Int32} {S : wd_S} {x : Int32} {S' : wd_S} (h : fn_La_version p1 p2 S = some (x, S')) : ev_r tb_P L xs (4 + 1) 213 [.ref 1, .int p1, .int p2, .ref 180] (wd_k S) (.inl (some (.int x)), wd_k S') := by
  unfold fn_La_version at h
  refine ev_of (Nat.le_of_ble_eq_true rfl) ?_
  show go_r tb_P L xs 4 213 0 [(0, .ref 1), (1, .int p1), (2, .int p2), (3, .ref 180)] [] (wd_k S) (.inl (some (.int x)), wd_k S')
  refine bk_b (q := (5, [(0, .ref 1), (1, .int p1), (2, .int p2), (3, .ref 180)], [.int p2, .int p1, .ref 1, .int (0 : Int32), .ref 180])) tb_c_213_0 mx_213 5 rfl ?_
  obtain ⟨x2o, S1, c3, h⟩ := wd_cx h
  rcases wd_ox h with ⟨x2, rfl, nx2⟩ | ⟨E4, rfl, nx2⟩
  · replace h := nx2
    refine bk_kv tb_c_213_0 rfl rfl rfl rfl rfl (ci := 10) rfl rfl (ev_up (Nat.le_of_ble_eq_true rfl) (sn_Sp_version c3)) ?_
    refine bk_b (q := (9, [(0, .ref 1), (1, .int p1), (2, .int p2), (3, .ref 180)], [.long ((x2).toInt64), .int (0 : Int32), .ref 180])) tb_c_213_0 mx_213 1 rfl ?_
    by_cases g5 : (0 : Int32) < 0 ∨ 1 ≤ (0 : Int32).toNatClampNeg
    · rw [if_pos g5] at h; cases h
    · rw [if_neg g5] at h
      obtain ⟨S6, eS6, h⟩ := wd_bx h
      refine bk_s8 tb_c_213_0 rfl rfl rfl g5 ?_
      rw [eS6]
      refine bk_b (q := (18, [(0, .ref 1), (1, .int p1), (2, .int p2), (3, .ref 180)], [.int (0 : Int32)])) tb_c_213_0 mx_213 2 rfl ?_
      cases h
      exact bk_t tb_c_213_0 rfl rfl
  · replace h := nx2
    by_cases g7 : E4 = "java/lang/IndexOutOfBoundsException"
    · rw [if_pos g7] at h
      subst g7
      refine bk_kw tb_c_213_0 rfl rfl rfl rfl (ci := 10) rfl rfl (ev_up (Nat.le_of_ble_eq_true rfl) (sn_Sp_version c3)) (hp := 13) (show mi_ca tb_P 213 5 "java/lang/IndexOutOfBoundsException" = some 13 by decide +kernel) tb_c_213_0 (pc' := 15) rfl rfl rfl (lv' := [(0, .ref 1), (1, .int p1), (2, .int p2), (3, .ref 180)]) rfl ?_
      refine bk_b (q := (16, [(0, .ref 1), (1, .int p1), (2, .int p2), (3, .ref 180)], [.int (1 : Int32)])) tb_c_213_0 mx_213 1 rfl ?_
      cases h
      exact bk_t tb_c_213_0 rfl rfl
    · rw [if_neg g7] at h
      cases h
theorem mx_214 : mi_mx tb_P 214 = 4 := rfl
/-- SpecialiserLaw.told(LSpecialiser;I[J)I -/
noncomputable def fn_La_told (p1 : Int32) (S : wd_S) : Option (Int32 × wd_S) :=
  (wd_c (fn_Sp_told p1 S) fun x2o S1 => wd_o x2o (fun x2 =>
  (if (0 : Int32) < 0 ∨ 1 ≤ (0 : Int32).toNatClampNeg then none else
  (wd_b (wd_l S1 180 (0 : Int32).toNatClampNeg ((x2).toInt64)) fun S6 =>
  some ((0 : Int32), S6)))) (fun E4 =>
    (if E4 = "java/lang/IndexOutOfBoundsException" then
      some ((1 : Int32), S1)
    else
    none)))
set_option maxRecDepth 100000 in
theorem sn_La_told {L : Nat} {xs : Nat → Int32} {p1 : Int32} {S : wd_S} {x : Int32} {S' : wd_S} (h : fn_La_told p1 S = some (x, S')) : ev_r tb_P L xs (2 + 1) 214 [.ref 1, .int p1, .ref 180] (wd_k S) (.inl (some (.int x)), wd_k S') := by
  unfold fn_La_told at h
  refine ev_of (Nat.le_of_ble_eq_true rfl) ?_
  show go_r tb_P L xs 2 214 0 [(0, .ref 1), (1, .int p1), (2, .ref 180)] [] (wd_k S) (.inl (some (.int x)), wd_k S')
  refine bk_b (q := (4, [(0, .ref 1), (1, .int p1), (2, .ref 180)], [.int p1, .ref 1, .int (0 : Int32), .ref 180])) tb_c_214_0 mx_214 4 rfl ?_
  obtain ⟨x2o, S1, c3, h⟩ := wd_cx h
  rcases wd_ox h with ⟨x2, rfl, nx2⟩ | ⟨E4, rfl, nx2⟩
  · replace h := nx2
    refine bk_kv tb_c_214_0 rfl rfl rfl rfl rfl (ci := 10) rfl rfl (ev_up (Nat.le_of_ble_eq_true rfl) (sn_Sp_told c3)) ?_
    refine bk_b (q := (8, [(0, .ref 1), (1, .int p1), (2, .ref 180)], [.long ((x2).toInt64), .int (0 : Int32), .ref 180])) tb_c_214_0 mx_214 1 rfl ?_
    by_cases g5 : (0 : Int32) < 0 ∨ 1 ≤ (0 : Int32).toNatClampNeg
    · rw [if_pos g5] at h; cases h
    · rw [if_neg g5] at h
      obtain ⟨S6, eS6, h⟩ := wd_bx h
      refine bk_s8 tb_c_214_0 rfl rfl rfl g5 ?_
      rw [eS6]
      refine bk_b (q := (16, [(0, .ref 1), (1, .int p1), (2, .ref 180)], [.int (0 : Int32)])) tb_c_214_0 mx_214 2 rfl ?_
      cases h
      exact bk_t tb_c_214_0 rfl rfl
  · replace h := nx2
    by_cases g7 : E4 = "java/lang/IndexOutOfBoundsException"
    · rw [if_pos g7] at h
      subst g7
      refine bk_kn tb_c_214_0 rfl rfl rfl rfl (ci := 10) rfl rfl (ev_up (Nat.le_of_ble_eq_true rfl) (sn_Sp_told c3)) (hp := 12) (show mi_ca tb_P 214 4 "java/lang/IndexOutOfBoundsException" = some 12 by decide +kernel) tb_c_214_0 (pc' := 13) rfl rfl rfl (lv' := [(0, .ref 1), (1, .int p1), (2, .ref 180)]) rfl ?_
      refine bk_b (q := (14, [(0, .ref 1), (1, .int p1), (2, .ref 180)], [.int (1 : Int32)])) tb_c_214_0 mx_214 1 rfl ?_
      cases h
      exact bk_t tb_c_214_0 rfl rfl
    · rw [if_neg g7] at h
      cases h
theorem mx_215 : mi_mx tb_P 215 = 3 := rfl
/-- SpecialiserLaw.print(LSpecialiser;[J)I -/
noncomputable def fn_La_print (S : wd_S) : Option (Int32 × wd_S) :=
  (wd_c (fn_Sp_print  S) fun x2o S1 => wd_o x2o (fun x2 =>
  (if (0 : Int32) < 0 ∨ 1 ≤ (0 : Int32).toNatClampNeg then none else
  (wd_b (wd_l S1 180 (0 : Int32).toNatClampNeg ((x2).toInt64)) fun S6 =>
  some ((0 : Int32), S6)))) (fun E4 =>
    (if E4 = "java/lang/IllegalStateException" then
      some ((1 : Int32), S1)
    else
    (if E4 = "java/lang/UnsupportedOperationException" then
      some ((2 : Int32), S1)
    else
    none))))
set_option maxRecDepth 100000 in
theorem sn_La_print {L : Nat} {xs : Nat → Int32} {S : wd_S} {x : Int32} {S' : wd_S} (h : fn_La_print  S = some (x, S')) : ev_r tb_P L xs (207 + 1) 215 [.ref 1, .ref 180] (wd_k S) (.inl (some (.int x)), wd_k S') := by
  unfold fn_La_print at h
  refine ev_of (Nat.le_of_ble_eq_true rfl) ?_
  show go_r tb_P L xs 207 215 0 [(0, .ref 1), (1, .ref 180)] [] (wd_k S) (.inl (some (.int x)), wd_k S')
  refine bk_b (q := (3, [(0, .ref 1), (1, .ref 180)], [.ref 1, .int (0 : Int32), .ref 180])) tb_c_215_0 mx_215 3 rfl ?_
  obtain ⟨x2o, S1, c3, h⟩ := wd_cx h
  rcases wd_ox h with ⟨x2, rfl, nx2⟩ | ⟨E4, rfl, nx2⟩
  · replace h := nx2
    refine bk_kv tb_c_215_0 rfl rfl rfl rfl rfl (ci := 10) rfl rfl (ev_up (Nat.le_of_ble_eq_true rfl) (sn_Sp_print c3)) ?_
    refine bk_b (q := (7, [(0, .ref 1), (1, .ref 180)], [.long ((x2).toInt64), .int (0 : Int32), .ref 180])) tb_c_215_0 mx_215 1 rfl ?_
    by_cases g5 : (0 : Int32) < 0 ∨ 1 ≤ (0 : Int32).toNatClampNeg
    · rw [if_pos g5] at h; cases h
    · rw [if_neg g5] at h
      obtain ⟨S6, eS6, h⟩ := wd_bx h
      refine bk_s8 tb_c_215_0 rfl rfl rfl g5 ?_
      rw [eS6]
      refine bk_b (q := (18, [(0, .ref 1), (1, .ref 180)], [.int (0 : Int32)])) tb_c_215_0 mx_215 2 rfl ?_
      cases h
      exact bk_t tb_c_215_0 rfl rfl
  · replace h := nx2
    by_cases g7 : E4 = "java/lang/IllegalStateException"
    · rw [if_pos g7] at h
      subst g7
      refine bk_kn tb_c_215_0 rfl rfl rfl rfl (ci := 10) rfl rfl (ev_up (Nat.le_of_ble_eq_true rfl) (sn_Sp_print c3)) (hp := 11) (show mi_ca tb_P 215 3 "java/lang/IllegalStateException" = some 11 by decide +kernel) tb_c_215_0 (pc' := 12) rfl rfl rfl (lv' := [(0, .ref 1), (1, .ref 180)]) rfl ?_
      refine bk_b (q := (13, [(0, .ref 1), (1, .ref 180)], [.int (1 : Int32)])) tb_c_215_0 mx_215 1 rfl ?_
      cases h
      exact bk_t tb_c_215_0 rfl rfl
    · rw [if_neg g7] at h
      by_cases g8 : E4 = "java/lang/UnsupportedOperationException"
      · rw [if_pos g8] at h
        subst g8
        refine bk_kn tb_c_215_0 rfl rfl rfl rfl (ci := 10) rfl rfl (ev_up (Nat.le_of_ble_eq_true rfl) (sn_Sp_print c3)) (hp := 14) (show mi_ca tb_P 215 3 "java/lang/UnsupportedOperationException" = some 14 by decide +kernel) tb_c_215_0 (pc' := 15) rfl rfl rfl (lv' := [(0, .ref 1), (1, .ref 180)]) rfl ?_
        refine bk_b (q := (16, [(0, .ref 1), (1, .ref 180)], [.int (2 : Int32)])) tb_c_215_0 mx_215 1 rfl ?_
        cases h
        exact bk_t tb_c_215_0 rfl rfl
      · rw [if_neg g8] at h
        cases h
theorem mx_216 : mi_mx tb_P 216 = 4 := rfl
/-- SpecialiserLaw.out(LSpecialiser;I[J)I -/
noncomputable def fn_La_out (p1 : Int32) (S : wd_S) : Option (Int32 × wd_S) :=
  (wd_c (fn_Sp_out p1 S) fun x2o S1 => wd_o x2o (fun x2 =>
  (if (0 : Int32) < 0 ∨ 1 ≤ (0 : Int32).toNatClampNeg then none else
  (wd_b (wd_l S1 180 (0 : Int32).toNatClampNeg ((x2).toInt64)) fun S6 =>
  some ((0 : Int32), S6)))) (fun E4 =>
    (if E4 = "java/lang/IndexOutOfBoundsException" then
      some ((1 : Int32), S1)
    else
    none)))
set_option maxRecDepth 100000 in
theorem sn_La_out {L : Nat} {xs : Nat → Int32} {p1 : Int32} {S : wd_S} {x : Int32} {S' : wd_S} (h : fn_La_out p1 S = some (x, S')) : ev_r tb_P L xs (2 + 1) 216 [.ref 1, .int p1, .ref 180] (wd_k S) (.inl (some (.int x)), wd_k S') := by
  unfold fn_La_out at h
  refine ev_of (Nat.le_of_ble_eq_true rfl) ?_
  show go_r tb_P L xs 2 216 0 [(0, .ref 1), (1, .int p1), (2, .ref 180)] [] (wd_k S) (.inl (some (.int x)), wd_k S')
  refine bk_b (q := (4, [(0, .ref 1), (1, .int p1), (2, .ref 180)], [.int p1, .ref 1, .int (0 : Int32), .ref 180])) tb_c_216_0 mx_216 4 rfl ?_
  obtain ⟨x2o, S1, c3, h⟩ := wd_cx h
  rcases wd_ox h with ⟨x2, rfl, nx2⟩ | ⟨E4, rfl, nx2⟩
  · replace h := nx2
    refine bk_kv tb_c_216_0 rfl rfl rfl rfl rfl (ci := 10) rfl rfl (ev_up (Nat.le_of_ble_eq_true rfl) (sn_Sp_out c3)) ?_
    refine bk_b (q := (8, [(0, .ref 1), (1, .int p1), (2, .ref 180)], [.long ((x2).toInt64), .int (0 : Int32), .ref 180])) tb_c_216_0 mx_216 1 rfl ?_
    by_cases g5 : (0 : Int32) < 0 ∨ 1 ≤ (0 : Int32).toNatClampNeg
    · rw [if_pos g5] at h; cases h
    · rw [if_neg g5] at h
      obtain ⟨S6, eS6, h⟩ := wd_bx h
      refine bk_s8 tb_c_216_0 rfl rfl rfl g5 ?_
      rw [eS6]
      refine bk_b (q := (16, [(0, .ref 1), (1, .int p1), (2, .ref 180)], [.int (0 : Int32)])) tb_c_216_0 mx_216 2 rfl ?_
      cases h
      exact bk_t tb_c_216_0 rfl rfl
  · replace h := nx2
    by_cases g7 : E4 = "java/lang/IndexOutOfBoundsException"
    · rw [if_pos g7] at h
      subst g7
      refine bk_kn tb_c_216_0 rfl rfl rfl rfl (ci := 10) rfl rfl (ev_up (Nat.le_of_ble_eq_true rfl) (sn_Sp_out c3)) (hp := 12) (show mi_ca tb_P 216 4 "java/lang/IndexOutOfBoundsException" = some 12 by decide +kernel) tb_c_216_0 (pc' := 13) rfl rfl rfl (lv' := [(0, .ref 1), (1, .int p1), (2, .ref 180)]) rfl ?_
      refine bk_b (q := (14, [(0, .ref 1), (1, .int p1), (2, .ref 180)], [.int (1 : Int32)])) tb_c_216_0 mx_216 1 rfl ?_
      cases h
      exact bk_t tb_c_216_0 rfl rfl
    · rw [if_neg g7] at h
      cases h
theorem mx_217 : mi_mx tb_P 217 = 3 := rfl
/-- SpecialiserLaw.back(LSpecialiser;[J)I -/
noncomputable def fn_La_back (S : wd_S) : Option (Int32 × wd_S) :=
  (wd_c (fn_Sp_back  S) fun x2o S1 => wd_o x2o (fun x2 =>
  (if (0 : Int32) < 0 ∨ 1 ≤ (0 : Int32).toNatClampNeg then none else
  (wd_b (wd_l S1 180 (0 : Int32).toNatClampNeg ((x2).toInt64)) fun S6 =>
  some ((0 : Int32), S6)))) (fun E4 =>
    (if E4 = "java/lang/IllegalStateException" then
      some ((1 : Int32), S1)
    else
    none)))
set_option maxRecDepth 100000 in
theorem sn_La_back {L : Nat} {xs : Nat → Int32} {S : wd_S} {x : Int32} {S' : wd_S} (h : fn_La_back  S = some (x, S')) : ev_r tb_P L xs (2 + 1) 217 [.ref 1, .ref 180] (wd_k S) (.inl (some (.int x)), wd_k S') := by
  unfold fn_La_back at h
  refine ev_of (Nat.le_of_ble_eq_true rfl) ?_
  show go_r tb_P L xs 2 217 0 [(0, .ref 1), (1, .ref 180)] [] (wd_k S) (.inl (some (.int x)), wd_k S')
  refine bk_b (q := (3, [(0, .ref 1), (1, .ref 180)], [.ref 1, .int (0 : Int32), .ref 180])) tb_c_217_0 mx_217 3 rfl ?_
  obtain ⟨x2o, S1, c3, h⟩ := wd_cx h
  rcases wd_ox h with ⟨x2, rfl, nx2⟩ | ⟨E4, rfl, nx2⟩
  · replace h := nx2
    refine bk_kv tb_c_217_0 rfl rfl rfl rfl rfl (ci := 10) rfl rfl (ev_up (Nat.le_of_ble_eq_true rfl) (sn_Sp_back c3)) ?_
    refine bk_b (q := (7, [(0, .ref 1), (1, .ref 180)], [.long ((x2).toInt64), .int (0 : Int32), .ref 180])) tb_c_217_0 mx_217 1 rfl ?_
    by_cases g5 : (0 : Int32) < 0 ∨ 1 ≤ (0 : Int32).toNatClampNeg
    · rw [if_pos g5] at h; cases h
    · rw [if_neg g5] at h
      obtain ⟨S6, eS6, h⟩ := wd_bx h
      refine bk_s8 tb_c_217_0 rfl rfl rfl g5 ?_
      rw [eS6]
      refine bk_b (q := (15, [(0, .ref 1), (1, .ref 180)], [.int (0 : Int32)])) tb_c_217_0 mx_217 2 rfl ?_
      cases h
      exact bk_t tb_c_217_0 rfl rfl
  · replace h := nx2
    by_cases g7 : E4 = "java/lang/IllegalStateException"
    · rw [if_pos g7] at h
      subst g7
      refine bk_kn tb_c_217_0 rfl rfl rfl rfl (ci := 10) rfl rfl (ev_up (Nat.le_of_ble_eq_true rfl) (sn_Sp_back c3)) (hp := 11) (show mi_ca tb_P 217 3 "java/lang/IllegalStateException" = some 11 by decide +kernel) tb_c_217_0 (pc' := 12) rfl rfl rfl (lv' := [(0, .ref 1), (1, .ref 180)]) rfl ?_
      refine bk_b (q := (13, [(0, .ref 1), (1, .ref 180)], [.int (1 : Int32)])) tb_c_217_0 mx_217 1 rfl ?_
      cases h
      exact bk_t tb_c_217_0 rfl rfl
    · rw [if_neg g7] at h
      cases h
theorem mx_218 : mi_mx tb_P 218 = 4 := rfl
/-- SpecialiserLaw.give(LSpecialiser;I[J)I -/
noncomputable def fn_La_give (p1 : Int32) (S : wd_S) : Option (Int32 × wd_S) :=
  (wd_c (fn_Sp_give p1 S) fun x2o S1 => wd_o x2o (fun x2 =>
  (if (0 : Int32) < 0 ∨ 1 ≤ (0 : Int32).toNatClampNeg then none else
  (wd_b (wd_l S1 180 (0 : Int32).toNatClampNeg ((x2).toInt64)) fun S6 =>
  some ((0 : Int32), S6)))) (fun E4 =>
    (if E4 = "java/lang/IllegalStateException" then
      some ((1 : Int32), S1)
    else
    none)))
set_option maxRecDepth 100000 in
theorem sn_La_give {L : Nat} {xs : Nat → Int32} {p1 : Int32} {S : wd_S} {x : Int32} {S' : wd_S} (h : fn_La_give p1 S = some (x, S')) : ev_r tb_P L xs (2 + 1) 218 [.ref 1, .int p1, .ref 180] (wd_k S) (.inl (some (.int x)), wd_k S') := by
  unfold fn_La_give at h
  refine ev_of (Nat.le_of_ble_eq_true rfl) ?_
  show go_r tb_P L xs 2 218 0 [(0, .ref 1), (1, .int p1), (2, .ref 180)] [] (wd_k S) (.inl (some (.int x)), wd_k S')
  refine bk_b (q := (4, [(0, .ref 1), (1, .int p1), (2, .ref 180)], [.int p1, .ref 1, .int (0 : Int32), .ref 180])) tb_c_218_0 mx_218 4 rfl ?_
  obtain ⟨x2o, S1, c3, h⟩ := wd_cx h
  rcases wd_ox h with ⟨x2, rfl, nx2⟩ | ⟨E4, rfl, nx2⟩
  · replace h := nx2
    refine bk_kv tb_c_218_0 rfl rfl rfl rfl rfl (ci := 10) rfl rfl (ev_up (Nat.le_of_ble_eq_true rfl) (sn_Sp_give c3)) ?_
    refine bk_b (q := (8, [(0, .ref 1), (1, .int p1), (2, .ref 180)], [.long ((x2).toInt64), .int (0 : Int32), .ref 180])) tb_c_218_0 mx_218 1 rfl ?_
    by_cases g5 : (0 : Int32) < 0 ∨ 1 ≤ (0 : Int32).toNatClampNeg
    · rw [if_pos g5] at h; cases h
    · rw [if_neg g5] at h
      obtain ⟨S6, eS6, h⟩ := wd_bx h
      refine bk_s8 tb_c_218_0 rfl rfl rfl g5 ?_
      rw [eS6]
      refine bk_b (q := (16, [(0, .ref 1), (1, .int p1), (2, .ref 180)], [.int (0 : Int32)])) tb_c_218_0 mx_218 2 rfl ?_
      cases h
      exact bk_t tb_c_218_0 rfl rfl
  · replace h := nx2
    by_cases g7 : E4 = "java/lang/IllegalStateException"
    · rw [if_pos g7] at h
      subst g7
      refine bk_kn tb_c_218_0 rfl rfl rfl rfl (ci := 10) rfl rfl (ev_up (Nat.le_of_ble_eq_true rfl) (sn_Sp_give c3)) (hp := 12) (show mi_ca tb_P 218 4 "java/lang/IllegalStateException" = some 12 by decide +kernel) tb_c_218_0 (pc' := 13) rfl rfl rfl (lv' := [(0, .ref 1), (1, .int p1), (2, .ref 180)]) rfl ?_
      refine bk_b (q := (14, [(0, .ref 1), (1, .int p1), (2, .ref 180)], [.int (1 : Int32)])) tb_c_218_0 mx_218 1 rfl ?_
      cases h
      exact bk_t tb_c_218_0 rfl rfl
    · rw [if_neg g7] at h
      cases h
theorem mx_219 : mi_mx tb_P 219 = 6 := rfl
/-- SpecialiserLaw.run(LSpecialiser;ZII[J)I -/
noncomputable def fn_La_run (p1 : Int32) (p2 : Int32) (p3 : Int32) (S : wd_S) : Option (Int32 × wd_S) :=
  (wd_c (fn_Sp_run p1 p2 p3 S) fun x2o S1 => wd_o x2o (fun x2 =>
  (if (0 : Int32) < 0 ∨ 1 ≤ (0 : Int32).toNatClampNeg then none else
  (wd_b (wd_l S1 180 (0 : Int32).toNatClampNeg ((x2).toInt64)) fun S6 =>
  some ((0 : Int32), S6)))) (fun E4 =>
    (if E4 = "java/lang/IllegalArgumentException" then
      some ((3 : Int32), S1)
    else
    (if E4 = "java/lang/IllegalStateException" then
      some ((1 : Int32), S1)
    else
    (if E4 = "java/lang/IndexOutOfBoundsException" then
      some ((2 : Int32), S1)
    else
    none)))))
set_option maxRecDepth 100000 in
theorem sn_La_run {L : Nat} {xs : Nat → Int32} {p1 : Int32} {p2 : Int32} {p3 : Int32} {S : wd_S} {x : Int32} {S' : wd_S} (h : fn_La_run p1 p2 p3 S = some (x, S')) : ev_r tb_P L xs (5 + 1) 219 [.ref 1, .int p1, .int p2, .int p3, .ref 180] (wd_k S) (.inl (some (.int x)), wd_k S') := by
  unfold fn_La_run at h
  refine ev_of (Nat.le_of_ble_eq_true rfl) ?_
  show go_r tb_P L xs 5 219 0 [(0, .ref 1), (1, .int p1), (2, .int p2), (3, .int p3), (4, .ref 180)] [] (wd_k S) (.inl (some (.int x)), wd_k S')
  refine bk_b (q := (7, [(0, .ref 1), (1, .int p1), (2, .int p2), (3, .int p3), (4, .ref 180)], [.int p3, .int p2, .int p1, .ref 1, .int (0 : Int32), .ref 180])) tb_c_219_0 mx_219 6 rfl ?_
  obtain ⟨x2o, S1, c3, h⟩ := wd_cx h
  rcases wd_ox h with ⟨x2, rfl, nx2⟩ | ⟨E4, rfl, nx2⟩
  · replace h := nx2
    refine bk_kv tb_c_219_0 rfl rfl rfl rfl rfl (ci := 10) rfl rfl (ev_up (Nat.le_of_ble_eq_true rfl) (sn_Sp_run c3)) ?_
    refine bk_b (q := (11, [(0, .ref 1), (1, .int p1), (2, .int p2), (3, .int p3), (4, .ref 180)], [.long ((x2).toInt64), .int (0 : Int32), .ref 180])) tb_c_219_0 mx_219 1 rfl ?_
    by_cases g5 : (0 : Int32) < 0 ∨ 1 ≤ (0 : Int32).toNatClampNeg
    · rw [if_pos g5] at h; cases h
    · rw [if_neg g5] at h
      obtain ⟨S6, eS6, h⟩ := wd_bx h
      refine bk_s8 tb_c_219_0 rfl rfl rfl g5 ?_
      rw [eS6]
      refine bk_b (q := (28, [(0, .ref 1), (1, .int p1), (2, .int p2), (3, .int p3), (4, .ref 180)], [.int (0 : Int32)])) tb_c_219_0 mx_219 2 rfl ?_
      cases h
      exact bk_t tb_c_219_0 rfl rfl
  · replace h := nx2
    by_cases g7 : E4 = "java/lang/IllegalArgumentException"
    · rw [if_pos g7] at h
      subst g7
      refine bk_kw tb_c_219_0 rfl rfl rfl rfl (ci := 10) rfl rfl (ev_up (Nat.le_of_ble_eq_true rfl) (sn_Sp_run c3)) (hp := 23) (show mi_ca tb_P 219 7 "java/lang/IllegalArgumentException" = some 23 by decide +kernel) tb_c_219_0 (pc' := 25) rfl rfl rfl (lv' := [(0, .ref 1), (1, .int p1), (2, .int p2), (3, .int p3), (4, .ref 180)]) rfl ?_
      refine bk_b (q := (26, [(0, .ref 1), (1, .int p1), (2, .int p2), (3, .int p3), (4, .ref 180)], [.int (3 : Int32)])) tb_c_219_0 mx_219 1 rfl ?_
      cases h
      exact bk_t tb_c_219_0 rfl rfl
    · rw [if_neg g7] at h
      by_cases g8 : E4 = "java/lang/IllegalStateException"
      · rw [if_pos g8] at h
        subst g8
        refine bk_kw tb_c_219_0 rfl rfl rfl rfl (ci := 10) rfl rfl (ev_up (Nat.le_of_ble_eq_true rfl) (sn_Sp_run c3)) (hp := 15) (show mi_ca tb_P 219 7 "java/lang/IllegalStateException" = some 15 by decide +kernel) tb_c_219_0 (pc' := 17) rfl rfl rfl (lv' := [(0, .ref 1), (1, .int p1), (2, .int p2), (3, .int p3), (4, .ref 180)]) rfl ?_
        refine bk_b (q := (18, [(0, .ref 1), (1, .int p1), (2, .int p2), (3, .int p3), (4, .ref 180)], [.int (1 : Int32)])) tb_c_219_0 mx_219 1 rfl ?_
        cases h
        exact bk_t tb_c_219_0 rfl rfl
      · rw [if_neg g8] at h
        by_cases g9 : E4 = "java/lang/IndexOutOfBoundsException"
        · rw [if_pos g9] at h
          subst g9
          refine bk_kw tb_c_219_0 rfl rfl rfl rfl (ci := 10) rfl rfl (ev_up (Nat.le_of_ble_eq_true rfl) (sn_Sp_run c3)) (hp := 19) (show mi_ca tb_P 219 7 "java/lang/IndexOutOfBoundsException" = some 19 by decide +kernel) tb_c_219_0 (pc' := 21) rfl rfl rfl (lv' := [(0, .ref 1), (1, .int p1), (2, .int p2), (3, .int p3), (4, .ref 180)]) rfl ?_
          refine bk_b (q := (22, [(0, .ref 1), (1, .int p1), (2, .int p2), (3, .int p3), (4, .ref 180)], [.int (2 : Int32)])) tb_c_219_0 mx_219 1 rfl ?_
          cases h
          exact bk_t tb_c_219_0 rfl rfl
        · rw [if_neg g9] at h
          cases h
theorem mx_220 : mi_mx tb_P 220 = 4 := rfl
/-- SpecialiserLaw.ran(LSpecialiser;I[J)I -/
noncomputable def fn_La_ran (p1 : Int32) (S : wd_S) : Option (Int32 × wd_S) :=
  (wd_c (fn_Sp_ran p1 S) fun x2o S1 => wd_o x2o (fun x2 =>
  (if (0 : Int32) < 0 ∨ 1 ≤ (0 : Int32).toNatClampNeg then none else
  (wd_b (wd_l S1 180 (0 : Int32).toNatClampNeg ((x2).toInt64)) fun S6 =>
  some ((0 : Int32), S6)))) (fun E4 =>
    (if E4 = "java/lang/IndexOutOfBoundsException" then
      some ((1 : Int32), S1)
    else
    none)))
set_option maxRecDepth 100000 in
theorem sn_La_ran {L : Nat} {xs : Nat → Int32} {p1 : Int32} {S : wd_S} {x : Int32} {S' : wd_S} (h : fn_La_ran p1 S = some (x, S')) : ev_r tb_P L xs (2 + 1) 220 [.ref 1, .int p1, .ref 180] (wd_k S) (.inl (some (.int x)), wd_k S') := by
  unfold fn_La_ran at h
  refine ev_of (Nat.le_of_ble_eq_true rfl) ?_
  show go_r tb_P L xs 2 220 0 [(0, .ref 1), (1, .int p1), (2, .ref 180)] [] (wd_k S) (.inl (some (.int x)), wd_k S')
  refine bk_b (q := (4, [(0, .ref 1), (1, .int p1), (2, .ref 180)], [.int p1, .ref 1, .int (0 : Int32), .ref 180])) tb_c_220_0 mx_220 4 rfl ?_
  obtain ⟨x2o, S1, c3, h⟩ := wd_cx h
  rcases wd_ox h with ⟨x2, rfl, nx2⟩ | ⟨E4, rfl, nx2⟩
  · replace h := nx2
    refine bk_kv tb_c_220_0 rfl rfl rfl rfl rfl (ci := 10) rfl rfl (ev_up (Nat.le_of_ble_eq_true rfl) (sn_Sp_ran c3)) ?_
    refine bk_b (q := (8, [(0, .ref 1), (1, .int p1), (2, .ref 180)], [.long ((x2).toInt64), .int (0 : Int32), .ref 180])) tb_c_220_0 mx_220 1 rfl ?_
    by_cases g5 : (0 : Int32) < 0 ∨ 1 ≤ (0 : Int32).toNatClampNeg
    · rw [if_pos g5] at h; cases h
    · rw [if_neg g5] at h
      obtain ⟨S6, eS6, h⟩ := wd_bx h
      refine bk_s8 tb_c_220_0 rfl rfl rfl g5 ?_
      rw [eS6]
      refine bk_b (q := (16, [(0, .ref 1), (1, .int p1), (2, .ref 180)], [.int (0 : Int32)])) tb_c_220_0 mx_220 2 rfl ?_
      cases h
      exact bk_t tb_c_220_0 rfl rfl
  · replace h := nx2
    by_cases g7 : E4 = "java/lang/IndexOutOfBoundsException"
    · rw [if_pos g7] at h
      subst g7
      refine bk_kn tb_c_220_0 rfl rfl rfl rfl (ci := 10) rfl rfl (ev_up (Nat.le_of_ble_eq_true rfl) (sn_Sp_ran c3)) (hp := 12) (show mi_ca tb_P 220 4 "java/lang/IndexOutOfBoundsException" = some 12 by decide +kernel) tb_c_220_0 (pc' := 13) rfl rfl rfl (lv' := [(0, .ref 1), (1, .int p1), (2, .ref 180)]) rfl ?_
      refine bk_b (q := (14, [(0, .ref 1), (1, .int p1), (2, .ref 180)], [.int (1 : Int32)])) tb_c_220_0 mx_220 1 rfl ?_
      cases h
      exact bk_t tb_c_220_0 rfl rfl
    · rw [if_neg g7] at h
      cases h
theorem mx_0 : mi_mx tb_P 0 = 7 := rfl
noncomputable def fn_La_law_634 (L : Nat) (xs : Nat → Int32) (kk23 : Int32 → wd_S → Option (Int32 × wd_S)) (l4 : Int32) (S : wd_S) : Option (Int32 × wd_S) :=
  kk23 (l4 + (6 : Int32)) S
set_option maxRecDepth 100000 in
theorem sn_La_law_634 {L : Nat} {xs : Nat → Int32} {kk23 : Int32 → wd_S → Option (Int32 × wd_S)} (hk23 : ∀ {l4 : Int32} {S : wd_S} {x : Int32} {S' : wd_S}, kk23 l4 S = some (x, S') → go_r tb_P L xs 208 0 23 [(0, .ref 0), (1, .ref 1), (2, .ref 135), (3, .ref 180), (4, .int l4)] [] (wd_k S) (.inl (some (.int x)), wd_k S')) {l4 : Int32} {S : wd_S} {x : Int32} {S' : wd_S} (h : fn_La_law_634 L xs kk23 l4 S = some (x, S')) : go_r tb_P L xs 208 0 634 [(0, .ref 0), (1, .ref 1), (2, .ref 135), (3, .ref 180), (4, .int l4)] [] (wd_k S) (.inl (some (.int x)), wd_k S') := by
  unfold fn_La_law_634 at h
  refine bk_b (q := (23, [(4, .int (l4 + (6 : Int32))), (0, .ref 0), (1, .ref 1), (2, .ref 135), (3, .ref 180)], [])) tb_c_0_9 mx_0 2 rfl ?_
  exact go_lv (ls_sc rfl rfl (ls_sc rfl rfl (ls_sc rfl rfl (ls_sc rfl rfl (ls_sc rfl rfl ls_nil))))) (hk23 h)
noncomputable def fn_La_law_379 (L : Nat) (xs : Nat → Int32) (kk23 : Int32 → wd_S → Option (Int32 × wd_S)) (l4 : Int32) (S : wd_S) : Option (Int32 × wd_S) :=
  fn_La_law_634 L xs kk23 l4 S
set_option maxRecDepth 100000 in
theorem sn_La_law_379 {L : Nat} {xs : Nat → Int32} {kk23 : Int32 → wd_S → Option (Int32 × wd_S)} (hk23 : ∀ {l4 : Int32} {S : wd_S} {x : Int32} {S' : wd_S}, kk23 l4 S = some (x, S') → go_r tb_P L xs 208 0 23 [(0, .ref 0), (1, .ref 1), (2, .ref 135), (3, .ref 180), (4, .int l4)] [] (wd_k S) (.inl (some (.int x)), wd_k S')) {l4 : Int32} {S : wd_S} {x : Int32} {S' : wd_S} (h : fn_La_law_379 L xs kk23 l4 S = some (x, S')) : go_r tb_P L xs 208 0 379 [(0, .ref 0), (1, .ref 1), (2, .ref 135), (3, .ref 180), (4, .int l4)] [] (wd_k S) (.inl (some (.int x)), wd_k S') := by
  unfold fn_La_law_379 at h
  refine bk_b (q := (634, [(0, .ref 0), (1, .ref 1), (2, .ref 135), (3, .ref 180), (4, .int l4)], [])) tb_c_0_5 mx_0 1 rfl ?_
  exact go_lv (ls_sc rfl rfl (ls_sc rfl rfl (ls_sc rfl rfl (ls_sc rfl rfl (ls_sc rfl rfl ls_nil))))) (sn_La_law_634 hk23 h)
noncomputable def fn_La_law_586 (L : Nat) (xs : Nat → Int32) (kk23 : Int32 → wd_S → Option (Int32 × wd_S)) (l4 : Int32) (s1 : Int32) (S : wd_S) : Option (Int32 × wd_S) :=
  (if (l4 + (2 : Int32)) < 0 ∨ L ≤ (l4 + (2 : Int32)).toNatClampNeg then none else
  (if (l4 + (3 : Int32)) < 0 ∨ L ≤ (l4 + (3 : Int32)).toNatClampNeg then none else
  (wd_c (fn_Mo_run s1 (xs (l4 + (2 : Int32)).toNatClampNeg) (xs (l4 + (3 : Int32)).toNatClampNeg) S) fun x146 S145 =>
  fn_La_law_634 L xs kk23 l4 S145)))
set_option maxRecDepth 100000 in
theorem sn_La_law_586 {L : Nat} {xs : Nat → Int32} {kk23 : Int32 → wd_S → Option (Int32 × wd_S)} (hk23 : ∀ {l4 : Int32} {S : wd_S} {x : Int32} {S' : wd_S}, kk23 l4 S = some (x, S') → go_r tb_P L xs 208 0 23 [(0, .ref 0), (1, .ref 1), (2, .ref 135), (3, .ref 180), (4, .int l4)] [] (wd_k S) (.inl (some (.int x)), wd_k S')) {l4 : Int32} {s1 : Int32} {S : wd_S} {x : Int32} {S' : wd_S} (h : fn_La_law_586 L xs kk23 l4 s1 S = some (x, S')) : go_r tb_P L xs 208 0 586 [(0, .ref 0), (1, .ref 1), (2, .ref 135), (3, .ref 180), (4, .int l4)] [.int s1, .ref 135] (wd_k S) (.inl (some (.int x)), wd_k S') := by
  unfold fn_La_law_586 at h
  refine bk_b (q := (591, [(0, .ref 0), (1, .ref 1), (2, .ref 135), (3, .ref 180), (4, .int l4)], [.int (l4 + (2 : Int32)), .ref 0, .int s1, .ref 135])) tb_c_0_8 mx_0 4 rfl ?_
  by_cases g143 : (l4 + (2 : Int32)) < 0 ∨ L ≤ (l4 + (2 : Int32)).toNatClampNeg
  · rw [if_pos g143] at h; cases h
  · rw [if_neg g143] at h
    refine bk_a0 tb_c_0_8 rfl rfl g143 ?_
    refine bk_b (q := (597, [(0, .ref 0), (1, .ref 1), (2, .ref 135), (3, .ref 180), (4, .int l4)], [.int (l4 + (3 : Int32)), .ref 0, .int (xs (l4 + (2 : Int32)).toNatClampNeg), .int s1, .ref 135])) tb_c_0_8 mx_0 4 rfl ?_
    by_cases g144 : (l4 + (3 : Int32)) < 0 ∨ L ≤ (l4 + (3 : Int32)).toNatClampNeg
    · rw [if_pos g144] at h; cases h
    · rw [if_neg g144] at h
      refine bk_a0 tb_c_0_8 rfl rfl g144 ?_
      obtain ⟨x146, S145, c147, h⟩ := wd_cx h
      refine bk_kv tb_c_0_8 rfl rfl rfl rfl rfl (ci := 11) rfl rfl (ev_up (Nat.le_of_ble_eq_true rfl) (sn_Mo_run c147)) ?_
      refine bk_b (q := (634, [(6, .int x146), (0, .ref 0), (1, .ref 1), (2, .ref 135), (3, .ref 180), (4, .int l4)], [])) tb_c_0_8 mx_0 2 rfl ?_
      exact go_lv (ls_sc rfl rfl (ls_sc rfl rfl (ls_sc rfl rfl (ls_sc rfl rfl (ls_sc rfl rfl ls_nil))))) (sn_La_law_634 hk23 h)
noncomputable def fn_La_law_553 (L : Nat) (xs : Nat → Int32) (kk23 : Int32 → wd_S → Option (Int32 × wd_S)) (l4 : Int32) (s1 : Int32) (S : wd_S) : Option (Int32 × wd_S) :=
  (if (l4 + (2 : Int32)) < 0 ∨ L ≤ (l4 + (2 : Int32)).toNatClampNeg then none else
  (if (l4 + (3 : Int32)) < 0 ∨ L ≤ (l4 + (3 : Int32)).toNatClampNeg then none else
  (wd_c (fn_La_run s1 (xs (l4 + (2 : Int32)).toNatClampNeg) (xs (l4 + (3 : Int32)).toNatClampNeg) S) fun x139 S138 =>
  (if (l4 + (1 : Int32)) < 0 ∨ L ≤ (l4 + (1 : Int32)).toNatClampNeg then none else
  (if (xs (l4 + (1 : Int32)).toNatClampNeg) = 0 then
    fn_La_law_586 L xs kk23 l4 (0 : Int32) S138
  else
    fn_La_law_586 L xs kk23 l4 (1 : Int32) S138)))))
set_option maxRecDepth 100000 in
theorem sn_La_law_553 {L : Nat} {xs : Nat → Int32} {kk23 : Int32 → wd_S → Option (Int32 × wd_S)} (hk23 : ∀ {l4 : Int32} {S : wd_S} {x : Int32} {S' : wd_S}, kk23 l4 S = some (x, S') → go_r tb_P L xs 208 0 23 [(0, .ref 0), (1, .ref 1), (2, .ref 135), (3, .ref 180), (4, .int l4)] [] (wd_k S) (.inl (some (.int x)), wd_k S')) {l4 : Int32} {s1 : Int32} {S : wd_S} {x : Int32} {S' : wd_S} (h : fn_La_law_553 L xs kk23 l4 s1 S = some (x, S')) : go_r tb_P L xs 208 0 553 [(0, .ref 0), (1, .ref 1), (2, .ref 135), (3, .ref 180), (4, .int l4)] [.int s1, .ref 1] (wd_k S) (.inl (some (.int x)), wd_k S') := by
  unfold fn_La_law_553 at h
  refine bk_b (q := (558, [(0, .ref 0), (1, .ref 1), (2, .ref 135), (3, .ref 180), (4, .int l4)], [.int (l4 + (2 : Int32)), .ref 0, .int s1, .ref 1])) tb_c_0_7 mx_0 4 rfl ?_
  by_cases g136 : (l4 + (2 : Int32)) < 0 ∨ L ≤ (l4 + (2 : Int32)).toNatClampNeg
  · rw [if_pos g136] at h; cases h
  · rw [if_neg g136] at h
    refine bk_a0 tb_c_0_7 rfl rfl g136 ?_
    refine bk_b (q := (560, [(0, .ref 0), (1, .ref 1), (2, .ref 135), (3, .ref 180), (4, .int l4)], [.ref 0, .int (xs (l4 + (2 : Int32)).toNatClampNeg), .int s1, .ref 1])) tb_c_0_7 mx_0 1 rfl ?_
    refine bk_b (q := (564, [(0, .ref 0), (1, .ref 1), (2, .ref 135), (3, .ref 180), (4, .int l4)], [.int (l4 + (3 : Int32)), .ref 0, .int (xs (l4 + (2 : Int32)).toNatClampNeg), .int s1, .ref 1])) tb_c_0_8 mx_0 3 rfl ?_
    by_cases g137 : (l4 + (3 : Int32)) < 0 ∨ L ≤ (l4 + (3 : Int32)).toNatClampNeg
    · rw [if_pos g137] at h; cases h
    · rw [if_neg g137] at h
      refine bk_a0 tb_c_0_8 rfl rfl g137 ?_
      refine bk_b (q := (566, [(0, .ref 0), (1, .ref 1), (2, .ref 135), (3, .ref 180), (4, .int l4)], [.ref 180, .int (xs (l4 + (3 : Int32)).toNatClampNeg), .int (xs (l4 + (2 : Int32)).toNatClampNeg), .int s1, .ref 1])) tb_c_0_8 mx_0 1 rfl ?_
      obtain ⟨x139, S138, c140, h⟩ := wd_cx h
      refine bk_ks tb_c_0_8 rfl rfl rfl (by decide) rfl rfl (ev_up (Nat.le_of_ble_eq_true rfl) (sn_La_run c140)) ?_
      refine bk_b (q := (577, [(5, .int x139), (0, .ref 0), (1, .ref 1), (2, .ref 135), (3, .ref 180), (4, .int l4)], [.int (l4 + (1 : Int32)), .ref 0, .ref 135])) tb_c_0_8 mx_0 6 rfl ?_
      by_cases g141 : (l4 + (1 : Int32)) < 0 ∨ L ≤ (l4 + (1 : Int32)).toNatClampNeg
      · rw [if_pos g141] at h; cases h
      · rw [if_neg g141] at h
        refine bk_a0 tb_c_0_8 rfl rfl g141 ?_
        by_cases g142 : (xs (l4 + (1 : Int32)).toNatClampNeg) = 0
        · rw [if_pos g142] at h
          refine bk_zt tb_c_0_8 rfl (pc' := 585) rfl (cm_eq_t g142) ?_
          refine bk_b (q := (586, [(5, .int x139), (0, .ref 0), (1, .ref 1), (2, .ref 135), (3, .ref 180), (4, .int l4)], [.int (0 : Int32), .ref 135])) tb_c_0_8 mx_0 1 rfl ?_
          exact go_lv (ls_sc rfl rfl (ls_sc rfl rfl (ls_sc rfl rfl (ls_sc rfl rfl (ls_sc rfl rfl ls_nil))))) (sn_La_law_586 hk23 h)
        · rw [if_neg g142] at h
          refine bk_zf tb_c_0_8 rfl (pc' := 581) rfl (t := 585) rfl (cm_eq_f g142) ?_
          refine bk_b (q := (586, [(5, .int x139), (0, .ref 0), (1, .ref 1), (2, .ref 135), (3, .ref 180), (4, .int l4)], [.int (1 : Int32), .ref 135])) tb_c_0_8 mx_0 2 rfl ?_
          exact go_lv (ls_sc rfl rfl (ls_sc rfl rfl (ls_sc rfl rfl (ls_sc rfl rfl (ls_sc rfl rfl ls_nil))))) (sn_La_law_586 hk23 h)
noncomputable def fn_La_law_23 (L : Nat) (xs : Nat → Int32) : Nat → Int32 → wd_S → Option (Int32 × wd_S)
  | 0, _, _ => none
  | n + 1, l4, S =>
    (if ((Int32.ofNat L) - (6 : Int32)) < l4 then
      some ((1 : Int32), S)
    else
      (if l4 < 0 ∨ L ≤ l4.toNatClampNeg then none else
      (if ((xs l4.toNatClampNeg) &&& (15 : Int32)) = (0 : Int32) then
        (if (l4 + (1 : Int32)) < 0 ∨ L ≤ (l4 + (1 : Int32)).toNatClampNeg then none else
        (if (l4 + (2 : Int32)) < 0 ∨ L ≤ (l4 + (2 : Int32)).toNatClampNeg then none else
        (if (l4 + (3 : Int32)) < 0 ∨ L ≤ (l4 + (3 : Int32)).toNatClampNeg then none else
        (if (l4 + (4 : Int32)) < 0 ∨ L ≤ (l4 + (4 : Int32)).toNatClampNeg then none else
        (if (l4 + (5 : Int32)) < 0 ∨ L ≤ (l4 + (5 : Int32)).toNatClampNeg then none else
        (wd_c (fn_La_feed (xs (l4 + (1 : Int32)).toNatClampNeg) (xs (l4 + (2 : Int32)).toNatClampNeg) (xs (l4 + (3 : Int32)).toNatClampNeg) (xs (l4 + (4 : Int32)).toNatClampNeg) (xs (l4 + (5 : Int32)).toNatClampNeg) S) fun x10 S9 =>
        (if (l4 + (1 : Int32)) < 0 ∨ L ≤ (l4 + (1 : Int32)).toNatClampNeg then none else
        (if (l4 + (2 : Int32)) < 0 ∨ L ≤ (l4 + (2 : Int32)).toNatClampNeg then none else
        (if (l4 + (3 : Int32)) < 0 ∨ L ≤ (l4 + (3 : Int32)).toNatClampNeg then none else
        (if (l4 + (4 : Int32)) < 0 ∨ L ≤ (l4 + (4 : Int32)).toNatClampNeg then none else
        (if (l4 + (5 : Int32)) < 0 ∨ L ≤ (l4 + (5 : Int32)).toNatClampNeg then none else
        (wd_c (fn_Mo_feed (xs (l4 + (1 : Int32)).toNatClampNeg) (xs (l4 + (2 : Int32)).toNatClampNeg) (xs (l4 + (3 : Int32)).toNatClampNeg) (xs (l4 + (4 : Int32)).toNatClampNeg) (xs (l4 + (5 : Int32)).toNatClampNeg) S9) fun x18 S17 =>
        fn_La_law_634 L xs (fn_La_law_23 L xs n) l4 S17))))))))))))
      else
      (if ((xs l4.toNatClampNeg) &&& (15 : Int32)) = (1 : Int32) then
        (if (l4 + (1 : Int32)) < 0 ∨ L ≤ (l4 + (1 : Int32)).toNatClampNeg then none else
        (wd_c (fn_La_cut (xs (l4 + (1 : Int32)).toNatClampNeg) S) fun x23 S22 =>
        (if (l4 + (1 : Int32)) < 0 ∨ L ≤ (l4 + (1 : Int32)).toNatClampNeg then none else
        (wd_c (fn_Mo_cut (xs (l4 + (1 : Int32)).toNatClampNeg) S22) fun x27 S26 =>
        fn_La_law_634 L xs (fn_La_law_23 L xs n) l4 S26))))
      else
      (if ((xs l4.toNatClampNeg) &&& (15 : Int32)) = (2 : Int32) then
        (wd_c (fn_Sp_read  S) fun x31 S30 =>
        (wd_c (fn_Mo_read  S30) fun x34 S33 =>
        fn_La_law_634 L xs (fn_La_law_23 L xs n) l4 S33))
      else
      (if ((xs l4.toNatClampNeg) &&& (15 : Int32)) = (3 : Int32) then
        (wd_c (fn_Sp_place  S) fun x38 S37 =>
        (wd_c (fn_Mo_place  S37) fun x41 S40 =>
        fn_La_law_634 L xs (fn_La_law_23 L xs n) l4 S40))
      else
      (if ((xs l4.toNatClampNeg) &&& (15 : Int32)) = (4 : Int32) then
        (if (l4 + (1 : Int32)) < 0 ∨ L ≤ (l4 + (1 : Int32)).toNatClampNeg then none else
        (if (l4 + (2 : Int32)) < 0 ∨ L ≤ (l4 + (2 : Int32)).toNatClampNeg then none else
        (wd_c (fn_La_function (xs (l4 + (1 : Int32)).toNatClampNeg) (xs (l4 + (2 : Int32)).toNatClampNeg) S) fun x47 S46 =>
        (if (l4 + (1 : Int32)) < 0 ∨ L ≤ (l4 + (1 : Int32)).toNatClampNeg then none else
        (if (l4 + (2 : Int32)) < 0 ∨ L ≤ (l4 + (2 : Int32)).toNatClampNeg then none else
        (wd_c (fn_Mo_function (xs (l4 + (1 : Int32)).toNatClampNeg) (xs (l4 + (2 : Int32)).toNatClampNeg) S46) fun x52 S51 =>
        fn_La_law_634 L xs (fn_La_law_23 L xs n) l4 S51))))))
      else
      (if ((xs l4.toNatClampNeg) &&& (15 : Int32)) = (5 : Int32) then
        (if (l4 + (1 : Int32)) < 0 ∨ L ≤ (l4 + (1 : Int32)).toNatClampNeg then none else
        (if (l4 + (2 : Int32)) < 0 ∨ L ≤ (l4 + (2 : Int32)).toNatClampNeg then none else
        (wd_c (fn_La_know (xs (l4 + (1 : Int32)).toNatClampNeg) (xs (l4 + (2 : Int32)).toNatClampNeg) S) fun x58 S57 =>
        (if (l4 + (1 : Int32)) < 0 ∨ L ≤ (l4 + (1 : Int32)).toNatClampNeg then none else
        (if (l4 + (2 : Int32)) < 0 ∨ L ≤ (l4 + (2 : Int32)).toNatClampNeg then none else
        (wd_c (fn_Mo_know (xs (l4 + (1 : Int32)).toNatClampNeg) (xs (l4 + (2 : Int32)).toNatClampNeg) S57) fun x63 S62 =>
        fn_La_law_634 L xs (fn_La_law_23 L xs n) l4 S62))))))
      else
      (if ((xs l4.toNatClampNeg) &&& (15 : Int32)) = (6 : Int32) then
        (if (l4 + (1 : Int32)) < 0 ∨ L ≤ (l4 + (1 : Int32)).toNatClampNeg then none else
        (wd_c (fn_La_make (xs (l4 + (1 : Int32)).toNatClampNeg) S) fun x68 S67 =>
        (if (l4 + (1 : Int32)) < 0 ∨ L ≤ (l4 + (1 : Int32)).toNatClampNeg then none else
        (wd_c (fn_Mo_make (xs (l4 + (1 : Int32)).toNatClampNeg) S67) fun x72 S71 =>
        (wd_c (fn_Mo_thrown  S71) fun x75 S74 =>
        (if x75 = x68 then
          (if x68 = 0 then
            (if (0 : Int32) < 0 ∨ 1 ≤ (0 : Int32).toNatClampNeg then none else
            (if (lg_cmp (S74.2.1 180 (0 : Int32).toNatClampNeg) ((x72).toInt64)) = 0 then
              fn_La_law_379 L xs (fn_La_law_23 L xs n) l4 S74
            else
              some ((0 : Int32), S74)))
          else
            fn_La_law_379 L xs (fn_La_law_23 L xs n) l4 S74)
        else
          some ((0 : Int32), S74)))))))
      else
      (if ((xs l4.toNatClampNeg) &&& (15 : Int32)) = (7 : Int32) then
        (if (l4 + (1 : Int32)) < 0 ∨ L ≤ (l4 + (1 : Int32)).toNatClampNeg then none else
        (if (l4 + (2 : Int32)) < 0 ∨ L ≤ (l4 + (2 : Int32)).toNatClampNeg then none else
        (wd_c (fn_La_version (xs (l4 + (1 : Int32)).toNatClampNeg) (xs (l4 + (2 : Int32)).toNatClampNeg) S) fun x85 S84 =>
        (if (l4 + (1 : Int32)) < 0 ∨ L ≤ (l4 + (1 : Int32)).toNatClampNeg then none else
        (if (l4 + (2 : Int32)) < 0 ∨ L ≤ (l4 + (2 : Int32)).toNatClampNeg then none else
        (wd_c (fn_Mo_version (xs (l4 + (1 : Int32)).toNatClampNeg) (xs (l4 + (2 : Int32)).toNatClampNeg) S84) fun x90 S89 =>
        fn_La_law_634 L xs (fn_La_law_23 L xs n) l4 S89))))))
      else
      (if ((xs l4.toNatClampNeg) &&& (15 : Int32)) = (8 : Int32) then
        (if (l4 + (1 : Int32)) < 0 ∨ L ≤ (l4 + (1 : Int32)).toNatClampNeg then none else
        (wd_c (fn_La_told (xs (l4 + (1 : Int32)).toNatClampNeg) S) fun x95 S94 =>
        (if (l4 + (1 : Int32)) < 0 ∨ L ≤ (l4 + (1 : Int32)).toNatClampNeg then none else
        (wd_c (fn_Mo_told (xs (l4 + (1 : Int32)).toNatClampNeg) S94) fun x99 S98 =>
        fn_La_law_634 L xs (fn_La_law_23 L xs n) l4 S98))))
      else
      (if ((xs l4.toNatClampNeg) &&& (15 : Int32)) = (9 : Int32) then
        (wd_c (fn_La_print  S) fun x103 S102 =>
        (wd_c (fn_Mo_print  S102) fun x106 S105 =>
        fn_La_law_634 L xs (fn_La_law_23 L xs n) l4 S105))
      else
      (if ((xs l4.toNatClampNeg) &&& (15 : Int32)) = (10 : Int32) then
        (if (l4 + (1 : Int32)) < 0 ∨ L ≤ (l4 + (1 : Int32)).toNatClampNeg then none else
        (wd_c (fn_La_out (xs (l4 + (1 : Int32)).toNatClampNeg) S) fun x111 S110 =>
        (if (l4 + (1 : Int32)) < 0 ∨ L ≤ (l4 + (1 : Int32)).toNatClampNeg then none else
        (wd_c (fn_Mo_out (xs (l4 + (1 : Int32)).toNatClampNeg) S110) fun x115 S114 =>
        fn_La_law_634 L xs (fn_La_law_23 L xs n) l4 S114))))
      else
      (if ((xs l4.toNatClampNeg) &&& (15 : Int32)) = (11 : Int32) then
        (wd_c (fn_La_back  S) fun x119 S118 =>
        (wd_c (fn_Mo_back  S118) fun x122 S121 =>
        fn_La_law_634 L xs (fn_La_law_23 L xs n) l4 S121))
      else
      (if ((xs l4.toNatClampNeg) &&& (15 : Int32)) = (12 : Int32) then
        (if (l4 + (1 : Int32)) < 0 ∨ L ≤ (l4 + (1 : Int32)).toNatClampNeg then none else
        (wd_c (fn_La_give (xs (l4 + (1 : Int32)).toNatClampNeg) S) fun x127 S126 =>
        (if (l4 + (1 : Int32)) < 0 ∨ L ≤ (l4 + (1 : Int32)).toNatClampNeg then none else
        (wd_c (fn_Mo_give (xs (l4 + (1 : Int32)).toNatClampNeg) S126) fun x131 S130 =>
        fn_La_law_634 L xs (fn_La_law_23 L xs n) l4 S130))))
      else
      (if ((xs l4.toNatClampNeg) &&& (15 : Int32)) = (13 : Int32) then
        (if (l4 + (1 : Int32)) < 0 ∨ L ≤ (l4 + (1 : Int32)).toNatClampNeg then none else
        (if (xs (l4 + (1 : Int32)).toNatClampNeg) = 0 then
          fn_La_law_553 L xs (fn_La_law_23 L xs n) l4 (0 : Int32) S
        else
          fn_La_law_553 L xs (fn_La_law_23 L xs n) l4 (1 : Int32) S))
      else
      (if ((xs l4.toNatClampNeg) &&& (15 : Int32)) = (14 : Int32) then
        (if (l4 + (1 : Int32)) < 0 ∨ L ≤ (l4 + (1 : Int32)).toNatClampNeg then none else
        (wd_c (fn_La_ran (xs (l4 + (1 : Int32)).toNatClampNeg) S) fun x151 S150 =>
        (if (l4 + (1 : Int32)) < 0 ∨ L ≤ (l4 + (1 : Int32)).toNatClampNeg then none else
        (wd_c (fn_Mo_ran (xs (l4 + (1 : Int32)).toNatClampNeg) S150) fun x155 S154 =>
        fn_La_law_634 L xs (fn_La_law_23 L xs n) l4 S154))))
      else
      fn_La_law_634 L xs (fn_La_law_23 L xs n) l4 S)))))))))))))))))
set_option maxRecDepth 100000 in
theorem sn_La_law_23 {L : Nat} {xs : Nat → Int32} : ∀ (n : Nat) {l4 : Int32} {S : wd_S} {x : Int32} {S' : wd_S}, fn_La_law_23 L xs n l4 S = some (x, S') → go_r tb_P L xs 208 0 23 [(0, .ref 0), (1, .ref 1), (2, .ref 135), (3, .ref 180), (4, .int l4)] [] (wd_k S) (.inl (some (.int x)), wd_k S') := by
  intro n
  induction n with
  | zero => intro l4 S x S'  h; cases h
  | succ n ih =>
    intro l4 S x S'  h
    rw [fn_La_law_23] at h
    refine bk_b (q := (26, [(0, .ref 0), (1, .ref 1), (2, .ref 135), (3, .ref 180), (4, .int l4)], [.ref 0, .int l4])) tb_c_0_0 mx_0 2 rfl ?_
    refine bk_l0 tb_c_0_0 rfl rfl ?_
    refine bk_b (q := (30, [(0, .ref 0), (1, .ref 1), (2, .ref 135), (3, .ref 180), (4, .int l4)], [.int ((Int32.ofNat L) - (6 : Int32)), .int l4])) tb_c_0_0 mx_0 2 rfl ?_
    by_cases g1 : ((Int32.ofNat L) - (6 : Int32)) < l4
    · rw [if_pos g1] at h
      refine bk_jt tb_c_0_0 rfl (pc' := 640) rfl (cm_gt_t g1) ?_
      refine bk_b (q := (641, [(0, .ref 0), (1, .ref 1), (2, .ref 135), (3, .ref 180), (4, .int l4)], [.int (1 : Int32)])) tb_c_0_9 mx_0 1 rfl ?_
      cases h
      exact bk_t tb_c_0_9 rfl rfl
    · rw [if_neg g1] at h
      refine bk_jf tb_c_0_0 rfl (pc' := 33) rfl (t := 640) rfl (cm_gt_f g1) ?_
      refine bk_b (q := (36, [(0, .ref 0), (1, .ref 1), (2, .ref 135), (3, .ref 180), (4, .int l4)], [.int l4, .ref 0])) tb_c_0_0 mx_0 2 rfl ?_
      by_cases g2 : l4 < 0 ∨ L ≤ l4.toNatClampNeg
      · rw [if_pos g2] at h; cases h
      · rw [if_neg g2] at h
        refine bk_a0 tb_c_0_0 rfl rfl g2 ?_
        refine bk_b (q := (40, [(0, .ref 0), (1, .ref 1), (2, .ref 135), (3, .ref 180), (4, .int l4)], [.int ((xs l4.toNatClampNeg) &&& (15 : Int32))])) tb_c_0_0 mx_0 2 rfl ?_
        by_cases g3 : ((xs l4.toNatClampNeg) &&& (15 : Int32)) = (0 : Int32)
        · rw [if_pos g3] at h
          refine bk_sw tb_c_0_0 rfl (pc' := 116) (by rw [g3]; rfl) ?_
          refine bk_b (q := (122, [(0, .ref 0), (1, .ref 1), (2, .ref 135), (3, .ref 180), (4, .int l4)], [.int (l4 + (1 : Int32)), .ref 0, .ref 1])) tb_c_0_0 mx_0 5 rfl ?_
          by_cases g4 : (l4 + (1 : Int32)) < 0 ∨ L ≤ (l4 + (1 : Int32)).toNatClampNeg
          · rw [if_pos g4] at h; cases h
          · rw [if_neg g4] at h
            refine bk_a0 tb_c_0_0 rfl rfl g4 ?_
            refine bk_b (q := (128, [(0, .ref 0), (1, .ref 1), (2, .ref 135), (3, .ref 180), (4, .int l4)], [.int (l4 + (2 : Int32)), .ref 0, .int (xs (l4 + (1 : Int32)).toNatClampNeg), .ref 1])) tb_c_0_0 mx_0 4 rfl ?_
            by_cases g5 : (l4 + (2 : Int32)) < 0 ∨ L ≤ (l4 + (2 : Int32)).toNatClampNeg
            · rw [if_pos g5] at h; cases h
            · rw [if_neg g5] at h
              refine bk_a0 tb_c_0_0 rfl rfl g5 ?_
              refine bk_b (q := (134, [(0, .ref 0), (1, .ref 1), (2, .ref 135), (3, .ref 180), (4, .int l4)], [.int (l4 + (3 : Int32)), .ref 0, .int (xs (l4 + (2 : Int32)).toNatClampNeg), .int (xs (l4 + (1 : Int32)).toNatClampNeg), .ref 1])) tb_c_0_0 mx_0 4 rfl ?_
              by_cases g6 : (l4 + (3 : Int32)) < 0 ∨ L ≤ (l4 + (3 : Int32)).toNatClampNeg
              · rw [if_pos g6] at h; cases h
              · rw [if_neg g6] at h
                refine bk_a0 tb_c_0_1 rfl rfl g6 ?_
                refine bk_b (q := (140, [(0, .ref 0), (1, .ref 1), (2, .ref 135), (3, .ref 180), (4, .int l4)], [.int (l4 + (4 : Int32)), .ref 0, .int (xs (l4 + (3 : Int32)).toNatClampNeg), .int (xs (l4 + (2 : Int32)).toNatClampNeg), .int (xs (l4 + (1 : Int32)).toNatClampNeg), .ref 1])) tb_c_0_1 mx_0 4 rfl ?_
                by_cases g7 : (l4 + (4 : Int32)) < 0 ∨ L ≤ (l4 + (4 : Int32)).toNatClampNeg
                · rw [if_pos g7] at h; cases h
                · rw [if_neg g7] at h
                  refine bk_a0 tb_c_0_1 rfl rfl g7 ?_
                  refine bk_b (q := (146, [(0, .ref 0), (1, .ref 1), (2, .ref 135), (3, .ref 180), (4, .int l4)], [.int (l4 + (5 : Int32)), .ref 0, .int (xs (l4 + (4 : Int32)).toNatClampNeg), .int (xs (l4 + (3 : Int32)).toNatClampNeg), .int (xs (l4 + (2 : Int32)).toNatClampNeg), .int (xs (l4 + (1 : Int32)).toNatClampNeg), .ref 1])) tb_c_0_1 mx_0 4 rfl ?_
                  by_cases g8 : (l4 + (5 : Int32)) < 0 ∨ L ≤ (l4 + (5 : Int32)).toNatClampNeg
                  · rw [if_pos g8] at h; cases h
                  · rw [if_neg g8] at h
                    refine bk_a0 tb_c_0_1 rfl rfl g8 ?_
                    refine bk_b (q := (148, [(0, .ref 0), (1, .ref 1), (2, .ref 135), (3, .ref 180), (4, .int l4)], [.ref 180, .int (xs (l4 + (5 : Int32)).toNatClampNeg), .int (xs (l4 + (4 : Int32)).toNatClampNeg), .int (xs (l4 + (3 : Int32)).toNatClampNeg), .int (xs (l4 + (2 : Int32)).toNatClampNeg), .int (xs (l4 + (1 : Int32)).toNatClampNeg), .ref 1])) tb_c_0_1 mx_0 1 rfl ?_
                    obtain ⟨x10, S9, c11, h⟩ := wd_cx h
                    refine bk_ks tb_c_0_1 rfl rfl rfl (by decide) rfl rfl (ev_up (Nat.le_of_ble_eq_true rfl) (sn_La_feed c11)) ?_
                    refine bk_b (q := (159, [(5, .int x10), (0, .ref 0), (1, .ref 1), (2, .ref 135), (3, .ref 180), (4, .int l4)], [.int (l4 + (1 : Int32)), .ref 0, .ref 135])) tb_c_0_1 mx_0 6 rfl ?_
                    by_cases g12 : (l4 + (1 : Int32)) < 0 ∨ L ≤ (l4 + (1 : Int32)).toNatClampNeg
                    · rw [if_pos g12] at h; cases h
                    · rw [if_neg g12] at h
                      refine bk_a0 tb_c_0_1 rfl rfl g12 ?_
                      refine bk_b (q := (165, [(5, .int x10), (0, .ref 0), (1, .ref 1), (2, .ref 135), (3, .ref 180), (4, .int l4)], [.int (l4 + (2 : Int32)), .ref 0, .int (xs (l4 + (1 : Int32)).toNatClampNeg), .ref 135])) tb_c_0_1 mx_0 4 rfl ?_
                      by_cases g13 : (l4 + (2 : Int32)) < 0 ∨ L ≤ (l4 + (2 : Int32)).toNatClampNeg
                      · rw [if_pos g13] at h; cases h
                      · rw [if_neg g13] at h
                        refine bk_a0 tb_c_0_1 rfl rfl g13 ?_
                        refine bk_b (q := (171, [(5, .int x10), (0, .ref 0), (1, .ref 1), (2, .ref 135), (3, .ref 180), (4, .int l4)], [.int (l4 + (3 : Int32)), .ref 0, .int (xs (l4 + (2 : Int32)).toNatClampNeg), .int (xs (l4 + (1 : Int32)).toNatClampNeg), .ref 135])) tb_c_0_1 mx_0 4 rfl ?_
                        by_cases g14 : (l4 + (3 : Int32)) < 0 ∨ L ≤ (l4 + (3 : Int32)).toNatClampNeg
                        · rw [if_pos g14] at h; cases h
                        · rw [if_neg g14] at h
                          refine bk_a0 tb_c_0_1 rfl rfl g14 ?_
                          refine bk_b (q := (177, [(5, .int x10), (0, .ref 0), (1, .ref 1), (2, .ref 135), (3, .ref 180), (4, .int l4)], [.int (l4 + (4 : Int32)), .ref 0, .int (xs (l4 + (3 : Int32)).toNatClampNeg), .int (xs (l4 + (2 : Int32)).toNatClampNeg), .int (xs (l4 + (1 : Int32)).toNatClampNeg), .ref 135])) tb_c_0_1 mx_0 4 rfl ?_
                          by_cases g15 : (l4 + (4 : Int32)) < 0 ∨ L ≤ (l4 + (4 : Int32)).toNatClampNeg
                          · rw [if_pos g15] at h; cases h
                          · rw [if_neg g15] at h
                            refine bk_a0 tb_c_0_1 rfl rfl g15 ?_
                            refine bk_b (q := (183, [(5, .int x10), (0, .ref 0), (1, .ref 1), (2, .ref 135), (3, .ref 180), (4, .int l4)], [.int (l4 + (5 : Int32)), .ref 0, .int (xs (l4 + (4 : Int32)).toNatClampNeg), .int (xs (l4 + (3 : Int32)).toNatClampNeg), .int (xs (l4 + (2 : Int32)).toNatClampNeg), .int (xs (l4 + (1 : Int32)).toNatClampNeg), .ref 135])) tb_c_0_1 mx_0 4 rfl ?_
                            by_cases g16 : (l4 + (5 : Int32)) < 0 ∨ L ≤ (l4 + (5 : Int32)).toNatClampNeg
                            · rw [if_pos g16] at h; cases h
                            · rw [if_neg g16] at h
                              refine bk_a0 tb_c_0_1 rfl rfl g16 ?_
                              obtain ⟨x18, S17, c19, h⟩ := wd_cx h
                              refine bk_kv tb_c_0_2 rfl rfl rfl rfl rfl (ci := 11) rfl rfl (ev_up (Nat.le_of_ble_eq_true rfl) (sn_Mo_feed c19)) ?_
                              refine bk_b (q := (634, [(6, .int x18), (5, .int x10), (0, .ref 0), (1, .ref 1), (2, .ref 135), (3, .ref 180), (4, .int l4)], [])) tb_c_0_2 mx_0 2 rfl ?_
                              exact go_lv (ls_sc rfl rfl (ls_sc rfl rfl (ls_sc rfl rfl (ls_sc rfl rfl (ls_sc rfl rfl ls_nil))))) (sn_La_law_634 ih h)
        · rw [if_neg g3] at h
          by_cases g20 : ((xs l4.toNatClampNeg) &&& (15 : Int32)) = (1 : Int32)
          · rw [if_pos g20] at h
            refine bk_sw tb_c_0_0 rfl (pc' := 192) (by rw [g20]; rfl) ?_
            refine bk_b (q := (198, [(0, .ref 0), (1, .ref 1), (2, .ref 135), (3, .ref 180), (4, .int l4)], [.int (l4 + (1 : Int32)), .ref 0, .ref 1])) tb_c_0_2 mx_0 5 rfl ?_
            by_cases g21 : (l4 + (1 : Int32)) < 0 ∨ L ≤ (l4 + (1 : Int32)).toNatClampNeg
            · rw [if_pos g21] at h; cases h
            · rw [if_neg g21] at h
              refine bk_a0 tb_c_0_2 rfl rfl g21 ?_
              refine bk_b (q := (200, [(0, .ref 0), (1, .ref 1), (2, .ref 135), (3, .ref 180), (4, .int l4)], [.ref 180, .int (xs (l4 + (1 : Int32)).toNatClampNeg), .ref 1])) tb_c_0_2 mx_0 1 rfl ?_
              obtain ⟨x23, S22, c24, h⟩ := wd_cx h
              refine bk_ks tb_c_0_2 rfl rfl rfl (by decide) rfl rfl (ev_up (Nat.le_of_ble_eq_true rfl) (sn_La_cut c24)) ?_
              refine bk_b (q := (211, [(5, .int x23), (0, .ref 0), (1, .ref 1), (2, .ref 135), (3, .ref 180), (4, .int l4)], [.int (l4 + (1 : Int32)), .ref 0, .ref 135])) tb_c_0_2 mx_0 6 rfl ?_
              by_cases g25 : (l4 + (1 : Int32)) < 0 ∨ L ≤ (l4 + (1 : Int32)).toNatClampNeg
              · rw [if_pos g25] at h; cases h
              · rw [if_neg g25] at h
                refine bk_a0 tb_c_0_2 rfl rfl g25 ?_
                obtain ⟨x27, S26, c28, h⟩ := wd_cx h
                refine bk_kv tb_c_0_2 rfl rfl rfl rfl rfl (ci := 11) rfl rfl (ev_up (Nat.le_of_ble_eq_true rfl) (sn_Mo_cut c28)) ?_
                refine bk_b (q := (634, [(6, .int x27), (5, .int x23), (0, .ref 0), (1, .ref 1), (2, .ref 135), (3, .ref 180), (4, .int l4)], [])) tb_c_0_2 mx_0 2 rfl ?_
                exact go_lv (ls_sc rfl rfl (ls_sc rfl rfl (ls_sc rfl rfl (ls_sc rfl rfl (ls_sc rfl rfl ls_nil))))) (sn_La_law_634 ih h)
          · rw [if_neg g20] at h
            by_cases g29 : ((xs l4.toNatClampNeg) &&& (15 : Int32)) = (2 : Int32)
            · rw [if_pos g29] at h
              refine bk_sw tb_c_0_0 rfl (pc' := 220) (by rw [g29]; rfl) ?_
              refine bk_b (q := (221, [(0, .ref 0), (1, .ref 1), (2, .ref 135), (3, .ref 180), (4, .int l4)], [.ref 1])) tb_c_0_2 mx_0 1 rfl ?_
              obtain ⟨x31, S30, c32, h⟩ := wd_cx h
              refine bk_kv tb_c_0_2 rfl rfl rfl rfl rfl (ci := 10) rfl rfl (ev_up (Nat.le_of_ble_eq_true rfl) (sn_Sp_read c32)) ?_
              refine bk_b (q := (226, [(0, .ref 0), (1, .ref 1), (2, .ref 135), (3, .ref 180), (4, .int l4)], [.ref 135])) tb_c_0_2 mx_0 2 rfl ?_
              obtain ⟨x34, S33, c35, h⟩ := wd_cx h
              refine bk_kv tb_c_0_2 rfl rfl rfl rfl rfl (ci := 11) rfl rfl (ev_up (Nat.le_of_ble_eq_true rfl) (sn_Mo_read c35)) ?_
              refine bk_b (q := (634, [(0, .ref 0), (1, .ref 1), (2, .ref 135), (3, .ref 180), (4, .int l4)], [])) tb_c_0_2 mx_0 2 rfl ?_
              exact go_lv (ls_sc rfl rfl (ls_sc rfl rfl (ls_sc rfl rfl (ls_sc rfl rfl (ls_sc rfl rfl ls_nil))))) (sn_La_law_634 ih h)
            · rw [if_neg g29] at h
              by_cases g36 : ((xs l4.toNatClampNeg) &&& (15 : Int32)) = (3 : Int32)
              · rw [if_pos g36] at h
                refine bk_sw tb_c_0_0 rfl (pc' := 233) (by rw [g36]; rfl) ?_
                refine bk_b (q := (234, [(0, .ref 0), (1, .ref 1), (2, .ref 135), (3, .ref 180), (4, .int l4)], [.ref 1])) tb_c_0_2 mx_0 1 rfl ?_
                obtain ⟨x38, S37, c39, h⟩ := wd_cx h
                refine bk_kv tb_c_0_2 rfl rfl rfl rfl rfl (ci := 10) rfl rfl (ev_up (Nat.le_of_ble_eq_true rfl) (sn_Sp_place c39)) ?_
                refine bk_b (q := (239, [(0, .ref 0), (1, .ref 1), (2, .ref 135), (3, .ref 180), (4, .int l4)], [.ref 135])) tb_c_0_2 mx_0 2 rfl ?_
                obtain ⟨x41, S40, c42, h⟩ := wd_cx h
                refine bk_kv tb_c_0_2 rfl rfl rfl rfl rfl (ci := 11) rfl rfl (ev_up (Nat.le_of_ble_eq_true rfl) (sn_Mo_place c42)) ?_
                refine bk_b (q := (634, [(0, .ref 0), (1, .ref 1), (2, .ref 135), (3, .ref 180), (4, .int l4)], [])) tb_c_0_2 mx_0 2 rfl ?_
                exact go_lv (ls_sc rfl rfl (ls_sc rfl rfl (ls_sc rfl rfl (ls_sc rfl rfl (ls_sc rfl rfl ls_nil))))) (sn_La_law_634 ih h)
              · rw [if_neg g36] at h
                by_cases g43 : ((xs l4.toNatClampNeg) &&& (15 : Int32)) = (4 : Int32)
                · rw [if_pos g43] at h
                  refine bk_sw tb_c_0_0 rfl (pc' := 246) (by rw [g43]; rfl) ?_
                  refine bk_b (q := (252, [(0, .ref 0), (1, .ref 1), (2, .ref 135), (3, .ref 180), (4, .int l4)], [.int (l4 + (1 : Int32)), .ref 0, .ref 1])) tb_c_0_2 mx_0 5 rfl ?_
                  by_cases g44 : (l4 + (1 : Int32)) < 0 ∨ L ≤ (l4 + (1 : Int32)).toNatClampNeg
                  · rw [if_pos g44] at h; cases h
                  · rw [if_neg g44] at h
                    refine bk_a0 tb_c_0_3 rfl rfl g44 ?_
                    refine bk_b (q := (258, [(0, .ref 0), (1, .ref 1), (2, .ref 135), (3, .ref 180), (4, .int l4)], [.int (l4 + (2 : Int32)), .ref 0, .int (xs (l4 + (1 : Int32)).toNatClampNeg), .ref 1])) tb_c_0_3 mx_0 4 rfl ?_
                    by_cases g45 : (l4 + (2 : Int32)) < 0 ∨ L ≤ (l4 + (2 : Int32)).toNatClampNeg
                    · rw [if_pos g45] at h; cases h
                    · rw [if_neg g45] at h
                      refine bk_a0 tb_c_0_3 rfl rfl g45 ?_
                      refine bk_b (q := (260, [(0, .ref 0), (1, .ref 1), (2, .ref 135), (3, .ref 180), (4, .int l4)], [.ref 180, .int (xs (l4 + (2 : Int32)).toNatClampNeg), .int (xs (l4 + (1 : Int32)).toNatClampNeg), .ref 1])) tb_c_0_3 mx_0 1 rfl ?_
                      obtain ⟨x47, S46, c48, h⟩ := wd_cx h
                      refine bk_ks tb_c_0_3 rfl rfl rfl (by decide) rfl rfl (ev_up (Nat.le_of_ble_eq_true rfl) (sn_La_function c48)) ?_
                      refine bk_b (q := (271, [(5, .int x47), (0, .ref 0), (1, .ref 1), (2, .ref 135), (3, .ref 180), (4, .int l4)], [.int (l4 + (1 : Int32)), .ref 0, .ref 135])) tb_c_0_3 mx_0 6 rfl ?_
                      by_cases g49 : (l4 + (1 : Int32)) < 0 ∨ L ≤ (l4 + (1 : Int32)).toNatClampNeg
                      · rw [if_pos g49] at h; cases h
                      · rw [if_neg g49] at h
                        refine bk_a0 tb_c_0_3 rfl rfl g49 ?_
                        refine bk_b (q := (277, [(5, .int x47), (0, .ref 0), (1, .ref 1), (2, .ref 135), (3, .ref 180), (4, .int l4)], [.int (l4 + (2 : Int32)), .ref 0, .int (xs (l4 + (1 : Int32)).toNatClampNeg), .ref 135])) tb_c_0_3 mx_0 4 rfl ?_
                        by_cases g50 : (l4 + (2 : Int32)) < 0 ∨ L ≤ (l4 + (2 : Int32)).toNatClampNeg
                        · rw [if_pos g50] at h; cases h
                        · rw [if_neg g50] at h
                          refine bk_a0 tb_c_0_3 rfl rfl g50 ?_
                          obtain ⟨x52, S51, c53, h⟩ := wd_cx h
                          refine bk_kv tb_c_0_3 rfl rfl rfl rfl rfl (ci := 11) rfl rfl (ev_up (Nat.le_of_ble_eq_true rfl) (sn_Mo_function c53)) ?_
                          refine bk_b (q := (634, [(6, .int x52), (5, .int x47), (0, .ref 0), (1, .ref 1), (2, .ref 135), (3, .ref 180), (4, .int l4)], [])) tb_c_0_3 mx_0 2 rfl ?_
                          exact go_lv (ls_sc rfl rfl (ls_sc rfl rfl (ls_sc rfl rfl (ls_sc rfl rfl (ls_sc rfl rfl ls_nil))))) (sn_La_law_634 ih h)
                · rw [if_neg g43] at h
                  by_cases g54 : ((xs l4.toNatClampNeg) &&& (15 : Int32)) = (5 : Int32)
                  · rw [if_pos g54] at h
                    refine bk_sw tb_c_0_0 rfl (pc' := 286) (by rw [g54]; rfl) ?_
                    refine bk_b (q := (292, [(0, .ref 0), (1, .ref 1), (2, .ref 135), (3, .ref 180), (4, .int l4)], [.int (l4 + (1 : Int32)), .ref 0, .ref 1])) tb_c_0_3 mx_0 5 rfl ?_
                    by_cases g55 : (l4 + (1 : Int32)) < 0 ∨ L ≤ (l4 + (1 : Int32)).toNatClampNeg
                    · rw [if_pos g55] at h; cases h
                    · rw [if_neg g55] at h
                      refine bk_a0 tb_c_0_3 rfl rfl g55 ?_
                      refine bk_b (q := (298, [(0, .ref 0), (1, .ref 1), (2, .ref 135), (3, .ref 180), (4, .int l4)], [.int (l4 + (2 : Int32)), .ref 0, .int (xs (l4 + (1 : Int32)).toNatClampNeg), .ref 1])) tb_c_0_3 mx_0 4 rfl ?_
                      by_cases g56 : (l4 + (2 : Int32)) < 0 ∨ L ≤ (l4 + (2 : Int32)).toNatClampNeg
                      · rw [if_pos g56] at h; cases h
                      · rw [if_neg g56] at h
                        refine bk_a0 tb_c_0_3 rfl rfl g56 ?_
                        refine bk_b (q := (300, [(0, .ref 0), (1, .ref 1), (2, .ref 135), (3, .ref 180), (4, .int l4)], [.ref 180, .int (xs (l4 + (2 : Int32)).toNatClampNeg), .int (xs (l4 + (1 : Int32)).toNatClampNeg), .ref 1])) tb_c_0_3 mx_0 1 rfl ?_
                        obtain ⟨x58, S57, c59, h⟩ := wd_cx h
                        refine bk_ks tb_c_0_3 rfl rfl rfl (by decide) rfl rfl (ev_up (Nat.le_of_ble_eq_true rfl) (sn_La_know c59)) ?_
                        refine bk_b (q := (309, [(5, .int x58), (0, .ref 0), (1, .ref 1), (2, .ref 135), (3, .ref 180), (4, .int l4)], [.int l4, .ref 0, .ref 135])) tb_c_0_3 mx_0 4 rfl ?_
                        refine bk_b (q := (311, [(5, .int x58), (0, .ref 0), (1, .ref 1), (2, .ref 135), (3, .ref 180), (4, .int l4)], [.int (l4 + (1 : Int32)), .ref 0, .ref 135])) tb_c_0_4 mx_0 2 rfl ?_
                        by_cases g60 : (l4 + (1 : Int32)) < 0 ∨ L ≤ (l4 + (1 : Int32)).toNatClampNeg
                        · rw [if_pos g60] at h; cases h
                        · rw [if_neg g60] at h
                          refine bk_a0 tb_c_0_4 rfl rfl g60 ?_
                          refine bk_b (q := (317, [(5, .int x58), (0, .ref 0), (1, .ref 1), (2, .ref 135), (3, .ref 180), (4, .int l4)], [.int (l4 + (2 : Int32)), .ref 0, .int (xs (l4 + (1 : Int32)).toNatClampNeg), .ref 135])) tb_c_0_4 mx_0 4 rfl ?_
                          by_cases g61 : (l4 + (2 : Int32)) < 0 ∨ L ≤ (l4 + (2 : Int32)).toNatClampNeg
                          · rw [if_pos g61] at h; cases h
                          · rw [if_neg g61] at h
                            refine bk_a0 tb_c_0_4 rfl rfl g61 ?_
                            obtain ⟨x63, S62, c64, h⟩ := wd_cx h
                            refine bk_kv tb_c_0_4 rfl rfl rfl rfl rfl (ci := 11) rfl rfl (ev_up (Nat.le_of_ble_eq_true rfl) (sn_Mo_know c64)) ?_
                            refine bk_b (q := (634, [(6, .int x63), (5, .int x58), (0, .ref 0), (1, .ref 1), (2, .ref 135), (3, .ref 180), (4, .int l4)], [])) tb_c_0_4 mx_0 2 rfl ?_
                            exact go_lv (ls_sc rfl rfl (ls_sc rfl rfl (ls_sc rfl rfl (ls_sc rfl rfl (ls_sc rfl rfl ls_nil))))) (sn_La_law_634 ih h)
                  · rw [if_neg g54] at h
                    by_cases g65 : ((xs l4.toNatClampNeg) &&& (15 : Int32)) = (6 : Int32)
                    · rw [if_pos g65] at h
                      refine bk_sw tb_c_0_0 rfl (pc' := 326) (by rw [g65]; rfl) ?_
                      refine bk_b (q := (332, [(0, .ref 0), (1, .ref 1), (2, .ref 135), (3, .ref 180), (4, .int l4)], [.int (l4 + (1 : Int32)), .ref 0, .ref 1])) tb_c_0_4 mx_0 5 rfl ?_
                      by_cases g66 : (l4 + (1 : Int32)) < 0 ∨ L ≤ (l4 + (1 : Int32)).toNatClampNeg
                      · rw [if_pos g66] at h; cases h
                      · rw [if_neg g66] at h
                        refine bk_a0 tb_c_0_4 rfl rfl g66 ?_
                        refine bk_b (q := (334, [(0, .ref 0), (1, .ref 1), (2, .ref 135), (3, .ref 180), (4, .int l4)], [.ref 180, .int (xs (l4 + (1 : Int32)).toNatClampNeg), .ref 1])) tb_c_0_4 mx_0 1 rfl ?_
                        obtain ⟨x68, S67, c69, h⟩ := wd_cx h
                        refine bk_ks tb_c_0_4 rfl rfl rfl (by decide) rfl rfl (ev_up (Nat.le_of_ble_eq_true rfl) (sn_La_make c69)) ?_
                        refine bk_b (q := (345, [(5, .int x68), (0, .ref 0), (1, .ref 1), (2, .ref 135), (3, .ref 180), (4, .int l4)], [.int (l4 + (1 : Int32)), .ref 0, .ref 135])) tb_c_0_4 mx_0 6 rfl ?_
                        by_cases g70 : (l4 + (1 : Int32)) < 0 ∨ L ≤ (l4 + (1 : Int32)).toNatClampNeg
                        · rw [if_pos g70] at h; cases h
                        · rw [if_neg g70] at h
                          refine bk_a0 tb_c_0_4 rfl rfl g70 ?_
                          obtain ⟨x72, S71, c73, h⟩ := wd_cx h
                          refine bk_kv tb_c_0_4 rfl rfl rfl rfl rfl (ci := 11) rfl rfl (ev_up (Nat.le_of_ble_eq_true rfl) (sn_Mo_make c73)) ?_
                          refine bk_b (q := (352, [(6, .int x72), (5, .int x68), (0, .ref 0), (1, .ref 1), (2, .ref 135), (3, .ref 180), (4, .int l4)], [.ref 135])) tb_c_0_4 mx_0 2 rfl ?_
                          obtain ⟨x75, S74, c76, h⟩ := wd_cx h
                          refine bk_kv tb_c_0_4 rfl rfl rfl rfl rfl (ci := 11) rfl rfl (ev_up (Nat.le_of_ble_eq_true rfl) (sn_Mo_thrown c76)) ?_
                          refine bk_b (q := (357, [(6, .int x72), (5, .int x68), (0, .ref 0), (1, .ref 1), (2, .ref 135), (3, .ref 180), (4, .int l4)], [.int x68, .int x75])) tb_c_0_4 mx_0 1 rfl ?_
                          by_cases g77 : x75 = x68
                          · rw [if_pos g77] at h
                            refine bk_jt tb_c_0_4 rfl (pc' := 362) rfl (cm_eq_t g77) ?_
                            refine bk_b (q := (364, [(6, .int x72), (5, .int x68), (0, .ref 0), (1, .ref 1), (2, .ref 135), (3, .ref 180), (4, .int l4)], [.int x68])) tb_c_0_4 mx_0 1 rfl ?_
                            by_cases g78 : x68 = 0
                            · rw [if_pos g78] at h
                              refine bk_zf tb_c_0_4 rfl (pc' := 367) rfl (t := 379) rfl (cm_ne_f g78) ?_
                              refine bk_b (q := (369, [(6, .int x72), (5, .int x68), (0, .ref 0), (1, .ref 1), (2, .ref 135), (3, .ref 180), (4, .int l4)], [.int (0 : Int32), .ref 180])) tb_c_0_4 mx_0 2 rfl ?_
                              by_cases g79 : (0 : Int32) < 0 ∨ 1 ≤ (0 : Int32).toNatClampNeg
                              · rw [if_pos g79] at h; cases h
                              · rw [if_neg g79] at h
                                refine bk_a8 tb_c_0_4 rfl rfl rfl g79 ?_
                                refine bk_b (q := (372, [(6, .int x72), (5, .int x68), (0, .ref 0), (1, .ref 1), (2, .ref 135), (3, .ref 180), (4, .int l4)], [.int x72, .long (S74.2.1 180 (0 : Int32).toNatClampNeg)])) tb_c_0_4 mx_0 1 rfl ?_
                                refine bk_b (q := (374, [(6, .int x72), (5, .int x68), (0, .ref 0), (1, .ref 1), (2, .ref 135), (3, .ref 180), (4, .int l4)], [.int (lg_cmp (S74.2.1 180 (0 : Int32).toNatClampNeg) ((x72).toInt64))])) tb_c_0_5 mx_0 2 rfl ?_
                                by_cases g80 : (lg_cmp (S74.2.1 180 (0 : Int32).toNatClampNeg) ((x72).toInt64)) = 0
                                · rw [if_pos g80] at h
                                  refine bk_zt tb_c_0_5 rfl (pc' := 379) rfl (cm_eq_t g80) ?_
                                  exact go_lv (ls_sc rfl rfl (ls_sc rfl rfl (ls_sc rfl rfl (ls_sc rfl rfl (ls_sc rfl rfl ls_nil))))) (sn_La_law_379 ih h)
                                · rw [if_neg g80] at h
                                  refine bk_zf tb_c_0_5 rfl (pc' := 377) rfl (t := 379) rfl (cm_eq_f g80) ?_
                                  refine bk_b (q := (378, [(6, .int x72), (5, .int x68), (0, .ref 0), (1, .ref 1), (2, .ref 135), (3, .ref 180), (4, .int l4)], [.int (0 : Int32)])) tb_c_0_5 mx_0 1 rfl ?_
                                  cases h
                                  exact bk_t tb_c_0_5 rfl rfl
                            · rw [if_neg g78] at h
                              refine bk_zt tb_c_0_4 rfl (pc' := 379) rfl (cm_ne_t g78) ?_
                              exact go_lv (ls_sc rfl rfl (ls_sc rfl rfl (ls_sc rfl rfl (ls_sc rfl rfl (ls_sc rfl rfl ls_nil))))) (sn_La_law_379 ih h)
                          · rw [if_neg g77] at h
                            refine bk_jf tb_c_0_4 rfl (pc' := 360) rfl (t := 362) rfl (cm_eq_f g77) ?_
                            refine bk_b (q := (361, [(6, .int x72), (5, .int x68), (0, .ref 0), (1, .ref 1), (2, .ref 135), (3, .ref 180), (4, .int l4)], [.int (0 : Int32)])) tb_c_0_4 mx_0 1 rfl ?_
                            cases h
                            exact bk_t tb_c_0_4 rfl rfl
                    · rw [if_neg g65] at h
                      by_cases g81 : ((xs l4.toNatClampNeg) &&& (15 : Int32)) = (7 : Int32)
                      · rw [if_pos g81] at h
                        refine bk_sw tb_c_0_0 rfl (pc' := 382) (by rw [g81]; rfl) ?_
                        refine bk_b (q := (388, [(0, .ref 0), (1, .ref 1), (2, .ref 135), (3, .ref 180), (4, .int l4)], [.int (l4 + (1 : Int32)), .ref 0, .ref 1])) tb_c_0_5 mx_0 5 rfl ?_
                        by_cases g82 : (l4 + (1 : Int32)) < 0 ∨ L ≤ (l4 + (1 : Int32)).toNatClampNeg
                        · rw [if_pos g82] at h; cases h
                        · rw [if_neg g82] at h
                          refine bk_a0 tb_c_0_5 rfl rfl g82 ?_
                          refine bk_b (q := (394, [(0, .ref 0), (1, .ref 1), (2, .ref 135), (3, .ref 180), (4, .int l4)], [.int (l4 + (2 : Int32)), .ref 0, .int (xs (l4 + (1 : Int32)).toNatClampNeg), .ref 1])) tb_c_0_5 mx_0 4 rfl ?_
                          by_cases g83 : (l4 + (2 : Int32)) < 0 ∨ L ≤ (l4 + (2 : Int32)).toNatClampNeg
                          · rw [if_pos g83] at h; cases h
                          · rw [if_neg g83] at h
                            refine bk_a0 tb_c_0_5 rfl rfl g83 ?_
                            refine bk_b (q := (396, [(0, .ref 0), (1, .ref 1), (2, .ref 135), (3, .ref 180), (4, .int l4)], [.ref 180, .int (xs (l4 + (2 : Int32)).toNatClampNeg), .int (xs (l4 + (1 : Int32)).toNatClampNeg), .ref 1])) tb_c_0_5 mx_0 1 rfl ?_
                            obtain ⟨x85, S84, c86, h⟩ := wd_cx h
                            refine bk_ks tb_c_0_5 rfl rfl rfl (by decide) rfl rfl (ev_up (Nat.le_of_ble_eq_true rfl) (sn_La_version c86)) ?_
                            refine bk_b (q := (407, [(5, .int x85), (0, .ref 0), (1, .ref 1), (2, .ref 135), (3, .ref 180), (4, .int l4)], [.int (l4 + (1 : Int32)), .ref 0, .ref 135])) tb_c_0_5 mx_0 6 rfl ?_
                            by_cases g87 : (l4 + (1 : Int32)) < 0 ∨ L ≤ (l4 + (1 : Int32)).toNatClampNeg
                            · rw [if_pos g87] at h; cases h
                            · rw [if_neg g87] at h
                              refine bk_a0 tb_c_0_5 rfl rfl g87 ?_
                              refine bk_b (q := (413, [(5, .int x85), (0, .ref 0), (1, .ref 1), (2, .ref 135), (3, .ref 180), (4, .int l4)], [.int (l4 + (2 : Int32)), .ref 0, .int (xs (l4 + (1 : Int32)).toNatClampNeg), .ref 135])) tb_c_0_5 mx_0 4 rfl ?_
                              by_cases g88 : (l4 + (2 : Int32)) < 0 ∨ L ≤ (l4 + (2 : Int32)).toNatClampNeg
                              · rw [if_pos g88] at h; cases h
                              · rw [if_neg g88] at h
                                refine bk_a0 tb_c_0_5 rfl rfl g88 ?_
                                obtain ⟨x90, S89, c91, h⟩ := wd_cx h
                                refine bk_kv tb_c_0_5 rfl rfl rfl rfl rfl (ci := 11) rfl rfl (ev_up (Nat.le_of_ble_eq_true rfl) (sn_Mo_version c91)) ?_
                                refine bk_b (q := (634, [(6, .int x90), (5, .int x85), (0, .ref 0), (1, .ref 1), (2, .ref 135), (3, .ref 180), (4, .int l4)], [])) tb_c_0_5 mx_0 2 rfl ?_
                                exact go_lv (ls_sc rfl rfl (ls_sc rfl rfl (ls_sc rfl rfl (ls_sc rfl rfl (ls_sc rfl rfl ls_nil))))) (sn_La_law_634 ih h)
                      · rw [if_neg g81] at h
                        by_cases g92 : ((xs l4.toNatClampNeg) &&& (15 : Int32)) = (8 : Int32)
                        · rw [if_pos g92] at h
                          refine bk_sw tb_c_0_0 rfl (pc' := 422) (by rw [g92]; rfl) ?_
                          refine bk_b (q := (428, [(0, .ref 0), (1, .ref 1), (2, .ref 135), (3, .ref 180), (4, .int l4)], [.int (l4 + (1 : Int32)), .ref 0, .ref 1])) tb_c_0_5 mx_0 5 rfl ?_
                          by_cases g93 : (l4 + (1 : Int32)) < 0 ∨ L ≤ (l4 + (1 : Int32)).toNatClampNeg
                          · rw [if_pos g93] at h; cases h
                          · rw [if_neg g93] at h
                            refine bk_a0 tb_c_0_5 rfl rfl g93 ?_
                            refine bk_b (q := (430, [(0, .ref 0), (1, .ref 1), (2, .ref 135), (3, .ref 180), (4, .int l4)], [.ref 180, .int (xs (l4 + (1 : Int32)).toNatClampNeg), .ref 1])) tb_c_0_6 mx_0 1 rfl ?_
                            obtain ⟨x95, S94, c96, h⟩ := wd_cx h
                            refine bk_ks tb_c_0_6 rfl rfl rfl (by decide) rfl rfl (ev_up (Nat.le_of_ble_eq_true rfl) (sn_La_told c96)) ?_
                            refine bk_b (q := (441, [(5, .int x95), (0, .ref 0), (1, .ref 1), (2, .ref 135), (3, .ref 180), (4, .int l4)], [.int (l4 + (1 : Int32)), .ref 0, .ref 135])) tb_c_0_6 mx_0 6 rfl ?_
                            by_cases g97 : (l4 + (1 : Int32)) < 0 ∨ L ≤ (l4 + (1 : Int32)).toNatClampNeg
                            · rw [if_pos g97] at h; cases h
                            · rw [if_neg g97] at h
                              refine bk_a0 tb_c_0_6 rfl rfl g97 ?_
                              obtain ⟨x99, S98, c100, h⟩ := wd_cx h
                              refine bk_kv tb_c_0_6 rfl rfl rfl rfl rfl (ci := 11) rfl rfl (ev_up (Nat.le_of_ble_eq_true rfl) (sn_Mo_told c100)) ?_
                              refine bk_b (q := (634, [(6, .int x99), (5, .int x95), (0, .ref 0), (1, .ref 1), (2, .ref 135), (3, .ref 180), (4, .int l4)], [])) tb_c_0_6 mx_0 2 rfl ?_
                              exact go_lv (ls_sc rfl rfl (ls_sc rfl rfl (ls_sc rfl rfl (ls_sc rfl rfl (ls_sc rfl rfl ls_nil))))) (sn_La_law_634 ih h)
                        · rw [if_neg g92] at h
                          by_cases g101 : ((xs l4.toNatClampNeg) &&& (15 : Int32)) = (9 : Int32)
                          · rw [if_pos g101] at h
                            refine bk_sw tb_c_0_0 rfl (pc' := 450) (by rw [g101]; rfl) ?_
                            refine bk_b (q := (452, [(0, .ref 0), (1, .ref 1), (2, .ref 135), (3, .ref 180), (4, .int l4)], [.ref 180, .ref 1])) tb_c_0_6 mx_0 2 rfl ?_
                            obtain ⟨x103, S102, c104, h⟩ := wd_cx h
                            refine bk_ks tb_c_0_6 rfl rfl rfl (by decide) rfl rfl (ev_up (Nat.le_of_ble_eq_true rfl) (sn_La_print c104)) ?_
                            refine bk_b (q := (458, [(5, .int x103), (0, .ref 0), (1, .ref 1), (2, .ref 135), (3, .ref 180), (4, .int l4)], [.ref 135])) tb_c_0_6 mx_0 2 rfl ?_
                            obtain ⟨x106, S105, c107, h⟩ := wd_cx h
                            refine bk_kv tb_c_0_6 rfl rfl rfl rfl rfl (ci := 11) rfl rfl (ev_up (Nat.le_of_ble_eq_true rfl) (sn_Mo_print c107)) ?_
                            refine bk_b (q := (634, [(6, .int x106), (5, .int x103), (0, .ref 0), (1, .ref 1), (2, .ref 135), (3, .ref 180), (4, .int l4)], [])) tb_c_0_6 mx_0 2 rfl ?_
                            exact go_lv (ls_sc rfl rfl (ls_sc rfl rfl (ls_sc rfl rfl (ls_sc rfl rfl (ls_sc rfl rfl ls_nil))))) (sn_La_law_634 ih h)
                          · rw [if_neg g101] at h
                            by_cases g108 : ((xs l4.toNatClampNeg) &&& (15 : Int32)) = (10 : Int32)
                            · rw [if_pos g108] at h
                              refine bk_sw tb_c_0_0 rfl (pc' := 466) (by rw [g108]; rfl) ?_
                              refine bk_b (q := (472, [(0, .ref 0), (1, .ref 1), (2, .ref 135), (3, .ref 180), (4, .int l4)], [.int (l4 + (1 : Int32)), .ref 0, .ref 1])) tb_c_0_6 mx_0 5 rfl ?_
                              by_cases g109 : (l4 + (1 : Int32)) < 0 ∨ L ≤ (l4 + (1 : Int32)).toNatClampNeg
                              · rw [if_pos g109] at h; cases h
                              · rw [if_neg g109] at h
                                refine bk_a0 tb_c_0_6 rfl rfl g109 ?_
                                refine bk_b (q := (474, [(0, .ref 0), (1, .ref 1), (2, .ref 135), (3, .ref 180), (4, .int l4)], [.ref 180, .int (xs (l4 + (1 : Int32)).toNatClampNeg), .ref 1])) tb_c_0_6 mx_0 1 rfl ?_
                                obtain ⟨x111, S110, c112, h⟩ := wd_cx h
                                refine bk_ks tb_c_0_6 rfl rfl rfl (by decide) rfl rfl (ev_up (Nat.le_of_ble_eq_true rfl) (sn_La_out c112)) ?_
                                refine bk_b (q := (485, [(5, .int x111), (0, .ref 0), (1, .ref 1), (2, .ref 135), (3, .ref 180), (4, .int l4)], [.int (l4 + (1 : Int32)), .ref 0, .ref 135])) tb_c_0_6 mx_0 6 rfl ?_
                                by_cases g113 : (l4 + (1 : Int32)) < 0 ∨ L ≤ (l4 + (1 : Int32)).toNatClampNeg
                                · rw [if_pos g113] at h; cases h
                                · rw [if_neg g113] at h
                                  refine bk_a0 tb_c_0_6 rfl rfl g113 ?_
                                  obtain ⟨x115, S114, c116, h⟩ := wd_cx h
                                  refine bk_kv tb_c_0_6 rfl rfl rfl rfl rfl (ci := 11) rfl rfl (ev_up (Nat.le_of_ble_eq_true rfl) (sn_Mo_out c116)) ?_
                                  refine bk_b (q := (634, [(6, .int x115), (5, .int x111), (0, .ref 0), (1, .ref 1), (2, .ref 135), (3, .ref 180), (4, .int l4)], [])) tb_c_0_6 mx_0 2 rfl ?_
                                  exact go_lv (ls_sc rfl rfl (ls_sc rfl rfl (ls_sc rfl rfl (ls_sc rfl rfl (ls_sc rfl rfl ls_nil))))) (sn_La_law_634 ih h)
                            · rw [if_neg g108] at h
                              by_cases g117 : ((xs l4.toNatClampNeg) &&& (15 : Int32)) = (11 : Int32)
                              · rw [if_pos g117] at h
                                refine bk_sw tb_c_0_0 rfl (pc' := 494) (by rw [g117]; rfl) ?_
                                refine bk_b (q := (496, [(0, .ref 0), (1, .ref 1), (2, .ref 135), (3, .ref 180), (4, .int l4)], [.ref 180, .ref 1])) tb_c_0_6 mx_0 2 rfl ?_
                                obtain ⟨x119, S118, c120, h⟩ := wd_cx h
                                refine bk_ks tb_c_0_7 rfl rfl rfl (by decide) rfl rfl (ev_up (Nat.le_of_ble_eq_true rfl) (sn_La_back c120)) ?_
                                refine bk_b (q := (502, [(5, .int x119), (0, .ref 0), (1, .ref 1), (2, .ref 135), (3, .ref 180), (4, .int l4)], [.ref 135])) tb_c_0_7 mx_0 2 rfl ?_
                                obtain ⟨x122, S121, c123, h⟩ := wd_cx h
                                refine bk_kv tb_c_0_7 rfl rfl rfl rfl rfl (ci := 11) rfl rfl (ev_up (Nat.le_of_ble_eq_true rfl) (sn_Mo_back c123)) ?_
                                refine bk_b (q := (634, [(6, .int x122), (5, .int x119), (0, .ref 0), (1, .ref 1), (2, .ref 135), (3, .ref 180), (4, .int l4)], [])) tb_c_0_7 mx_0 2 rfl ?_
                                exact go_lv (ls_sc rfl rfl (ls_sc rfl rfl (ls_sc rfl rfl (ls_sc rfl rfl (ls_sc rfl rfl ls_nil))))) (sn_La_law_634 ih h)
                              · rw [if_neg g117] at h
                                by_cases g124 : ((xs l4.toNatClampNeg) &&& (15 : Int32)) = (12 : Int32)
                                · rw [if_pos g124] at h
                                  refine bk_sw tb_c_0_0 rfl (pc' := 510) (by rw [g124]; rfl) ?_
                                  refine bk_b (q := (516, [(0, .ref 0), (1, .ref 1), (2, .ref 135), (3, .ref 180), (4, .int l4)], [.int (l4 + (1 : Int32)), .ref 0, .ref 1])) tb_c_0_7 mx_0 5 rfl ?_
                                  by_cases g125 : (l4 + (1 : Int32)) < 0 ∨ L ≤ (l4 + (1 : Int32)).toNatClampNeg
                                  · rw [if_pos g125] at h; cases h
                                  · rw [if_neg g125] at h
                                    refine bk_a0 tb_c_0_7 rfl rfl g125 ?_
                                    refine bk_b (q := (518, [(0, .ref 0), (1, .ref 1), (2, .ref 135), (3, .ref 180), (4, .int l4)], [.ref 180, .int (xs (l4 + (1 : Int32)).toNatClampNeg), .ref 1])) tb_c_0_7 mx_0 1 rfl ?_
                                    obtain ⟨x127, S126, c128, h⟩ := wd_cx h
                                    refine bk_ks tb_c_0_7 rfl rfl rfl (by decide) rfl rfl (ev_up (Nat.le_of_ble_eq_true rfl) (sn_La_give c128)) ?_
                                    refine bk_b (q := (529, [(5, .int x127), (0, .ref 0), (1, .ref 1), (2, .ref 135), (3, .ref 180), (4, .int l4)], [.int (l4 + (1 : Int32)), .ref 0, .ref 135])) tb_c_0_7 mx_0 6 rfl ?_
                                    by_cases g129 : (l4 + (1 : Int32)) < 0 ∨ L ≤ (l4 + (1 : Int32)).toNatClampNeg
                                    · rw [if_pos g129] at h; cases h
                                    · rw [if_neg g129] at h
                                      refine bk_a0 tb_c_0_7 rfl rfl g129 ?_
                                      obtain ⟨x131, S130, c132, h⟩ := wd_cx h
                                      refine bk_kv tb_c_0_7 rfl rfl rfl rfl rfl (ci := 11) rfl rfl (ev_up (Nat.le_of_ble_eq_true rfl) (sn_Mo_give c132)) ?_
                                      refine bk_b (q := (634, [(6, .int x131), (5, .int x127), (0, .ref 0), (1, .ref 1), (2, .ref 135), (3, .ref 180), (4, .int l4)], [])) tb_c_0_7 mx_0 2 rfl ?_
                                      exact go_lv (ls_sc rfl rfl (ls_sc rfl rfl (ls_sc rfl rfl (ls_sc rfl rfl (ls_sc rfl rfl ls_nil))))) (sn_La_law_634 ih h)
                                · rw [if_neg g124] at h
                                  by_cases g133 : ((xs l4.toNatClampNeg) &&& (15 : Int32)) = (13 : Int32)
                                  · rw [if_pos g133] at h
                                    refine bk_sw tb_c_0_0 rfl (pc' := 538) (by rw [g133]; rfl) ?_
                                    refine bk_b (q := (544, [(0, .ref 0), (1, .ref 1), (2, .ref 135), (3, .ref 180), (4, .int l4)], [.int (l4 + (1 : Int32)), .ref 0, .ref 1])) tb_c_0_7 mx_0 5 rfl ?_
                                    by_cases g134 : (l4 + (1 : Int32)) < 0 ∨ L ≤ (l4 + (1 : Int32)).toNatClampNeg
                                    · rw [if_pos g134] at h; cases h
                                    · rw [if_neg g134] at h
                                      refine bk_a0 tb_c_0_7 rfl rfl g134 ?_
                                      by_cases g135 : (xs (l4 + (1 : Int32)).toNatClampNeg) = 0
                                      · rw [if_pos g135] at h
                                        refine bk_zt tb_c_0_7 rfl (pc' := 552) rfl (cm_eq_t g135) ?_
                                        refine bk_b (q := (553, [(0, .ref 0), (1, .ref 1), (2, .ref 135), (3, .ref 180), (4, .int l4)], [.int (0 : Int32), .ref 1])) tb_c_0_7 mx_0 1 rfl ?_
                                        exact go_lv (ls_sc rfl rfl (ls_sc rfl rfl (ls_sc rfl rfl (ls_sc rfl rfl (ls_sc rfl rfl ls_nil))))) (sn_La_law_553 ih h)
                                      · rw [if_neg g135] at h
                                        refine bk_zf tb_c_0_7 rfl (pc' := 548) rfl (t := 552) rfl (cm_eq_f g135) ?_
                                        refine bk_b (q := (553, [(0, .ref 0), (1, .ref 1), (2, .ref 135), (3, .ref 180), (4, .int l4)], [.int (1 : Int32), .ref 1])) tb_c_0_7 mx_0 2 rfl ?_
                                        exact go_lv (ls_sc rfl rfl (ls_sc rfl rfl (ls_sc rfl rfl (ls_sc rfl rfl (ls_sc rfl rfl ls_nil))))) (sn_La_law_553 ih h)
                                  · rw [if_neg g133] at h
                                    by_cases g148 : ((xs l4.toNatClampNeg) &&& (15 : Int32)) = (14 : Int32)
                                    · rw [if_pos g148] at h
                                      refine bk_sw tb_c_0_0 rfl (pc' := 606) (by rw [g148]; rfl) ?_
                                      refine bk_b (q := (612, [(0, .ref 0), (1, .ref 1), (2, .ref 135), (3, .ref 180), (4, .int l4)], [.int (l4 + (1 : Int32)), .ref 0, .ref 1])) tb_c_0_8 mx_0 5 rfl ?_
                                      by_cases g149 : (l4 + (1 : Int32)) < 0 ∨ L ≤ (l4 + (1 : Int32)).toNatClampNeg
                                      · rw [if_pos g149] at h; cases h
                                      · rw [if_neg g149] at h
                                        refine bk_a0 tb_c_0_8 rfl rfl g149 ?_
                                        refine bk_b (q := (614, [(0, .ref 0), (1, .ref 1), (2, .ref 135), (3, .ref 180), (4, .int l4)], [.ref 180, .int (xs (l4 + (1 : Int32)).toNatClampNeg), .ref 1])) tb_c_0_8 mx_0 1 rfl ?_
                                        obtain ⟨x151, S150, c152, h⟩ := wd_cx h
                                        refine bk_ks tb_c_0_8 rfl rfl rfl (by decide) rfl rfl (ev_up (Nat.le_of_ble_eq_true rfl) (sn_La_ran c152)) ?_
                                        refine bk_b (q := (620, [(5, .int x151), (0, .ref 0), (1, .ref 1), (2, .ref 135), (3, .ref 180), (4, .int l4)], [.ref 135])) tb_c_0_8 mx_0 2 rfl ?_
                                        refine bk_b (q := (625, [(5, .int x151), (0, .ref 0), (1, .ref 1), (2, .ref 135), (3, .ref 180), (4, .int l4)], [.int (l4 + (1 : Int32)), .ref 0, .ref 135])) tb_c_0_9 mx_0 4 rfl ?_
                                        by_cases g153 : (l4 + (1 : Int32)) < 0 ∨ L ≤ (l4 + (1 : Int32)).toNatClampNeg
                                        · rw [if_pos g153] at h; cases h
                                        · rw [if_neg g153] at h
                                          refine bk_a0 tb_c_0_9 rfl rfl g153 ?_
                                          obtain ⟨x155, S154, c156, h⟩ := wd_cx h
                                          refine bk_kv tb_c_0_9 rfl rfl rfl rfl rfl (ci := 11) rfl rfl (ev_up (Nat.le_of_ble_eq_true rfl) (sn_Mo_ran c156)) ?_
                                          refine bk_b (q := (634, [(6, .int x155), (5, .int x151), (0, .ref 0), (1, .ref 1), (2, .ref 135), (3, .ref 180), (4, .int l4)], [])) tb_c_0_9 mx_0 2 rfl ?_
                                          exact go_lv (ls_sc rfl rfl (ls_sc rfl rfl (ls_sc rfl rfl (ls_sc rfl rfl (ls_sc rfl rfl ls_nil))))) (sn_La_law_634 ih h)
                                    · rw [if_neg g148] at h
                                      refine bk_sw tb_c_0_0 rfl (pc' := 634) (sw_t (t := 634) (fun i h1 h2 => ?_) rfl) ?_
                                      · have hi : i = 0 ∨ i = 1 ∨ i = 2 ∨ i = 3 ∨ i = 4 ∨ i = 5 ∨ i = 6 ∨ i = 7 ∨ i = 8 ∨ i = 9 ∨ i = 10 ∨ i = 11 ∨ i = 12 ∨ i = 13 ∨ i = 14 := by omega
                                        rcases hi with rfl | rfl | rfl | rfl | rfl | rfl | rfl | rfl | rfl | rfl | rfl | rfl | rfl | rfl | rfl
                                        · exact g3
                                        · exact g20
                                        · exact g29
                                        · exact g36
                                        · exact g43
                                        · exact g54
                                        · exact g65
                                        · exact g81
                                        · exact g92
                                        · exact g101
                                        · exact g108
                                        · exact g117
                                        · exact g124
                                        · exact g133
                                        · exact g148
                                      · exact go_lv (ls_sc rfl rfl (ls_sc rfl rfl (ls_sc rfl rfl (ls_sc rfl rfl (ls_sc rfl rfl ls_nil))))) (sn_La_law_634 ih h)
