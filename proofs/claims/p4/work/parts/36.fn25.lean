/-! Methods as functions: printed by wip/whole/gen_fn.py. -/
theorem mx_206 : mi_mx tb_P 206 = 2 := rfl
noncomputable def fn_Mo_ran_59 (s0 : Int32) (S : wd_S) : Option (Int32 × wd_S) :=
  some (s0, S)
set_option maxRecDepth 100000 in
theorem sn_Mo_ran_59 {L : Nat} {xs : Nat → Int32} {s0 : Int32} {S : wd_S} {x : Int32} {S' : wd_S} (h : fn_Mo_ran_59 s0 S = some (x, S')) : go_r tb_P L xs 1 206 59 [] [.int s0] (wd_k S) (.inl (some (.int x)), wd_k S') := by
  unfold fn_Mo_ran_59 at h
  cases h
  exact bk_t tb_c_206_0 rfl rfl
noncomputable def fn_Mo_ran_18 (l1 : Int32) (s1 : Int32) (S : wd_S) : Option (Int32 × wd_S) :=
  (wd_b (wd_i S 135 0 s1) fun S5 =>
  (if 0 < (S5.1 135 0) then
    fn_Mo_ran_59 (0 : Int32) S5
  else
    (if l1 = 0 then
      fn_Mo_ran_59 (S5.1 135 96) S5
    else
      (if l1 = (1 : Int32) then
        fn_Mo_ran_59 (S5.1 135 97) S5
      else
        fn_Mo_ran_59 (S5.1 135 98) S5))))
set_option maxRecDepth 100000 in
theorem sn_Mo_ran_18 {L : Nat} {xs : Nat → Int32} {l1 : Int32} {s1 : Int32} {S : wd_S} {x : Int32} {S' : wd_S} (h : fn_Mo_ran_18 l1 s1 S = some (x, S')) : go_r tb_P L xs 1 206 18 [(0, .ref 135), (1, .int l1)] [.int s1, .ref 135] (wd_k S) (.inl (some (.int x)), wd_k S') := by
  unfold fn_Mo_ran_18 at h
  obtain ⟨S5, eS5, h⟩ := wd_bx h
  refine bk_pi tb_c_206_0 rfl rfl (ci := 11) (k := 0) rfl rfl rfl rfl ?_
  rw [eS5]
  refine bk_b (q := (22, [(0, .ref 135), (1, .int l1)], [.ref 135])) tb_c_206_0 mx_206 1 rfl ?_
  refine bk_gi tb_c_206_0 rfl rfl (ci := 11) (k := 0) rfl rfl rfl ?_
  by_cases g6 : 0 < (S5.1 135 0)
  · rw [if_pos g6] at h
    refine bk_zf tb_c_206_0 rfl (pc' := 28) rfl (t := 32) rfl (cm_le_f g6) ?_
    refine bk_b (q := (59, [(0, .ref 135), (1, .int l1)], [.int (0 : Int32)])) tb_c_206_0 mx_206 2 rfl ?_
    exact go_lv ls_nil (sn_Mo_ran_59 h)
  · rw [if_neg g6] at h
    refine bk_zt tb_c_206_0 rfl (pc' := 32) rfl (cm_le_t g6) ?_
    refine bk_b (q := (33, [(0, .ref 135), (1, .int l1)], [.int l1])) tb_c_206_0 mx_206 1 rfl ?_
    by_cases g7 : l1 = 0
    · rw [if_pos g7] at h
      refine bk_zf tb_c_206_0 rfl (pc' := 36) rfl (t := 43) rfl (cm_ne_f g7) ?_
      refine bk_b (q := (37, [(0, .ref 135), (1, .int l1)], [.ref 135])) tb_c_206_0 mx_206 1 rfl ?_
      refine bk_gi tb_c_206_0 rfl rfl (ci := 11) (k := 96) rfl rfl rfl ?_
      refine bk_b (q := (59, [(0, .ref 135), (1, .int l1)], [.int (S5.1 135 96)])) tb_c_206_0 mx_206 1 rfl ?_
      exact go_lv ls_nil (sn_Mo_ran_59 h)
    · rw [if_neg g7] at h
      refine bk_zt tb_c_206_0 rfl (pc' := 43) rfl (cm_ne_t g7) ?_
      refine bk_b (q := (45, [(0, .ref 135), (1, .int l1)], [.int (1 : Int32), .int l1])) tb_c_206_0 mx_206 2 rfl ?_
      by_cases g8 : l1 = (1 : Int32)
      · rw [if_pos g8] at h
        refine bk_jf tb_c_206_0 rfl (pc' := 48) rfl (t := 55) rfl (cm_ne_f g8) ?_
        refine bk_b (q := (49, [(0, .ref 135), (1, .int l1)], [.ref 135])) tb_c_206_0 mx_206 1 rfl ?_
        refine bk_gi tb_c_206_0 rfl rfl (ci := 11) (k := 97) rfl rfl rfl ?_
        refine bk_b (q := (59, [(0, .ref 135), (1, .int l1)], [.int (S5.1 135 97)])) tb_c_206_0 mx_206 1 rfl ?_
        exact go_lv ls_nil (sn_Mo_ran_59 h)
      · rw [if_neg g8] at h
        refine bk_jt tb_c_206_0 rfl (pc' := 55) rfl (cm_ne_t g8) ?_
        refine bk_b (q := (56, [(0, .ref 135), (1, .int l1)], [.ref 135])) tb_c_206_0 mx_206 1 rfl ?_
        refine bk_gi tb_c_206_0 rfl rfl (ci := 11) (k := 98) rfl rfl rfl ?_
        exact go_lv ls_nil (sn_Mo_ran_59 h)
/-- SpecialiserModel.ran(I)I -/
noncomputable def fn_Mo_ran (p1 : Int32) (S : wd_S) : Option (Int32 × wd_S) :=
  (wd_c (fn_Mo_within ((p1).toInt64) (0 : Int64) (2 : Int64) S) fun x2 S1 =>
  (if x2 = 0 then
    fn_Mo_ran_18 p1 (1 : Int32) S1
  else
    fn_Mo_ran_18 p1 (0 : Int32) S1))
set_option maxRecDepth 100000 in
theorem sn_Mo_ran {L : Nat} {xs : Nat → Int32} {p1 : Int32} {S : wd_S} {x : Int32} {S' : wd_S} (h : fn_Mo_ran p1 S = some (x, S')) : ev_r tb_P L xs (1 + 1) 206 [.ref 135, .int p1] (wd_k S) (.inl (some (.int x)), wd_k S') := by
  unfold fn_Mo_ran at h
  refine ev_of (Nat.le_of_ble_eq_true rfl) ?_
  show go_r tb_P L xs 1 206 0 [(0, .ref 135), (1, .int p1)] [] (wd_k S) (.inl (some (.int x)), wd_k S')
  refine bk_b (q := (4, [(0, .ref 135), (1, .int p1)], [.long (0 : Int64), .long ((p1).toInt64), .ref 135])) tb_c_206_0 mx_206 4 rfl ?_
  refine bk_c8 tb_c_206_0 rfl rfl (x := (2 : Int64)) rfl ?_
  obtain ⟨x2, S1, c3, h⟩ := wd_cx h
  refine bk_ks tb_c_206_0 rfl rfl rfl (by decide) rfl rfl (ev_up (Nat.le_of_ble_eq_true rfl) (sn_Mo_within c3)) ?_
  by_cases g4 : x2 = 0
  · rw [if_pos g4] at h
    refine bk_zt tb_c_206_0 rfl (pc' := 17) rfl (cm_eq_t g4) ?_
    refine bk_b (q := (18, [(0, .ref 135), (1, .int p1)], [.int (1 : Int32), .ref 135])) tb_c_206_0 mx_206 1 rfl ?_
    exact go_lv (ls_sc rfl rfl (ls_sc rfl rfl ls_nil)) (sn_Mo_ran_18 h)
  · rw [if_neg g4] at h
    refine bk_zf tb_c_206_0 rfl (pc' := 13) rfl (t := 17) rfl (cm_eq_f g4) ?_
    refine bk_b (q := (18, [(0, .ref 135), (1, .int p1)], [.int (0 : Int32), .ref 135])) tb_c_206_0 mx_206 2 rfl ?_
    exact go_lv (ls_sc rfl rfl (ls_sc rfl rfl ls_nil)) (sn_Mo_ran_18 h)
theorem mx_207 : mi_mx tb_P 207 = 8 := rfl
/-- SpecialiserLaw.feed(LSpecialiser;IIIII[J)I -/
noncomputable def fn_La_feed (p1 : Int32) (p2 : Int32) (p3 : Int32) (p4 : Int32) (p5 : Int32) (S : wd_S) : Option (Int32 × wd_S) :=
  (wd_c (fn_Sp_feed p1 p2 p3 p4 p5 S) fun x2o S1 => wd_o x2o (fun x2 =>
  (if (0 : Int32) < 0 ∨ 1 ≤ (0 : Int32).toNatClampNeg then none else
  (wd_b (wd_l S1 180 (0 : Int32).toNatClampNeg ((x2).toInt64)) fun S6 =>
  some ((0 : Int32), S6)))) (fun E4 =>
    (if E4 = "java/lang/IllegalStateException" then
      some ((1 : Int32), S1)
    else
    none)))
set_option maxRecDepth 100000 in
theorem sn_La_feed {L : Nat} {xs : Nat → Int32} {p1 : Int32} {p2 : Int32} {p3 : Int32} {p4 : Int32} {p5 : Int32} {S : wd_S} {x : Int32} {S' : wd_S} (h : fn_La_feed p1 p2 p3 p4 p5 S = some (x, S')) : ev_r tb_P L xs (3 + 1) 207 [.ref 1, .int p1, .int p2, .int p3, .int p4, .int p5, .ref 180] (wd_k S) (.inl (some (.int x)), wd_k S') := by
  unfold fn_La_feed at h
  refine ev_of (Nat.le_of_ble_eq_true rfl) ?_
  show go_r tb_P L xs 3 207 0 [(0, .ref 1), (1, .int p1), (2, .int p2), (3, .int p3), (4, .int p4), (5, .int p5), (6, .ref 180)] [] (wd_k S) (.inl (some (.int x)), wd_k S')
  refine bk_b (q := (11, [(0, .ref 1), (1, .int p1), (2, .int p2), (3, .int p3), (4, .int p4), (5, .int p5), (6, .ref 180)], [.int p5, .int p4, .int p3, .int p2, .int p1, .ref 1, .int (0 : Int32), .ref 180])) tb_c_207_0 mx_207 8 rfl ?_
  obtain ⟨x2o, S1, c3, h⟩ := wd_cx h
  rcases wd_ox h with ⟨x2, rfl, nx2⟩ | ⟨E4, rfl, nx2⟩
  · replace h := nx2
    refine bk_kv tb_c_207_0 rfl rfl rfl rfl rfl (ci := 10) rfl rfl (ev_up (Nat.le_of_ble_eq_true rfl) (sn_Sp_feed c3)) ?_
    refine bk_b (q := (15, [(0, .ref 1), (1, .int p1), (2, .int p2), (3, .int p3), (4, .int p4), (5, .int p5), (6, .ref 180)], [.long ((x2).toInt64), .int (0 : Int32), .ref 180])) tb_c_207_0 mx_207 1 rfl ?_
    by_cases g5 : (0 : Int32) < 0 ∨ 1 ≤ (0 : Int32).toNatClampNeg
    · rw [if_pos g5] at h; cases h
    · rw [if_neg g5] at h
      obtain ⟨S6, eS6, h⟩ := wd_bx h
      refine bk_s8 tb_c_207_0 rfl rfl rfl g5 ?_
      rw [eS6]
      refine bk_b (q := (24, [(0, .ref 1), (1, .int p1), (2, .int p2), (3, .int p3), (4, .int p4), (5, .int p5), (6, .ref 180)], [.int (0 : Int32)])) tb_c_207_0 mx_207 2 rfl ?_
      cases h
      exact bk_t tb_c_207_0 rfl rfl
  · replace h := nx2
    by_cases g7 : E4 = "java/lang/IllegalStateException"
    · rw [if_pos g7] at h
      subst g7
      refine bk_kw tb_c_207_0 rfl rfl rfl rfl (ci := 10) rfl rfl (ev_up (Nat.le_of_ble_eq_true rfl) (sn_Sp_feed c3)) (hp := 19) (show mi_ca tb_P 207 11 "java/lang/IllegalStateException" = some 19 by decide +kernel) tb_c_207_0 (pc' := 21) rfl rfl rfl (lv' := [(0, .ref 1), (1, .int p1), (2, .int p2), (3, .int p3), (4, .int p4), (5, .int p5), (6, .ref 180)]) rfl ?_
      refine bk_b (q := (22, [(0, .ref 1), (1, .int p1), (2, .int p2), (3, .int p3), (4, .int p4), (5, .int p5), (6, .ref 180)], [.int (1 : Int32)])) tb_c_207_0 mx_207 1 rfl ?_
      cases h
      exact bk_t tb_c_207_0 rfl rfl
    · rw [if_neg g7] at h
      cases h
theorem mx_208 : mi_mx tb_P 208 = 4 := rfl
/-- SpecialiserLaw.cut(LSpecialiser;I[J)I -/
noncomputable def fn_La_cut (p1 : Int32) (S : wd_S) : Option (Int32 × wd_S) :=
  (wd_c (fn_Sp_cut p1 S) fun x2o S1 => wd_o x2o (fun x2 =>
  (if (0 : Int32) < 0 ∨ 1 ≤ (0 : Int32).toNatClampNeg then none else
  (wd_b (wd_l S1 180 (0 : Int32).toNatClampNeg ((x2).toInt64)) fun S6 =>
  some ((0 : Int32), S6)))) (fun E4 =>
    (if E4 = "java/lang/IllegalArgumentException" then
      some ((1 : Int32), S1)
    else
    none)))
set_option maxRecDepth 100000 in
theorem sn_La_cut {L : Nat} {xs : Nat → Int32} {p1 : Int32} {S : wd_S} {x : Int32} {S' : wd_S} (h : fn_La_cut p1 S = some (x, S')) : ev_r tb_P L xs (1 + 1) 208 [.ref 1, .int p1, .ref 180] (wd_k S) (.inl (some (.int x)), wd_k S') := by
  unfold fn_La_cut at h
  refine ev_of (Nat.le_of_ble_eq_true rfl) ?_
  show go_r tb_P L xs 1 208 0 [(0, .ref 1), (1, .int p1), (2, .ref 180)] [] (wd_k S) (.inl (some (.int x)), wd_k S')
  refine bk_b (q := (4, [(0, .ref 1), (1, .int p1), (2, .ref 180)], [.int p1, .ref 1, .int (0 : Int32), .ref 180])) tb_c_208_0 mx_208 4 rfl ?_
  obtain ⟨x2o, S1, c3, h⟩ := wd_cx h
  rcases wd_ox h with ⟨x2, rfl, nx2⟩ | ⟨E4, rfl, nx2⟩
  · replace h := nx2
    refine bk_kv tb_c_208_0 rfl rfl rfl rfl rfl (ci := 10) rfl rfl (ev_up (Nat.le_of_ble_eq_true rfl) (sn_Sp_cut c3)) ?_
    refine bk_b (q := (8, [(0, .ref 1), (1, .int p1), (2, .ref 180)], [.long ((x2).toInt64), .int (0 : Int32), .ref 180])) tb_c_208_0 mx_208 1 rfl ?_
    by_cases g5 : (0 : Int32) < 0 ∨ 1 ≤ (0 : Int32).toNatClampNeg
    · rw [if_pos g5] at h; cases h
    · rw [if_neg g5] at h
      obtain ⟨S6, eS6, h⟩ := wd_bx h
      refine bk_s8 tb_c_208_0 rfl rfl rfl g5 ?_
      rw [eS6]
      refine bk_b (q := (16, [(0, .ref 1), (1, .int p1), (2, .ref 180)], [.int (0 : Int32)])) tb_c_208_0 mx_208 2 rfl ?_
      cases h
      exact bk_t tb_c_208_0 rfl rfl
  · replace h := nx2
    by_cases g7 : E4 = "java/lang/IllegalArgumentException"
    · rw [if_pos g7] at h
      subst g7
      refine bk_kn tb_c_208_0 rfl rfl rfl rfl (ci := 10) rfl rfl (ev_up (Nat.le_of_ble_eq_true rfl) (sn_Sp_cut c3)) (hp := 12) (show mi_ca tb_P 208 4 "java/lang/IllegalArgumentException" = some 12 by decide +kernel) tb_c_208_0 (pc' := 13) rfl rfl rfl (lv' := [(0, .ref 1), (1, .int p1), (2, .ref 180)]) rfl ?_
      refine bk_b (q := (14, [(0, .ref 1), (1, .int p1), (2, .ref 180)], [.int (1 : Int32)])) tb_c_208_0 mx_208 1 rfl ?_
      cases h
      exact bk_t tb_c_208_0 rfl rfl
    · rw [if_neg g7] at h
      cases h
theorem mx_209 : mi_mx tb_P 209 = 5 := rfl
/-- SpecialiserLaw.function(LSpecialiser;II[J)I -/
noncomputable def fn_La_function (p1 : Int32) (p2 : Int32) (S : wd_S) : Option (Int32 × wd_S) :=
  (wd_c (fn_Sp_function p1 p2 S) fun x2o S1 => wd_o x2o (fun x2 =>
  (if (0 : Int32) < 0 ∨ 1 ≤ (0 : Int32).toNatClampNeg then none else
  (wd_b (wd_l S1 180 (0 : Int32).toNatClampNeg ((x2).toInt64)) fun S6 =>
  some ((0 : Int32), S6)))) (fun E4 =>
    (if E4 = "java/lang/IndexOutOfBoundsException" then
      some ((1 : Int32), S1)
    else
    none)))
set_option maxRecDepth 100000 in
theorem sn_La_function {L : Nat} {xs : Nat → Int32} {p1 : Int32} {p2 : Int32} {S : wd_S} {x : Int32} {S' : wd_S} (h : fn_La_function p1 p2 S = some (x, S')) : ev_r tb_P L xs (4 + 1) 209 [.ref 1, .int p1, .int p2, .ref 180] (wd_k S) (.inl (some (.int x)), wd_k S') := by
  unfold fn_La_function at h
  refine ev_of (Nat.le_of_ble_eq_true rfl) ?_
  show go_r tb_P L xs 4 209 0 [(0, .ref 1), (1, .int p1), (2, .int p2), (3, .ref 180)] [] (wd_k S) (.inl (some (.int x)), wd_k S')
  refine bk_b (q := (5, [(0, .ref 1), (1, .int p1), (2, .int p2), (3, .ref 180)], [.int p2, .int p1, .ref 1, .int (0 : Int32), .ref 180])) tb_c_209_0 mx_209 5 rfl ?_
  obtain ⟨x2o, S1, c3, h⟩ := wd_cx h
  rcases wd_ox h with ⟨x2, rfl, nx2⟩ | ⟨E4, rfl, nx2⟩
  · replace h := nx2
    refine bk_kv tb_c_209_0 rfl rfl rfl rfl rfl (ci := 10) rfl rfl (ev_up (Nat.le_of_ble_eq_true rfl) (sn_Sp_function c3)) ?_
    refine bk_b (q := (9, [(0, .ref 1), (1, .int p1), (2, .int p2), (3, .ref 180)], [.long ((x2).toInt64), .int (0 : Int32), .ref 180])) tb_c_209_0 mx_209 1 rfl ?_
    by_cases g5 : (0 : Int32) < 0 ∨ 1 ≤ (0 : Int32).toNatClampNeg
    · rw [if_pos g5] at h; cases h
    · rw [if_neg g5] at h
      obtain ⟨S6, eS6, h⟩ := wd_bx h
      refine bk_s8 tb_c_209_0 rfl rfl rfl g5 ?_
      rw [eS6]
      refine bk_b (q := (18, [(0, .ref 1), (1, .int p1), (2, .int p2), (3, .ref 180)], [.int (0 : Int32)])) tb_c_209_0 mx_209 2 rfl ?_
      cases h
      exact bk_t tb_c_209_0 rfl rfl
  · replace h := nx2
    by_cases g7 : E4 = "java/lang/IndexOutOfBoundsException"
    · rw [if_pos g7] at h
      subst g7
      refine bk_kw tb_c_209_0 rfl rfl rfl rfl (ci := 10) rfl rfl (ev_up (Nat.le_of_ble_eq_true rfl) (sn_Sp_function c3)) (hp := 13) (show mi_ca tb_P 209 5 "java/lang/IndexOutOfBoundsException" = some 13 by decide +kernel) tb_c_209_0 (pc' := 15) rfl rfl rfl (lv' := [(0, .ref 1), (1, .int p1), (2, .int p2), (3, .ref 180)]) rfl ?_
      refine bk_b (q := (16, [(0, .ref 1), (1, .int p1), (2, .int p2), (3, .ref 180)], [.int (1 : Int32)])) tb_c_209_0 mx_209 1 rfl ?_
      cases h
      exact bk_t tb_c_209_0 rfl rfl
    · rw [if_neg g7] at h
      cases h
theorem mx_210 : mi_mx tb_P 210 = 5 := rfl
/-- SpecialiserLaw.know(LSpecialiser;II[J)I -/
noncomputable def fn_La_know (p1 : Int32) (p2 : Int32) (S : wd_S) : Option (Int32 × wd_S) :=
  (wd_c (fn_Sp_know p1 p2 S) fun x2o S1 => wd_o x2o (fun x2 =>
  (if (0 : Int32) < 0 ∨ 1 ≤ (0 : Int32).toNatClampNeg then none else
  (wd_b (wd_l S1 180 (0 : Int32).toNatClampNeg ((x2).toInt64)) fun S6 =>
  some ((0 : Int32), S6)))) (fun E4 =>
    (if E4 = "java/lang/IndexOutOfBoundsException" then
      some ((1 : Int32), S1)
    else
    none)))
set_option maxRecDepth 100000 in
theorem sn_La_know {L : Nat} {xs : Nat → Int32} {p1 : Int32} {p2 : Int32} {S : wd_S} {x : Int32} {S' : wd_S} (h : fn_La_know p1 p2 S = some (x, S')) : ev_r tb_P L xs (2 + 1) 210 [.ref 1, .int p1, .int p2, .ref 180] (wd_k S) (.inl (some (.int x)), wd_k S') := by
  unfold fn_La_know at h
  refine ev_of (Nat.le_of_ble_eq_true rfl) ?_
  show go_r tb_P L xs 2 210 0 [(0, .ref 1), (1, .int p1), (2, .int p2), (3, .ref 180)] [] (wd_k S) (.inl (some (.int x)), wd_k S')
  refine bk_b (q := (5, [(0, .ref 1), (1, .int p1), (2, .int p2), (3, .ref 180)], [.int p2, .int p1, .ref 1, .int (0 : Int32), .ref 180])) tb_c_210_0 mx_210 5 rfl ?_
  obtain ⟨x2o, S1, c3, h⟩ := wd_cx h
  rcases wd_ox h with ⟨x2, rfl, nx2⟩ | ⟨E4, rfl, nx2⟩
  · replace h := nx2
    refine bk_kv tb_c_210_0 rfl rfl rfl rfl rfl (ci := 10) rfl rfl (ev_up (Nat.le_of_ble_eq_true rfl) (sn_Sp_know c3)) ?_
    refine bk_b (q := (9, [(0, .ref 1), (1, .int p1), (2, .int p2), (3, .ref 180)], [.long ((x2).toInt64), .int (0 : Int32), .ref 180])) tb_c_210_0 mx_210 1 rfl ?_
    by_cases g5 : (0 : Int32) < 0 ∨ 1 ≤ (0 : Int32).toNatClampNeg
    · rw [if_pos g5] at h; cases h
    · rw [if_neg g5] at h
      obtain ⟨S6, eS6, h⟩ := wd_bx h
      refine bk_s8 tb_c_210_0 rfl rfl rfl g5 ?_
      rw [eS6]
      refine bk_b (q := (18, [(0, .ref 1), (1, .int p1), (2, .int p2), (3, .ref 180)], [.int (0 : Int32)])) tb_c_210_0 mx_210 2 rfl ?_
      cases h
      exact bk_t tb_c_210_0 rfl rfl
  · replace h := nx2
    by_cases g7 : E4 = "java/lang/IndexOutOfBoundsException"
    · rw [if_pos g7] at h
      subst g7
      refine bk_kw tb_c_210_0 rfl rfl rfl rfl (ci := 10) rfl rfl (ev_up (Nat.le_of_ble_eq_true rfl) (sn_Sp_know c3)) (hp := 13) (show mi_ca tb_P 210 5 "java/lang/IndexOutOfBoundsException" = some 13 by decide +kernel) tb_c_210_0 (pc' := 15) rfl rfl rfl (lv' := [(0, .ref 1), (1, .int p1), (2, .int p2), (3, .ref 180)]) rfl ?_
      refine bk_b (q := (16, [(0, .ref 1), (1, .int p1), (2, .int p2), (3, .ref 180)], [.int (1 : Int32)])) tb_c_210_0 mx_210 1 rfl ?_
      cases h
      exact bk_t tb_c_210_0 rfl rfl
    · rw [if_neg g7] at h
      cases h
theorem mx_211 : mi_mx tb_P 211 = 4 := rfl
/-- SpecialiserLaw.make(LSpecialiser;I[J)I -/
noncomputable def fn_La_make (p1 : Int32) (S : wd_S) : Option (Int32 × wd_S) :=
  (wd_c (fn_Sp_make p1 S) fun x2o S1 => wd_o x2o (fun x2 =>
  (if (0 : Int32) < 0 ∨ 1 ≤ (0 : Int32).toNatClampNeg then none else
  (wd_b (wd_l S1 180 (0 : Int32).toNatClampNeg ((x2).toInt64)) fun S6 =>
  some ((0 : Int32), S6)))) (fun E4 =>
    (if E4 = "java/lang/IllegalStateException" then
      some ((1 : Int32), S1)
    else
    (if E4 = "java/lang/IndexOutOfBoundsException" then
      some ((2 : Int32), S1)
    else
    (if E4 = "java/lang/UnsupportedOperationException" then
      some ((3 : Int32), S1)
    else
    none)))))
set_option maxRecDepth 100000 in
theorem sn_La_make {L : Nat} {xs : Nat → Int32} {p1 : Int32} {S : wd_S} {x : Int32} {S' : wd_S} (h : fn_La_make p1 S = some (x, S')) : ev_r tb_P L xs (206 + 1) 211 [.ref 1, .int p1, .ref 180] (wd_k S) (.inl (some (.int x)), wd_k S') := by
  unfold fn_La_make at h
  refine ev_of (Nat.le_of_ble_eq_true rfl) ?_
  show go_r tb_P L xs 206 211 0 [(0, .ref 1), (1, .int p1), (2, .ref 180)] [] (wd_k S) (.inl (some (.int x)), wd_k S')
  refine bk_b (q := (4, [(0, .ref 1), (1, .int p1), (2, .ref 180)], [.int p1, .ref 1, .int (0 : Int32), .ref 180])) tb_c_211_0 mx_211 4 rfl ?_
  obtain ⟨x2o, S1, c3, h⟩ := wd_cx h
  rcases wd_ox h with ⟨x2, rfl, nx2⟩ | ⟨E4, rfl, nx2⟩
  · replace h := nx2
    refine bk_kv tb_c_211_0 rfl rfl rfl rfl rfl (ci := 10) rfl rfl (ev_up (Nat.le_of_ble_eq_true rfl) (sn_Sp_make c3)) ?_
    refine bk_b (q := (8, [(0, .ref 1), (1, .int p1), (2, .ref 180)], [.long ((x2).toInt64), .int (0 : Int32), .ref 180])) tb_c_211_0 mx_211 1 rfl ?_
    by_cases g5 : (0 : Int32) < 0 ∨ 1 ≤ (0 : Int32).toNatClampNeg
    · rw [if_pos g5] at h; cases h
    · rw [if_neg g5] at h
      obtain ⟨S6, eS6, h⟩ := wd_bx h
      refine bk_s8 tb_c_211_0 rfl rfl rfl g5 ?_
      rw [eS6]
      refine bk_b (q := (22, [(0, .ref 1), (1, .int p1), (2, .ref 180)], [.int (0 : Int32)])) tb_c_211_0 mx_211 2 rfl ?_
      cases h
      exact bk_t tb_c_211_0 rfl rfl
  · replace h := nx2
    by_cases g7 : E4 = "java/lang/IllegalStateException"
    · rw [if_pos g7] at h
      subst g7
      refine bk_kn tb_c_211_0 rfl rfl rfl rfl (ci := 10) rfl rfl (ev_up (Nat.le_of_ble_eq_true rfl) (sn_Sp_make c3)) (hp := 12) (show mi_ca tb_P 211 4 "java/lang/IllegalStateException" = some 12 by decide +kernel) tb_c_211_0 (pc' := 13) rfl rfl rfl (lv' := [(0, .ref 1), (1, .int p1), (2, .ref 180)]) rfl ?_
      refine bk_b (q := (14, [(0, .ref 1), (1, .int p1), (2, .ref 180)], [.int (1 : Int32)])) tb_c_211_0 mx_211 1 rfl ?_
      cases h
      exact bk_t tb_c_211_0 rfl rfl
    · rw [if_neg g7] at h
      by_cases g8 : E4 = "java/lang/IndexOutOfBoundsException"
      · rw [if_pos g8] at h
        subst g8
        refine bk_kn tb_c_211_0 rfl rfl rfl rfl (ci := 10) rfl rfl (ev_up (Nat.le_of_ble_eq_true rfl) (sn_Sp_make c3)) (hp := 15) (show mi_ca tb_P 211 4 "java/lang/IndexOutOfBoundsException" = some 15 by decide +kernel) tb_c_211_0 (pc' := 16) rfl rfl rfl (lv' := [(0, .ref 1), (1, .int p1), (2, .ref 180)]) rfl ?_
        refine bk_b (q := (17, [(0, .ref 1), (1, .int p1), (2, .ref 180)], [.int (2 : Int32)])) tb_c_211_0 mx_211 1 rfl ?_
        cases h
        exact bk_t tb_c_211_0 rfl rfl
      · rw [if_neg g8] at h
        by_cases g9 : E4 = "java/lang/UnsupportedOperationException"
        · rw [if_pos g9] at h
          subst g9
          refine bk_kn tb_c_211_0 rfl rfl rfl rfl (ci := 10) rfl rfl (ev_up (Nat.le_of_ble_eq_true rfl) (sn_Sp_make c3)) (hp := 18) (show mi_ca tb_P 211 4 "java/lang/UnsupportedOperationException" = some 18 by decide +kernel) tb_c_211_0 (pc' := 19) rfl rfl rfl (lv' := [(0, .ref 1), (1, .int p1), (2, .ref 180)]) rfl ?_
          refine bk_b (q := (20, [(0, .ref 1), (1, .int p1), (2, .ref 180)], [.int (3 : Int32)])) tb_c_211_0 mx_211 1 rfl ?_
          cases h
          exact bk_t tb_c_211_0 rfl rfl
        · rw [if_neg g9] at h
          cases h
theorem mx_212 : mi_mx tb_P 212 = 5 := rfl
/-- SpecialiserLaw.version(LSpecialiser;II[J)I -/
noncomputable def fn_La_version (p1 : Int32) (p2 : Int32) (S : wd_S) : Option (Int32 × wd_S) :=
  (wd_c (fn_Sp_version p1 p2 S) fun x2o S1 => wd_o x2o (fun x2 =>
  (if (0 : Int32) < 0 ∨ 1 ≤ (0 : Int32).toNatClampNeg then none else
  (wd_b (wd_l S1 180 (0 : Int32).toNatClampNeg ((x2).toInt64)) fun S6 =>
  some ((0 : Int32), S6)))) (fun E4 =>
    (if E4 = "java/lang/IndexOutOfBoundsException" then
      some ((1 : Int32), S1)
    else
    none)))
set_option maxRecDepth 100000 in
theorem sn_La_version {L : Nat} {xs : Nat → Int32} {p1 : Int32} {p2 : Int32} {S : wd_S} {x : Int32} {S' : wd_S} (h : fn_La_version p1 p2 S = some (x, S')) : ev_r tb_P L xs (4 + 1) 212 [.ref 1, .int p1, .int p2, .ref 180] (wd_k S) (.inl (some (.int x)), wd_k S') := by
  unfold fn_La_version at h
  refine ev_of (Nat.le_of_ble_eq_true rfl) ?_
  show go_r tb_P L xs 4 212 0 [(0, .ref 1), (1, .int p1), (2, .int p2), (3, .ref 180)] [] (wd_k S) (.inl (some (.int x)), wd_k S')
  refine bk_b (q := (5, [(0, .ref 1), (1, .int p1), (2, .int p2), (3, .ref 180)], [.int p2, .int p1, .ref 1, .int (0 : Int32), .ref 180])) tb_c_212_0 mx_212 5 rfl ?_
  obtain ⟨x2o, S1, c3, h⟩ := wd_cx h
  rcases wd_ox h with ⟨x2, rfl, nx2⟩ | ⟨E4, rfl, nx2⟩
  · replace h := nx2
    refine bk_kv tb_c_212_0 rfl rfl rfl rfl rfl (ci := 10) rfl rfl (ev_up (Nat.le_of_ble_eq_true rfl) (sn_Sp_version c3)) ?_
    refine bk_b (q := (9, [(0, .ref 1), (1, .int p1), (2, .int p2), (3, .ref 180)], [.long ((x2).toInt64), .int (0 : Int32), .ref 180])) tb_c_212_0 mx_212 1 rfl ?_
    by_cases g5 : (0 : Int32) < 0 ∨ 1 ≤ (0 : Int32).toNatClampNeg
    · rw [if_pos g5] at h; cases h
    · rw [if_neg g5] at h
      obtain ⟨S6, eS6, h⟩ := wd_bx h
      refine bk_s8 tb_c_212_0 rfl rfl rfl g5 ?_
      rw [eS6]
      refine bk_b (q := (18, [(0, .ref 1), (1, .int p1), (2, .int p2), (3, .ref 180)], [.int (0 : Int32)])) tb_c_212_0 mx_212 2 rfl ?_
      cases h
      exact bk_t tb_c_212_0 rfl rfl
  · replace h := nx2
    by_cases g7 : E4 = "java/lang/IndexOutOfBoundsException"
    · rw [if_pos g7] at h
      subst g7
      refine bk_kw tb_c_212_0 rfl rfl rfl rfl (ci := 10) rfl rfl (ev_up (Nat.le_of_ble_eq_true rfl) (sn_Sp_version c3)) (hp := 13) (show mi_ca tb_P 212 5 "java/lang/IndexOutOfBoundsException" = some 13 by decide +kernel) tb_c_212_0 (pc' := 15) rfl rfl rfl (lv' := [(0, .ref 1), (1, .int p1), (2, .int p2), (3, .ref 180)]) rfl ?_
      refine bk_b (q := (16, [(0, .ref 1), (1, .int p1), (2, .int p2), (3, .ref 180)], [.int (1 : Int32)])) tb_c_212_0 mx_212 1 rfl ?_
      cases h
      exact bk_t tb_c_212_0 rfl rfl
    · rw [if_neg g7] at h
      cases h
theorem mx_213 : mi_mx tb_P 213 = 4 := rfl
/-- SpecialiserLaw.told(LSpecialiser;I[J)I -/
noncomputable def fn_La_told (p1 : Int32) (S : wd_S) : Option (Int32 × wd_S) :=
  (wd_c (fn_Sp_told p1 S) fun x2o S1 => wd_o x2o (fun x2 =>
  (if (0 : Int32) < 0 ∨ 1 ≤ (0 : Int32).toNatClampNeg then none else
  (wd_b (wd_l S1 180 (0 : Int32).toNatClampNeg ((x2).toInt64)) fun S6 =>
  some ((0 : Int32), S6)))) (fun E4 =>
    (if E4 = "java/lang/IndexOutOfBoundsException" then
      some ((1 : Int32), S1)
    else
    none)))
set_option maxRecDepth 100000 in
theorem sn_La_told {L : Nat} {xs : Nat → Int32} {p1 : Int32} {S : wd_S} {x : Int32} {S' : wd_S} (h : fn_La_told p1 S = some (x, S')) : ev_r tb_P L xs (2 + 1) 213 [.ref 1, .int p1, .ref 180] (wd_k S) (.inl (some (.int x)), wd_k S') := by
  unfold fn_La_told at h
  refine ev_of (Nat.le_of_ble_eq_true rfl) ?_
  show go_r tb_P L xs 2 213 0 [(0, .ref 1), (1, .int p1), (2, .ref 180)] [] (wd_k S) (.inl (some (.int x)), wd_k S')
  refine bk_b (q := (4, [(0, .ref 1), (1, .int p1), (2, .ref 180)], [.int p1, .ref 1, .int (0 : Int32), .ref 180])) tb_c_213_0 mx_213 4 rfl ?_
  obtain ⟨x2o, S1, c3, h⟩ := wd_cx h
  rcases wd_ox h with ⟨x2, rfl, nx2⟩ | ⟨E4, rfl, nx2⟩
  · replace h := nx2
    refine bk_kv tb_c_213_0 rfl rfl rfl rfl rfl (ci := 10) rfl rfl (ev_up (Nat.le_of_ble_eq_true rfl) (sn_Sp_told c3)) ?_
    refine bk_b (q := (8, [(0, .ref 1), (1, .int p1), (2, .ref 180)], [.long ((x2).toInt64), .int (0 : Int32), .ref 180])) tb_c_213_0 mx_213 1 rfl ?_
    by_cases g5 : (0 : Int32) < 0 ∨ 1 ≤ (0 : Int32).toNatClampNeg
    · rw [if_pos g5] at h; cases h
    · rw [if_neg g5] at h
      obtain ⟨S6, eS6, h⟩ := wd_bx h
      refine bk_s8 tb_c_213_0 rfl rfl rfl g5 ?_
      rw [eS6]
      refine bk_b (q := (16, [(0, .ref 1), (1, .int p1), (2, .ref 180)], [.int (0 : Int32)])) tb_c_213_0 mx_213 2 rfl ?_
      cases h
      exact bk_t tb_c_213_0 rfl rfl
  · replace h := nx2
    by_cases g7 : E4 = "java/lang/IndexOutOfBoundsException"
    · rw [if_pos g7] at h
      subst g7
      refine bk_kn tb_c_213_0 rfl rfl rfl rfl (ci := 10) rfl rfl (ev_up (Nat.le_of_ble_eq_true rfl) (sn_Sp_told c3)) (hp := 12) (show mi_ca tb_P 213 4 "java/lang/IndexOutOfBoundsException" = some 12 by decide +kernel) tb_c_213_0 (pc' := 13) rfl rfl rfl (lv' := [(0, .ref 1), (1, .int p1), (2, .ref 180)]) rfl ?_
      refine bk_b (q := (14, [(0, .ref 1), (1, .int p1), (2, .ref 180)], [.int (1 : Int32)])) tb_c_213_0 mx_213 1 rfl ?_
      cases h
      exact bk_t tb_c_213_0 rfl rfl
    · rw [if_neg g7] at h
      cases h
theorem mx_214 : mi_mx tb_P 214 = 3 := rfl
/-- SpecialiserLaw.print(LSpecialiser;[J)I -/
noncomputable def fn_La_print (S : wd_S) : Option (Int32 × wd_S) :=
  (wd_c (fn_Sp_print  S) fun x2o S1 => wd_o x2o (fun x2 =>
  (if (0 : Int32) < 0 ∨ 1 ≤ (0 : Int32).toNatClampNeg then none else
  (wd_b (wd_l S1 180 (0 : Int32).toNatClampNeg ((x2).toInt64)) fun S6 =>
  some ((0 : Int32), S6)))) (fun E4 =>
    (if E4 = "java/lang/IllegalStateException" then
      some ((1 : Int32), S1)
    else
    (if E4 = "java/lang/UnsupportedOperationException" then
      some ((2 : Int32), S1)
    else
    none))))
set_option maxRecDepth 100000 in
theorem sn_La_print {L : Nat} {xs : Nat → Int32} {S : wd_S} {x : Int32} {S' : wd_S} (h : fn_La_print  S = some (x, S')) : ev_r tb_P L xs (207 + 1) 214 [.ref 1, .ref 180] (wd_k S) (.inl (some (.int x)), wd_k S') := by
  unfold fn_La_print at h
  refine ev_of (Nat.le_of_ble_eq_true rfl) ?_
  show go_r tb_P L xs 207 214 0 [(0, .ref 1), (1, .ref 180)] [] (wd_k S) (.inl (some (.int x)), wd_k S')
  refine bk_b (q := (3, [(0, .ref 1), (1, .ref 180)], [.ref 1, .int (0 : Int32), .ref 180])) tb_c_214_0 mx_214 3 rfl ?_
  obtain ⟨x2o, S1, c3, h⟩ := wd_cx h
  rcases wd_ox h with ⟨x2, rfl, nx2⟩ | ⟨E4, rfl, nx2⟩
  · replace h := nx2
    refine bk_kv tb_c_214_0 rfl rfl rfl rfl rfl (ci := 10) rfl rfl (ev_up (Nat.le_of_ble_eq_true rfl) (sn_Sp_print c3)) ?_
    refine bk_b (q := (7, [(0, .ref 1), (1, .ref 180)], [.long ((x2).toInt64), .int (0 : Int32), .ref 180])) tb_c_214_0 mx_214 1 rfl ?_
    by_cases g5 : (0 : Int32) < 0 ∨ 1 ≤ (0 : Int32).toNatClampNeg
    · rw [if_pos g5] at h; cases h
    · rw [if_neg g5] at h
      obtain ⟨S6, eS6, h⟩ := wd_bx h
      refine bk_s8 tb_c_214_0 rfl rfl rfl g5 ?_
      rw [eS6]
      refine bk_b (q := (18, [(0, .ref 1), (1, .ref 180)], [.int (0 : Int32)])) tb_c_214_0 mx_214 2 rfl ?_
      cases h
      exact bk_t tb_c_214_0 rfl rfl
  · replace h := nx2
    by_cases g7 : E4 = "java/lang/IllegalStateException"
    · rw [if_pos g7] at h
      subst g7
      refine bk_kn tb_c_214_0 rfl rfl rfl rfl (ci := 10) rfl rfl (ev_up (Nat.le_of_ble_eq_true rfl) (sn_Sp_print c3)) (hp := 11) (show mi_ca tb_P 214 3 "java/lang/IllegalStateException" = some 11 by decide +kernel) tb_c_214_0 (pc' := 12) rfl rfl rfl (lv' := [(0, .ref 1), (1, .ref 180)]) rfl ?_
      refine bk_b (q := (13, [(0, .ref 1), (1, .ref 180)], [.int (1 : Int32)])) tb_c_214_0 mx_214 1 rfl ?_
      cases h
      exact bk_t tb_c_214_0 rfl rfl
    · rw [if_neg g7] at h
      by_cases g8 : E4 = "java/lang/UnsupportedOperationException"
      · rw [if_pos g8] at h
        subst g8
        refine bk_kn tb_c_214_0 rfl rfl rfl rfl (ci := 10) rfl rfl (ev_up (Nat.le_of_ble_eq_true rfl) (sn_Sp_print c3)) (hp := 14) (show mi_ca tb_P 214 3 "java/lang/UnsupportedOperationException" = some 14 by decide +kernel) tb_c_214_0 (pc' := 15) rfl rfl rfl (lv' := [(0, .ref 1), (1, .ref 180)]) rfl ?_
        refine bk_b (q := (16, [(0, .ref 1), (1, .ref 180)], [.int (2 : Int32)])) tb_c_214_0 mx_214 1 rfl ?_
        cases h
        exact bk_t tb_c_214_0 rfl rfl
      · rw [if_neg g8] at h
        cases h
theorem mx_215 : mi_mx tb_P 215 = 4 := rfl
/-- SpecialiserLaw.out(LSpecialiser;I[J)I -/
noncomputable def fn_La_out (p1 : Int32) (S : wd_S) : Option (Int32 × wd_S) :=
  (wd_c (fn_Sp_out p1 S) fun x2o S1 => wd_o x2o (fun x2 =>
  (if (0 : Int32) < 0 ∨ 1 ≤ (0 : Int32).toNatClampNeg then none else
  (wd_b (wd_l S1 180 (0 : Int32).toNatClampNeg ((x2).toInt64)) fun S6 =>
  some ((0 : Int32), S6)))) (fun E4 =>
    (if E4 = "java/lang/IndexOutOfBoundsException" then
      some ((1 : Int32), S1)
    else
    none)))
set_option maxRecDepth 100000 in
theorem sn_La_out {L : Nat} {xs : Nat → Int32} {p1 : Int32} {S : wd_S} {x : Int32} {S' : wd_S} (h : fn_La_out p1 S = some (x, S')) : ev_r tb_P L xs (2 + 1) 215 [.ref 1, .int p1, .ref 180] (wd_k S) (.inl (some (.int x)), wd_k S') := by
  unfold fn_La_out at h
  refine ev_of (Nat.le_of_ble_eq_true rfl) ?_
  show go_r tb_P L xs 2 215 0 [(0, .ref 1), (1, .int p1), (2, .ref 180)] [] (wd_k S) (.inl (some (.int x)), wd_k S')
  refine bk_b (q := (4, [(0, .ref 1), (1, .int p1), (2, .ref 180)], [.int p1, .ref 1, .int (0 : Int32), .ref 180])) tb_c_215_0 mx_215 4 rfl ?_
  obtain ⟨x2o, S1, c3, h⟩ := wd_cx h
  rcases wd_ox h with ⟨x2, rfl, nx2⟩ | ⟨E4, rfl, nx2⟩
  · replace h := nx2
    refine bk_kv tb_c_215_0 rfl rfl rfl rfl rfl (ci := 10) rfl rfl (ev_up (Nat.le_of_ble_eq_true rfl) (sn_Sp_out c3)) ?_
    refine bk_b (q := (8, [(0, .ref 1), (1, .int p1), (2, .ref 180)], [.long ((x2).toInt64), .int (0 : Int32), .ref 180])) tb_c_215_0 mx_215 1 rfl ?_
    by_cases g5 : (0 : Int32) < 0 ∨ 1 ≤ (0 : Int32).toNatClampNeg
    · rw [if_pos g5] at h; cases h
    · rw [if_neg g5] at h
      obtain ⟨S6, eS6, h⟩ := wd_bx h
      refine bk_s8 tb_c_215_0 rfl rfl rfl g5 ?_
      rw [eS6]
      refine bk_b (q := (16, [(0, .ref 1), (1, .int p1), (2, .ref 180)], [.int (0 : Int32)])) tb_c_215_0 mx_215 2 rfl ?_
      cases h
      exact bk_t tb_c_215_0 rfl rfl
  · replace h := nx2
    by_cases g7 : E4 = "java/lang/IndexOutOfBoundsException"
    · rw [if_pos g7] at h
      subst g7
      refine bk_kn tb_c_215_0 rfl rfl rfl rfl (ci := 10) rfl rfl (ev_up (Nat.le_of_ble_eq_true rfl) (sn_Sp_out c3)) (hp := 12) (show mi_ca tb_P 215 4 "java/lang/IndexOutOfBoundsException" = some 12 by decide +kernel) tb_c_215_0 (pc' := 13) rfl rfl rfl (lv' := [(0, .ref 1), (1, .int p1), (2, .ref 180)]) rfl ?_
      refine bk_b (q := (14, [(0, .ref 1), (1, .int p1), (2, .ref 180)], [.int (1 : Int32)])) tb_c_215_0 mx_215 1 rfl ?_
      cases h
      exact bk_t tb_c_215_0 rfl rfl
    · rw [if_neg g7] at h
      cases h
theorem mx_216 : mi_mx tb_P 216 = 3 := rfl
/-- SpecialiserLaw.back(LSpecialiser;[J)I -/
noncomputable def fn_La_back (S : wd_S) : Option (Int32 × wd_S) :=
  (wd_c (fn_Sp_back  S) fun x2o S1 => wd_o x2o (fun x2 =>
  (if (0 : Int32) < 0 ∨ 1 ≤ (0 : Int32).toNatClampNeg then none else
  (wd_b (wd_l S1 180 (0 : Int32).toNatClampNeg ((x2).toInt64)) fun S6 =>
  some ((0 : Int32), S6)))) (fun E4 =>
    (if E4 = "java/lang/IllegalStateException" then
      some ((1 : Int32), S1)
    else
    none)))
set_option maxRecDepth 100000 in
theorem sn_La_back {L : Nat} {xs : Nat → Int32} {S : wd_S} {x : Int32} {S' : wd_S} (h : fn_La_back  S = some (x, S')) : ev_r tb_P L xs (2 + 1) 216 [.ref 1, .ref 180] (wd_k S) (.inl (some (.int x)), wd_k S') := by
  unfold fn_La_back at h
  refine ev_of (Nat.le_of_ble_eq_true rfl) ?_
  show go_r tb_P L xs 2 216 0 [(0, .ref 1), (1, .ref 180)] [] (wd_k S) (.inl (some (.int x)), wd_k S')
  refine bk_b (q := (3, [(0, .ref 1), (1, .ref 180)], [.ref 1, .int (0 : Int32), .ref 180])) tb_c_216_0 mx_216 3 rfl ?_
  obtain ⟨x2o, S1, c3, h⟩ := wd_cx h
  rcases wd_ox h with ⟨x2, rfl, nx2⟩ | ⟨E4, rfl, nx2⟩
  · replace h := nx2
    refine bk_kv tb_c_216_0 rfl rfl rfl rfl rfl (ci := 10) rfl rfl (ev_up (Nat.le_of_ble_eq_true rfl) (sn_Sp_back c3)) ?_
    refine bk_b (q := (7, [(0, .ref 1), (1, .ref 180)], [.long ((x2).toInt64), .int (0 : Int32), .ref 180])) tb_c_216_0 mx_216 1 rfl ?_
    by_cases g5 : (0 : Int32) < 0 ∨ 1 ≤ (0 : Int32).toNatClampNeg
    · rw [if_pos g5] at h; cases h
    · rw [if_neg g5] at h
      obtain ⟨S6, eS6, h⟩ := wd_bx h
      refine bk_s8 tb_c_216_0 rfl rfl rfl g5 ?_
      rw [eS6]
      refine bk_b (q := (15, [(0, .ref 1), (1, .ref 180)], [.int (0 : Int32)])) tb_c_216_0 mx_216 2 rfl ?_
      cases h
      exact bk_t tb_c_216_0 rfl rfl
  · replace h := nx2
    by_cases g7 : E4 = "java/lang/IllegalStateException"
    · rw [if_pos g7] at h
      subst g7
      refine bk_kn tb_c_216_0 rfl rfl rfl rfl (ci := 10) rfl rfl (ev_up (Nat.le_of_ble_eq_true rfl) (sn_Sp_back c3)) (hp := 11) (show mi_ca tb_P 216 3 "java/lang/IllegalStateException" = some 11 by decide +kernel) tb_c_216_0 (pc' := 12) rfl rfl rfl (lv' := [(0, .ref 1), (1, .ref 180)]) rfl ?_
      refine bk_b (q := (13, [(0, .ref 1), (1, .ref 180)], [.int (1 : Int32)])) tb_c_216_0 mx_216 1 rfl ?_
      cases h
      exact bk_t tb_c_216_0 rfl rfl
    · rw [if_neg g7] at h
      cases h
theorem mx_217 : mi_mx tb_P 217 = 4 := rfl
/-- SpecialiserLaw.give(LSpecialiser;I[J)I -/
noncomputable def fn_La_give (p1 : Int32) (S : wd_S) : Option (Int32 × wd_S) :=
  (wd_c (fn_Sp_give p1 S) fun x2o S1 => wd_o x2o (fun x2 =>
  (if (0 : Int32) < 0 ∨ 1 ≤ (0 : Int32).toNatClampNeg then none else
  (wd_b (wd_l S1 180 (0 : Int32).toNatClampNeg ((x2).toInt64)) fun S6 =>
  some ((0 : Int32), S6)))) (fun E4 =>
    (if E4 = "java/lang/IllegalStateException" then
      some ((1 : Int32), S1)
    else
    none)))
set_option maxRecDepth 100000 in
theorem sn_La_give {L : Nat} {xs : Nat → Int32} {p1 : Int32} {S : wd_S} {x : Int32} {S' : wd_S} (h : fn_La_give p1 S = some (x, S')) : ev_r tb_P L xs (2 + 1) 217 [.ref 1, .int p1, .ref 180] (wd_k S) (.inl (some (.int x)), wd_k S') := by
  unfold fn_La_give at h
  refine ev_of (Nat.le_of_ble_eq_true rfl) ?_
  show go_r tb_P L xs 2 217 0 [(0, .ref 1), (1, .int p1), (2, .ref 180)] [] (wd_k S) (.inl (some (.int x)), wd_k S')
  refine bk_b (q := (4, [(0, .ref 1), (1, .int p1), (2, .ref 180)], [.int p1, .ref 1, .int (0 : Int32), .ref 180])) tb_c_217_0 mx_217 4 rfl ?_
  obtain ⟨x2o, S1, c3, h⟩ := wd_cx h
  rcases wd_ox h with ⟨x2, rfl, nx2⟩ | ⟨E4, rfl, nx2⟩
  · replace h := nx2
    refine bk_kv tb_c_217_0 rfl rfl rfl rfl rfl (ci := 10) rfl rfl (ev_up (Nat.le_of_ble_eq_true rfl) (sn_Sp_give c3)) ?_
    refine bk_b (q := (8, [(0, .ref 1), (1, .int p1), (2, .ref 180)], [.long ((x2).toInt64), .int (0 : Int32), .ref 180])) tb_c_217_0 mx_217 1 rfl ?_
    by_cases g5 : (0 : Int32) < 0 ∨ 1 ≤ (0 : Int32).toNatClampNeg
    · rw [if_pos g5] at h; cases h
    · rw [if_neg g5] at h
      obtain ⟨S6, eS6, h⟩ := wd_bx h
      refine bk_s8 tb_c_217_0 rfl rfl rfl g5 ?_
      rw [eS6]
      refine bk_b (q := (16, [(0, .ref 1), (1, .int p1), (2, .ref 180)], [.int (0 : Int32)])) tb_c_217_0 mx_217 2 rfl ?_
      cases h
      exact bk_t tb_c_217_0 rfl rfl
  · replace h := nx2
    by_cases g7 : E4 = "java/lang/IllegalStateException"
    · rw [if_pos g7] at h
      subst g7
      refine bk_kn tb_c_217_0 rfl rfl rfl rfl (ci := 10) rfl rfl (ev_up (Nat.le_of_ble_eq_true rfl) (sn_Sp_give c3)) (hp := 12) (show mi_ca tb_P 217 4 "java/lang/IllegalStateException" = some 12 by decide +kernel) tb_c_217_0 (pc' := 13) rfl rfl rfl (lv' := [(0, .ref 1), (1, .int p1), (2, .ref 180)]) rfl ?_
      refine bk_b (q := (14, [(0, .ref 1), (1, .int p1), (2, .ref 180)], [.int (1 : Int32)])) tb_c_217_0 mx_217 1 rfl ?_
      cases h
      exact bk_t tb_c_217_0 rfl rfl
    · rw [if_neg g7] at h
      cases h
theorem mx_218 : mi_mx tb_P 218 = 6 := rfl
/-- SpecialiserLaw.run(LSpecialiser;ZII[J)I -/
noncomputable def fn_La_run (p1 : Int32) (p2 : Int32) (p3 : Int32) (S : wd_S) : Option (Int32 × wd_S) :=
  (wd_c (fn_Sp_run p1 p2 p3 S) fun x2o S1 => wd_o x2o (fun x2 =>
  (if (0 : Int32) < 0 ∨ 1 ≤ (0 : Int32).toNatClampNeg then none else
  (wd_b (wd_l S1 180 (0 : Int32).toNatClampNeg ((x2).toInt64)) fun S6 =>
  some ((0 : Int32), S6)))) (fun E4 =>
    (if E4 = "java/lang/IllegalArgumentException" then
      some ((3 : Int32), S1)
    else
    (if E4 = "java/lang/IllegalStateException" then
      some ((1 : Int32), S1)
    else
    (if E4 = "java/lang/IndexOutOfBoundsException" then
      some ((2 : Int32), S1)
    else
    none)))))
set_option maxRecDepth 100000 in
theorem sn_La_run {L : Nat} {xs : Nat → Int32} {p1 : Int32} {p2 : Int32} {p3 : Int32} {S : wd_S} {x : Int32} {S' : wd_S} (h : fn_La_run p1 p2 p3 S = some (x, S')) : ev_r tb_P L xs (5 + 1) 218 [.ref 1, .int p1, .int p2, .int p3, .ref 180] (wd_k S) (.inl (some (.int x)), wd_k S') := by
  unfold fn_La_run at h
  refine ev_of (Nat.le_of_ble_eq_true rfl) ?_
  show go_r tb_P L xs 5 218 0 [(0, .ref 1), (1, .int p1), (2, .int p2), (3, .int p3), (4, .ref 180)] [] (wd_k S) (.inl (some (.int x)), wd_k S')
  refine bk_b (q := (7, [(0, .ref 1), (1, .int p1), (2, .int p2), (3, .int p3), (4, .ref 180)], [.int p3, .int p2, .int p1, .ref 1, .int (0 : Int32), .ref 180])) tb_c_218_0 mx_218 6 rfl ?_
  obtain ⟨x2o, S1, c3, h⟩ := wd_cx h
  rcases wd_ox h with ⟨x2, rfl, nx2⟩ | ⟨E4, rfl, nx2⟩
  · replace h := nx2
    refine bk_kv tb_c_218_0 rfl rfl rfl rfl rfl (ci := 10) rfl rfl (ev_up (Nat.le_of_ble_eq_true rfl) (sn_Sp_run c3)) ?_
    refine bk_b (q := (11, [(0, .ref 1), (1, .int p1), (2, .int p2), (3, .int p3), (4, .ref 180)], [.long ((x2).toInt64), .int (0 : Int32), .ref 180])) tb_c_218_0 mx_218 1 rfl ?_
    by_cases g5 : (0 : Int32) < 0 ∨ 1 ≤ (0 : Int32).toNatClampNeg
    · rw [if_pos g5] at h; cases h
    · rw [if_neg g5] at h
      obtain ⟨S6, eS6, h⟩ := wd_bx h
      refine bk_s8 tb_c_218_0 rfl rfl rfl g5 ?_
      rw [eS6]
      refine bk_b (q := (28, [(0, .ref 1), (1, .int p1), (2, .int p2), (3, .int p3), (4, .ref 180)], [.int (0 : Int32)])) tb_c_218_0 mx_218 2 rfl ?_
      cases h
      exact bk_t tb_c_218_0 rfl rfl
  · replace h := nx2
    by_cases g7 : E4 = "java/lang/IllegalArgumentException"
    · rw [if_pos g7] at h
      subst g7
      refine bk_kw tb_c_218_0 rfl rfl rfl rfl (ci := 10) rfl rfl (ev_up (Nat.le_of_ble_eq_true rfl) (sn_Sp_run c3)) (hp := 23) (show mi_ca tb_P 218 7 "java/lang/IllegalArgumentException" = some 23 by decide +kernel) tb_c_218_0 (pc' := 25) rfl rfl rfl (lv' := [(0, .ref 1), (1, .int p1), (2, .int p2), (3, .int p3), (4, .ref 180)]) rfl ?_
      refine bk_b (q := (26, [(0, .ref 1), (1, .int p1), (2, .int p2), (3, .int p3), (4, .ref 180)], [.int (3 : Int32)])) tb_c_218_0 mx_218 1 rfl ?_
      cases h
      exact bk_t tb_c_218_0 rfl rfl
    · rw [if_neg g7] at h
      by_cases g8 : E4 = "java/lang/IllegalStateException"
      · rw [if_pos g8] at h
        subst g8
        refine bk_kw tb_c_218_0 rfl rfl rfl rfl (ci := 10) rfl rfl (ev_up (Nat.le_of_ble_eq_true rfl) (sn_Sp_run c3)) (hp := 15) (show mi_ca tb_P 218 7 "java/lang/IllegalStateException" = some 15 by decide +kernel) tb_c_218_0 (pc' := 17) rfl rfl rfl (lv' := [(0, .ref 1), (1, .int p1), (2, .int p2), (3, .int p3), (4, .ref 180)]) rfl ?_
        refine bk_b (q := (18, [(0, .ref 1), (1, .int p1), (2, .int p2), (3, .int p3), (4, .ref 180)], [.int (1 : Int32)])) tb_c_218_0 mx_218 1 rfl ?_
        cases h
        exact bk_t tb_c_218_0 rfl rfl
      · rw [if_neg g8] at h
        by_cases g9 : E4 = "java/lang/IndexOutOfBoundsException"
        · rw [if_pos g9] at h
          subst g9
          refine bk_kw tb_c_218_0 rfl rfl rfl rfl (ci := 10) rfl rfl (ev_up (Nat.le_of_ble_eq_true rfl) (sn_Sp_run c3)) (hp := 19) (show mi_ca tb_P 218 7 "java/lang/IndexOutOfBoundsException" = some 19 by decide +kernel) tb_c_218_0 (pc' := 21) rfl rfl rfl (lv' := [(0, .ref 1), (1, .int p1), (2, .int p2), (3, .int p3), (4, .ref 180)]) rfl ?_
          refine bk_b (q := (22, [(0, .ref 1), (1, .int p1), (2, .int p2), (3, .int p3), (4, .ref 180)], [.int (2 : Int32)])) tb_c_218_0 mx_218 1 rfl ?_
          cases h
          exact bk_t tb_c_218_0 rfl rfl
        · rw [if_neg g9] at h
          cases h
theorem mx_219 : mi_mx tb_P 219 = 4 := rfl
/-- SpecialiserLaw.ran(LSpecialiser;I[J)I -/
noncomputable def fn_La_ran (p1 : Int32) (S : wd_S) : Option (Int32 × wd_S) :=
  (wd_c (fn_Sp_ran p1 S) fun x2o S1 => wd_o x2o (fun x2 =>
  (if (0 : Int32) < 0 ∨ 1 ≤ (0 : Int32).toNatClampNeg then none else
  (wd_b (wd_l S1 180 (0 : Int32).toNatClampNeg ((x2).toInt64)) fun S6 =>
  some ((0 : Int32), S6)))) (fun E4 =>
    (if E4 = "java/lang/IndexOutOfBoundsException" then
      some ((1 : Int32), S1)
    else
    none)))
set_option maxRecDepth 100000 in
theorem sn_La_ran {L : Nat} {xs : Nat → Int32} {p1 : Int32} {S : wd_S} {x : Int32} {S' : wd_S} (h : fn_La_ran p1 S = some (x, S')) : ev_r tb_P L xs (2 + 1) 219 [.ref 1, .int p1, .ref 180] (wd_k S) (.inl (some (.int x)), wd_k S') := by
  unfold fn_La_ran at h
  refine ev_of (Nat.le_of_ble_eq_true rfl) ?_
  show go_r tb_P L xs 2 219 0 [(0, .ref 1), (1, .int p1), (2, .ref 180)] [] (wd_k S) (.inl (some (.int x)), wd_k S')
  refine bk_b (q := (4, [(0, .ref 1), (1, .int p1), (2, .ref 180)], [.int p1, .ref 1, .int (0 : Int32), .ref 180])) tb_c_219_0 mx_219 4 rfl ?_
  obtain ⟨x2o, S1, c3, h⟩ := wd_cx h
  rcases wd_ox h with ⟨x2, rfl, nx2⟩ | ⟨E4, rfl, nx2⟩
  · replace h := nx2
    refine bk_kv tb_c_219_0 rfl rfl rfl rfl rfl (ci := 10) rfl rfl (ev_up (Nat.le_of_ble_eq_true rfl) (sn_Sp_ran c3)) ?_
    refine bk_b (q := (8, [(0, .ref 1), (1, .int p1), (2, .ref 180)], [.long ((x2).toInt64), .int (0 : Int32), .ref 180])) tb_c_219_0 mx_219 1 rfl ?_
    by_cases g5 : (0 : Int32) < 0 ∨ 1 ≤ (0 : Int32).toNatClampNeg
    · rw [if_pos g5] at h; cases h
    · rw [if_neg g5] at h
      obtain ⟨S6, eS6, h⟩ := wd_bx h
      refine bk_s8 tb_c_219_0 rfl rfl rfl g5 ?_
      rw [eS6]
      refine bk_b (q := (16, [(0, .ref 1), (1, .int p1), (2, .ref 180)], [.int (0 : Int32)])) tb_c_219_0 mx_219 2 rfl ?_
      cases h
      exact bk_t tb_c_219_0 rfl rfl
  · replace h := nx2
    by_cases g7 : E4 = "java/lang/IndexOutOfBoundsException"
    · rw [if_pos g7] at h
      subst g7
      refine bk_kn tb_c_219_0 rfl rfl rfl rfl (ci := 10) rfl rfl (ev_up (Nat.le_of_ble_eq_true rfl) (sn_Sp_ran c3)) (hp := 12) (show mi_ca tb_P 219 4 "java/lang/IndexOutOfBoundsException" = some 12 by decide +kernel) tb_c_219_0 (pc' := 13) rfl rfl rfl (lv' := [(0, .ref 1), (1, .int p1), (2, .ref 180)]) rfl ?_
      refine bk_b (q := (14, [(0, .ref 1), (1, .int p1), (2, .ref 180)], [.int (1 : Int32)])) tb_c_219_0 mx_219 1 rfl ?_
      cases h
      exact bk_t tb_c_219_0 rfl rfl
    · rw [if_neg g7] at h
      cases h
theorem mx_0 : mi_mx tb_P 0 = 7 := rfl
noncomputable def fn_La_law_606 (L : Nat) (xs : Nat → Int32) (kk23 : Int32 → wd_S → Option (Int32 × wd_S)) (l4 : Int32) (S : wd_S) : Option (Int32 × wd_S) :=
  kk23 (l4 + (6 : Int32)) S
set_option maxRecDepth 100000 in
theorem sn_La_law_606 {L : Nat} {xs : Nat → Int32} {kk23 : Int32 → wd_S → Option (Int32 × wd_S)} (hk23 : ∀ {l4 : Int32} {S : wd_S} {x : Int32} {S' : wd_S}, kk23 l4 S = some (x, S') → go_r tb_P L xs 208 0 23 [(0, .ref 0), (1, .ref 1), (2, .ref 135), (3, .ref 180), (4, .int l4)] [] (wd_k S) (.inl (some (.int x)), wd_k S')) {l4 : Int32} {S : wd_S} {x : Int32} {S' : wd_S} (h : fn_La_law_606 L xs kk23 l4 S = some (x, S')) : go_r tb_P L xs 208 0 606 [(0, .ref 0), (1, .ref 1), (2, .ref 135), (3, .ref 180), (4, .int l4)] [] (wd_k S) (.inl (some (.int x)), wd_k S') := by
  unfold fn_La_law_606 at h
  refine bk_b (q := (23, [(4, .int (l4 + (6 : Int32))), (0, .ref 0), (1, .ref 1), (2, .ref 135), (3, .ref 180)], [])) tb_c_0_8 mx_0 2 rfl ?_
  exact go_lv (ls_sc rfl rfl (ls_sc rfl rfl (ls_sc rfl rfl (ls_sc rfl rfl (ls_sc rfl rfl ls_nil))))) (hk23 h)
noncomputable def fn_La_law_558 (L : Nat) (xs : Nat → Int32) (kk23 : Int32 → wd_S → Option (Int32 × wd_S)) (l4 : Int32) (s1 : Int32) (S : wd_S) : Option (Int32 × wd_S) :=
  (if (l4 + (2 : Int32)) < 0 ∨ L ≤ (l4 + (2 : Int32)).toNatClampNeg then none else
  (if (l4 + (3 : Int32)) < 0 ∨ L ≤ (l4 + (3 : Int32)).toNatClampNeg then none else
  (wd_c (fn_Mo_run s1 (xs (l4 + (2 : Int32)).toNatClampNeg) (xs (l4 + (3 : Int32)).toNatClampNeg) S) fun x140 S139 =>
  fn_La_law_606 L xs kk23 l4 S139)))
set_option maxRecDepth 100000 in
theorem sn_La_law_558 {L : Nat} {xs : Nat → Int32} {kk23 : Int32 → wd_S → Option (Int32 × wd_S)} (hk23 : ∀ {l4 : Int32} {S : wd_S} {x : Int32} {S' : wd_S}, kk23 l4 S = some (x, S') → go_r tb_P L xs 208 0 23 [(0, .ref 0), (1, .ref 1), (2, .ref 135), (3, .ref 180), (4, .int l4)] [] (wd_k S) (.inl (some (.int x)), wd_k S')) {l4 : Int32} {s1 : Int32} {S : wd_S} {x : Int32} {S' : wd_S} (h : fn_La_law_558 L xs kk23 l4 s1 S = some (x, S')) : go_r tb_P L xs 208 0 558 [(0, .ref 0), (1, .ref 1), (2, .ref 135), (3, .ref 180), (4, .int l4)] [.int s1, .ref 135] (wd_k S) (.inl (some (.int x)), wd_k S') := by
  unfold fn_La_law_558 at h
  refine bk_b (q := (563, [(0, .ref 0), (1, .ref 1), (2, .ref 135), (3, .ref 180), (4, .int l4)], [.int (l4 + (2 : Int32)), .ref 0, .int s1, .ref 135])) tb_c_0_8 mx_0 4 rfl ?_
  by_cases g137 : (l4 + (2 : Int32)) < 0 ∨ L ≤ (l4 + (2 : Int32)).toNatClampNeg
  · rw [if_pos g137] at h; cases h
  · rw [if_neg g137] at h
    refine bk_a0 tb_c_0_8 rfl rfl g137 ?_
    refine bk_b (q := (569, [(0, .ref 0), (1, .ref 1), (2, .ref 135), (3, .ref 180), (4, .int l4)], [.int (l4 + (3 : Int32)), .ref 0, .int (xs (l4 + (2 : Int32)).toNatClampNeg), .int s1, .ref 135])) tb_c_0_8 mx_0 4 rfl ?_
    by_cases g138 : (l4 + (3 : Int32)) < 0 ∨ L ≤ (l4 + (3 : Int32)).toNatClampNeg
    · rw [if_pos g138] at h; cases h
    · rw [if_neg g138] at h
      refine bk_a0 tb_c_0_8 rfl rfl g138 ?_
      obtain ⟨x140, S139, c141, h⟩ := wd_cx h
      refine bk_kv tb_c_0_8 rfl rfl rfl rfl rfl (ci := 11) rfl rfl (ev_up (Nat.le_of_ble_eq_true rfl) (sn_Mo_run c141)) ?_
      refine bk_b (q := (606, [(6, .int x140), (0, .ref 0), (1, .ref 1), (2, .ref 135), (3, .ref 180), (4, .int l4)], [])) tb_c_0_8 mx_0 2 rfl ?_
      exact go_lv (ls_sc rfl rfl (ls_sc rfl rfl (ls_sc rfl rfl (ls_sc rfl rfl (ls_sc rfl rfl ls_nil))))) (sn_La_law_606 hk23 h)
noncomputable def fn_La_law_525 (L : Nat) (xs : Nat → Int32) (kk23 : Int32 → wd_S → Option (Int32 × wd_S)) (l4 : Int32) (s1 : Int32) (S : wd_S) : Option (Int32 × wd_S) :=
  (if (l4 + (2 : Int32)) < 0 ∨ L ≤ (l4 + (2 : Int32)).toNatClampNeg then none else
  (if (l4 + (3 : Int32)) < 0 ∨ L ≤ (l4 + (3 : Int32)).toNatClampNeg then none else
  (wd_c (fn_La_run s1 (xs (l4 + (2 : Int32)).toNatClampNeg) (xs (l4 + (3 : Int32)).toNatClampNeg) S) fun x133 S132 =>
  (if (l4 + (1 : Int32)) < 0 ∨ L ≤ (l4 + (1 : Int32)).toNatClampNeg then none else
  (if (xs (l4 + (1 : Int32)).toNatClampNeg) = 0 then
    fn_La_law_558 L xs kk23 l4 (0 : Int32) S132
  else
    fn_La_law_558 L xs kk23 l4 (1 : Int32) S132)))))
set_option maxRecDepth 100000 in
theorem sn_La_law_525 {L : Nat} {xs : Nat → Int32} {kk23 : Int32 → wd_S → Option (Int32 × wd_S)} (hk23 : ∀ {l4 : Int32} {S : wd_S} {x : Int32} {S' : wd_S}, kk23 l4 S = some (x, S') → go_r tb_P L xs 208 0 23 [(0, .ref 0), (1, .ref 1), (2, .ref 135), (3, .ref 180), (4, .int l4)] [] (wd_k S) (.inl (some (.int x)), wd_k S')) {l4 : Int32} {s1 : Int32} {S : wd_S} {x : Int32} {S' : wd_S} (h : fn_La_law_525 L xs kk23 l4 s1 S = some (x, S')) : go_r tb_P L xs 208 0 525 [(0, .ref 0), (1, .ref 1), (2, .ref 135), (3, .ref 180), (4, .int l4)] [.int s1, .ref 1] (wd_k S) (.inl (some (.int x)), wd_k S') := by
  unfold fn_La_law_525 at h
  refine bk_b (q := (530, [(0, .ref 0), (1, .ref 1), (2, .ref 135), (3, .ref 180), (4, .int l4)], [.int (l4 + (2 : Int32)), .ref 0, .int s1, .ref 1])) tb_c_0_7 mx_0 4 rfl ?_
  by_cases g130 : (l4 + (2 : Int32)) < 0 ∨ L ≤ (l4 + (2 : Int32)).toNatClampNeg
  · rw [if_pos g130] at h; cases h
  · rw [if_neg g130] at h
    refine bk_a0 tb_c_0_7 rfl rfl g130 ?_
    refine bk_b (q := (536, [(0, .ref 0), (1, .ref 1), (2, .ref 135), (3, .ref 180), (4, .int l4)], [.int (l4 + (3 : Int32)), .ref 0, .int (xs (l4 + (2 : Int32)).toNatClampNeg), .int s1, .ref 1])) tb_c_0_7 mx_0 4 rfl ?_
    by_cases g131 : (l4 + (3 : Int32)) < 0 ∨ L ≤ (l4 + (3 : Int32)).toNatClampNeg
    · rw [if_pos g131] at h; cases h
    · rw [if_neg g131] at h
      refine bk_a0 tb_c_0_7 rfl rfl g131 ?_
      refine bk_b (q := (538, [(0, .ref 0), (1, .ref 1), (2, .ref 135), (3, .ref 180), (4, .int l4)], [.ref 180, .int (xs (l4 + (3 : Int32)).toNatClampNeg), .int (xs (l4 + (2 : Int32)).toNatClampNeg), .int s1, .ref 1])) tb_c_0_7 mx_0 1 rfl ?_
      obtain ⟨x133, S132, c134, h⟩ := wd_cx h
      refine bk_ks tb_c_0_7 rfl rfl rfl (by decide) rfl rfl (ev_up (Nat.le_of_ble_eq_true rfl) (sn_La_run c134)) ?_
      refine bk_b (q := (549, [(5, .int x133), (0, .ref 0), (1, .ref 1), (2, .ref 135), (3, .ref 180), (4, .int l4)], [.int (l4 + (1 : Int32)), .ref 0, .ref 135])) tb_c_0_7 mx_0 6 rfl ?_
      by_cases g135 : (l4 + (1 : Int32)) < 0 ∨ L ≤ (l4 + (1 : Int32)).toNatClampNeg
      · rw [if_pos g135] at h; cases h
      · rw [if_neg g135] at h
        refine bk_a0 tb_c_0_7 rfl rfl g135 ?_
        by_cases g136 : (xs (l4 + (1 : Int32)).toNatClampNeg) = 0
        · rw [if_pos g136] at h
          refine bk_zt tb_c_0_7 rfl (pc' := 557) rfl (cm_eq_t g136) ?_
          refine bk_b (q := (558, [(5, .int x133), (0, .ref 0), (1, .ref 1), (2, .ref 135), (3, .ref 180), (4, .int l4)], [.int (0 : Int32), .ref 135])) tb_c_0_7 mx_0 1 rfl ?_
          exact go_lv (ls_sc rfl rfl (ls_sc rfl rfl (ls_sc rfl rfl (ls_sc rfl rfl (ls_sc rfl rfl ls_nil))))) (sn_La_law_558 hk23 h)
        · rw [if_neg g136] at h
          refine bk_zf tb_c_0_7 rfl (pc' := 553) rfl (t := 557) rfl (cm_eq_f g136) ?_
          refine bk_b (q := (558, [(5, .int x133), (0, .ref 0), (1, .ref 1), (2, .ref 135), (3, .ref 180), (4, .int l4)], [.int (1 : Int32), .ref 135])) tb_c_0_7 mx_0 2 rfl ?_
          exact go_lv (ls_sc rfl rfl (ls_sc rfl rfl (ls_sc rfl rfl (ls_sc rfl rfl (ls_sc rfl rfl ls_nil))))) (sn_La_law_558 hk23 h)
noncomputable def fn_La_law_23 (L : Nat) (xs : Nat → Int32) : Nat → Int32 → wd_S → Option (Int32 × wd_S)
  | 0, _, _ => none
  | n + 1, l4, S =>
    (if ((Int32.ofNat L) - (6 : Int32)) < l4 then
      some ((1 : Int32), S)
    else
      (if l4 < 0 ∨ L ≤ l4.toNatClampNeg then none else
      (if ((xs l4.toNatClampNeg) &&& (15 : Int32)) = (0 : Int32) then
        (if (l4 + (1 : Int32)) < 0 ∨ L ≤ (l4 + (1 : Int32)).toNatClampNeg then none else
        (if (l4 + (2 : Int32)) < 0 ∨ L ≤ (l4 + (2 : Int32)).toNatClampNeg then none else
        (if (l4 + (3 : Int32)) < 0 ∨ L ≤ (l4 + (3 : Int32)).toNatClampNeg then none else
        (if (l4 + (4 : Int32)) < 0 ∨ L ≤ (l4 + (4 : Int32)).toNatClampNeg then none else
        (if (l4 + (5 : Int32)) < 0 ∨ L ≤ (l4 + (5 : Int32)).toNatClampNeg then none else
        (wd_c (fn_La_feed (xs (l4 + (1 : Int32)).toNatClampNeg) (xs (l4 + (2 : Int32)).toNatClampNeg) (xs (l4 + (3 : Int32)).toNatClampNeg) (xs (l4 + (4 : Int32)).toNatClampNeg) (xs (l4 + (5 : Int32)).toNatClampNeg) S) fun x10 S9 =>
        (if (l4 + (1 : Int32)) < 0 ∨ L ≤ (l4 + (1 : Int32)).toNatClampNeg then none else
        (if (l4 + (2 : Int32)) < 0 ∨ L ≤ (l4 + (2 : Int32)).toNatClampNeg then none else
        (if (l4 + (3 : Int32)) < 0 ∨ L ≤ (l4 + (3 : Int32)).toNatClampNeg then none else
        (if (l4 + (4 : Int32)) < 0 ∨ L ≤ (l4 + (4 : Int32)).toNatClampNeg then none else
        (if (l4 + (5 : Int32)) < 0 ∨ L ≤ (l4 + (5 : Int32)).toNatClampNeg then none else
        (wd_c (fn_Mo_feed (xs (l4 + (1 : Int32)).toNatClampNeg) (xs (l4 + (2 : Int32)).toNatClampNeg) (xs (l4 + (3 : Int32)).toNatClampNeg) (xs (l4 + (4 : Int32)).toNatClampNeg) (xs (l4 + (5 : Int32)).toNatClampNeg) S9) fun x18 S17 =>
        fn_La_law_606 L xs (fn_La_law_23 L xs n) l4 S17))))))))))))
      else
      (if ((xs l4.toNatClampNeg) &&& (15 : Int32)) = (1 : Int32) then
        (if (l4 + (1 : Int32)) < 0 ∨ L ≤ (l4 + (1 : Int32)).toNatClampNeg then none else
        (wd_c (fn_La_cut (xs (l4 + (1 : Int32)).toNatClampNeg) S) fun x23 S22 =>
        (if (l4 + (1 : Int32)) < 0 ∨ L ≤ (l4 + (1 : Int32)).toNatClampNeg then none else
        (wd_c (fn_Mo_cut (xs (l4 + (1 : Int32)).toNatClampNeg) S22) fun x27 S26 =>
        fn_La_law_606 L xs (fn_La_law_23 L xs n) l4 S26))))
      else
      (if ((xs l4.toNatClampNeg) &&& (15 : Int32)) = (2 : Int32) then
        (wd_c (fn_Sp_read  S) fun x31 S30 =>
        (wd_c (fn_Mo_read  S30) fun x34 S33 =>
        (if x31 = x34 then
          fn_La_law_606 L xs (fn_La_law_23 L xs n) l4 S33
        else
          some ((0 : Int32), S33))))
      else
      (if ((xs l4.toNatClampNeg) &&& (15 : Int32)) = (3 : Int32) then
        (wd_c (fn_Sp_place  S) fun x39 S38 =>
        (wd_c (fn_Mo_place  S38) fun x42 S41 =>
        fn_La_law_606 L xs (fn_La_law_23 L xs n) l4 S41))
      else
      (if ((xs l4.toNatClampNeg) &&& (15 : Int32)) = (4 : Int32) then
        (if (l4 + (1 : Int32)) < 0 ∨ L ≤ (l4 + (1 : Int32)).toNatClampNeg then none else
        (if (l4 + (2 : Int32)) < 0 ∨ L ≤ (l4 + (2 : Int32)).toNatClampNeg then none else
        (wd_c (fn_La_function (xs (l4 + (1 : Int32)).toNatClampNeg) (xs (l4 + (2 : Int32)).toNatClampNeg) S) fun x48 S47 =>
        (if (l4 + (1 : Int32)) < 0 ∨ L ≤ (l4 + (1 : Int32)).toNatClampNeg then none else
        (if (l4 + (2 : Int32)) < 0 ∨ L ≤ (l4 + (2 : Int32)).toNatClampNeg then none else
        (wd_c (fn_Mo_function (xs (l4 + (1 : Int32)).toNatClampNeg) (xs (l4 + (2 : Int32)).toNatClampNeg) S47) fun x53 S52 =>
        fn_La_law_606 L xs (fn_La_law_23 L xs n) l4 S52))))))
      else
      (if ((xs l4.toNatClampNeg) &&& (15 : Int32)) = (5 : Int32) then
        (if (l4 + (1 : Int32)) < 0 ∨ L ≤ (l4 + (1 : Int32)).toNatClampNeg then none else
        (if (l4 + (2 : Int32)) < 0 ∨ L ≤ (l4 + (2 : Int32)).toNatClampNeg then none else
        (wd_c (fn_La_know (xs (l4 + (1 : Int32)).toNatClampNeg) (xs (l4 + (2 : Int32)).toNatClampNeg) S) fun x59 S58 =>
        (if (l4 + (1 : Int32)) < 0 ∨ L ≤ (l4 + (1 : Int32)).toNatClampNeg then none else
        (if (l4 + (2 : Int32)) < 0 ∨ L ≤ (l4 + (2 : Int32)).toNatClampNeg then none else
        (wd_c (fn_Mo_know (xs (l4 + (1 : Int32)).toNatClampNeg) (xs (l4 + (2 : Int32)).toNatClampNeg) S58) fun x64 S63 =>
        fn_La_law_606 L xs (fn_La_law_23 L xs n) l4 S63))))))
      else
      (if ((xs l4.toNatClampNeg) &&& (15 : Int32)) = (6 : Int32) then
        (if (l4 + (1 : Int32)) < 0 ∨ L ≤ (l4 + (1 : Int32)).toNatClampNeg then none else
        (wd_c (fn_La_make (xs (l4 + (1 : Int32)).toNatClampNeg) S) fun x69 S68 =>
        (if (l4 + (1 : Int32)) < 0 ∨ L ≤ (l4 + (1 : Int32)).toNatClampNeg then none else
        (wd_c (fn_Mo_make (xs (l4 + (1 : Int32)).toNatClampNeg) S68) fun x73 S72 =>
        fn_La_law_606 L xs (fn_La_law_23 L xs n) l4 S72))))
      else
      (if ((xs l4.toNatClampNeg) &&& (15 : Int32)) = (7 : Int32) then
        (if (l4 + (1 : Int32)) < 0 ∨ L ≤ (l4 + (1 : Int32)).toNatClampNeg then none else
        (if (l4 + (2 : Int32)) < 0 ∨ L ≤ (l4 + (2 : Int32)).toNatClampNeg then none else
        (wd_c (fn_La_version (xs (l4 + (1 : Int32)).toNatClampNeg) (xs (l4 + (2 : Int32)).toNatClampNeg) S) fun x79 S78 =>
        (if (l4 + (1 : Int32)) < 0 ∨ L ≤ (l4 + (1 : Int32)).toNatClampNeg then none else
        (if (l4 + (2 : Int32)) < 0 ∨ L ≤ (l4 + (2 : Int32)).toNatClampNeg then none else
        (wd_c (fn_Mo_version (xs (l4 + (1 : Int32)).toNatClampNeg) (xs (l4 + (2 : Int32)).toNatClampNeg) S78) fun x84 S83 =>
        fn_La_law_606 L xs (fn_La_law_23 L xs n) l4 S83))))))
      else
      (if ((xs l4.toNatClampNeg) &&& (15 : Int32)) = (8 : Int32) then
        (if (l4 + (1 : Int32)) < 0 ∨ L ≤ (l4 + (1 : Int32)).toNatClampNeg then none else
        (wd_c (fn_La_told (xs (l4 + (1 : Int32)).toNatClampNeg) S) fun x89 S88 =>
        (if (l4 + (1 : Int32)) < 0 ∨ L ≤ (l4 + (1 : Int32)).toNatClampNeg then none else
        (wd_c (fn_Mo_told (xs (l4 + (1 : Int32)).toNatClampNeg) S88) fun x93 S92 =>
        fn_La_law_606 L xs (fn_La_law_23 L xs n) l4 S92))))
      else
      (if ((xs l4.toNatClampNeg) &&& (15 : Int32)) = (9 : Int32) then
        (wd_c (fn_La_print  S) fun x97 S96 =>
        (wd_c (fn_Mo_print  S96) fun x100 S99 =>
        fn_La_law_606 L xs (fn_La_law_23 L xs n) l4 S99))
      else
      (if ((xs l4.toNatClampNeg) &&& (15 : Int32)) = (10 : Int32) then
        (if (l4 + (1 : Int32)) < 0 ∨ L ≤ (l4 + (1 : Int32)).toNatClampNeg then none else
        (wd_c (fn_La_out (xs (l4 + (1 : Int32)).toNatClampNeg) S) fun x105 S104 =>
        (if (l4 + (1 : Int32)) < 0 ∨ L ≤ (l4 + (1 : Int32)).toNatClampNeg then none else
        (wd_c (fn_Mo_out (xs (l4 + (1 : Int32)).toNatClampNeg) S104) fun x109 S108 =>
        fn_La_law_606 L xs (fn_La_law_23 L xs n) l4 S108))))
      else
      (if ((xs l4.toNatClampNeg) &&& (15 : Int32)) = (11 : Int32) then
        (wd_c (fn_La_back  S) fun x113 S112 =>
        (wd_c (fn_Mo_back  S112) fun x116 S115 =>
        fn_La_law_606 L xs (fn_La_law_23 L xs n) l4 S115))
      else
      (if ((xs l4.toNatClampNeg) &&& (15 : Int32)) = (12 : Int32) then
        (if (l4 + (1 : Int32)) < 0 ∨ L ≤ (l4 + (1 : Int32)).toNatClampNeg then none else
        (wd_c (fn_La_give (xs (l4 + (1 : Int32)).toNatClampNeg) S) fun x121 S120 =>
        (if (l4 + (1 : Int32)) < 0 ∨ L ≤ (l4 + (1 : Int32)).toNatClampNeg then none else
        (wd_c (fn_Mo_give (xs (l4 + (1 : Int32)).toNatClampNeg) S120) fun x125 S124 =>
        fn_La_law_606 L xs (fn_La_law_23 L xs n) l4 S124))))
      else
      (if ((xs l4.toNatClampNeg) &&& (15 : Int32)) = (13 : Int32) then
        (if (l4 + (1 : Int32)) < 0 ∨ L ≤ (l4 + (1 : Int32)).toNatClampNeg then none else
        (if (xs (l4 + (1 : Int32)).toNatClampNeg) = 0 then
          fn_La_law_525 L xs (fn_La_law_23 L xs n) l4 (0 : Int32) S
        else
          fn_La_law_525 L xs (fn_La_law_23 L xs n) l4 (1 : Int32) S))
      else
      (if ((xs l4.toNatClampNeg) &&& (15 : Int32)) = (14 : Int32) then
        (if (l4 + (1 : Int32)) < 0 ∨ L ≤ (l4 + (1 : Int32)).toNatClampNeg then none else
        (wd_c (fn_La_ran (xs (l4 + (1 : Int32)).toNatClampNeg) S) fun x145 S144 =>
        (if (l4 + (1 : Int32)) < 0 ∨ L ≤ (l4 + (1 : Int32)).toNatClampNeg then none else
        (wd_c (fn_Mo_ran (xs (l4 + (1 : Int32)).toNatClampNeg) S144) fun x149 S148 =>
        fn_La_law_606 L xs (fn_La_law_23 L xs n) l4 S148))))
      else
      fn_La_law_606 L xs (fn_La_law_23 L xs n) l4 S)))))))))))))))))
set_option maxRecDepth 100000 in
theorem sn_La_law_23 {L : Nat} {xs : Nat → Int32} : ∀ (n : Nat) {l4 : Int32} {S : wd_S} {x : Int32} {S' : wd_S}, fn_La_law_23 L xs n l4 S = some (x, S') → go_r tb_P L xs 208 0 23 [(0, .ref 0), (1, .ref 1), (2, .ref 135), (3, .ref 180), (4, .int l4)] [] (wd_k S) (.inl (some (.int x)), wd_k S') := by
  intro n
  induction n with
  | zero => intro l4 S x S'  h; cases h
  | succ n ih =>
    intro l4 S x S'  h
    rw [fn_La_law_23] at h
    refine bk_b (q := (26, [(0, .ref 0), (1, .ref 1), (2, .ref 135), (3, .ref 180), (4, .int l4)], [.ref 0, .int l4])) tb_c_0_0 mx_0 2 rfl ?_
    refine bk_l0 tb_c_0_0 rfl rfl ?_
    refine bk_b (q := (30, [(0, .ref 0), (1, .ref 1), (2, .ref 135), (3, .ref 180), (4, .int l4)], [.int ((Int32.ofNat L) - (6 : Int32)), .int l4])) tb_c_0_0 mx_0 2 rfl ?_
    by_cases g1 : ((Int32.ofNat L) - (6 : Int32)) < l4
    · rw [if_pos g1] at h
      refine bk_jt tb_c_0_0 rfl (pc' := 612) rfl (cm_gt_t g1) ?_
      refine bk_b (q := (613, [(0, .ref 0), (1, .ref 1), (2, .ref 135), (3, .ref 180), (4, .int l4)], [.int (1 : Int32)])) tb_c_0_8 mx_0 1 rfl ?_
      cases h
      exact bk_t tb_c_0_8 rfl rfl
    · rw [if_neg g1] at h
      refine bk_jf tb_c_0_0 rfl (pc' := 33) rfl (t := 612) rfl (cm_gt_f g1) ?_
      refine bk_b (q := (36, [(0, .ref 0), (1, .ref 1), (2, .ref 135), (3, .ref 180), (4, .int l4)], [.int l4, .ref 0])) tb_c_0_0 mx_0 2 rfl ?_
      by_cases g2 : l4 < 0 ∨ L ≤ l4.toNatClampNeg
      · rw [if_pos g2] at h; cases h
      · rw [if_neg g2] at h
        refine bk_a0 tb_c_0_0 rfl rfl g2 ?_
        refine bk_b (q := (40, [(0, .ref 0), (1, .ref 1), (2, .ref 135), (3, .ref 180), (4, .int l4)], [.int ((xs l4.toNatClampNeg) &&& (15 : Int32))])) tb_c_0_0 mx_0 2 rfl ?_
        by_cases g3 : ((xs l4.toNatClampNeg) &&& (15 : Int32)) = (0 : Int32)
        · rw [if_pos g3] at h
          refine bk_sw tb_c_0_0 rfl (pc' := 116) (by rw [g3]; rfl) ?_
          refine bk_b (q := (122, [(0, .ref 0), (1, .ref 1), (2, .ref 135), (3, .ref 180), (4, .int l4)], [.int (l4 + (1 : Int32)), .ref 0, .ref 1])) tb_c_0_0 mx_0 5 rfl ?_
          by_cases g4 : (l4 + (1 : Int32)) < 0 ∨ L ≤ (l4 + (1 : Int32)).toNatClampNeg
          · rw [if_pos g4] at h; cases h
          · rw [if_neg g4] at h
            refine bk_a0 tb_c_0_0 rfl rfl g4 ?_
            refine bk_b (q := (128, [(0, .ref 0), (1, .ref 1), (2, .ref 135), (3, .ref 180), (4, .int l4)], [.int (l4 + (2 : Int32)), .ref 0, .int (xs (l4 + (1 : Int32)).toNatClampNeg), .ref 1])) tb_c_0_0 mx_0 4 rfl ?_
            by_cases g5 : (l4 + (2 : Int32)) < 0 ∨ L ≤ (l4 + (2 : Int32)).toNatClampNeg
            · rw [if_pos g5] at h; cases h
            · rw [if_neg g5] at h
              refine bk_a0 tb_c_0_0 rfl rfl g5 ?_
              refine bk_b (q := (134, [(0, .ref 0), (1, .ref 1), (2, .ref 135), (3, .ref 180), (4, .int l4)], [.int (l4 + (3 : Int32)), .ref 0, .int (xs (l4 + (2 : Int32)).toNatClampNeg), .int (xs (l4 + (1 : Int32)).toNatClampNeg), .ref 1])) tb_c_0_0 mx_0 4 rfl ?_
              by_cases g6 : (l4 + (3 : Int32)) < 0 ∨ L ≤ (l4 + (3 : Int32)).toNatClampNeg
              · rw [if_pos g6] at h; cases h
              · rw [if_neg g6] at h
                refine bk_a0 tb_c_0_1 rfl rfl g6 ?_
                refine bk_b (q := (140, [(0, .ref 0), (1, .ref 1), (2, .ref 135), (3, .ref 180), (4, .int l4)], [.int (l4 + (4 : Int32)), .ref 0, .int (xs (l4 + (3 : Int32)).toNatClampNeg), .int (xs (l4 + (2 : Int32)).toNatClampNeg), .int (xs (l4 + (1 : Int32)).toNatClampNeg), .ref 1])) tb_c_0_1 mx_0 4 rfl ?_
                by_cases g7 : (l4 + (4 : Int32)) < 0 ∨ L ≤ (l4 + (4 : Int32)).toNatClampNeg
                · rw [if_pos g7] at h; cases h
                · rw [if_neg g7] at h
                  refine bk_a0 tb_c_0_1 rfl rfl g7 ?_
                  refine bk_b (q := (146, [(0, .ref 0), (1, .ref 1), (2, .ref 135), (3, .ref 180), (4, .int l4)], [.int (l4 + (5 : Int32)), .ref 0, .int (xs (l4 + (4 : Int32)).toNatClampNeg), .int (xs (l4 + (3 : Int32)).toNatClampNeg), .int (xs (l4 + (2 : Int32)).toNatClampNeg), .int (xs (l4 + (1 : Int32)).toNatClampNeg), .ref 1])) tb_c_0_1 mx_0 4 rfl ?_
                  by_cases g8 : (l4 + (5 : Int32)) < 0 ∨ L ≤ (l4 + (5 : Int32)).toNatClampNeg
                  · rw [if_pos g8] at h; cases h
                  · rw [if_neg g8] at h
                    refine bk_a0 tb_c_0_1 rfl rfl g8 ?_
                    refine bk_b (q := (148, [(0, .ref 0), (1, .ref 1), (2, .ref 135), (3, .ref 180), (4, .int l4)], [.ref 180, .int (xs (l4 + (5 : Int32)).toNatClampNeg), .int (xs (l4 + (4 : Int32)).toNatClampNeg), .int (xs (l4 + (3 : Int32)).toNatClampNeg), .int (xs (l4 + (2 : Int32)).toNatClampNeg), .int (xs (l4 + (1 : Int32)).toNatClampNeg), .ref 1])) tb_c_0_1 mx_0 1 rfl ?_
                    obtain ⟨x10, S9, c11, h⟩ := wd_cx h
                    refine bk_ks tb_c_0_1 rfl rfl rfl (by decide) rfl rfl (ev_up (Nat.le_of_ble_eq_true rfl) (sn_La_feed c11)) ?_
                    refine bk_b (q := (159, [(5, .int x10), (0, .ref 0), (1, .ref 1), (2, .ref 135), (3, .ref 180), (4, .int l4)], [.int (l4 + (1 : Int32)), .ref 0, .ref 135])) tb_c_0_1 mx_0 6 rfl ?_
                    by_cases g12 : (l4 + (1 : Int32)) < 0 ∨ L ≤ (l4 + (1 : Int32)).toNatClampNeg
                    · rw [if_pos g12] at h; cases h
                    · rw [if_neg g12] at h
                      refine bk_a0 tb_c_0_1 rfl rfl g12 ?_
                      refine bk_b (q := (165, [(5, .int x10), (0, .ref 0), (1, .ref 1), (2, .ref 135), (3, .ref 180), (4, .int l4)], [.int (l4 + (2 : Int32)), .ref 0, .int (xs (l4 + (1 : Int32)).toNatClampNeg), .ref 135])) tb_c_0_1 mx_0 4 rfl ?_
                      by_cases g13 : (l4 + (2 : Int32)) < 0 ∨ L ≤ (l4 + (2 : Int32)).toNatClampNeg
                      · rw [if_pos g13] at h; cases h
                      · rw [if_neg g13] at h
                        refine bk_a0 tb_c_0_1 rfl rfl g13 ?_
                        refine bk_b (q := (171, [(5, .int x10), (0, .ref 0), (1, .ref 1), (2, .ref 135), (3, .ref 180), (4, .int l4)], [.int (l4 + (3 : Int32)), .ref 0, .int (xs (l4 + (2 : Int32)).toNatClampNeg), .int (xs (l4 + (1 : Int32)).toNatClampNeg), .ref 135])) tb_c_0_1 mx_0 4 rfl ?_
                        by_cases g14 : (l4 + (3 : Int32)) < 0 ∨ L ≤ (l4 + (3 : Int32)).toNatClampNeg
                        · rw [if_pos g14] at h; cases h
                        · rw [if_neg g14] at h
                          refine bk_a0 tb_c_0_1 rfl rfl g14 ?_
                          refine bk_b (q := (177, [(5, .int x10), (0, .ref 0), (1, .ref 1), (2, .ref 135), (3, .ref 180), (4, .int l4)], [.int (l4 + (4 : Int32)), .ref 0, .int (xs (l4 + (3 : Int32)).toNatClampNeg), .int (xs (l4 + (2 : Int32)).toNatClampNeg), .int (xs (l4 + (1 : Int32)).toNatClampNeg), .ref 135])) tb_c_0_1 mx_0 4 rfl ?_
                          by_cases g15 : (l4 + (4 : Int32)) < 0 ∨ L ≤ (l4 + (4 : Int32)).toNatClampNeg
                          · rw [if_pos g15] at h; cases h
                          · rw [if_neg g15] at h
                            refine bk_a0 tb_c_0_1 rfl rfl g15 ?_
                            refine bk_b (q := (183, [(5, .int x10), (0, .ref 0), (1, .ref 1), (2, .ref 135), (3, .ref 180), (4, .int l4)], [.int (l4 + (5 : Int32)), .ref 0, .int (xs (l4 + (4 : Int32)).toNatClampNeg), .int (xs (l4 + (3 : Int32)).toNatClampNeg), .int (xs (l4 + (2 : Int32)).toNatClampNeg), .int (xs (l4 + (1 : Int32)).toNatClampNeg), .ref 135])) tb_c_0_1 mx_0 4 rfl ?_
                            by_cases g16 : (l4 + (5 : Int32)) < 0 ∨ L ≤ (l4 + (5 : Int32)).toNatClampNeg
                            · rw [if_pos g16] at h; cases h
                            · rw [if_neg g16] at h
                              refine bk_a0 tb_c_0_1 rfl rfl g16 ?_
                              obtain ⟨x18, S17, c19, h⟩ := wd_cx h
                              refine bk_kv tb_c_0_2 rfl rfl rfl rfl rfl (ci := 11) rfl rfl (ev_up (Nat.le_of_ble_eq_true rfl) (sn_Mo_feed c19)) ?_
                              refine bk_b (q := (606, [(6, .int x18), (5, .int x10), (0, .ref 0), (1, .ref 1), (2, .ref 135), (3, .ref 180), (4, .int l4)], [])) tb_c_0_2 mx_0 2 rfl ?_
                              exact go_lv (ls_sc rfl rfl (ls_sc rfl rfl (ls_sc rfl rfl (ls_sc rfl rfl (ls_sc rfl rfl ls_nil))))) (sn_La_law_606 ih h)
        · rw [if_neg g3] at h
          by_cases g20 : ((xs l4.toNatClampNeg) &&& (15 : Int32)) = (1 : Int32)
          · rw [if_pos g20] at h
            refine bk_sw tb_c_0_0 rfl (pc' := 192) (by rw [g20]; rfl) ?_
            refine bk_b (q := (198, [(0, .ref 0), (1, .ref 1), (2, .ref 135), (3, .ref 180), (4, .int l4)], [.int (l4 + (1 : Int32)), .ref 0, .ref 1])) tb_c_0_2 mx_0 5 rfl ?_
            by_cases g21 : (l4 + (1 : Int32)) < 0 ∨ L ≤ (l4 + (1 : Int32)).toNatClampNeg
            · rw [if_pos g21] at h; cases h
            · rw [if_neg g21] at h
              refine bk_a0 tb_c_0_2 rfl rfl g21 ?_
              refine bk_b (q := (200, [(0, .ref 0), (1, .ref 1), (2, .ref 135), (3, .ref 180), (4, .int l4)], [.ref 180, .int (xs (l4 + (1 : Int32)).toNatClampNeg), .ref 1])) tb_c_0_2 mx_0 1 rfl ?_
              obtain ⟨x23, S22, c24, h⟩ := wd_cx h
              refine bk_ks tb_c_0_2 rfl rfl rfl (by decide) rfl rfl (ev_up (Nat.le_of_ble_eq_true rfl) (sn_La_cut c24)) ?_
              refine bk_b (q := (211, [(5, .int x23), (0, .ref 0), (1, .ref 1), (2, .ref 135), (3, .ref 180), (4, .int l4)], [.int (l4 + (1 : Int32)), .ref 0, .ref 135])) tb_c_0_2 mx_0 6 rfl ?_
              by_cases g25 : (l4 + (1 : Int32)) < 0 ∨ L ≤ (l4 + (1 : Int32)).toNatClampNeg
              · rw [if_pos g25] at h; cases h
              · rw [if_neg g25] at h
                refine bk_a0 tb_c_0_2 rfl rfl g25 ?_
                obtain ⟨x27, S26, c28, h⟩ := wd_cx h
                refine bk_kv tb_c_0_2 rfl rfl rfl rfl rfl (ci := 11) rfl rfl (ev_up (Nat.le_of_ble_eq_true rfl) (sn_Mo_cut c28)) ?_
                refine bk_b (q := (606, [(6, .int x27), (5, .int x23), (0, .ref 0), (1, .ref 1), (2, .ref 135), (3, .ref 180), (4, .int l4)], [])) tb_c_0_2 mx_0 2 rfl ?_
                exact go_lv (ls_sc rfl rfl (ls_sc rfl rfl (ls_sc rfl rfl (ls_sc rfl rfl (ls_sc rfl rfl ls_nil))))) (sn_La_law_606 ih h)
          · rw [if_neg g20] at h
            by_cases g29 : ((xs l4.toNatClampNeg) &&& (15 : Int32)) = (2 : Int32)
            · rw [if_pos g29] at h
              refine bk_sw tb_c_0_0 rfl (pc' := 220) (by rw [g29]; rfl) ?_
              refine bk_b (q := (221, [(0, .ref 0), (1, .ref 1), (2, .ref 135), (3, .ref 180), (4, .int l4)], [.ref 1])) tb_c_0_2 mx_0 1 rfl ?_
              obtain ⟨x31, S30, c32, h⟩ := wd_cx h
              refine bk_kv tb_c_0_2 rfl rfl rfl rfl rfl (ci := 10) rfl rfl (ev_up (Nat.le_of_ble_eq_true rfl) (sn_Sp_read c32)) ?_
              refine bk_b (q := (225, [(0, .ref 0), (1, .ref 1), (2, .ref 135), (3, .ref 180), (4, .int l4)], [.ref 135, .int x31])) tb_c_0_2 mx_0 1 rfl ?_
              obtain ⟨x34, S33, c35, h⟩ := wd_cx h
              refine bk_kv tb_c_0_2 rfl rfl rfl rfl rfl (ci := 11) rfl rfl (ev_up (Nat.le_of_ble_eq_true rfl) (sn_Mo_read c35)) ?_
              by_cases g36 : x31 = x34
              · rw [if_pos g36] at h
                refine bk_jt tb_c_0_2 rfl (pc' := 606) rfl (cm_eq_t g36) ?_
                exact go_lv (ls_sc rfl rfl (ls_sc rfl rfl (ls_sc rfl rfl (ls_sc rfl rfl (ls_sc rfl rfl ls_nil))))) (sn_La_law_606 ih h)
              · rw [if_neg g36] at h
                refine bk_jf tb_c_0_2 rfl (pc' := 231) rfl (t := 606) rfl (cm_eq_f g36) ?_
                refine bk_b (q := (232, [(0, .ref 0), (1, .ref 1), (2, .ref 135), (3, .ref 180), (4, .int l4)], [.int (0 : Int32)])) tb_c_0_2 mx_0 1 rfl ?_
                cases h
                exact bk_t tb_c_0_2 rfl rfl
            · rw [if_neg g29] at h
              by_cases g37 : ((xs l4.toNatClampNeg) &&& (15 : Int32)) = (3 : Int32)
              · rw [if_pos g37] at h
                refine bk_sw tb_c_0_0 rfl (pc' := 233) (by rw [g37]; rfl) ?_
                refine bk_b (q := (234, [(0, .ref 0), (1, .ref 1), (2, .ref 135), (3, .ref 180), (4, .int l4)], [.ref 1])) tb_c_0_2 mx_0 1 rfl ?_
                obtain ⟨x39, S38, c40, h⟩ := wd_cx h
                refine bk_kv tb_c_0_2 rfl rfl rfl rfl rfl (ci := 10) rfl rfl (ev_up (Nat.le_of_ble_eq_true rfl) (sn_Sp_place c40)) ?_
                refine bk_b (q := (239, [(0, .ref 0), (1, .ref 1), (2, .ref 135), (3, .ref 180), (4, .int l4)], [.ref 135])) tb_c_0_2 mx_0 2 rfl ?_
                obtain ⟨x42, S41, c43, h⟩ := wd_cx h
                refine bk_kv tb_c_0_2 rfl rfl rfl rfl rfl (ci := 11) rfl rfl (ev_up (Nat.le_of_ble_eq_true rfl) (sn_Mo_place c43)) ?_
                refine bk_b (q := (606, [(0, .ref 0), (1, .ref 1), (2, .ref 135), (3, .ref 180), (4, .int l4)], [])) tb_c_0_2 mx_0 2 rfl ?_
                exact go_lv (ls_sc rfl rfl (ls_sc rfl rfl (ls_sc rfl rfl (ls_sc rfl rfl (ls_sc rfl rfl ls_nil))))) (sn_La_law_606 ih h)
              · rw [if_neg g37] at h
                by_cases g44 : ((xs l4.toNatClampNeg) &&& (15 : Int32)) = (4 : Int32)
                · rw [if_pos g44] at h
                  refine bk_sw tb_c_0_0 rfl (pc' := 246) (by rw [g44]; rfl) ?_
                  refine bk_b (q := (252, [(0, .ref 0), (1, .ref 1), (2, .ref 135), (3, .ref 180), (4, .int l4)], [.int (l4 + (1 : Int32)), .ref 0, .ref 1])) tb_c_0_2 mx_0 5 rfl ?_
                  by_cases g45 : (l4 + (1 : Int32)) < 0 ∨ L ≤ (l4 + (1 : Int32)).toNatClampNeg
                  · rw [if_pos g45] at h; cases h
                  · rw [if_neg g45] at h
                    refine bk_a0 tb_c_0_3 rfl rfl g45 ?_
                    refine bk_b (q := (258, [(0, .ref 0), (1, .ref 1), (2, .ref 135), (3, .ref 180), (4, .int l4)], [.int (l4 + (2 : Int32)), .ref 0, .int (xs (l4 + (1 : Int32)).toNatClampNeg), .ref 1])) tb_c_0_3 mx_0 4 rfl ?_
                    by_cases g46 : (l4 + (2 : Int32)) < 0 ∨ L ≤ (l4 + (2 : Int32)).toNatClampNeg
                    · rw [if_pos g46] at h; cases h
                    · rw [if_neg g46] at h
                      refine bk_a0 tb_c_0_3 rfl rfl g46 ?_
                      refine bk_b (q := (260, [(0, .ref 0), (1, .ref 1), (2, .ref 135), (3, .ref 180), (4, .int l4)], [.ref 180, .int (xs (l4 + (2 : Int32)).toNatClampNeg), .int (xs (l4 + (1 : Int32)).toNatClampNeg), .ref 1])) tb_c_0_3 mx_0 1 rfl ?_
                      obtain ⟨x48, S47, c49, h⟩ := wd_cx h
                      refine bk_ks tb_c_0_3 rfl rfl rfl (by decide) rfl rfl (ev_up (Nat.le_of_ble_eq_true rfl) (sn_La_function c49)) ?_
                      refine bk_b (q := (271, [(5, .int x48), (0, .ref 0), (1, .ref 1), (2, .ref 135), (3, .ref 180), (4, .int l4)], [.int (l4 + (1 : Int32)), .ref 0, .ref 135])) tb_c_0_3 mx_0 6 rfl ?_
                      by_cases g50 : (l4 + (1 : Int32)) < 0 ∨ L ≤ (l4 + (1 : Int32)).toNatClampNeg
                      · rw [if_pos g50] at h; cases h
                      · rw [if_neg g50] at h
                        refine bk_a0 tb_c_0_3 rfl rfl g50 ?_
                        refine bk_b (q := (277, [(5, .int x48), (0, .ref 0), (1, .ref 1), (2, .ref 135), (3, .ref 180), (4, .int l4)], [.int (l4 + (2 : Int32)), .ref 0, .int (xs (l4 + (1 : Int32)).toNatClampNeg), .ref 135])) tb_c_0_3 mx_0 4 rfl ?_
                        by_cases g51 : (l4 + (2 : Int32)) < 0 ∨ L ≤ (l4 + (2 : Int32)).toNatClampNeg
                        · rw [if_pos g51] at h; cases h
                        · rw [if_neg g51] at h
                          refine bk_a0 tb_c_0_3 rfl rfl g51 ?_
                          obtain ⟨x53, S52, c54, h⟩ := wd_cx h
                          refine bk_kv tb_c_0_3 rfl rfl rfl rfl rfl (ci := 11) rfl rfl (ev_up (Nat.le_of_ble_eq_true rfl) (sn_Mo_function c54)) ?_
                          refine bk_b (q := (606, [(6, .int x53), (5, .int x48), (0, .ref 0), (1, .ref 1), (2, .ref 135), (3, .ref 180), (4, .int l4)], [])) tb_c_0_3 mx_0 2 rfl ?_
                          exact go_lv (ls_sc rfl rfl (ls_sc rfl rfl (ls_sc rfl rfl (ls_sc rfl rfl (ls_sc rfl rfl ls_nil))))) (sn_La_law_606 ih h)
                · rw [if_neg g44] at h
                  by_cases g55 : ((xs l4.toNatClampNeg) &&& (15 : Int32)) = (5 : Int32)
                  · rw [if_pos g55] at h
                    refine bk_sw tb_c_0_0 rfl (pc' := 286) (by rw [g55]; rfl) ?_
                    refine bk_b (q := (292, [(0, .ref 0), (1, .ref 1), (2, .ref 135), (3, .ref 180), (4, .int l4)], [.int (l4 + (1 : Int32)), .ref 0, .ref 1])) tb_c_0_3 mx_0 5 rfl ?_
                    by_cases g56 : (l4 + (1 : Int32)) < 0 ∨ L ≤ (l4 + (1 : Int32)).toNatClampNeg
                    · rw [if_pos g56] at h; cases h
                    · rw [if_neg g56] at h
                      refine bk_a0 tb_c_0_3 rfl rfl g56 ?_
                      refine bk_b (q := (298, [(0, .ref 0), (1, .ref 1), (2, .ref 135), (3, .ref 180), (4, .int l4)], [.int (l4 + (2 : Int32)), .ref 0, .int (xs (l4 + (1 : Int32)).toNatClampNeg), .ref 1])) tb_c_0_3 mx_0 4 rfl ?_
                      by_cases g57 : (l4 + (2 : Int32)) < 0 ∨ L ≤ (l4 + (2 : Int32)).toNatClampNeg
                      · rw [if_pos g57] at h; cases h
                      · rw [if_neg g57] at h
                        refine bk_a0 tb_c_0_3 rfl rfl g57 ?_
                        refine bk_b (q := (300, [(0, .ref 0), (1, .ref 1), (2, .ref 135), (3, .ref 180), (4, .int l4)], [.ref 180, .int (xs (l4 + (2 : Int32)).toNatClampNeg), .int (xs (l4 + (1 : Int32)).toNatClampNeg), .ref 1])) tb_c_0_3 mx_0 1 rfl ?_
                        obtain ⟨x59, S58, c60, h⟩ := wd_cx h
                        refine bk_ks tb_c_0_3 rfl rfl rfl (by decide) rfl rfl (ev_up (Nat.le_of_ble_eq_true rfl) (sn_La_know c60)) ?_
                        refine bk_b (q := (309, [(5, .int x59), (0, .ref 0), (1, .ref 1), (2, .ref 135), (3, .ref 180), (4, .int l4)], [.int l4, .ref 0, .ref 135])) tb_c_0_3 mx_0 4 rfl ?_
                        refine bk_b (q := (311, [(5, .int x59), (0, .ref 0), (1, .ref 1), (2, .ref 135), (3, .ref 180), (4, .int l4)], [.int (l4 + (1 : Int32)), .ref 0, .ref 135])) tb_c_0_4 mx_0 2 rfl ?_
                        by_cases g61 : (l4 + (1 : Int32)) < 0 ∨ L ≤ (l4 + (1 : Int32)).toNatClampNeg
                        · rw [if_pos g61] at h; cases h
                        · rw [if_neg g61] at h
                          refine bk_a0 tb_c_0_4 rfl rfl g61 ?_
                          refine bk_b (q := (317, [(5, .int x59), (0, .ref 0), (1, .ref 1), (2, .ref 135), (3, .ref 180), (4, .int l4)], [.int (l4 + (2 : Int32)), .ref 0, .int (xs (l4 + (1 : Int32)).toNatClampNeg), .ref 135])) tb_c_0_4 mx_0 4 rfl ?_
                          by_cases g62 : (l4 + (2 : Int32)) < 0 ∨ L ≤ (l4 + (2 : Int32)).toNatClampNeg
                          · rw [if_pos g62] at h; cases h
                          · rw [if_neg g62] at h
                            refine bk_a0 tb_c_0_4 rfl rfl g62 ?_
                            obtain ⟨x64, S63, c65, h⟩ := wd_cx h
                            refine bk_kv tb_c_0_4 rfl rfl rfl rfl rfl (ci := 11) rfl rfl (ev_up (Nat.le_of_ble_eq_true rfl) (sn_Mo_know c65)) ?_
                            refine bk_b (q := (606, [(6, .int x64), (5, .int x59), (0, .ref 0), (1, .ref 1), (2, .ref 135), (3, .ref 180), (4, .int l4)], [])) tb_c_0_4 mx_0 2 rfl ?_
                            exact go_lv (ls_sc rfl rfl (ls_sc rfl rfl (ls_sc rfl rfl (ls_sc rfl rfl (ls_sc rfl rfl ls_nil))))) (sn_La_law_606 ih h)
                  · rw [if_neg g55] at h
                    by_cases g66 : ((xs l4.toNatClampNeg) &&& (15 : Int32)) = (6 : Int32)
                    · rw [if_pos g66] at h
                      refine bk_sw tb_c_0_0 rfl (pc' := 326) (by rw [g66]; rfl) ?_
                      refine bk_b (q := (332, [(0, .ref 0), (1, .ref 1), (2, .ref 135), (3, .ref 180), (4, .int l4)], [.int (l4 + (1 : Int32)), .ref 0, .ref 1])) tb_c_0_4 mx_0 5 rfl ?_
                      by_cases g67 : (l4 + (1 : Int32)) < 0 ∨ L ≤ (l4 + (1 : Int32)).toNatClampNeg
                      · rw [if_pos g67] at h; cases h
                      · rw [if_neg g67] at h
                        refine bk_a0 tb_c_0_4 rfl rfl g67 ?_
                        refine bk_b (q := (334, [(0, .ref 0), (1, .ref 1), (2, .ref 135), (3, .ref 180), (4, .int l4)], [.ref 180, .int (xs (l4 + (1 : Int32)).toNatClampNeg), .ref 1])) tb_c_0_4 mx_0 1 rfl ?_
                        obtain ⟨x69, S68, c70, h⟩ := wd_cx h
                        refine bk_ks tb_c_0_4 rfl rfl rfl (by decide) rfl rfl (ev_up (Nat.le_of_ble_eq_true rfl) (sn_La_make c70)) ?_
                        refine bk_b (q := (345, [(5, .int x69), (0, .ref 0), (1, .ref 1), (2, .ref 135), (3, .ref 180), (4, .int l4)], [.int (l4 + (1 : Int32)), .ref 0, .ref 135])) tb_c_0_4 mx_0 6 rfl ?_
                        by_cases g71 : (l4 + (1 : Int32)) < 0 ∨ L ≤ (l4 + (1 : Int32)).toNatClampNeg
                        · rw [if_pos g71] at h; cases h
                        · rw [if_neg g71] at h
                          refine bk_a0 tb_c_0_4 rfl rfl g71 ?_
                          obtain ⟨x73, S72, c74, h⟩ := wd_cx h
                          refine bk_kv tb_c_0_4 rfl rfl rfl rfl rfl (ci := 11) rfl rfl (ev_up (Nat.le_of_ble_eq_true rfl) (sn_Mo_make c74)) ?_
                          refine bk_b (q := (606, [(6, .int x73), (5, .int x69), (0, .ref 0), (1, .ref 1), (2, .ref 135), (3, .ref 180), (4, .int l4)], [])) tb_c_0_4 mx_0 2 rfl ?_
                          exact go_lv (ls_sc rfl rfl (ls_sc rfl rfl (ls_sc rfl rfl (ls_sc rfl rfl (ls_sc rfl rfl ls_nil))))) (sn_La_law_606 ih h)
                    · rw [if_neg g66] at h
                      by_cases g75 : ((xs l4.toNatClampNeg) &&& (15 : Int32)) = (7 : Int32)
                      · rw [if_pos g75] at h
                        refine bk_sw tb_c_0_0 rfl (pc' := 354) (by rw [g75]; rfl) ?_
                        refine bk_b (q := (360, [(0, .ref 0), (1, .ref 1), (2, .ref 135), (3, .ref 180), (4, .int l4)], [.int (l4 + (1 : Int32)), .ref 0, .ref 1])) tb_c_0_4 mx_0 5 rfl ?_
                        by_cases g76 : (l4 + (1 : Int32)) < 0 ∨ L ≤ (l4 + (1 : Int32)).toNatClampNeg
                        · rw [if_pos g76] at h; cases h
                        · rw [if_neg g76] at h
                          refine bk_a0 tb_c_0_4 rfl rfl g76 ?_
                          refine bk_b (q := (366, [(0, .ref 0), (1, .ref 1), (2, .ref 135), (3, .ref 180), (4, .int l4)], [.int (l4 + (2 : Int32)), .ref 0, .int (xs (l4 + (1 : Int32)).toNatClampNeg), .ref 1])) tb_c_0_4 mx_0 4 rfl ?_
                          by_cases g77 : (l4 + (2 : Int32)) < 0 ∨ L ≤ (l4 + (2 : Int32)).toNatClampNeg
                          · rw [if_pos g77] at h; cases h
                          · rw [if_neg g77] at h
                            refine bk_a0 tb_c_0_4 rfl rfl g77 ?_
                            refine bk_b (q := (368, [(0, .ref 0), (1, .ref 1), (2, .ref 135), (3, .ref 180), (4, .int l4)], [.ref 180, .int (xs (l4 + (2 : Int32)).toNatClampNeg), .int (xs (l4 + (1 : Int32)).toNatClampNeg), .ref 1])) tb_c_0_5 mx_0 1 rfl ?_
                            obtain ⟨x79, S78, c80, h⟩ := wd_cx h
                            refine bk_ks tb_c_0_5 rfl rfl rfl (by decide) rfl rfl (ev_up (Nat.le_of_ble_eq_true rfl) (sn_La_version c80)) ?_
                            refine bk_b (q := (379, [(5, .int x79), (0, .ref 0), (1, .ref 1), (2, .ref 135), (3, .ref 180), (4, .int l4)], [.int (l4 + (1 : Int32)), .ref 0, .ref 135])) tb_c_0_5 mx_0 6 rfl ?_
                            by_cases g81 : (l4 + (1 : Int32)) < 0 ∨ L ≤ (l4 + (1 : Int32)).toNatClampNeg
                            · rw [if_pos g81] at h; cases h
                            · rw [if_neg g81] at h
                              refine bk_a0 tb_c_0_5 rfl rfl g81 ?_
                              refine bk_b (q := (385, [(5, .int x79), (0, .ref 0), (1, .ref 1), (2, .ref 135), (3, .ref 180), (4, .int l4)], [.int (l4 + (2 : Int32)), .ref 0, .int (xs (l4 + (1 : Int32)).toNatClampNeg), .ref 135])) tb_c_0_5 mx_0 4 rfl ?_
                              by_cases g82 : (l4 + (2 : Int32)) < 0 ∨ L ≤ (l4 + (2 : Int32)).toNatClampNeg
                              · rw [if_pos g82] at h; cases h
                              · rw [if_neg g82] at h
                                refine bk_a0 tb_c_0_5 rfl rfl g82 ?_
                                obtain ⟨x84, S83, c85, h⟩ := wd_cx h
                                refine bk_kv tb_c_0_5 rfl rfl rfl rfl rfl (ci := 11) rfl rfl (ev_up (Nat.le_of_ble_eq_true rfl) (sn_Mo_version c85)) ?_
                                refine bk_b (q := (606, [(6, .int x84), (5, .int x79), (0, .ref 0), (1, .ref 1), (2, .ref 135), (3, .ref 180), (4, .int l4)], [])) tb_c_0_5 mx_0 2 rfl ?_
                                exact go_lv (ls_sc rfl rfl (ls_sc rfl rfl (ls_sc rfl rfl (ls_sc rfl rfl (ls_sc rfl rfl ls_nil))))) (sn_La_law_606 ih h)
                      · rw [if_neg g75] at h
                        by_cases g86 : ((xs l4.toNatClampNeg) &&& (15 : Int32)) = (8 : Int32)
                        · rw [if_pos g86] at h
                          refine bk_sw tb_c_0_0 rfl (pc' := 394) (by rw [g86]; rfl) ?_
                          refine bk_b (q := (400, [(0, .ref 0), (1, .ref 1), (2, .ref 135), (3, .ref 180), (4, .int l4)], [.int (l4 + (1 : Int32)), .ref 0, .ref 1])) tb_c_0_5 mx_0 5 rfl ?_
                          by_cases g87 : (l4 + (1 : Int32)) < 0 ∨ L ≤ (l4 + (1 : Int32)).toNatClampNeg
                          · rw [if_pos g87] at h; cases h
                          · rw [if_neg g87] at h
                            refine bk_a0 tb_c_0_5 rfl rfl g87 ?_
                            refine bk_b (q := (402, [(0, .ref 0), (1, .ref 1), (2, .ref 135), (3, .ref 180), (4, .int l4)], [.ref 180, .int (xs (l4 + (1 : Int32)).toNatClampNeg), .ref 1])) tb_c_0_5 mx_0 1 rfl ?_
                            obtain ⟨x89, S88, c90, h⟩ := wd_cx h
                            refine bk_ks tb_c_0_5 rfl rfl rfl (by decide) rfl rfl (ev_up (Nat.le_of_ble_eq_true rfl) (sn_La_told c90)) ?_
                            refine bk_b (q := (413, [(5, .int x89), (0, .ref 0), (1, .ref 1), (2, .ref 135), (3, .ref 180), (4, .int l4)], [.int (l4 + (1 : Int32)), .ref 0, .ref 135])) tb_c_0_5 mx_0 6 rfl ?_
                            by_cases g91 : (l4 + (1 : Int32)) < 0 ∨ L ≤ (l4 + (1 : Int32)).toNatClampNeg
                            · rw [if_pos g91] at h; cases h
                            · rw [if_neg g91] at h
                              refine bk_a0 tb_c_0_5 rfl rfl g91 ?_
                              obtain ⟨x93, S92, c94, h⟩ := wd_cx h
                              refine bk_kv tb_c_0_5 rfl rfl rfl rfl rfl (ci := 11) rfl rfl (ev_up (Nat.le_of_ble_eq_true rfl) (sn_Mo_told c94)) ?_
                              refine bk_b (q := (606, [(6, .int x93), (5, .int x89), (0, .ref 0), (1, .ref 1), (2, .ref 135), (3, .ref 180), (4, .int l4)], [])) tb_c_0_5 mx_0 2 rfl ?_
                              exact go_lv (ls_sc rfl rfl (ls_sc rfl rfl (ls_sc rfl rfl (ls_sc rfl rfl (ls_sc rfl rfl ls_nil))))) (sn_La_law_606 ih h)
                        · rw [if_neg g86] at h
                          by_cases g95 : ((xs l4.toNatClampNeg) &&& (15 : Int32)) = (9 : Int32)
                          · rw [if_pos g95] at h
                            refine bk_sw tb_c_0_0 rfl (pc' := 422) (by rw [g95]; rfl) ?_
                            refine bk_b (q := (424, [(0, .ref 0), (1, .ref 1), (2, .ref 135), (3, .ref 180), (4, .int l4)], [.ref 180, .ref 1])) tb_c_0_5 mx_0 2 rfl ?_
                            obtain ⟨x97, S96, c98, h⟩ := wd_cx h
                            refine bk_ks tb_c_0_5 rfl rfl rfl (by decide) rfl rfl (ev_up (Nat.le_of_ble_eq_true rfl) (sn_La_print c98)) ?_
                            refine bk_b (q := (430, [(5, .int x97), (0, .ref 0), (1, .ref 1), (2, .ref 135), (3, .ref 180), (4, .int l4)], [.ref 135])) tb_c_0_5 mx_0 2 rfl ?_
                            obtain ⟨x100, S99, c101, h⟩ := wd_cx h
                            refine bk_kv tb_c_0_6 rfl rfl rfl rfl rfl (ci := 11) rfl rfl (ev_up (Nat.le_of_ble_eq_true rfl) (sn_Mo_print c101)) ?_
                            refine bk_b (q := (606, [(6, .int x100), (5, .int x97), (0, .ref 0), (1, .ref 1), (2, .ref 135), (3, .ref 180), (4, .int l4)], [])) tb_c_0_6 mx_0 2 rfl ?_
                            exact go_lv (ls_sc rfl rfl (ls_sc rfl rfl (ls_sc rfl rfl (ls_sc rfl rfl (ls_sc rfl rfl ls_nil))))) (sn_La_law_606 ih h)
                          · rw [if_neg g95] at h
                            by_cases g102 : ((xs l4.toNatClampNeg) &&& (15 : Int32)) = (10 : Int32)
                            · rw [if_pos g102] at h
                              refine bk_sw tb_c_0_0 rfl (pc' := 438) (by rw [g102]; rfl) ?_
                              refine bk_b (q := (444, [(0, .ref 0), (1, .ref 1), (2, .ref 135), (3, .ref 180), (4, .int l4)], [.int (l4 + (1 : Int32)), .ref 0, .ref 1])) tb_c_0_6 mx_0 5 rfl ?_
                              by_cases g103 : (l4 + (1 : Int32)) < 0 ∨ L ≤ (l4 + (1 : Int32)).toNatClampNeg
                              · rw [if_pos g103] at h; cases h
                              · rw [if_neg g103] at h
                                refine bk_a0 tb_c_0_6 rfl rfl g103 ?_
                                refine bk_b (q := (446, [(0, .ref 0), (1, .ref 1), (2, .ref 135), (3, .ref 180), (4, .int l4)], [.ref 180, .int (xs (l4 + (1 : Int32)).toNatClampNeg), .ref 1])) tb_c_0_6 mx_0 1 rfl ?_
                                obtain ⟨x105, S104, c106, h⟩ := wd_cx h
                                refine bk_ks tb_c_0_6 rfl rfl rfl (by decide) rfl rfl (ev_up (Nat.le_of_ble_eq_true rfl) (sn_La_out c106)) ?_
                                refine bk_b (q := (457, [(5, .int x105), (0, .ref 0), (1, .ref 1), (2, .ref 135), (3, .ref 180), (4, .int l4)], [.int (l4 + (1 : Int32)), .ref 0, .ref 135])) tb_c_0_6 mx_0 6 rfl ?_
                                by_cases g107 : (l4 + (1 : Int32)) < 0 ∨ L ≤ (l4 + (1 : Int32)).toNatClampNeg
                                · rw [if_pos g107] at h; cases h
                                · rw [if_neg g107] at h
                                  refine bk_a0 tb_c_0_6 rfl rfl g107 ?_
                                  obtain ⟨x109, S108, c110, h⟩ := wd_cx h
                                  refine bk_kv tb_c_0_6 rfl rfl rfl rfl rfl (ci := 11) rfl rfl (ev_up (Nat.le_of_ble_eq_true rfl) (sn_Mo_out c110)) ?_
                                  refine bk_b (q := (606, [(6, .int x109), (5, .int x105), (0, .ref 0), (1, .ref 1), (2, .ref 135), (3, .ref 180), (4, .int l4)], [])) tb_c_0_6 mx_0 2 rfl ?_
                                  exact go_lv (ls_sc rfl rfl (ls_sc rfl rfl (ls_sc rfl rfl (ls_sc rfl rfl (ls_sc rfl rfl ls_nil))))) (sn_La_law_606 ih h)
                            · rw [if_neg g102] at h
                              by_cases g111 : ((xs l4.toNatClampNeg) &&& (15 : Int32)) = (11 : Int32)
                              · rw [if_pos g111] at h
                                refine bk_sw tb_c_0_0 rfl (pc' := 466) (by rw [g111]; rfl) ?_
                                refine bk_b (q := (468, [(0, .ref 0), (1, .ref 1), (2, .ref 135), (3, .ref 180), (4, .int l4)], [.ref 180, .ref 1])) tb_c_0_6 mx_0 2 rfl ?_
                                obtain ⟨x113, S112, c114, h⟩ := wd_cx h
                                refine bk_ks tb_c_0_6 rfl rfl rfl (by decide) rfl rfl (ev_up (Nat.le_of_ble_eq_true rfl) (sn_La_back c114)) ?_
                                refine bk_b (q := (474, [(5, .int x113), (0, .ref 0), (1, .ref 1), (2, .ref 135), (3, .ref 180), (4, .int l4)], [.ref 135])) tb_c_0_6 mx_0 2 rfl ?_
                                obtain ⟨x116, S115, c117, h⟩ := wd_cx h
                                refine bk_kv tb_c_0_6 rfl rfl rfl rfl rfl (ci := 11) rfl rfl (ev_up (Nat.le_of_ble_eq_true rfl) (sn_Mo_back c117)) ?_
                                refine bk_b (q := (606, [(6, .int x116), (5, .int x113), (0, .ref 0), (1, .ref 1), (2, .ref 135), (3, .ref 180), (4, .int l4)], [])) tb_c_0_6 mx_0 2 rfl ?_
                                exact go_lv (ls_sc rfl rfl (ls_sc rfl rfl (ls_sc rfl rfl (ls_sc rfl rfl (ls_sc rfl rfl ls_nil))))) (sn_La_law_606 ih h)
                              · rw [if_neg g111] at h
                                by_cases g118 : ((xs l4.toNatClampNeg) &&& (15 : Int32)) = (12 : Int32)
                                · rw [if_pos g118] at h
                                  refine bk_sw tb_c_0_0 rfl (pc' := 482) (by rw [g118]; rfl) ?_
                                  refine bk_b (q := (488, [(0, .ref 0), (1, .ref 1), (2, .ref 135), (3, .ref 180), (4, .int l4)], [.int (l4 + (1 : Int32)), .ref 0, .ref 1])) tb_c_0_6 mx_0 5 rfl ?_
                                  by_cases g119 : (l4 + (1 : Int32)) < 0 ∨ L ≤ (l4 + (1 : Int32)).toNatClampNeg
                                  · rw [if_pos g119] at h; cases h
                                  · rw [if_neg g119] at h
                                    refine bk_a0 tb_c_0_6 rfl rfl g119 ?_
                                    refine bk_b (q := (490, [(0, .ref 0), (1, .ref 1), (2, .ref 135), (3, .ref 180), (4, .int l4)], [.ref 180, .int (xs (l4 + (1 : Int32)).toNatClampNeg), .ref 1])) tb_c_0_6 mx_0 1 rfl ?_
                                    obtain ⟨x121, S120, c122, h⟩ := wd_cx h
                                    refine bk_ks tb_c_0_6 rfl rfl rfl (by decide) rfl rfl (ev_up (Nat.le_of_ble_eq_true rfl) (sn_La_give c122)) ?_
                                    refine bk_b (q := (497, [(5, .int x121), (0, .ref 0), (1, .ref 1), (2, .ref 135), (3, .ref 180), (4, .int l4)], [.ref 0, .ref 135])) tb_c_0_6 mx_0 3 rfl ?_
                                    refine bk_b (q := (501, [(5, .int x121), (0, .ref 0), (1, .ref 1), (2, .ref 135), (3, .ref 180), (4, .int l4)], [.int (l4 + (1 : Int32)), .ref 0, .ref 135])) tb_c_0_7 mx_0 3 rfl ?_
                                    by_cases g123 : (l4 + (1 : Int32)) < 0 ∨ L ≤ (l4 + (1 : Int32)).toNatClampNeg
                                    · rw [if_pos g123] at h; cases h
                                    · rw [if_neg g123] at h
                                      refine bk_a0 tb_c_0_7 rfl rfl g123 ?_
                                      obtain ⟨x125, S124, c126, h⟩ := wd_cx h
                                      refine bk_kv tb_c_0_7 rfl rfl rfl rfl rfl (ci := 11) rfl rfl (ev_up (Nat.le_of_ble_eq_true rfl) (sn_Mo_give c126)) ?_
                                      refine bk_b (q := (606, [(6, .int x125), (5, .int x121), (0, .ref 0), (1, .ref 1), (2, .ref 135), (3, .ref 180), (4, .int l4)], [])) tb_c_0_7 mx_0 2 rfl ?_
                                      exact go_lv (ls_sc rfl rfl (ls_sc rfl rfl (ls_sc rfl rfl (ls_sc rfl rfl (ls_sc rfl rfl ls_nil))))) (sn_La_law_606 ih h)
                                · rw [if_neg g118] at h
                                  by_cases g127 : ((xs l4.toNatClampNeg) &&& (15 : Int32)) = (13 : Int32)
                                  · rw [if_pos g127] at h
                                    refine bk_sw tb_c_0_0 rfl (pc' := 510) (by rw [g127]; rfl) ?_
                                    refine bk_b (q := (516, [(0, .ref 0), (1, .ref 1), (2, .ref 135), (3, .ref 180), (4, .int l4)], [.int (l4 + (1 : Int32)), .ref 0, .ref 1])) tb_c_0_7 mx_0 5 rfl ?_
                                    by_cases g128 : (l4 + (1 : Int32)) < 0 ∨ L ≤ (l4 + (1 : Int32)).toNatClampNeg
                                    · rw [if_pos g128] at h; cases h
                                    · rw [if_neg g128] at h
                                      refine bk_a0 tb_c_0_7 rfl rfl g128 ?_
                                      by_cases g129 : (xs (l4 + (1 : Int32)).toNatClampNeg) = 0
                                      · rw [if_pos g129] at h
                                        refine bk_zt tb_c_0_7 rfl (pc' := 524) rfl (cm_eq_t g129) ?_
                                        refine bk_b (q := (525, [(0, .ref 0), (1, .ref 1), (2, .ref 135), (3, .ref 180), (4, .int l4)], [.int (0 : Int32), .ref 1])) tb_c_0_7 mx_0 1 rfl ?_
                                        exact go_lv (ls_sc rfl rfl (ls_sc rfl rfl (ls_sc rfl rfl (ls_sc rfl rfl (ls_sc rfl rfl ls_nil))))) (sn_La_law_525 ih h)
                                      · rw [if_neg g129] at h
                                        refine bk_zf tb_c_0_7 rfl (pc' := 520) rfl (t := 524) rfl (cm_eq_f g129) ?_
                                        refine bk_b (q := (525, [(0, .ref 0), (1, .ref 1), (2, .ref 135), (3, .ref 180), (4, .int l4)], [.int (1 : Int32), .ref 1])) tb_c_0_7 mx_0 2 rfl ?_
                                        exact go_lv (ls_sc rfl rfl (ls_sc rfl rfl (ls_sc rfl rfl (ls_sc rfl rfl (ls_sc rfl rfl ls_nil))))) (sn_La_law_525 ih h)
                                  · rw [if_neg g127] at h
                                    by_cases g142 : ((xs l4.toNatClampNeg) &&& (15 : Int32)) = (14 : Int32)
                                    · rw [if_pos g142] at h
                                      refine bk_sw tb_c_0_0 rfl (pc' := 578) (by rw [g142]; rfl) ?_
                                      refine bk_b (q := (584, [(0, .ref 0), (1, .ref 1), (2, .ref 135), (3, .ref 180), (4, .int l4)], [.int (l4 + (1 : Int32)), .ref 0, .ref 1])) tb_c_0_8 mx_0 5 rfl ?_
                                      by_cases g143 : (l4 + (1 : Int32)) < 0 ∨ L ≤ (l4 + (1 : Int32)).toNatClampNeg
                                      · rw [if_pos g143] at h; cases h
                                      · rw [if_neg g143] at h
                                        refine bk_a0 tb_c_0_8 rfl rfl g143 ?_
                                        refine bk_b (q := (586, [(0, .ref 0), (1, .ref 1), (2, .ref 135), (3, .ref 180), (4, .int l4)], [.ref 180, .int (xs (l4 + (1 : Int32)).toNatClampNeg), .ref 1])) tb_c_0_8 mx_0 1 rfl ?_
                                        obtain ⟨x145, S144, c146, h⟩ := wd_cx h
                                        refine bk_ks tb_c_0_8 rfl rfl rfl (by decide) rfl rfl (ev_up (Nat.le_of_ble_eq_true rfl) (sn_La_ran c146)) ?_
                                        refine bk_b (q := (597, [(5, .int x145), (0, .ref 0), (1, .ref 1), (2, .ref 135), (3, .ref 180), (4, .int l4)], [.int (l4 + (1 : Int32)), .ref 0, .ref 135])) tb_c_0_8 mx_0 6 rfl ?_
                                        by_cases g147 : (l4 + (1 : Int32)) < 0 ∨ L ≤ (l4 + (1 : Int32)).toNatClampNeg
                                        · rw [if_pos g147] at h; cases h
                                        · rw [if_neg g147] at h
                                          refine bk_a0 tb_c_0_8 rfl rfl g147 ?_
                                          obtain ⟨x149, S148, c150, h⟩ := wd_cx h
                                          refine bk_kv tb_c_0_8 rfl rfl rfl rfl rfl (ci := 11) rfl rfl (ev_up (Nat.le_of_ble_eq_true rfl) (sn_Mo_ran c150)) ?_
                                          refine bk_b (q := (606, [(6, .int x149), (5, .int x145), (0, .ref 0), (1, .ref 1), (2, .ref 135), (3, .ref 180), (4, .int l4)], [])) tb_c_0_8 mx_0 2 rfl ?_
                                          exact go_lv (ls_sc rfl rfl (ls_sc rfl rfl (ls_sc rfl rfl (ls_sc rfl rfl (ls_sc rfl rfl ls_nil))))) (sn_La_law_606 ih h)
                                    · rw [if_neg g142] at h
                                      refine bk_sw tb_c_0_0 rfl (pc' := 606) (sw_t (t := 606) (fun i h1 h2 => ?_) rfl) ?_
                                      · have hi : i = 0 ∨ i = 1 ∨ i = 2 ∨ i = 3 ∨ i = 4 ∨ i = 5 ∨ i = 6 ∨ i = 7 ∨ i = 8 ∨ i = 9 ∨ i = 10 ∨ i = 11 ∨ i = 12 ∨ i = 13 ∨ i = 14 := by omega
                                        rcases hi with rfl | rfl | rfl | rfl | rfl | rfl | rfl | rfl | rfl | rfl | rfl | rfl | rfl | rfl | rfl
                                        · exact g3
                                        · exact g20
                                        · exact g29
                                        · exact g37
                                        · exact g44
                                        · exact g55
                                        · exact g66
                                        · exact g75
                                        · exact g86
                                        · exact g95
                                        · exact g102
                                        · exact g111
                                        · exact g118
                                        · exact g127
                                        · exact g142
                                      · exact go_lv (ls_sc rfl rfl (ls_sc rfl rfl (ls_sc rfl rfl (ls_sc rfl rfl (ls_sc rfl rfl ls_nil))))) (sn_La_law_606 ih h)
