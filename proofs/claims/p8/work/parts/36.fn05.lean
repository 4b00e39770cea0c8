/-! Methods as functions: printed by wip/whole/gen_fn.py. -/
theorem mx_70 : mi_mx tb_P 70 = 6 := rfl
/-- Specialiser.feed(IIIII)I -/
noncomputable def fn_Sp_feed (p1 : Int32) (p2 : Int32) (p3 : Int32) (p4 : Int32) (p5 : Int32) (S : wd_S) : Option ((Int32 ⊕ String) × wd_S) :=
  (if (8000 : Int32) < ((S.1 1 1) + (20 : Int32)) then
    some (.inr "java/lang/IllegalStateException", wd_n S)
  else
    (wd_d (fn_Sp_feedFour p1 S) fun S2 =>
    (wd_d (fn_Sp_feedFour p2 S2) fun S5 =>
    (wd_d (fn_Sp_feedFour p3 S5) fun S8 =>
    (wd_d (fn_Sp_feedFour p4 S8) fun S11 =>
    (wd_d (fn_Sp_feedFour p5 S11) fun S14 =>
    some (.inl (S14.1 1 1), S14)))))))
set_option maxRecDepth 100000 in
theorem sn_Sp_feed {L : Nat} {xs : Nat → Int32} {p1 : Int32} {p2 : Int32} {p3 : Int32} {p4 : Int32} {p5 : Int32} {S : wd_S} {x : Int32 ⊕ String} {S' : wd_S} (h : fn_Sp_feed p1 p2 p3 p4 p5 S = some (x, S')) : ev_r tb_P L xs (2 + 1) 70 [.ref 1, .int p1, .int p2, .int p3, .int p4, .int p5] (wd_k S) (wd_wi x, wd_k S') := by
  unfold fn_Sp_feed at h
  refine ev_of (Nat.le_of_ble_eq_true rfl) ?_
  show go_r tb_P L xs 2 70 0 [(0, .ref 1), (1, .int p1), (2, .int p2), (3, .int p3), (4, .int p4), (5, .int p5)] [] (wd_k S) (wd_wi x, wd_k S')
  refine bk_b (q := (1, [(0, .ref 1), (1, .int p1), (2, .int p2), (3, .int p3), (4, .int p4), (5, .int p5)], [.ref 1])) tb_c_70_0 mx_70 1 rfl ?_
  refine bk_gi tb_c_70_0 rfl rfl (ci := 10) (k := 1) rfl rfl rfl ?_
  refine bk_b (q := (10, [(0, .ref 1), (1, .int p1), (2, .int p2), (3, .int p3), (4, .int p4), (5, .int p5)], [.int (8000 : Int32), .int ((S.1 1 1) + (20 : Int32))])) tb_c_70_0 mx_70 3 rfl ?_
  by_cases g1 : (8000 : Int32) < ((S.1 1 1) + (20 : Int32))
  · rw [if_pos g1] at h
    refine bk_jf tb_c_70_0 rfl (pc' := 13) rfl (t := 23) rfl (cm_le_f g1) ?_
    cases h
    exact bk_x rfl
  · rw [if_neg g1] at h
    refine bk_jt tb_c_70_0 rfl (pc' := 23) rfl (cm_le_t g1) ?_
    refine bk_b (q := (25, [(0, .ref 1), (1, .int p1), (2, .int p2), (3, .int p3), (4, .int p4), (5, .int p5)], [.int p1, .ref 1])) tb_c_70_0 mx_70 2 rfl ?_
    obtain ⟨S2, c4, h⟩ := wd_dx h
    refine bk_kv tb_c_70_0 rfl rfl rfl rfl rfl (ci := 10) rfl rfl (ev_up (Nat.le_of_ble_eq_true rfl) (sn_Sp_feedFour c4)) ?_
    refine bk_b (q := (30, [(0, .ref 1), (1, .int p1), (2, .int p2), (3, .int p3), (4, .int p4), (5, .int p5)], [.int p2, .ref 1])) tb_c_70_0 mx_70 2 rfl ?_
    obtain ⟨S5, c7, h⟩ := wd_dx h
    refine bk_kv tb_c_70_0 rfl rfl rfl rfl rfl (ci := 10) rfl rfl (ev_up (Nat.le_of_ble_eq_true rfl) (sn_Sp_feedFour c7)) ?_
    refine bk_b (q := (35, [(0, .ref 1), (1, .int p1), (2, .int p2), (3, .int p3), (4, .int p4), (5, .int p5)], [.int p3, .ref 1])) tb_c_70_0 mx_70 2 rfl ?_
    obtain ⟨S8, c10, h⟩ := wd_dx h
    refine bk_kv tb_c_70_0 rfl rfl rfl rfl rfl (ci := 10) rfl rfl (ev_up (Nat.le_of_ble_eq_true rfl) (sn_Sp_feedFour c10)) ?_
    refine bk_b (q := (41, [(0, .ref 1), (1, .int p1), (2, .int p2), (3, .int p3), (4, .int p4), (5, .int p5)], [.int p4, .ref 1])) tb_c_70_0 mx_70 2 rfl ?_
    obtain ⟨S11, c13, h⟩ := wd_dx h
    refine bk_kv tb_c_70_0 rfl rfl rfl rfl rfl (ci := 10) rfl rfl (ev_up (Nat.le_of_ble_eq_true rfl) (sn_Sp_feedFour c13)) ?_
    refine bk_b (q := (47, [(0, .ref 1), (1, .int p1), (2, .int p2), (3, .int p3), (4, .int p4), (5, .int p5)], [.int p5, .ref 1])) tb_c_70_0 mx_70 2 rfl ?_
    obtain ⟨S14, c16, h⟩ := wd_dx h
    refine bk_kv tb_c_70_0 rfl rfl rfl rfl rfl (ci := 10) rfl rfl (ev_up (Nat.le_of_ble_eq_true rfl) (sn_Sp_feedFour c16)) ?_
    refine bk_b (q := (51, [(0, .ref 1), (1, .int p1), (2, .int p2), (3, .int p3), (4, .int p4), (5, .int p5)], [.ref 1])) tb_c_70_0 mx_70 1 rfl ?_
    refine bk_gi tb_c_70_0 rfl rfl (ci := 10) (k := 1) rfl rfl rfl ?_
    cases h
    exact bk_t tb_c_70_0 rfl rfl
theorem mx_72 : mi_mx tb_P 72 = 3 := rfl
noncomputable def fn_Sp_cut_12 (S : wd_S) : Option ((Int32 ⊕ String) × wd_S) :=
  some (.inr "java/lang/IllegalArgumentException", wd_n S)
set_option maxRecDepth 100000 in
theorem sn_Sp_cut_12 {L : Nat} {xs : Nat → Int32} {S : wd_S} {x : Int32 ⊕ String} {S' : wd_S} (h : fn_Sp_cut_12  S = some (x, S')) : go_r tb_P L xs 0 72 12 [] [] (wd_k S) (wd_wi x, wd_k S') := by
  unfold fn_Sp_cut_12 at h
  cases h
  exact bk_x rfl
/-- Specialiser.cut(I)I -/
noncomputable def fn_Sp_cut (p1 : Int32) (S : wd_S) : Option ((Int32 ⊕ String) × wd_S) :=
  (if p1 < 0 then
    fn_Sp_cut_12  S
  else
    (if (S.1 1 1) < p1 then
      fn_Sp_cut_12  S
    else
      (wd_b (wd_i S 1 1 p1) fun S3 =>
      some (.inl ((S.1 1 1) - p1), S3))))
set_option maxRecDepth 100000 in
theorem sn_Sp_cut {L : Nat} {xs : Nat → Int32} {p1 : Int32} {S : wd_S} {x : Int32 ⊕ String} {S' : wd_S} (h : fn_Sp_cut p1 S = some (x, S')) : ev_r tb_P L xs (0 + 1) 72 [.ref 1, .int p1] (wd_k S) (wd_wi x, wd_k S') := by
  unfold fn_Sp_cut at h
  refine ev_of (Nat.le_of_ble_eq_true rfl) ?_
  show go_r tb_P L xs 0 72 0 [(0, .ref 1), (1, .int p1)] [] (wd_k S) (wd_wi x, wd_k S')
  refine bk_b (q := (1, [(0, .ref 1), (1, .int p1)], [.int p1])) tb_c_72_0 mx_72 1 rfl ?_
  by_cases g1 : p1 < 0
  · rw [if_pos g1] at h
    refine bk_zt tb_c_72_0 rfl (pc' := 12) rfl (cm_lt_t g1) ?_
    exact go_lv ls_nil (sn_Sp_cut_12 h)
  · rw [if_neg g1] at h
    refine bk_zf tb_c_72_0 rfl (pc' := 4) rfl (t := 12) rfl (cm_lt_f g1) ?_
    refine bk_b (q := (6, [(0, .ref 1), (1, .int p1)], [.ref 1, .int p1])) tb_c_72_0 mx_72 2 rfl ?_
    refine bk_gi tb_c_72_0 rfl rfl (ci := 10) (k := 1) rfl rfl rfl ?_
    by_cases g2 : (S.1 1 1) < p1
    · rw [if_pos g2] at h
      refine bk_jf tb_c_72_0 rfl (pc' := 12) rfl (t := 22) rfl (cm_le_f g2) ?_
      exact go_lv ls_nil (sn_Sp_cut_12 h)
    · rw [if_neg g2] at h
      refine bk_jt tb_c_72_0 rfl (pc' := 22) rfl (cm_le_t g2) ?_
      refine bk_b (q := (23, [(0, .ref 1), (1, .int p1)], [.ref 1])) tb_c_72_0 mx_72 1 rfl ?_
      refine bk_gi tb_c_72_0 rfl rfl (ci := 10) (k := 1) rfl rfl rfl ?_
      refine bk_b (q := (31, [(2, .int ((S.1 1 1) - p1)), (0, .ref 1), (1, .int p1)], [.int p1, .ref 1])) tb_c_72_0 mx_72 5 rfl ?_
      obtain ⟨S3, eS3, h⟩ := wd_bx h
      refine bk_pi tb_c_72_0 rfl rfl (ci := 10) (k := 1) rfl rfl rfl rfl ?_
      rw [eS3]
      refine bk_b (q := (35, [(2, .int ((S.1 1 1) - p1)), (0, .ref 1), (1, .int p1)], [.int ((S.1 1 1) - p1)])) tb_c_72_0 mx_72 1 rfl ?_
      cases h
      exact bk_t tb_c_72_0 rfl rfl
theorem mx_74 : mi_mx tb_P 74 = 2 := rfl
noncomputable def fn_Bodies_has_17 (s0 : Int32) (S : wd_S) : Option (Int32 × wd_S) :=
  (if mi_fit .boolean (.int s0) = true then some (s0, S) else none)
set_option maxRecDepth 100000 in
theorem sn_Bodies_has_17 {L : Nat} {xs : Nat → Int32} {s0 : Int32} {S : wd_S} {x : Int32} {S' : wd_S} (h : fn_Bodies_has_17 s0 S = some (x, S')) : go_r tb_P L xs 0 74 17 [] [.int s0] (wd_k S) (.inl (some (.int x)), wd_k S') := by
  unfold fn_Bodies_has_17 at h
  by_cases g2 : mi_fit .boolean (.int s0) = true
  · rw [if_pos g2] at h
    cases h
    exact bk_t tb_c_74_0 rfl (if_pos g2)
  · rw [if_neg g2] at h; cases h
noncomputable def fn_Bodies_has_16 (S : wd_S) : Option (Int32 × wd_S) :=
  fn_Bodies_has_17 (0 : Int32) S
set_option maxRecDepth 100000 in
theorem sn_Bodies_has_16 {L : Nat} {xs : Nat → Int32} {S : wd_S} {x : Int32} {S' : wd_S} (h : fn_Bodies_has_16  S = some (x, S')) : go_r tb_P L xs 0 74 16 [] [] (wd_k S) (.inl (some (.int x)), wd_k S') := by
  unfold fn_Bodies_has_16 at h
  refine bk_b (q := (17, [], [.int (0 : Int32)])) tb_c_74_0 mx_74 1 rfl ?_
  exact go_lv ls_nil (sn_Bodies_has_17 h)
/-- Specialiser$Bodies.has(I)Z -/
noncomputable def fn_Bodies_has (p0 : Nat) (p1 : Int32) (S : wd_S) : Option (Int32 × wd_S) :=
  (if p1 < 0 then
    fn_Bodies_has_16  S
  else
    (if p1 < (S.1 p0 3) then
      fn_Bodies_has_17 (1 : Int32) S
    else
      fn_Bodies_has_16  S))
set_option maxRecDepth 100000 in
theorem sn_Bodies_has {L : Nat} {xs : Nat → Int32} {p0 : Nat} {p1 : Int32} {S : wd_S} {x : Int32} {S' : wd_S} (hp0 : tp_t p0 = (0, 0)) (h : fn_Bodies_has p0 p1 S = some (x, S')) : ev_r tb_P L xs (0 + 1) 74 [.ref p0, .int p1] (wd_k S) (.inl (some (.int x)), wd_k S') := by
  unfold fn_Bodies_has at h
  refine ev_of (Nat.le_of_ble_eq_true rfl) ?_
  show go_r tb_P L xs 0 74 0 [(0, .ref p0), (1, .int p1)] [] (wd_k S) (.inl (some (.int x)), wd_k S')
  refine bk_b (q := (1, [(0, .ref p0), (1, .int p1)], [.int p1])) tb_c_74_0 mx_74 1 rfl ?_
  by_cases g1 : p1 < 0
  · rw [if_pos g1] at h
    refine bk_zt tb_c_74_0 rfl (pc' := 16) rfl (cm_lt_t g1) ?_
    exact go_lv ls_nil (sn_Bodies_has_16 h)
  · rw [if_neg g1] at h
    refine bk_zf tb_c_74_0 rfl (pc' := 4) rfl (t := 16) rfl (cm_lt_f g1) ?_
    refine bk_b (q := (6, [(0, .ref p0), (1, .int p1)], [.ref p0, .int p1])) tb_c_74_0 mx_74 2 rfl ?_
    refine bk_gi tb_c_74_0 rfl rfl (ci := 0) (k := 3) rfl hp0 rfl ?_
    by_cases g3 : p1 < (S.1 p0 3)
    · rw [if_pos g3] at h
      refine bk_jf tb_c_74_0 rfl (pc' := 12) rfl (t := 16) rfl (cm_ge_f g3) ?_
      refine bk_b (q := (17, [(0, .ref p0), (1, .int p1)], [.int (1 : Int32)])) tb_c_74_0 mx_74 2 rfl ?_
      exact go_lv ls_nil (sn_Bodies_has_17 h)
    · rw [if_neg g3] at h
      refine bk_jt tb_c_74_0 rfl (pc' := 16) rfl (cm_ge_t g3) ?_
      exact go_lv ls_nil (sn_Bodies_has_16 h)
theorem mx_76 : mi_mx tb_P 76 = 2 := rfl
/-- Specialiser$Bodies.root(I)I -/
noncomputable def fn_Bodies_root (p0 : Nat) (p1 : Int32) (S : wd_S) : Option (Int32 × wd_S) :=
  (wd_c (fn_Row_at (p0 + 14) p1 S) fun x2 S1 =>
  some (x2, S1))
set_option maxRecDepth 100000 in
theorem sn_Bodies_root {L : Nat} {xs : Nat → Int32} {p0 : Nat} {p1 : Int32} {S : wd_S} {x : Int32} {S' : wd_S} (hp0 : tp_t p0 = (0, 0)) (h : fn_Bodies_root p0 p1 S = some (x, S')) : ev_r tb_P L xs (1 + 1) 76 [.ref p0, .int p1] (wd_k S) (.inl (some (.int x)), wd_k S') := by
  unfold fn_Bodies_root at h
  refine ev_of (Nat.le_of_ble_eq_true rfl) ?_
  show go_r tb_P L xs 1 76 0 [(0, .ref p0), (1, .int p1)] [] (wd_k S) (.inl (some (.int x)), wd_k S')
  refine bk_b (q := (1, [(0, .ref p0), (1, .int p1)], [.ref p0])) tb_c_76_0 mx_76 1 rfl ?_
  refine bk_go tb_c_76_0 rfl rfl (ci := 0) (k := 1) rfl hp0 rfl ?_
  refine bk_b (q := (5, [(0, .ref p0), (1, .int p1)], [.int p1, .ref (p0 + 14)])) tb_c_76_0 mx_76 1 rfl ?_
  obtain ⟨x2, S1, c3, h⟩ := wd_cx h
  refine bk_kv tb_c_76_0 rfl rfl rfl rfl rfl (ci := 5) (tp_0_1 hp0) rfl (ev_up (Nat.le_of_ble_eq_true rfl) (sn_Row_at (tp_0_1 hp0) c3)) ?_
  cases h
  exact bk_t tb_c_76_0 rfl rfl
theorem mx_77 : mi_mx tb_P 77 = 2 := rfl
/-- Specialiser$Trees.size(I)I -/
noncomputable def fn_Trees_size (p0 : Nat) (p1 : Int32) (S : wd_S) : Option (Int32 × wd_S) :=
  (wd_c (fn_Row_at (p0 + 9) p1 S) fun x2 S1 =>
  some (x2, S1))
set_option maxRecDepth 100000 in
theorem sn_Trees_size {L : Nat} {xs : Nat → Int32} {p0 : Nat} {p1 : Int32} {S : wd_S} {x : Int32} {S' : wd_S} (hp0 : tp_t p0 = (0, 8)) (h : fn_Trees_size p0 p1 S = some (x, S')) : ev_r tb_P L xs (1 + 1) 77 [.ref p0, .int p1] (wd_k S) (.inl (some (.int x)), wd_k S') := by
  unfold fn_Trees_size at h
  refine ev_of (Nat.le_of_ble_eq_true rfl) ?_
  show go_r tb_P L xs 1 77 0 [(0, .ref p0), (1, .int p1)] [] (wd_k S) (.inl (some (.int x)), wd_k S')
  refine bk_b (q := (1, [(0, .ref p0), (1, .int p1)], [.ref p0])) tb_c_77_0 mx_77 1 rfl ?_
  refine bk_go tb_c_77_0 rfl rfl (ci := 8) (k := 4) rfl hp0 rfl ?_
  refine bk_b (q := (5, [(0, .ref p0), (1, .int p1)], [.int p1, .ref (p0 + 9)])) tb_c_77_0 mx_77 1 rfl ?_
  obtain ⟨x2, S1, c3, h⟩ := wd_cx h
  refine bk_kv tb_c_77_0 rfl rfl rfl rfl rfl (ci := 5) (tp_8_4 hp0) rfl (ev_up (Nat.le_of_ble_eq_true rfl) (sn_Row_at (tp_8_4 hp0) c3)) ?_
  cases h
  exact bk_t tb_c_77_0 rfl rfl
theorem mx_75 : mi_mx tb_P 75 = 2 := rfl
/-- Specialiser$Bodies.expressions(I)I -/
noncomputable def fn_Bodies_expressions (p0 : Nat) (p1 : Int32) (S : wd_S) : Option (Int32 × wd_S) :=
  (wd_c (fn_Bodies_root p0 p1 S) fun x2 S1 =>
  (wd_c (fn_Trees_size (p0 + 1) x2 S1) fun x5 S4 =>
  some (x5, S4)))
set_option maxRecDepth 100000 in
theorem sn_Bodies_expressions {L : Nat} {xs : Nat → Int32} {p0 : Nat} {p1 : Int32} {S : wd_S} {x : Int32} {S' : wd_S} (hp0 : tp_t p0 = (0, 0)) (h : fn_Bodies_expressions p0 p1 S = some (x, S')) : ev_r tb_P L xs (2 + 1) 75 [.ref p0, .int p1] (wd_k S) (.inl (some (.int x)), wd_k S') := by
  unfold fn_Bodies_expressions at h
  refine ev_of (Nat.le_of_ble_eq_true rfl) ?_
  show go_r tb_P L xs 2 75 0 [(0, .ref p0), (1, .int p1)] [] (wd_k S) (.inl (some (.int x)), wd_k S')
  refine bk_b (q := (1, [(0, .ref p0), (1, .int p1)], [.ref p0])) tb_c_75_0 mx_75 1 rfl ?_
  refine bk_go tb_c_75_0 rfl rfl (ci := 0) (k := 0) rfl hp0 rfl ?_
  refine bk_b (q := (6, [(0, .ref p0), (1, .int p1)], [.int p1, .ref p0, .ref (p0 + 1)])) tb_c_75_0 mx_75 2 rfl ?_
  obtain ⟨x2, S1, c3, h⟩ := wd_cx h
  refine bk_kv tb_c_75_0 rfl rfl rfl rfl rfl (ci := 0) hp0 rfl (ev_up (Nat.le_of_ble_eq_true rfl) (sn_Bodies_root hp0 c3)) ?_
  obtain ⟨x5, S4, c6, h⟩ := wd_cx h
  refine bk_kv tb_c_75_0 rfl rfl rfl rfl rfl (ci := 8) (tp_0_0 hp0) rfl (ev_up (Nat.le_of_ble_eq_true rfl) (sn_Trees_size (tp_0_0 hp0) c6)) ?_
  cases h
  exact bk_t tb_c_75_0 rfl rfl
theorem mx_79 : mi_mx tb_P 79 = 2 := rfl
/-- Specialiser$Trees.lets(I)I -/
noncomputable def fn_Trees_lets (p0 : Nat) (p1 : Int32) (S : wd_S) : Option (Int32 × wd_S) :=
  (wd_c (fn_Row_at (p0 + 11) p1 S) fun x2 S1 =>
  some (x2, S1))
set_option maxRecDepth 100000 in
theorem sn_Trees_lets {L : Nat} {xs : Nat → Int32} {p0 : Nat} {p1 : Int32} {S : wd_S} {x : Int32} {S' : wd_S} (hp0 : tp_t p0 = (0, 8)) (h : fn_Trees_lets p0 p1 S = some (x, S')) : ev_r tb_P L xs (1 + 1) 79 [.ref p0, .int p1] (wd_k S) (.inl (some (.int x)), wd_k S') := by
  unfold fn_Trees_lets at h
  refine ev_of (Nat.le_of_ble_eq_true rfl) ?_
  show go_r tb_P L xs 1 79 0 [(0, .ref p0), (1, .int p1)] [] (wd_k S) (.inl (some (.int x)), wd_k S')
  refine bk_b (q := (1, [(0, .ref p0), (1, .int p1)], [.ref p0])) tb_c_79_0 mx_79 1 rfl ?_
  refine bk_go tb_c_79_0 rfl rfl (ci := 8) (k := 5) rfl hp0 rfl ?_
  refine bk_b (q := (5, [(0, .ref p0), (1, .int p1)], [.int p1, .ref (p0 + 11)])) tb_c_79_0 mx_79 1 rfl ?_
  obtain ⟨x2, S1, c3, h⟩ := wd_cx h
  refine bk_kv tb_c_79_0 rfl rfl rfl rfl rfl (ci := 5) (tp_8_5 hp0) rfl (ev_up (Nat.le_of_ble_eq_true rfl) (sn_Row_at (tp_8_5 hp0) c3)) ?_
  cases h
  exact bk_t tb_c_79_0 rfl rfl
theorem mx_78 : mi_mx tb_P 78 = 2 := rfl
/-- Specialiser$Bodies.lets(I)I -/
noncomputable def fn_Bodies_lets (p0 : Nat) (p1 : Int32) (S : wd_S) : Option (Int32 × wd_S) :=
  (wd_c (fn_Bodies_root p0 p1 S) fun x2 S1 =>
  (wd_c (fn_Trees_lets (p0 + 1) x2 S1) fun x5 S4 =>
  some (x5, S4)))
set_option maxRecDepth 100000 in
theorem sn_Bodies_lets {L : Nat} {xs : Nat → Int32} {p0 : Nat} {p1 : Int32} {S : wd_S} {x : Int32} {S' : wd_S} (hp0 : tp_t p0 = (0, 0)) (h : fn_Bodies_lets p0 p1 S = some (x, S')) : ev_r tb_P L xs (2 + 1) 78 [.ref p0, .int p1] (wd_k S) (.inl (some (.int x)), wd_k S') := by
  unfold fn_Bodies_lets at h
  refine ev_of (Nat.le_of_ble_eq_true rfl) ?_
  show go_r tb_P L xs 2 78 0 [(0, .ref p0), (1, .int p1)] [] (wd_k S) (.inl (some (.int x)), wd_k S')
  refine bk_b (q := (1, [(0, .ref p0), (1, .int p1)], [.ref p0])) tb_c_78_0 mx_78 1 rfl ?_
  refine bk_go tb_c_78_0 rfl rfl (ci := 0) (k := 0) rfl hp0 rfl ?_
  refine bk_b (q := (6, [(0, .ref p0), (1, .int p1)], [.int p1, .ref p0, .ref (p0 + 1)])) tb_c_78_0 mx_78 2 rfl ?_
  obtain ⟨x2, S1, c3, h⟩ := wd_cx h
  refine bk_kv tb_c_78_0 rfl rfl rfl rfl rfl (ci := 0) hp0 rfl (ev_up (Nat.le_of_ble_eq_true rfl) (sn_Bodies_root hp0 c3)) ?_
  obtain ⟨x5, S4, c6, h⟩ := wd_cx h
  refine bk_kv tb_c_78_0 rfl rfl rfl rfl rfl (ci := 8) (tp_0_0 hp0) rfl (ev_up (Nat.le_of_ble_eq_true rfl) (sn_Trees_lets (tp_0_0 hp0) c6)) ?_
  cases h
  exact bk_t tb_c_78_0 rfl rfl
theorem mx_73 : mi_mx tb_P 73 = 3 := rfl
noncomputable def fn_Sp_function_20 (S : wd_S) : Option ((Int32 ⊕ String) × wd_S) :=
  some (.inr "java/lang/IndexOutOfBoundsException", wd_n S)
set_option maxRecDepth 100000 in
theorem sn_Sp_function_20 {L : Nat} {xs : Nat → Int32} {S : wd_S} {x : Int32 ⊕ String} {S' : wd_S} (h : fn_Sp_function_20  S = some (x, S')) : go_r tb_P L xs 3 73 20 [] [] (wd_k S) (wd_wi x, wd_k S') := by
  unfold fn_Sp_function_20 at h
  cases h
  exact bk_x rfl
/-- Specialiser.function(II)I -/
noncomputable def fn_Sp_function (p1 : Int32) (p2 : Int32) (S : wd_S) : Option ((Int32 ⊕ String) × wd_S) :=
  (if tp_t (S.2.2.1 1 5) = (0, 0) then
    (wd_c (fn_Bodies_has (S.2.2.1 1 5) p1 S) fun x3 S2 =>
    (if x3 = 0 then
      fn_Sp_function_20  S2
    else
      (if p2 < 0 then
        fn_Sp_function_20  S2
      else
        (if (2 : Int32) < p2 then
          fn_Sp_function_20  S2
        else
          (if p2 = (0 : Int32) then
            (if tp_t (S2.2.2.1 1 5) = (0, 0) then
              (wd_c (fn_Bodies_params (S2.2.2.1 1 5) p1 S2) fun x11 S10 =>
              some (.inl x11, S10))
            else none)
          else
          (if p2 = (1 : Int32) then
            (if tp_t (S2.2.2.1 1 5) = (0, 0) then
              (wd_c (fn_Bodies_expressions (S2.2.2.1 1 5) p1 S2) fun x16 S15 =>
              some (.inl x16, S15))
            else none)
          else
          (if tp_t (S2.2.2.1 1 5) = (0, 0) then
            (wd_c (fn_Bodies_lets (S2.2.2.1 1 5) p1 S2) fun x20 S19 =>
            some (.inl x20, S19))
          else none)))))))
  else none)
set_option maxRecDepth 100000 in
theorem sn_Sp_function {L : Nat} {xs : Nat → Int32} {p1 : Int32} {p2 : Int32} {S : wd_S} {x : Int32 ⊕ String} {S' : wd_S} (h : fn_Sp_function p1 p2 S = some (x, S')) : ev_r tb_P L xs (3 + 1) 73 [.ref 1, .int p1, .int p2] (wd_k S) (wd_wi x, wd_k S') := by
  unfold fn_Sp_function at h
  refine ev_of (Nat.le_of_ble_eq_true rfl) ?_
  show go_r tb_P L xs 3 73 0 [(0, .ref 1), (1, .int p1), (2, .int p2)] [] (wd_k S) (wd_wi x, wd_k S')
  refine bk_b (q := (1, [(0, .ref 1), (1, .int p1), (2, .int p2)], [.ref 1])) tb_c_73_0 mx_73 1 rfl ?_
  refine bk_gm tb_c_73_0 rfl rfl (ci := 10) (k := 5) rfl rfl rfl ?_
  by_cases g1 : tp_t (S.2.2.1 1 5) = (0, 0)
  · rw [if_pos g1] at h
    refine bk_b (q := (5, [(0, .ref 1), (1, .int p1), (2, .int p2)], [.int p1, .ref (S.2.2.1 1 5)])) tb_c_73_0 mx_73 1 rfl ?_
    obtain ⟨x3, S2, c4, h⟩ := wd_cx h
    refine bk_kv tb_c_73_0 rfl rfl rfl rfl rfl (ci := 0) g1 rfl (ev_up (Nat.le_of_ble_eq_true rfl) (sn_Bodies_has g1 c4)) ?_
    by_cases g5 : x3 = 0
    · rw [if_pos g5] at h
      refine bk_zt tb_c_73_0 rfl (pc' := 20) rfl (cm_eq_t g5) ?_
      exact go_lv ls_nil (sn_Sp_function_20 h)
    · rw [if_neg g5] at h
      refine bk_zf tb_c_73_0 rfl (pc' := 11) rfl (t := 20) rfl (cm_eq_f g5) ?_
      refine bk_b (q := (12, [(0, .ref 1), (1, .int p1), (2, .int p2)], [.int p2])) tb_c_73_0 mx_73 1 rfl ?_
      by_cases g6 : p2 < 0
      · rw [if_pos g6] at h
        refine bk_zt tb_c_73_0 rfl (pc' := 20) rfl (cm_lt_t g6) ?_
        exact go_lv ls_nil (sn_Sp_function_20 h)
      · rw [if_neg g6] at h
        refine bk_zf tb_c_73_0 rfl (pc' := 15) rfl (t := 20) rfl (cm_lt_f g6) ?_
        refine bk_b (q := (17, [(0, .ref 1), (1, .int p1), (2, .int p2)], [.int (2 : Int32), .int p2])) tb_c_73_0 mx_73 2 rfl ?_
        by_cases g7 : (2 : Int32) < p2
        · rw [if_pos g7] at h
          refine bk_jf tb_c_73_0 rfl (pc' := 20) rfl (t := 30) rfl (cm_le_f g7) ?_
          exact go_lv ls_nil (sn_Sp_function_20 h)
        · rw [if_neg g7] at h
          refine bk_jt tb_c_73_0 rfl (pc' := 30) rfl (cm_le_t g7) ?_
          refine bk_b (q := (31, [(0, .ref 1), (1, .int p1), (2, .int p2)], [.int p2])) tb_c_73_0 mx_73 1 rfl ?_
          by_cases g8 : p2 = (0 : Int32)
          · rw [if_pos g8] at h
            refine bk_sw tb_c_73_0 rfl (pc' := 56) (by rw [g8]; rfl) ?_
            refine bk_b (q := (57, [(0, .ref 1), (1, .int p1), (2, .int p2)], [.ref 1])) tb_c_73_0 mx_73 1 rfl ?_
            refine bk_gm tb_c_73_0 rfl rfl (ci := 10) (k := 5) rfl rfl rfl ?_
            by_cases g9 : tp_t (S2.2.2.1 1 5) = (0, 0)
            · rw [if_pos g9] at h
              refine bk_b (q := (61, [(0, .ref 1), (1, .int p1), (2, .int p2)], [.int p1, .ref (S2.2.2.1 1 5)])) tb_c_73_0 mx_73 1 rfl ?_
              obtain ⟨x11, S10, c12, h⟩ := wd_cx h
              refine bk_kv tb_c_73_0 rfl rfl rfl rfl rfl (ci := 0) g9 rfl (ev_up (Nat.le_of_ble_eq_true rfl) (sn_Bodies_params g9 c12)) ?_
              cases h
              exact bk_t tb_c_73_0 rfl rfl
            · rw [if_neg g9] at h; cases h
          · rw [if_neg g8] at h
            by_cases g13 : p2 = (1 : Int32)
            · rw [if_pos g13] at h
              refine bk_sw tb_c_73_0 rfl (pc' := 65) (by rw [g13]; rfl) ?_
              refine bk_b (q := (66, [(0, .ref 1), (1, .int p1), (2, .int p2)], [.ref 1])) tb_c_73_0 mx_73 1 rfl ?_
              refine bk_gm tb_c_73_0 rfl rfl (ci := 10) (k := 5) rfl rfl rfl ?_
              by_cases g14 : tp_t (S2.2.2.1 1 5) = (0, 0)
              · rw [if_pos g14] at h
                refine bk_b (q := (70, [(0, .ref 1), (1, .int p1), (2, .int p2)], [.int p1, .ref (S2.2.2.1 1 5)])) tb_c_73_0 mx_73 1 rfl ?_
                obtain ⟨x16, S15, c17, h⟩ := wd_cx h
                refine bk_kv tb_c_73_0 rfl rfl rfl rfl rfl (ci := 0) g14 rfl (ev_up (Nat.le_of_ble_eq_true rfl) (sn_Bodies_expressions g14 c17)) ?_
                cases h
                exact bk_t tb_c_73_0 rfl rfl
              · rw [if_neg g14] at h; cases h
            · rw [if_neg g13] at h
              refine bk_sw tb_c_73_0 rfl (pc' := 74) (by refine sw_l (t := 74) rfl ?_ rfl; exact ⟨g8, g13, trivial⟩) ?_
              refine bk_b (q := (75, [(0, .ref 1), (1, .int p1), (2, .int p2)], [.ref 1])) tb_c_73_0 mx_73 1 rfl ?_
              refine bk_gm tb_c_73_0 rfl rfl (ci := 10) (k := 5) rfl rfl rfl ?_
              by_cases g18 : tp_t (S2.2.2.1 1 5) = (0, 0)
              · rw [if_pos g18] at h
                refine bk_b (q := (79, [(0, .ref 1), (1, .int p1), (2, .int p2)], [.int p1, .ref (S2.2.2.1 1 5)])) tb_c_73_0 mx_73 1 rfl ?_
                obtain ⟨x20, S19, c21, h⟩ := wd_cx h
                refine bk_kv tb_c_73_0 rfl rfl rfl rfl rfl (ci := 0) g18 rfl (ev_up (Nat.le_of_ble_eq_true rfl) (sn_Bodies_lets g18 c21)) ?_
                cases h
                exact bk_t tb_c_73_0 rfl rfl
              · rw [if_neg g18] at h; cases h
  · rw [if_neg g1] at h; cases h
theorem mx_81 : mi_mx tb_P 81 = 1 := rfl
/-- java/lang/Integer.bitCount(I)I -/
noncomputable def fn_Integer_bitCount (p0 : Int32) (S : wd_S) : Option (Int32 × wd_S) :=
  some (((((((((p0 - ((((p0).toUInt32 >>> (((1 : Int32)).toUInt32 &&& Int32.toUInt32 31)).toInt32) &&& (1431655765 : Int32))) &&& (858993459 : Int32)) + (((((p0 - ((((p0).toUInt32 >>> (((1 : Int32)).toUInt32 &&& Int32.toUInt32 31)).toInt32) &&& (1431655765 : Int32)))).toUInt32 >>> (((2 : Int32)).toUInt32 &&& Int32.toUInt32 31)).toInt32) &&& (858993459 : Int32))) + ((((((p0 - ((((p0).toUInt32 >>> (((1 : Int32)).toUInt32 &&& Int32.toUInt32 31)).toInt32) &&& (1431655765 : Int32))) &&& (858993459 : Int32)) + (((((p0 - ((((p0).toUInt32 >>> (((1 : Int32)).toUInt32 &&& Int32.toUInt32 31)).toInt32) &&& (1431655765 : Int32)))).toUInt32 >>> (((2 : Int32)).toUInt32 &&& Int32.toUInt32 31)).toInt32) &&& (858993459 : Int32)))).toUInt32 >>> (((4 : Int32)).toUInt32 &&& Int32.toUInt32 31)).toInt32)) &&& (252645135 : Int32)) + ((((((((p0 - ((((p0).toUInt32 >>> (((1 : Int32)).toUInt32 &&& Int32.toUInt32 31)).toInt32) &&& (1431655765 : Int32))) &&& (858993459 : Int32)) + (((((p0 - ((((p0).toUInt32 >>> (((1 : Int32)).toUInt32 &&& Int32.toUInt32 31)).toInt32) &&& (1431655765 : Int32)))).toUInt32 >>> (((2 : Int32)).toUInt32 &&& Int32.toUInt32 31)).toInt32) &&& (858993459 : Int32))) + ((((((p0 - ((((p0).toUInt32 >>> (((1 : Int32)).toUInt32 &&& Int32.toUInt32 31)).toInt32) &&& (1431655765 : Int32))) &&& (858993459 : Int32)) + (((((p0 - ((((p0).toUInt32 >>> (((1 : Int32)).toUInt32 &&& Int32.toUInt32 31)).toInt32) &&& (1431655765 : Int32)))).toUInt32 >>> (((2 : Int32)).toUInt32 &&& Int32.toUInt32 31)).toInt32) &&& (858993459 : Int32)))).toUInt32 >>> (((4 : Int32)).toUInt32 &&& Int32.toUInt32 31)).toInt32)) &&& (252645135 : Int32))).toUInt32 >>> (((8 : Int32)).toUInt32 &&& Int32.toUInt32 31)).toInt32)) + (((((((((p0 - ((((p0).toUInt32 >>> (((1 : Int32)).toUInt32 &&& Int32.toUInt32 31)).toInt32) &&& (1431655765 : Int32))) &&& (858993459 : Int32)) + (((((p0 - ((((p0).toUInt32 >>> (((1 : Int32)).toUInt32 &&& Int32.toUInt32 31)).toInt32) &&& (1431655765 : Int32)))).toUInt32 >>> (((2 : Int32)).toUInt32 &&& Int32.toUInt32 31)).toInt32) &&& (858993459 : Int32))) + ((((((p0 - ((((p0).toUInt32 >>> (((1 : Int32)).toUInt32 &&& Int32.toUInt32 31)).toInt32) &&& (1431655765 : Int32))) &&& (858993459 : Int32)) + (((((p0 - ((((p0).toUInt32 >>> (((1 : Int32)).toUInt32 &&& Int32.toUInt32 31)).toInt32) &&& (1431655765 : Int32)))).toUInt32 >>> (((2 : Int32)).toUInt32 &&& Int32.toUInt32 31)).toInt32) &&& (858993459 : Int32)))).toUInt32 >>> (((4 : Int32)).toUInt32 &&& Int32.toUInt32 31)).toInt32)) &&& (252645135 : Int32)) + ((((((((p0 - ((((p0).toUInt32 >>> (((1 : Int32)).toUInt32 &&& Int32.toUInt32 31)).toInt32) &&& (1431655765 : Int32))) &&& (858993459 : Int32)) + (((((p0 - ((((p0).toUInt32 >>> (((1 : Int32)).toUInt32 &&& Int32.toUInt32 31)).toInt32) &&& (1431655765 : Int32)))).toUInt32 >>> (((2 : Int32)).toUInt32 &&& Int32.toUInt32 31)).toInt32) &&& (858993459 : Int32))) + ((((((p0 - ((((p0).toUInt32 >>> (((1 : Int32)).toUInt32 &&& Int32.toUInt32 31)).toInt32) &&& (1431655765 : Int32))) &&& (858993459 : Int32)) + (((((p0 - ((((p0).toUInt32 >>> (((1 : Int32)).toUInt32 &&& Int32.toUInt32 31)).toInt32) &&& (1431655765 : Int32)))).toUInt32 >>> (((2 : Int32)).toUInt32 &&& Int32.toUInt32 31)).toInt32) &&& (858993459 : Int32)))).toUInt32 >>> (((4 : Int32)).toUInt32 &&& Int32.toUInt32 31)).toInt32)) &&& (252645135 : Int32))).toUInt32 >>> (((8 : Int32)).toUInt32 &&& Int32.toUInt32 31)).toInt32))).toUInt32 >>> (((16 : Int32)).toUInt32 &&& Int32.toUInt32 31)).toInt32)) &&& (63 : Int32)), S)
set_option maxRecDepth 100000 in
theorem sn_Integer_bitCount {L : Nat} {xs : Nat → Int32} {p0 : Int32} {S : wd_S} {x : Int32} {S' : wd_S} (h : fn_Integer_bitCount p0 S = some (x, S')) : ev_r tb_P L xs (0 + 1) 81 [.int p0] (wd_k S) (.inl (some (.int x)), wd_k S') := by
  unfold fn_Integer_bitCount at h
  refine ev_of (Nat.le_of_ble_eq_true rfl) ?_
  show go_r tb_P L xs 0 81 0 [(0, .int p0)] [] (wd_k S) (.inl (some (.int x)), wd_k S')
  refine bk_b (q := (4, [(0, .int p0)], [.int (((p0).toUInt32 >>> (((1 : Int32)).toUInt32 &&& Int32.toUInt32 31)).toInt32), .int p0])) tb_c_81_0 mx_81 4 rfl ?_
  refine bk_c3 tb_c_81_0 rfl rfl (x := (1431655765 : Int32)) rfl ?_
  refine bk_b (q := (11, [(0, .int (p0 - ((((p0).toUInt32 >>> (((1 : Int32)).toUInt32 &&& Int32.toUInt32 31)).toInt32) &&& (1431655765 : Int32))))], [.int (p0 - ((((p0).toUInt32 >>> (((1 : Int32)).toUInt32 &&& Int32.toUInt32 31)).toInt32) &&& (1431655765 : Int32)))])) tb_c_81_0 mx_81 4 rfl ?_
  refine bk_c3 tb_c_81_0 rfl rfl (x := (858993459 : Int32)) rfl ?_
  refine bk_b (q := (18, [(0, .int (p0 - ((((p0).toUInt32 >>> (((1 : Int32)).toUInt32 &&& Int32.toUInt32 31)).toInt32) &&& (1431655765 : Int32))))], [.int ((((p0 - ((((p0).toUInt32 >>> (((1 : Int32)).toUInt32 &&& Int32.toUInt32 31)).toInt32) &&& (1431655765 : Int32)))).toUInt32 >>> (((2 : Int32)).toUInt32 &&& Int32.toUInt32 31)).toInt32), .int ((p0 - ((((p0).toUInt32 >>> (((1 : Int32)).toUInt32 &&& Int32.toUInt32 31)).toInt32) &&& (1431655765 : Int32))) &&& (858993459 : Int32))])) tb_c_81_0 mx_81 4 rfl ?_
  refine bk_c3 tb_c_81_0 rfl rfl (x := (858993459 : Int32)) rfl ?_
  refine bk_b (q := (29, [(0, .int (((p0 - ((((p0).toUInt32 >>> (((1 : Int32)).toUInt32 &&& Int32.toUInt32 31)).toInt32) &&& (1431655765 : Int32))) &&& (858993459 : Int32)) + (((((p0 - ((((p0).toUInt32 >>> (((1 : Int32)).toUInt32 &&& Int32.toUInt32 31)).toInt32) &&& (1431655765 : Int32)))).toUInt32 >>> (((2 : Int32)).toUInt32 &&& Int32.toUInt32 31)).toInt32) &&& (858993459 : Int32))))], [.int ((((p0 - ((((p0).toUInt32 >>> (((1 : Int32)).toUInt32 &&& Int32.toUInt32 31)).toInt32) &&& (1431655765 : Int32))) &&& (858993459 : Int32)) + (((((p0 - ((((p0).toUInt32 >>> (((1 : Int32)).toUInt32 &&& Int32.toUInt32 31)).toInt32) &&& (1431655765 : Int32)))).toUInt32 >>> (((2 : Int32)).toUInt32 &&& Int32.toUInt32 31)).toInt32) &&& (858993459 : Int32))) + ((((((p0 - ((((p0).toUInt32 >>> (((1 : Int32)).toUInt32 &&& Int32.toUInt32 31)).toInt32) &&& (1431655765 : Int32))) &&& (858993459 : Int32)) + (((((p0 - ((((p0).toUInt32 >>> (((1 : Int32)).toUInt32 &&& Int32.toUInt32 31)).toInt32) &&& (1431655765 : Int32)))).toUInt32 >>> (((2 : Int32)).toUInt32 &&& Int32.toUInt32 31)).toInt32) &&& (858993459 : Int32)))).toUInt32 >>> (((4 : Int32)).toUInt32 &&& Int32.toUInt32 31)).toInt32))])) tb_c_81_0 mx_81 8 rfl ?_
  refine bk_c3 tb_c_81_0 rfl rfl (x := (252645135 : Int32)) rfl ?_
  refine bk_b (q := (51, [(0, .int (((((((p0 - ((((p0).toUInt32 >>> (((1 : Int32)).toUInt32 &&& Int32.toUInt32 31)).toInt32) &&& (1431655765 : Int32))) &&& (858993459 : Int32)) + (((((p0 - ((((p0).toUInt32 >>> (((1 : Int32)).toUInt32 &&& Int32.toUInt32 31)).toInt32) &&& (1431655765 : Int32)))).toUInt32 >>> (((2 : Int32)).toUInt32 &&& Int32.toUInt32 31)).toInt32) &&& (858993459 : Int32))) + ((((((p0 - ((((p0).toUInt32 >>> (((1 : Int32)).toUInt32 &&& Int32.toUInt32 31)).toInt32) &&& (1431655765 : Int32))) &&& (858993459 : Int32)) + (((((p0 - ((((p0).toUInt32 >>> (((1 : Int32)).toUInt32 &&& Int32.toUInt32 31)).toInt32) &&& (1431655765 : Int32)))).toUInt32 >>> (((2 : Int32)).toUInt32 &&& Int32.toUInt32 31)).toInt32) &&& (858993459 : Int32)))).toUInt32 >>> (((4 : Int32)).toUInt32 &&& Int32.toUInt32 31)).toInt32)) &&& (252645135 : Int32)) + ((((((((p0 - ((((p0).toUInt32 >>> (((1 : Int32)).toUInt32 &&& Int32.toUInt32 31)).toInt32) &&& (1431655765 : Int32))) &&& (858993459 : Int32)) + (((((p0 - ((((p0).toUInt32 >>> (((1 : Int32)).toUInt32 &&& Int32.toUInt32 31)).toInt32) &&& (1431655765 : Int32)))).toUInt32 >>> (((2 : Int32)).toUInt32 &&& Int32.toUInt32 31)).toInt32) &&& (858993459 : Int32))) + ((((((p0 - ((((p0).toUInt32 >>> (((1 : Int32)).toUInt32 &&& Int32.toUInt32 31)).toInt32) &&& (1431655765 : Int32))) &&& (858993459 : Int32)) + (((((p0 - ((((p0).toUInt32 >>> (((1 : Int32)).toUInt32 &&& Int32.toUInt32 31)).toInt32) &&& (1431655765 : Int32)))).toUInt32 >>> (((2 : Int32)).toUInt32 &&& Int32.toUInt32 31)).toInt32) &&& (858993459 : Int32)))).toUInt32 >>> (((4 : Int32)).toUInt32 &&& Int32.toUInt32 31)).toInt32)) &&& (252645135 : Int32))).toUInt32 >>> (((8 : Int32)).toUInt32 &&& Int32.toUInt32 31)).toInt32)) + (((((((((p0 - ((((p0).toUInt32 >>> (((1 : Int32)).toUInt32 &&& Int32.toUInt32 31)).toInt32) &&& (1431655765 : Int32))) &&& (858993459 : Int32)) + (((((p0 - ((((p0).toUInt32 >>> (((1 : Int32)).toUInt32 &&& Int32.toUInt32 31)).toInt32) &&& (1431655765 : Int32)))).toUInt32 >>> (((2 : Int32)).toUInt32 &&& Int32.toUInt32 31)).toInt32) &&& (858993459 : Int32))) + ((((((p0 - ((((p0).toUInt32 >>> (((1 : Int32)).toUInt32 &&& Int32.toUInt32 31)).toInt32) &&& (1431655765 : Int32))) &&& (858993459 : Int32)) + (((((p0 - ((((p0).toUInt32 >>> (((1 : Int32)).toUInt32 &&& Int32.toUInt32 31)).toInt32) &&& (1431655765 : Int32)))).toUInt32 >>> (((2 : Int32)).toUInt32 &&& Int32.toUInt32 31)).toInt32) &&& (858993459 : Int32)))).toUInt32 >>> (((4 : Int32)).toUInt32 &&& Int32.toUInt32 31)).toInt32)) &&& (252645135 : Int32)) + ((((((((p0 - ((((p0).toUInt32 >>> (((1 : Int32)).toUInt32 &&& Int32.toUInt32 31)).toInt32) &&& (1431655765 : Int32))) &&& (858993459 : Int32)) + (((((p0 - ((((p0).toUInt32 >>> (((1 : Int32)).toUInt32 &&& Int32.toUInt32 31)).toInt32) &&& (1431655765 : Int32)))).toUInt32 >>> (((2 : Int32)).toUInt32 &&& Int32.toUInt32 31)).toInt32) &&& (858993459 : Int32))) + ((((((p0 - ((((p0).toUInt32 >>> (((1 : Int32)).toUInt32 &&& Int32.toUInt32 31)).toInt32) &&& (1431655765 : Int32))) &&& (858993459 : Int32)) + (((((p0 - ((((p0).toUInt32 >>> (((1 : Int32)).toUInt32 &&& Int32.toUInt32 31)).toInt32) &&& (1431655765 : Int32)))).toUInt32 >>> (((2 : Int32)).toUInt32 &&& Int32.toUInt32 31)).toInt32) &&& (858993459 : Int32)))).toUInt32 >>> (((4 : Int32)).toUInt32 &&& Int32.toUInt32 31)).toInt32)) &&& (252645135 : Int32))).toUInt32 >>> (((8 : Int32)).toUInt32 &&& Int32.toUInt32 31)).toInt32))).toUInt32 >>> (((16 : Int32)).toUInt32 &&& Int32.toUInt32 31)).toInt32)))], [.int (63 : Int32), .int (((((((p0 - ((((p0).toUInt32 >>> (((1 : Int32)).toUInt32 &&& Int32.toUInt32 31)).toInt32) &&& (1431655765 : Int32))) &&& (858993459 : Int32)) + (((((p0 - ((((p0).toUInt32 >>> (((1 : Int32)).toUInt32 &&& Int32.toUInt32 31)).toInt32) &&& (1431655765 : Int32)))).toUInt32 >>> (((2 : Int32)).toUInt32 &&& Int32.toUInt32 31)).toInt32) &&& (858993459 : Int32))) + ((((((p0 - ((((p0).toUInt32 >>> (((1 : Int32)).toUInt32 &&& Int32.toUInt32 31)).toInt32) &&& (1431655765 : Int32))) &&& (858993459 : Int32)) + (((((p0 - ((((p0).toUInt32 >>> (((1 : Int32)).toUInt32 &&& Int32.toUInt32 31)).toInt32) &&& (1431655765 : Int32)))).toUInt32 >>> (((2 : Int32)).toUInt32 &&& Int32.toUInt32 31)).toInt32) &&& (858993459 : Int32)))).toUInt32 >>> (((4 : Int32)).toUInt32 &&& Int32.toUInt32 31)).toInt32)) &&& (252645135 : Int32)) + ((((((((p0 - ((((p0).toUInt32 >>> (((1 : Int32)).toUInt32 &&& Int32.toUInt32 31)).toInt32) &&& (1431655765 : Int32))) &&& (858993459 : Int32)) + (((((p0 - ((((p0).toUInt32 >>> (((1 : Int32)).toUInt32 &&& Int32.toUInt32 31)).toInt32) &&& (1431655765 : Int32)))).toUInt32 >>> (((2 : Int32)).toUInt32 &&& Int32.toUInt32 31)).toInt32) &&& (858993459 : Int32))) + ((((((p0 - ((((p0).toUInt32 >>> (((1 : Int32)).toUInt32 &&& Int32.toUInt32 31)).toInt32) &&& (1431655765 : Int32))) &&& (858993459 : Int32)) + (((((p0 - ((((p0).toUInt32 >>> (((1 : Int32)).toUInt32 &&& Int32.toUInt32 31)).toInt32) &&& (1431655765 : Int32)))).toUInt32 >>> (((2 : Int32)).toUInt32 &&& Int32.toUInt32 31)).toInt32) &&& (858993459 : Int32)))).toUInt32 >>> (((4 : Int32)).toUInt32 &&& Int32.toUInt32 31)).toInt32)) &&& (252645135 : Int32))).toUInt32 >>> (((8 : Int32)).toUInt32 &&& Int32.toUInt32 31)).toInt32)) + (((((((((p0 - ((((p0).toUInt32 >>> (((1 : Int32)).toUInt32 &&& Int32.toUInt32 31)).toInt32) &&& (1431655765 : Int32))) &&& (858993459 : Int32)) + (((((p0 - ((((p0).toUInt32 >>> (((1 : Int32)).toUInt32 &&& Int32.toUInt32 31)).toInt32) &&& (1431655765 : Int32)))).toUInt32 >>> (((2 : Int32)).toUInt32 &&& Int32.toUInt32 31)).toInt32) &&& (858993459 : Int32))) + ((((((p0 - ((((p0).toUInt32 >>> (((1 : Int32)).toUInt32 &&& Int32.toUInt32 31)).toInt32) &&& (1431655765 : Int32))) &&& (858993459 : Int32)) + (((((p0 - ((((p0).toUInt32 >>> (((1 : Int32)).toUInt32 &&& Int32.toUInt32 31)).toInt32) &&& (1431655765 : Int32)))).toUInt32 >>> (((2 : Int32)).toUInt32 &&& Int32.toUInt32 31)).toInt32) &&& (858993459 : Int32)))).toUInt32 >>> (((4 : Int32)).toUInt32 &&& Int32.toUInt32 31)).toInt32)) &&& (252645135 : Int32)) + ((((((((p0 - ((((p0).toUInt32 >>> (((1 : Int32)).toUInt32 &&& Int32.toUInt32 31)).toInt32) &&& (1431655765 : Int32))) &&& (858993459 : Int32)) + (((((p0 - ((((p0).toUInt32 >>> (((1 : Int32)).toUInt32 &&& Int32.toUInt32 31)).toInt32) &&& (1431655765 : Int32)))).toUInt32 >>> (((2 : Int32)).toUInt32 &&& Int32.toUInt32 31)).toInt32) &&& (858993459 : Int32))) + ((((((p0 - ((((p0).toUInt32 >>> (((1 : Int32)).toUInt32 &&& Int32.toUInt32 31)).toInt32) &&& (1431655765 : Int32))) &&& (858993459 : Int32)) + (((((p0 - ((((p0).toUInt32 >>> (((1 : Int32)).toUInt32 &&& Int32.toUInt32 31)).toInt32) &&& (1431655765 : Int32)))).toUInt32 >>> (((2 : Int32)).toUInt32 &&& Int32.toUInt32 31)).toInt32) &&& (858993459 : Int32)))).toUInt32 >>> (((4 : Int32)).toUInt32 &&& Int32.toUInt32 31)).toInt32)) &&& (252645135 : Int32))).toUInt32 >>> (((8 : Int32)).toUInt32 &&& Int32.toUInt32 31)).toInt32))).toUInt32 >>> (((16 : Int32)).toUInt32 &&& Int32.toUInt32 31)).toInt32))])) tb_c_81_0 mx_81 16 rfl ?_
  refine bk_b (q := (52, [(0, .int (((((((p0 - ((((p0).toUInt32 >>> (((1 : Int32)).toUInt32 &&& Int32.toUInt32 31)).toInt32) &&& (1431655765 : Int32))) &&& (858993459 : Int32)) + (((((p0 - ((((p0).toUInt32 >>> (((1 : Int32)).toUInt32 &&& Int32.toUInt32 31)).toInt32) &&& (1431655765 : Int32)))).toUInt32 >>> (((2 : Int32)).toUInt32 &&& Int32.toUInt32 31)).toInt32) &&& (858993459 : Int32))) + ((((((p0 - ((((p0).toUInt32 >>> (((1 : Int32)).toUInt32 &&& Int32.toUInt32 31)).toInt32) &&& (1431655765 : Int32))) &&& (858993459 : Int32)) + (((((p0 - ((((p0).toUInt32 >>> (((1 : Int32)).toUInt32 &&& Int32.toUInt32 31)).toInt32) &&& (1431655765 : Int32)))).toUInt32 >>> (((2 : Int32)).toUInt32 &&& Int32.toUInt32 31)).toInt32) &&& (858993459 : Int32)))).toUInt32 >>> (((4 : Int32)).toUInt32 &&& Int32.toUInt32 31)).toInt32)) &&& (252645135 : Int32)) + ((((((((p0 - ((((p0).toUInt32 >>> (((1 : Int32)).toUInt32 &&& Int32.toUInt32 31)).toInt32) &&& (1431655765 : Int32))) &&& (858993459 : Int32)) + (((((p0 - ((((p0).toUInt32 >>> (((1 : Int32)).toUInt32 &&& Int32.toUInt32 31)).toInt32) &&& (1431655765 : Int32)))).toUInt32 >>> (((2 : Int32)).toUInt32 &&& Int32.toUInt32 31)).toInt32) &&& (858993459 : Int32))) + ((((((p0 - ((((p0).toUInt32 >>> (((1 : Int32)).toUInt32 &&& Int32.toUInt32 31)).toInt32) &&& (1431655765 : Int32))) &&& (858993459 : Int32)) + (((((p0 - ((((p0).toUInt32 >>> (((1 : Int32)).toUInt32 &&& Int32.toUInt32 31)).toInt32) &&& (1431655765 : Int32)))).toUInt32 >>> (((2 : Int32)).toUInt32 &&& Int32.toUInt32 31)).toInt32) &&& (858993459 : Int32)))).toUInt32 >>> (((4 : Int32)).toUInt32 &&& Int32.toUInt32 31)).toInt32)) &&& (252645135 : Int32))).toUInt32 >>> (((8 : Int32)).toUInt32 &&& Int32.toUInt32 31)).toInt32)) + (((((((((p0 - ((((p0).toUInt32 >>> (((1 : Int32)).toUInt32 &&& Int32.toUInt32 31)).toInt32) &&& (1431655765 : Int32))) &&& (858993459 : Int32)) + (((((p0 - ((((p0).toUInt32 >>> (((1 : Int32)).toUInt32 &&& Int32.toUInt32 31)).toInt32) &&& (1431655765 : Int32)))).toUInt32 >>> (((2 : Int32)).toUInt32 &&& Int32.toUInt32 31)).toInt32) &&& (858993459 : Int32))) + ((((((p0 - ((((p0).toUInt32 >>> (((1 : Int32)).toUInt32 &&& Int32.toUInt32 31)).toInt32) &&& (1431655765 : Int32))) &&& (858993459 : Int32)) + (((((p0 - ((((p0).toUInt32 >>> (((1 : Int32)).toUInt32 &&& Int32.toUInt32 31)).toInt32) &&& (1431655765 : Int32)))).toUInt32 >>> (((2 : Int32)).toUInt32 &&& Int32.toUInt32 31)).toInt32) &&& (858993459 : Int32)))).toUInt32 >>> (((4 : Int32)).toUInt32 &&& Int32.toUInt32 31)).toInt32)) &&& (252645135 : Int32)) + ((((((((p0 - ((((p0).toUInt32 >>> (((1 : Int32)).toUInt32 &&& Int32.toUInt32 31)).toInt32) &&& (1431655765 : Int32))) &&& (858993459 : Int32)) + (((((p0 - ((((p0).toUInt32 >>> (((1 : Int32)).toUInt32 &&& Int32.toUInt32 31)).toInt32) &&& (1431655765 : Int32)))).toUInt32 >>> (((2 : Int32)).toUInt32 &&& Int32.toUInt32 31)).toInt32) &&& (858993459 : Int32))) + ((((((p0 - ((((p0).toUInt32 >>> (((1 : Int32)).toUInt32 &&& Int32.toUInt32 31)).toInt32) &&& (1431655765 : Int32))) &&& (858993459 : Int32)) + (((((p0 - ((((p0).toUInt32 >>> (((1 : Int32)).toUInt32 &&& Int32.toUInt32 31)).toInt32) &&& (1431655765 : Int32)))).toUInt32 >>> (((2 : Int32)).toUInt32 &&& Int32.toUInt32 31)).toInt32) &&& (858993459 : Int32)))).toUInt32 >>> (((4 : Int32)).toUInt32 &&& Int32.toUInt32 31)).toInt32)) &&& (252645135 : Int32))).toUInt32 >>> (((8 : Int32)).toUInt32 &&& Int32.toUInt32 31)).toInt32))).toUInt32 >>> (((16 : Int32)).toUInt32 &&& Int32.toUInt32 31)).toInt32)))], [.int ((((((((p0 - ((((p0).toUInt32 >>> (((1 : Int32)).toUInt32 &&& Int32.toUInt32 31)).toInt32) &&& (1431655765 : Int32))) &&& (858993459 : Int32)) + (((((p0 - ((((p0).toUInt32 >>> (((1 : Int32)).toUInt32 &&& Int32.toUInt32 31)).toInt32) &&& (1431655765 : Int32)))).toUInt32 >>> (((2 : Int32)).toUInt32 &&& Int32.toUInt32 31)).toInt32) &&& (858993459 : Int32))) + ((((((p0 - ((((p0).toUInt32 >>> (((1 : Int32)).toUInt32 &&& Int32.toUInt32 31)).toInt32) &&& (1431655765 : Int32))) &&& (858993459 : Int32)) + (((((p0 - ((((p0).toUInt32 >>> (((1 : Int32)).toUInt32 &&& Int32.toUInt32 31)).toInt32) &&& (1431655765 : Int32)))).toUInt32 >>> (((2 : Int32)).toUInt32 &&& Int32.toUInt32 31)).toInt32) &&& (858993459 : Int32)))).toUInt32 >>> (((4 : Int32)).toUInt32 &&& Int32.toUInt32 31)).toInt32)) &&& (252645135 : Int32)) + ((((((((p0 - ((((p0).toUInt32 >>> (((1 : Int32)).toUInt32 &&& Int32.toUInt32 31)).toInt32) &&& (1431655765 : Int32))) &&& (858993459 : Int32)) + (((((p0 - ((((p0).toUInt32 >>> (((1 : Int32)).toUInt32 &&& Int32.toUInt32 31)).toInt32) &&& (1431655765 : Int32)))).toUInt32 >>> (((2 : Int32)).toUInt32 &&& Int32.toUInt32 31)).toInt32) &&& (858993459 : Int32))) + ((((((p0 - ((((p0).toUInt32 >>> (((1 : Int32)).toUInt32 &&& Int32.toUInt32 31)).toInt32) &&& (1431655765 : Int32))) &&& (858993459 : Int32)) + (((((p0 - ((((p0).toUInt32 >>> (((1 : Int32)).toUInt32 &&& Int32.toUInt32 31)).toInt32) &&& (1431655765 : Int32)))).toUInt32 >>> (((2 : Int32)).toUInt32 &&& Int32.toUInt32 31)).toInt32) &&& (858993459 : Int32)))).toUInt32 >>> (((4 : Int32)).toUInt32 &&& Int32.toUInt32 31)).toInt32)) &&& (252645135 : Int32))).toUInt32 >>> (((8 : Int32)).toUInt32 &&& Int32.toUInt32 31)).toInt32)) + (((((((((p0 - ((((p0).toUInt32 >>> (((1 : Int32)).toUInt32 &&& Int32.toUInt32 31)).toInt32) &&& (1431655765 : Int32))) &&& (858993459 : Int32)) + (((((p0 - ((((p0).toUInt32 >>> (((1 : Int32)).toUInt32 &&& Int32.toUInt32 31)).toInt32) &&& (1431655765 : Int32)))).toUInt32 >>> (((2 : Int32)).toUInt32 &&& Int32.toUInt32 31)).toInt32) &&& (858993459 : Int32))) + ((((((p0 - ((((p0).toUInt32 >>> (((1 : Int32)).toUInt32 &&& Int32.toUInt32 31)).toInt32) &&& (1431655765 : Int32))) &&& (858993459 : Int32)) + (((((p0 - ((((p0).toUInt32 >>> (((1 : Int32)).toUInt32 &&& Int32.toUInt32 31)).toInt32) &&& (1431655765 : Int32)))).toUInt32 >>> (((2 : Int32)).toUInt32 &&& Int32.toUInt32 31)).toInt32) &&& (858993459 : Int32)))).toUInt32 >>> (((4 : Int32)).toUInt32 &&& Int32.toUInt32 31)).toInt32)) &&& (252645135 : Int32)) + ((((((((p0 - ((((p0).toUInt32 >>> (((1 : Int32)).toUInt32 &&& Int32.toUInt32 31)).toInt32) &&& (1431655765 : Int32))) &&& (858993459 : Int32)) + (((((p0 - ((((p0).toUInt32 >>> (((1 : Int32)).toUInt32 &&& Int32.toUInt32 31)).toInt32) &&& (1431655765 : Int32)))).toUInt32 >>> (((2 : Int32)).toUInt32 &&& Int32.toUInt32 31)).toInt32) &&& (858993459 : Int32))) + ((((((p0 - ((((p0).toUInt32 >>> (((1 : Int32)).toUInt32 &&& Int32.toUInt32 31)).toInt32) &&& (1431655765 : Int32))) &&& (858993459 : Int32)) + (((((p0 - ((((p0).toUInt32 >>> (((1 : Int32)).toUInt32 &&& Int32.toUInt32 31)).toInt32) &&& (1431655765 : Int32)))).toUInt32 >>> (((2 : Int32)).toUInt32 &&& Int32.toUInt32 31)).toInt32) &&& (858993459 : Int32)))).toUInt32 >>> (((4 : Int32)).toUInt32 &&& Int32.toUInt32 31)).toInt32)) &&& (252645135 : Int32))).toUInt32 >>> (((8 : Int32)).toUInt32 &&& Int32.toUInt32 31)).toInt32))).toUInt32 >>> (((16 : Int32)).toUInt32 &&& Int32.toUInt32 31)).toInt32)) &&& (63 : Int32))])) tb_c_81_1 mx_81 1 rfl ?_
  cases h
  exact bk_t tb_c_81_1 rfl rfl
theorem mx_80 : mi_mx tb_P 80 = 3 := rfl
noncomputable def fn_Sp_know_9 (S : wd_S) : Option ((Int32 ⊕ String) × wd_S) :=
  some (.inr "java/lang/IndexOutOfBoundsException", wd_n S)
set_option maxRecDepth 100000 in
theorem sn_Sp_know_9 {L : Nat} {xs : Nat → Int32} {S : wd_S} {x : Int32 ⊕ String} {S' : wd_S} (h : fn_Sp_know_9  S = some (x, S')) : go_r tb_P L xs 1 80 9 [] [] (wd_k S) (wd_wi x, wd_k S') := by
  unfold fn_Sp_know_9 at h
  cases h
  exact bk_x rfl
/-- Specialiser.know(II)I -/
noncomputable def fn_Sp_know (p1 : Int32) (p2 : Int32) (S : wd_S) : Option ((Int32 ⊕ String) × wd_S) :=
  (if p1 < 0 then
    fn_Sp_know_9  S
  else
    (if p1 < (4 : Int32) then
      (wd_b (wd_i S 1 12 ((S.1 1 12) ||| ((1 : Int32) <<< (p1 &&& 31)))) fun S3 =>
      (wd_d (fn_Row_put 122 p1 p2 S3) fun S4 =>
      (wd_c (fn_Integer_bitCount (S4.1 1 12) S4) fun x8 S7 =>
      some (.inl x8, S7))))
    else
      fn_Sp_know_9  S))
set_option maxRecDepth 100000 in
theorem sn_Sp_know {L : Nat} {xs : Nat → Int32} {p1 : Int32} {p2 : Int32} {S : wd_S} {x : Int32 ⊕ String} {S' : wd_S} (h : fn_Sp_know p1 p2 S = some (x, S')) : ev_r tb_P L xs (1 + 1) 80 [.ref 1, .int p1, .int p2] (wd_k S) (wd_wi x, wd_k S') := by
  unfold fn_Sp_know at h
  refine ev_of (Nat.le_of_ble_eq_true rfl) ?_
  show go_r tb_P L xs 1 80 0 [(0, .ref 1), (1, .int p1), (2, .int p2)] [] (wd_k S) (wd_wi x, wd_k S')
  refine bk_b (q := (1, [(0, .ref 1), (1, .int p1), (2, .int p2)], [.int p1])) tb_c_80_0 mx_80 1 rfl ?_
  by_cases g1 : p1 < 0
  · rw [if_pos g1] at h
    refine bk_zt tb_c_80_0 rfl (pc' := 9) rfl (cm_lt_t g1) ?_
    exact go_lv ls_nil (sn_Sp_know_9 h)
  · rw [if_neg g1] at h
    refine bk_zf tb_c_80_0 rfl (pc' := 4) rfl (t := 9) rfl (cm_lt_f g1) ?_
    refine bk_b (q := (6, [(0, .ref 1), (1, .int p1), (2, .int p2)], [.int (4 : Int32), .int p1])) tb_c_80_0 mx_80 2 rfl ?_
    by_cases g2 : p1 < (4 : Int32)
    · rw [if_pos g2] at h
      refine bk_jt tb_c_80_0 rfl (pc' := 19) rfl (cm_lt_t g2) ?_
      refine bk_b (q := (21, [(0, .ref 1), (1, .int p1), (2, .int p2)], [.ref 1, .ref 1])) tb_c_80_0 mx_80 2 rfl ?_
      refine bk_gi tb_c_80_0 rfl rfl (ci := 10) (k := 12) rfl rfl rfl ?_
      refine bk_b (q := (28, [(0, .ref 1), (1, .int p1), (2, .int p2)], [.int ((S.1 1 12) ||| ((1 : Int32) <<< (p1 &&& 31))), .ref 1])) tb_c_80_0 mx_80 4 rfl ?_
      obtain ⟨S3, eS3, h⟩ := wd_bx h
      refine bk_pi tb_c_80_0 rfl rfl (ci := 10) (k := 12) rfl rfl rfl rfl ?_
      rw [eS3]
      refine bk_b (q := (32, [(0, .ref 1), (1, .int p1), (2, .int p2)], [.ref 1])) tb_c_80_0 mx_80 1 rfl ?_
      refine bk_gc tb_c_80_0 rfl rfl (ci := 10) (k := 11) rfl rfl rfl ?_
      refine bk_b (q := (37, [(0, .ref 1), (1, .int p1), (2, .int p2)], [.int p2, .int p1, .ref 122])) tb_c_80_0 mx_80 2 rfl ?_
      obtain ⟨S4, c6, h⟩ := wd_dx h
      refine bk_kv tb_c_80_0 rfl rfl rfl rfl rfl (ci := 5) rfl rfl (ev_up (Nat.le_of_ble_eq_true rfl) (sn_Row_put rfl c6)) ?_
      refine bk_b (q := (41, [(0, .ref 1), (1, .int p1), (2, .int p2)], [.ref 1])) tb_c_80_0 mx_80 1 rfl ?_
      refine bk_gi tb_c_80_0 rfl rfl (ci := 10) (k := 12) rfl rfl rfl ?_
      obtain ⟨x8, S7, c9, h⟩ := wd_cx h
      refine bk_ks tb_c_80_0 rfl rfl rfl (by decide) rfl rfl (ev_up (Nat.le_of_ble_eq_true rfl) (sn_Integer_bitCount c9)) ?_
      cases h
      exact bk_t tb_c_80_0 rfl rfl
    · rw [if_neg g2] at h
      refine bk_jf tb_c_80_0 rfl (pc' := 9) rfl (t := 19) rfl (cm_lt_f g2) ?_
      exact go_lv ls_nil (sn_Sp_know_9 h)
theorem mx_83 : mi_mx tb_P 83 = 2 := rfl
/-- Specialiser$Bodies.paramMask(I)I -/
noncomputable def fn_Bodies_paramMask (p0 : Nat) (p1 : Int32) (S : wd_S) : Option (Int32 × wd_S) :=
  (wd_c (fn_Bodies_params p0 p1 S) fun x2 S1 =>
  some ((((1 : Int32) <<< (x2 &&& 31)) - (1 : Int32)), S1))
set_option maxRecDepth 100000 in
theorem sn_Bodies_paramMask {L : Nat} {xs : Nat → Int32} {p0 : Nat} {p1 : Int32} {S : wd_S} {x : Int32} {S' : wd_S} (hp0 : tp_t p0 = (0, 0)) (h : fn_Bodies_paramMask p0 p1 S = some (x, S')) : ev_r tb_P L xs (2 + 1) 83 [.ref p0, .int p1] (wd_k S) (.inl (some (.int x)), wd_k S') := by
  unfold fn_Bodies_paramMask at h
  refine ev_of (Nat.le_of_ble_eq_true rfl) ?_
  show go_r tb_P L xs 2 83 0 [(0, .ref p0), (1, .int p1)] [] (wd_k S) (.inl (some (.int x)), wd_k S')
  refine bk_b (q := (3, [(0, .ref p0), (1, .int p1)], [.int p1, .ref p0, .int (1 : Int32)])) tb_c_83_0 mx_83 3 rfl ?_
  obtain ⟨x2, S1, c3, h⟩ := wd_cx h
  refine bk_kv tb_c_83_0 rfl rfl rfl rfl rfl (ci := 0) hp0 rfl (ev_up (Nat.le_of_ble_eq_true rfl) (sn_Bodies_params hp0 c3)) ?_
  refine bk_b (q := (9, [(0, .ref p0), (1, .int p1)], [.int (((1 : Int32) <<< (x2 &&& 31)) - (1 : Int32))])) tb_c_83_0 mx_83 3 rfl ?_
  cases h
  exact bk_t tb_c_83_0 rfl rfl
theorem mx_85 : mi_mx tb_P 85 = 2 := rfl
noncomputable def fn_Versions_isIn_14 (s0 : Int32) (S : wd_S) : Option (Int32 × wd_S) :=
  (if mi_fit .boolean (.int s0) = true then some (s0, S) else none)
set_option maxRecDepth 100000 in
theorem sn_Versions_isIn_14 {L : Nat} {xs : Nat → Int32} {s0 : Int32} {S : wd_S} {x : Int32} {S' : wd_S} (h : fn_Versions_isIn_14 s0 S = some (x, S')) : go_r tb_P L xs 0 85 14 [] [.int s0] (wd_k S) (.inl (some (.int x)), wd_k S') := by
  unfold fn_Versions_isIn_14 at h
  by_cases g2 : mi_fit .boolean (.int s0) = true
  · rw [if_pos g2] at h
    cases h
    exact bk_t tb_c_85_0 rfl (if_pos g2)
  · rw [if_neg g2] at h; cases h
/-- Specialiser$Versions.isIn(II)Z -/
noncomputable def fn_Versions_isIn (p0 : Int32) (p1 : Int32) (S : wd_S) : Option (Int32 × wd_S) :=
  (if ((p0 >>> (p1 &&& 31)) &&& (1 : Int32)) = (1 : Int32) then
    fn_Versions_isIn_14 (1 : Int32) S
  else
    fn_Versions_isIn_14 (0 : Int32) S)
set_option maxRecDepth 100000 in
theorem sn_Versions_isIn {L : Nat} {xs : Nat → Int32} {p0 : Int32} {p1 : Int32} {S : wd_S} {x : Int32} {S' : wd_S} (h : fn_Versions_isIn p0 p1 S = some (x, S')) : ev_r tb_P L xs (0 + 1) 85 [.int p0, .int p1] (wd_k S) (.inl (some (.int x)), wd_k S') := by
  unfold fn_Versions_isIn at h
  refine ev_of (Nat.le_of_ble_eq_true rfl) ?_
  show go_r tb_P L xs 0 85 0 [(0, .int p0), (1, .int p1)] [] (wd_k S) (.inl (some (.int x)), wd_k S')
  refine bk_b (q := (6, [(0, .int p0), (1, .int p1)], [.int (1 : Int32), .int ((p0 >>> (p1 &&& 31)) &&& (1 : Int32))])) tb_c_85_0 mx_85 6 rfl ?_
  by_cases g1 : ((p0 >>> (p1 &&& 31)) &&& (1 : Int32)) = (1 : Int32)
  · rw [if_pos g1] at h
    refine bk_jf tb_c_85_0 rfl (pc' := 9) rfl (t := 13) rfl (cm_ne_f g1) ?_
    refine bk_b (q := (14, [(0, .int p0), (1, .int p1)], [.int (1 : Int32)])) tb_c_85_0 mx_85 2 rfl ?_
    exact go_lv ls_nil (sn_Versions_isIn_14 h)
  · rw [if_neg g1] at h
    refine bk_jt tb_c_85_0 rfl (pc' := 13) rfl (cm_ne_t g1) ?_
    refine bk_b (q := (14, [(0, .int p0), (1, .int p1)], [.int (0 : Int32)])) tb_c_85_0 mx_85 1 rfl ?_
    exact go_lv ls_nil (sn_Versions_isIn_14 h)
theorem mx_84 : mi_mx tb_P 84 = 7 := rfl
noncomputable def fn_Versions_add_75 (kk39 : Nat → Int32 → Nat → Int32 → Int32 → wd_S → Option (Int32 × wd_S)) (l0 : Nat) (l2 : Int32) (l3 : Nat) (l5 : Int32) (l6 : Int32) (s0 : Nat) (s1 : Int32) (s2 : Int32) (S : wd_S) : Option (Int32 × wd_S) :=
  (wd_d (fn_Row_put s0 s1 s2 S) fun S18 =>
  kk39 l0 l2 l3 l5 (l6 + (1 : Int32)) S18)
set_option maxRecDepth 100000 in
theorem sn_Versions_add_75 {L : Nat} {xs : Nat → Int32} {kk39 : Nat → Int32 → Nat → Int32 → Int32 → wd_S → Option (Int32 × wd_S)} (hk39 : ∀ {l0 : Nat} {l2 : Int32} {l3 : Nat} {l5 : Int32} {l6 : Int32} {S : wd_S} {x : Int32} {S' : wd_S}, tp_t l0 = (0, 9) → tp_t l3 = (0, 5) → kk39 l0 l2 l3 l5 l6 S = some (x, S') → go_r tb_P L xs 2 84 39 [(0, .ref l0), (2, .int l2), (3, .ref l3), (5, .int l5), (6, .int l6)] [] (wd_k S) (.inl (some (.int x)), wd_k S')) {l0 : Nat} {l2 : Int32} {l3 : Nat} {l5 : Int32} {l6 : Int32} {s0 : Nat} {s1 : Int32} {s2 : Int32} {S : wd_S} {x : Int32} {S' : wd_S} (hl0 : tp_t l0 = (0, 9)) (hl3 : tp_t l3 = (0, 5)) (hs0 : tp_t s0 = (0, 5)) (h : fn_Versions_add_75 kk39 l0 l2 l3 l5 l6 s0 s1 s2 S = some (x, S')) : go_r tb_P L xs 2 84 75 [(0, .ref l0), (2, .int l2), (3, .ref l3), (5, .int l5), (6, .int l6)] [.int s2, .int s1, .ref s0] (wd_k S) (.inl (some (.int x)), wd_k S') := by
  unfold fn_Versions_add_75 at h
  obtain ⟨S18, c20, h⟩ := wd_dx h
  refine bk_kv tb_c_84_0 rfl rfl rfl rfl rfl (ci := 5) hs0 rfl (ev_up (Nat.le_of_ble_eq_true rfl) (sn_Row_put hs0 c20)) ?_
  refine bk_b (q := (39, [(6, .int (l6 + (1 : Int32))), (0, .ref l0), (2, .int l2), (3, .ref l3), (5, .int l5)], [])) tb_c_84_1 mx_84 2 rfl ?_
  exact go_lv (ls_sc rfl rfl (ls_sc rfl rfl (ls_sc rfl rfl (ls_sc rfl rfl (ls_sc rfl rfl ls_nil))))) (hk39 hl0 hl3 h)
noncomputable def fn_Versions_add_39 : Nat → Nat → Int32 → Nat → Int32 → Int32 → wd_S → Option (Int32 × wd_S)
  | 0, _, _, _, _, _, _ => none
  | n + 1, l0, l2, l3, l5, l6, S =>
    (if l6 < (4 : Int32) then
      (wd_c (fn_Versions_isIn l2 l6 S) fun x15 S14 =>
      (if x15 = 0 then
        fn_Versions_add_75 (fn_Versions_add_39 n) l0 l2 l3 l5 l6 (l0 + 23) ((l5 * (4 : Int32)) + l6) (0 : Int32) S14
      else
        (wd_c (fn_Row_at l3 l6 S14) fun x22 S21 =>
        fn_Versions_add_75 (fn_Versions_add_39 n) l0 l2 l3 l5 l6 (l0 + 23) ((l5 * (4 : Int32)) + l6) x22 S21)))
    else
      some (l5, S))
set_option maxRecDepth 100000 in
theorem sn_Versions_add_39 {L : Nat} {xs : Nat → Int32} : ∀ (n : Nat) {l0 : Nat} {l2 : Int32} {l3 : Nat} {l5 : Int32} {l6 : Int32} {S : wd_S} {x : Int32} {S' : wd_S}, tp_t l0 = (0, 9) → tp_t l3 = (0, 5) → fn_Versions_add_39 n l0 l2 l3 l5 l6 S = some (x, S') → go_r tb_P L xs 2 84 39 [(0, .ref l0), (2, .int l2), (3, .ref l3), (5, .int l5), (6, .int l6)] [] (wd_k S) (.inl (some (.int x)), wd_k S') := by
  intro n
  induction n with
  | zero => intro l0 l2 l3 l5 l6 S x S' hl0 hl3 h; cases h
  | succ n ih =>
    intro l0 l2 l3 l5 l6 S x S' hl0 hl3 h
    rw [fn_Versions_add_39] at h
    refine bk_b (q := (42, [(0, .ref l0), (2, .int l2), (3, .ref l3), (5, .int l5), (6, .int l6)], [.int (4 : Int32), .int l6])) tb_c_84_0 mx_84 2 rfl ?_
    by_cases g13 : l6 < (4 : Int32)
    · rw [if_pos g13] at h
      refine bk_jf tb_c_84_0 rfl (pc' := 45) rfl (t := 84) rfl (cm_ge_f g13) ?_
      refine bk_b (q := (46, [(0, .ref l0), (2, .int l2), (3, .ref l3), (5, .int l5), (6, .int l6)], [.ref l0])) tb_c_84_0 mx_84 1 rfl ?_
      refine bk_go tb_c_84_0 rfl rfl (ci := 9) (k := 3) rfl hl0 rfl ?_
      refine bk_b (q := (59, [(0, .ref l0), (2, .int l2), (3, .ref l3), (5, .int l5), (6, .int l6)], [.int l6, .int l2, .int ((l5 * (4 : Int32)) + l6), .ref (l0 + 23)])) tb_c_84_0 mx_84 7 rfl ?_
      obtain ⟨x15, S14, c16, h⟩ := wd_cx h
      refine bk_ks tb_c_84_0 rfl rfl rfl (by decide) rfl rfl (ev_up (Nat.le_of_ble_eq_true rfl) (sn_Versions_isIn c16)) ?_
      by_cases g17 : x15 = 0
      · rw [if_pos g17] at h
        refine bk_zt tb_c_84_0 rfl (pc' := 74) rfl (cm_eq_t g17) ?_
        refine bk_b (q := (75, [(0, .ref l0), (2, .int l2), (3, .ref l3), (5, .int l5), (6, .int l6)], [.int (0 : Int32), .int ((l5 * (4 : Int32)) + l6), .ref (l0 + 23)])) tb_c_84_0 mx_84 1 rfl ?_
        exact go_lv (ls_sc rfl rfl (ls_sc rfl rfl (ls_sc rfl rfl (ls_sc rfl rfl (ls_sc rfl rfl ls_nil))))) (sn_Versions_add_75 ih hl0 hl3 (tp_9_3 hl0) h)
      · rw [if_neg g17] at h
        refine bk_zf tb_c_84_0 rfl (pc' := 65) rfl (t := 74) rfl (cm_eq_f g17) ?_
        refine bk_b (q := (68, [(0, .ref l0), (2, .int l2), (3, .ref l3), (5, .int l5), (6, .int l6)], [.int l6, .ref l3, .int ((l5 * (4 : Int32)) + l6), .ref (l0 + 23)])) tb_c_84_0 mx_84 2 rfl ?_
        obtain ⟨x22, S21, c23, h⟩ := wd_cx h
        refine bk_kv tb_c_84_0 rfl rfl rfl rfl rfl (ci := 5) hl3 rfl (ev_up (Nat.le_of_ble_eq_true rfl) (sn_Row_at hl3 c23)) ?_
        refine bk_b (q := (75, [(0, .ref l0), (2, .int l2), (3, .ref l3), (5, .int l5), (6, .int l6)], [.int x22, .int ((l5 * (4 : Int32)) + l6), .ref (l0 + 23)])) tb_c_84_0 mx_84 1 rfl ?_
        exact go_lv (ls_sc rfl rfl (ls_sc rfl rfl (ls_sc rfl rfl (ls_sc rfl rfl (ls_sc rfl rfl ls_nil))))) (sn_Versions_add_75 ih hl0 hl3 (tp_9_3 hl0) h)
    · rw [if_neg g13] at h
      refine bk_jt tb_c_84_0 rfl (pc' := 84) rfl (cm_ge_t g13) ?_
      refine bk_b (q := (86, [(0, .ref l0), (2, .int l2), (3, .ref l3), (5, .int l5), (6, .int l6)], [.int l5])) tb_c_84_1 mx_84 1 rfl ?_
      cases h
      exact bk_t tb_c_84_1 rfl rfl
/-- Specialiser$Versions.add(IILSpecialiser$Row;I)I -/
noncomputable def fn_Versions_add (p0 : Nat) (p1 : Int32) (p2 : Int32) (p3 : Nat) (p4 : Int32) (S : wd_S) : Option (Int32 × wd_S) :=
  (wd_c (fn_Integer_bitCount p2 S) fun x2 S1 =>
  (wd_c (fn_Bodies_add (p0 + 1) (p4 - x2) S1) fun x5 S4 =>
  (wd_d (fn_Row_put (p0 + 19) x5 p1 S4) fun S7 =>
  (wd_d (fn_Row_put (p0 + 21) x5 p2 S7) fun S10 =>
  fn_Versions_add_39 wd_F p0 p2 p3 x5 (0 : Int32) S10))))
set_option maxRecDepth 100000 in
theorem sn_Versions_add {L : Nat} {xs : Nat → Int32} {p0 : Nat} {p1 : Int32} {p2 : Int32} {p3 : Nat} {p4 : Int32} {S : wd_S} {x : Int32} {S' : wd_S} (hp0 : tp_t p0 = (0, 9)) (hp3 : tp_t p3 = (0, 5)) (h : fn_Versions_add p0 p1 p2 p3 p4 S = some (x, S')) : ev_r tb_P L xs (2 + 1) 84 [.ref p0, .int p1, .int p2, .ref p3, .int p4] (wd_k S) (.inl (some (.int x)), wd_k S') := by
  unfold fn_Versions_add at h
  refine ev_of (Nat.le_of_ble_eq_true rfl) ?_
  show go_r tb_P L xs 2 84 0 [(0, .ref p0), (1, .int p1), (2, .int p2), (3, .ref p3), (4, .int p4)] [] (wd_k S) (.inl (some (.int x)), wd_k S')
  refine bk_b (q := (1, [(0, .ref p0), (1, .int p1), (2, .int p2), (3, .ref p3), (4, .int p4)], [.ref p0])) tb_c_84_0 mx_84 1 rfl ?_
  refine bk_go tb_c_84_0 rfl rfl (ci := 9) (k := 0) rfl hp0 rfl ?_
  refine bk_b (q := (7, [(0, .ref p0), (1, .int p1), (2, .int p2), (3, .ref p3), (4, .int p4)], [.int p2, .int p4, .ref (p0 + 1)])) tb_c_84_0 mx_84 2 rfl ?_
  obtain ⟨x2, S1, c3, h⟩ := wd_cx h
  refine bk_ks tb_c_84_0 rfl rfl rfl (by decide) rfl rfl (ev_up (Nat.le_of_ble_eq_true rfl) (sn_Integer_bitCount c3)) ?_
  refine bk_b (q := (11, [(0, .ref p0), (1, .int p1), (2, .int p2), (3, .ref p3), (4, .int p4)], [.int (p4 - x2), .ref (p0 + 1)])) tb_c_84_0 mx_84 1 rfl ?_
  obtain ⟨x5, S4, c6, h⟩ := wd_cx h
  refine bk_kv tb_c_84_0 rfl rfl rfl rfl rfl (ci := 0) (tp_9_0 hp0) rfl (ev_up (Nat.le_of_ble_eq_true rfl) (sn_Bodies_add (tp_9_0 hp0) c6)) ?_
  refine bk_b (q := (17, [(5, .int x5), (0, .ref p0), (1, .int p1), (2, .int p2), (3, .ref p3), (4, .int p4)], [.ref p0])) tb_c_84_0 mx_84 2 rfl ?_
  refine bk_go tb_c_84_0 rfl rfl (ci := 9) (k := 1) rfl hp0 rfl ?_
  refine bk_b (q := (23, [(5, .int x5), (0, .ref p0), (1, .int p1), (2, .int p2), (3, .ref p3), (4, .int p4)], [.int p1, .int x5, .ref (p0 + 19)])) tb_c_84_0 mx_84 2 rfl ?_
  obtain ⟨S7, c9, h⟩ := wd_dx h
  refine bk_kv tb_c_84_0 rfl rfl rfl rfl rfl (ci := 5) (tp_9_1 hp0) rfl (ev_up (Nat.le_of_ble_eq_true rfl) (sn_Row_put (tp_9_1 hp0) c9)) ?_
  refine bk_b (q := (27, [(5, .int x5), (0, .ref p0), (1, .int p1), (2, .int p2), (3, .ref p3), (4, .int p4)], [.ref p0])) tb_c_84_0 mx_84 1 rfl ?_
  refine bk_go tb_c_84_0 rfl rfl (ci := 9) (k := 2) rfl hp0 rfl ?_
  refine bk_b (q := (33, [(5, .int x5), (0, .ref p0), (1, .int p1), (2, .int p2), (3, .ref p3), (4, .int p4)], [.int p2, .int x5, .ref (p0 + 21)])) tb_c_84_0 mx_84 2 rfl ?_
  obtain ⟨S10, c12, h⟩ := wd_dx h
  refine bk_kv tb_c_84_0 rfl rfl rfl rfl rfl (ci := 5) (tp_9_2 hp0) rfl (ev_up (Nat.le_of_ble_eq_true rfl) (sn_Row_put (tp_9_2 hp0) c12)) ?_
  refine bk_b (q := (39, [(6, .int (0 : Int32)), (5, .int x5), (0, .ref p0), (1, .int p1), (2, .int p2), (3, .ref p3), (4, .int p4)], [])) tb_c_84_0 mx_84 2 rfl ?_
  exact go_lv (ls_sc rfl rfl (ls_sc rfl rfl (ls_sc rfl rfl (ls_sc rfl rfl (ls_sc rfl rfl ls_nil))))) (sn_Versions_add_39 wd_F hp0 hp3 h)
theorem mx_87 : mi_mx tb_P 87 = 1 := rfl
/-- Specialiser$Versions.count()I -/
noncomputable def fn_Versions_count (p0 : Nat) (S : wd_S) : Option (Int32 × wd_S) :=
  (wd_c (fn_Bodies_count (p0 + 1) S) fun x2 S1 =>
  some (x2, S1))
set_option maxRecDepth 100000 in
theorem sn_Versions_count {L : Nat} {xs : Nat → Int32} {p0 : Nat} {S : wd_S} {x : Int32} {S' : wd_S} (hp0 : tp_t p0 = (0, 9)) (h : fn_Versions_count p0 S = some (x, S')) : ev_r tb_P L xs (1 + 1) 87 [.ref p0] (wd_k S) (.inl (some (.int x)), wd_k S') := by
  unfold fn_Versions_count at h
  refine ev_of (Nat.le_of_ble_eq_true rfl) ?_
  show go_r tb_P L xs 1 87 0 [(0, .ref p0)] [] (wd_k S) (.inl (some (.int x)), wd_k S')
  refine bk_b (q := (1, [(0, .ref p0)], [.ref p0])) tb_c_87_0 mx_87 1 rfl ?_
  refine bk_go tb_c_87_0 rfl rfl (ci := 9) (k := 0) rfl hp0 rfl ?_
  obtain ⟨x2, S1, c3, h⟩ := wd_cx h
  refine bk_kv tb_c_87_0 rfl rfl rfl rfl rfl (ci := 0) (tp_9_0 hp0) rfl (ev_up (Nat.le_of_ble_eq_true rfl) (sn_Bodies_count (tp_9_0 hp0) c3)) ?_
  cases h
  exact bk_t tb_c_87_0 rfl rfl
theorem mx_89 : mi_mx tb_P 89 = 2 := rfl
/-- Specialiser$Versions.functionOf(I)I -/
noncomputable def fn_Versions_functionOf (p0 : Nat) (p1 : Int32) (S : wd_S) : Option (Int32 × wd_S) :=
  (wd_c (fn_Row_at (p0 + 19) p1 S) fun x2 S1 =>
  some (x2, S1))
set_option maxRecDepth 100000 in
theorem sn_Versions_functionOf {L : Nat} {xs : Nat → Int32} {p0 : Nat} {p1 : Int32} {S : wd_S} {x : Int32} {S' : wd_S} (hp0 : tp_t p0 = (0, 9)) (h : fn_Versions_functionOf p0 p1 S = some (x, S')) : ev_r tb_P L xs (1 + 1) 89 [.ref p0, .int p1] (wd_k S) (.inl (some (.int x)), wd_k S') := by
  unfold fn_Versions_functionOf at h
  refine ev_of (Nat.le_of_ble_eq_true rfl) ?_
  show go_r tb_P L xs 1 89 0 [(0, .ref p0), (1, .int p1)] [] (wd_k S) (.inl (some (.int x)), wd_k S')
  refine bk_b (q := (1, [(0, .ref p0), (1, .int p1)], [.ref p0])) tb_c_89_0 mx_89 1 rfl ?_
  refine bk_go tb_c_89_0 rfl rfl (ci := 9) (k := 1) rfl hp0 rfl ?_
  refine bk_b (q := (5, [(0, .ref p0), (1, .int p1)], [.int p1, .ref (p0 + 19)])) tb_c_89_0 mx_89 1 rfl ?_
  obtain ⟨x2, S1, c3, h⟩ := wd_cx h
  refine bk_kv tb_c_89_0 rfl rfl rfl rfl rfl (ci := 5) (tp_9_1 hp0) rfl (ev_up (Nat.le_of_ble_eq_true rfl) (sn_Row_at (tp_9_1 hp0) c3)) ?_
  cases h
  exact bk_t tb_c_89_0 rfl rfl
theorem mx_90 : mi_mx tb_P 90 = 2 := rfl
/-- Specialiser$Versions.mask(I)I -/
noncomputable def fn_Versions_mask (p0 : Nat) (p1 : Int32) (S : wd_S) : Option (Int32 × wd_S) :=
  (wd_c (fn_Row_at (p0 + 21) p1 S) fun x2 S1 =>
  some (x2, S1))
set_option maxRecDepth 100000 in
theorem sn_Versions_mask {L : Nat} {xs : Nat → Int32} {p0 : Nat} {p1 : Int32} {S : wd_S} {x : Int32} {S' : wd_S} (hp0 : tp_t p0 = (0, 9)) (h : fn_Versions_mask p0 p1 S = some (x, S')) : ev_r tb_P L xs (1 + 1) 90 [.ref p0, .int p1] (wd_k S) (.inl (some (.int x)), wd_k S') := by
  unfold fn_Versions_mask at h
  refine ev_of (Nat.le_of_ble_eq_true rfl) ?_
  show go_r tb_P L xs 1 90 0 [(0, .ref p0), (1, .int p1)] [] (wd_k S) (.inl (some (.int x)), wd_k S')
  refine bk_b (q := (1, [(0, .ref p0), (1, .int p1)], [.ref p0])) tb_c_90_0 mx_90 1 rfl ?_
  refine bk_go tb_c_90_0 rfl rfl (ci := 9) (k := 2) rfl hp0 rfl ?_
  refine bk_b (q := (5, [(0, .ref p0), (1, .int p1)], [.int p1, .ref (p0 + 21)])) tb_c_90_0 mx_90 1 rfl ?_
  obtain ⟨x2, S1, c3, h⟩ := wd_cx h
  refine bk_kv tb_c_90_0 rfl rfl rfl rfl rfl (ci := 5) (tp_9_2 hp0) rfl (ev_up (Nat.le_of_ble_eq_true rfl) (sn_Row_at (tp_9_2 hp0) c3)) ?_
  cases h
  exact bk_t tb_c_90_0 rfl rfl
theorem mx_91 : mi_mx tb_P 91 = 3 := rfl
/-- Specialiser$Versions.number(II)I -/
noncomputable def fn_Versions_number (p0 : Nat) (p1 : Int32) (p2 : Int32) (S : wd_S) : Option (Int32 × wd_S) :=
  (wd_c (fn_Row_at (p0 + 23) ((p1 * (4 : Int32)) + p2) S) fun x2 S1 =>
  some (x2, S1))
set_option maxRecDepth 100000 in
theorem sn_Versions_number {L : Nat} {xs : Nat → Int32} {p0 : Nat} {p1 : Int32} {p2 : Int32} {S : wd_S} {x : Int32} {S' : wd_S} (hp0 : tp_t p0 = (0, 9)) (h : fn_Versions_number p0 p1 p2 S = some (x, S')) : ev_r tb_P L xs (1 + 1) 91 [.ref p0, .int p1, .int p2] (wd_k S) (.inl (some (.int x)), wd_k S') := by
  unfold fn_Versions_number at h
  refine ev_of (Nat.le_of_ble_eq_true rfl) ?_
  show go_r tb_P L xs 1 91 0 [(0, .ref p0), (1, .int p1), (2, .int p2)] [] (wd_k S) (.inl (some (.int x)), wd_k S')
  refine bk_b (q := (1, [(0, .ref p0), (1, .int p1), (2, .int p2)], [.ref p0])) tb_c_91_0 mx_91 1 rfl ?_
  refine bk_go tb_c_91_0 rfl rfl (ci := 9) (k := 3) rfl hp0 rfl ?_
  refine bk_b (q := (9, [(0, .ref p0), (1, .int p1), (2, .int p2)], [.int ((p1 * (4 : Int32)) + p2), .ref (p0 + 23)])) tb_c_91_0 mx_91 5 rfl ?_
  obtain ⟨x2, S1, c3, h⟩ := wd_cx h
  refine bk_kv tb_c_91_0 rfl rfl rfl rfl rfl (ci := 5) (tp_9_3 hp0) rfl (ev_up (Nat.le_of_ble_eq_true rfl) (sn_Row_at (tp_9_3 hp0) c3)) ?_
  cases h
  exact bk_t tb_c_91_0 rfl rfl
theorem mx_92 : mi_mx tb_P 92 = 4 := rfl
/-- Specialiser$Maker.bind(III)V -/
noncomputable def fn_Maker_bind (p1 : Int32) (p2 : Int32) (p3 : Int32) (S : wd_S) : Option wd_S :=
  (wd_d (fn_Row_put 116 p1 p2 S) fun S1 =>
  (wd_d (fn_Row_put 118 p1 p3 S1) fun S4 =>
  some S4))
set_option maxRecDepth 100000 in
theorem sn_Maker_bind {L : Nat} {xs : Nat → Int32} {p1 : Int32} {p2 : Int32} {p3 : Int32} {S : wd_S} {S' : wd_S} (h : fn_Maker_bind p1 p2 p3 S = some S') : ev_r tb_P L xs (1 + 1) 92 [.ref 115, .int p1, .int p2, .int p3] (wd_k S) (.inl none, wd_k S') := by
  unfold fn_Maker_bind at h
  refine ev_of (Nat.le_of_ble_eq_true rfl) ?_
  show go_r tb_P L xs 1 92 0 [(0, .ref 115), (1, .int p1), (2, .int p2), (3, .int p3)] [] (wd_k S) (.inl none, wd_k S')
  refine bk_b (q := (1, [(0, .ref 115), (1, .int p1), (2, .int p2), (3, .int p3)], [.ref 115])) tb_c_92_0 mx_92 1 rfl ?_
  refine bk_gc tb_c_92_0 rfl rfl (ci := 2) (k := 5) rfl rfl rfl ?_
  refine bk_b (q := (6, [(0, .ref 115), (1, .int p1), (2, .int p2), (3, .int p3)], [.int p2, .int p1, .ref 116])) tb_c_92_0 mx_92 2 rfl ?_
  obtain ⟨S1, c3, h⟩ := wd_dx h
  refine bk_kv tb_c_92_0 rfl rfl rfl rfl rfl (ci := 5) rfl rfl (ev_up (Nat.le_of_ble_eq_true rfl) (sn_Row_put rfl c3)) ?_
  refine bk_b (q := (10, [(0, .ref 115), (1, .int p1), (2, .int p2), (3, .int p3)], [.ref 115])) tb_c_92_0 mx_92 1 rfl ?_
  refine bk_gc tb_c_92_0 rfl rfl (ci := 2) (k := 6) rfl rfl rfl ?_
  refine bk_b (q := (15, [(0, .ref 115), (1, .int p1), (2, .int p2), (3, .int p3)], [.int p3, .int p1, .ref 118])) tb_c_92_0 mx_92 2 rfl ?_
  obtain ⟨S4, c6, h⟩ := wd_dx h
  refine bk_kv tb_c_92_0 rfl rfl rfl rfl rfl (ci := 5) rfl rfl (ev_up (Nat.le_of_ble_eq_true rfl) (sn_Row_put rfl c6)) ?_
  cases h
  exact bk_t tb_c_92_0 rfl rfl
theorem mx_88 : mi_mx tb_P 88 = 4 := rfl
noncomputable def fn_Maker_bindParams_66 (kk4 : Int32 → Int32 → Int32 → wd_S → Option wd_S) (l1 : Int32) (l2 : Int32) (l3 : Int32) (S : wd_S) : Option wd_S :=
  kk4 l1 l2 (l3 + (1 : Int32)) S
set_option maxRecDepth 100000 in
theorem sn_Maker_bindParams_66 {L : Nat} {xs : Nat → Int32} {kk4 : Int32 → Int32 → Int32 → wd_S → Option wd_S} (hk4 : ∀ {l1 : Int32} {l2 : Int32} {l3 : Int32} {S : wd_S} {S' : wd_S}, kk4 l1 l2 l3 S = some S' → go_r tb_P L xs 2 88 4 [(0, .ref 115), (1, .int l1), (2, .int l2), (3, .int l3)] [] (wd_k S) (.inl none, wd_k S')) {l1 : Int32} {l2 : Int32} {l3 : Int32} {S : wd_S} {S' : wd_S} (h : fn_Maker_bindParams_66 kk4 l1 l2 l3 S = some S') : go_r tb_P L xs 2 88 66 [(0, .ref 115), (1, .int l1), (2, .int l2), (3, .int l3)] [] (wd_k S) (.inl none, wd_k S') := by
  unfold fn_Maker_bindParams_66 at h
  refine bk_b (q := (4, [(3, .int (l3 + (1 : Int32))), (0, .ref 115), (1, .int l1), (2, .int l2)], [])) tb_c_88_0 mx_88 2 rfl ?_
  exact go_lv (ls_sc rfl rfl (ls_sc rfl rfl (ls_sc rfl rfl (ls_sc rfl rfl ls_nil)))) (hk4 h)
noncomputable def fn_Maker_bindParams_4 : Nat → Int32 → Int32 → Int32 → wd_S → Option wd_S
  | 0, _, _, _, _ => none
  | n + 1, l1, l2, l3, S =>
    (if tp_t (S.2.2.1 115 1) = (0, 0) then
      (if tp_t (S.2.2.1 115 3) = (0, 9) then
        (wd_c (fn_Versions_functionOf (S.2.2.1 115 3) l1 S) fun x4 S3 =>
        (wd_c (fn_Bodies_params (S.2.2.1 115 1) x4 S3) fun x7 S6 =>
        (if l3 < x7 then
          (if tp_t (S6.2.2.1 115 3) = (0, 9) then
            (wd_c (fn_Versions_mask (S6.2.2.1 115 3) l1 S6) fun x12 S11 =>
            (wd_c (fn_Versions_isIn x12 l3 S11) fun x15 S14 =>
            (if x15 = 0 then
              (wd_d (fn_Maker_bind l3 (0 : Int32) l2 S14) fun S18 =>
              fn_Maker_bindParams_66 (fn_Maker_bindParams_4 n) l1 (l2 + (1 : Int32)) l3 S18)
            else
              (if tp_t (S14.2.2.1 115 3) = (0, 9) then
                (wd_c (fn_Versions_number (S14.2.2.1 115 3) l1 l3 S14) fun x23 S22 =>
                (wd_d (fn_Maker_bind l3 (1 : Int32) x23 S22) fun S25 =>
                fn_Maker_bindParams_66 (fn_Maker_bindParams_4 n) l1 l2 l3 S25))
              else none))))
          else none)
        else
          some S6)))
      else none)
    else none)
set_option maxRecDepth 100000 in
theorem sn_Maker_bindParams_4 {L : Nat} {xs : Nat → Int32} : ∀ (n : Nat) {l1 : Int32} {l2 : Int32} {l3 : Int32} {S : wd_S} {S' : wd_S}, fn_Maker_bindParams_4 n l1 l2 l3 S = some S' → go_r tb_P L xs 2 88 4 [(0, .ref 115), (1, .int l1), (2, .int l2), (3, .int l3)] [] (wd_k S) (.inl none, wd_k S') := by
  intro n
  induction n with
  | zero => intro l1 l2 l3 S S'  h; cases h
  | succ n ih =>
    intro l1 l2 l3 S S'  h
    rw [fn_Maker_bindParams_4] at h
    refine bk_b (q := (6, [(0, .ref 115), (1, .int l1), (2, .int l2), (3, .int l3)], [.ref 115, .int l3])) tb_c_88_0 mx_88 2 rfl ?_
    refine bk_gm tb_c_88_0 rfl rfl (ci := 2) (k := 1) rfl rfl rfl ?_
    by_cases g1 : tp_t (S.2.2.1 115 1) = (0, 0)
    · rw [if_pos g1] at h
      refine bk_b (q := (10, [(0, .ref 115), (1, .int l1), (2, .int l2), (3, .int l3)], [.ref 115, .ref (S.2.2.1 115 1), .int l3])) tb_c_88_0 mx_88 1 rfl ?_
      refine bk_gm tb_c_88_0 rfl rfl (ci := 2) (k := 3) rfl rfl rfl ?_
      by_cases g2 : tp_t (S.2.2.1 115 3) = (0, 9)
      · rw [if_pos g2] at h
        refine bk_b (q := (14, [(0, .ref 115), (1, .int l1), (2, .int l2), (3, .int l3)], [.int l1, .ref (S.2.2.1 115 3), .ref (S.2.2.1 115 1), .int l3])) tb_c_88_0 mx_88 1 rfl ?_
        obtain ⟨x4, S3, c5, h⟩ := wd_cx h
        refine bk_kv tb_c_88_0 rfl rfl rfl rfl rfl (ci := 9) g2 rfl (ev_up (Nat.le_of_ble_eq_true rfl) (sn_Versions_functionOf g2 c5)) ?_
        obtain ⟨x7, S6, c8, h⟩ := wd_cx h
        refine bk_kv tb_c_88_0 rfl rfl rfl rfl rfl (ci := 0) g1 rfl (ev_up (Nat.le_of_ble_eq_true rfl) (sn_Bodies_params g1 c8)) ?_
        by_cases g9 : l3 < x7
        · rw [if_pos g9] at h
          refine bk_jf tb_c_88_0 rfl (pc' := 23) rfl (t := 72) rfl (cm_ge_f g9) ?_
          refine bk_b (q := (24, [(0, .ref 115), (1, .int l1), (2, .int l2), (3, .int l3)], [.ref 115])) tb_c_88_0 mx_88 1 rfl ?_
          refine bk_gm tb_c_88_0 rfl rfl (ci := 2) (k := 3) rfl rfl rfl ?_
          by_cases g10 : tp_t (S6.2.2.1 115 3) = (0, 9)
          · rw [if_pos g10] at h
            refine bk_b (q := (28, [(0, .ref 115), (1, .int l1), (2, .int l2), (3, .int l3)], [.int l1, .ref (S6.2.2.1 115 3)])) tb_c_88_0 mx_88 1 rfl ?_
            obtain ⟨x12, S11, c13, h⟩ := wd_cx h
            refine bk_kv tb_c_88_0 rfl rfl rfl rfl rfl (ci := 9) g10 rfl (ev_up (Nat.le_of_ble_eq_true rfl) (sn_Versions_mask g10 c13)) ?_
            refine bk_b (q := (32, [(0, .ref 115), (1, .int l1), (2, .int l2), (3, .int l3)], [.int l3, .int x12])) tb_c_88_0 mx_88 1 rfl ?_
            obtain ⟨x15, S14, c16, h⟩ := wd_cx h
            refine bk_ks tb_c_88_0 rfl rfl rfl (by decide) rfl rfl (ev_up (Nat.le_of_ble_eq_true rfl) (sn_Versions_isIn c16)) ?_
            by_cases g17 : x15 = 0
            · rw [if_pos g17] at h
              refine bk_zt tb_c_88_0 rfl (pc' := 56) rfl (cm_eq_t g17) ?_
              refine bk_b (q := (60, [(0, .ref 115), (1, .int l1), (2, .int l2), (3, .int l3)], [.int l2, .int (0 : Int32), .int l3, .ref 115])) tb_c_88_0 mx_88 4 rfl ?_
              obtain ⟨S18, c20, h⟩ := wd_dx h
              refine bk_kv tb_c_88_0 rfl rfl rfl rfl rfl (ci := 2) rfl rfl (ev_up (Nat.le_of_ble_eq_true rfl) (sn_Maker_bind c20)) ?_
              refine bk_b (q := (66, [(2, .int (l2 + (1 : Int32))), (0, .ref 115), (1, .int l1), (3, .int l3)], [])) tb_c_88_0 mx_88 1 rfl ?_
              exact go_lv (ls_sc rfl rfl (ls_sc rfl rfl (ls_sc rfl rfl (ls_sc rfl rfl ls_nil)))) (sn_Maker_bindParams_66 ih h)
            · rw [if_neg g17] at h
              refine bk_zf tb_c_88_0 rfl (pc' := 38) rfl (t := 56) rfl (cm_eq_f g17) ?_
              refine bk_b (q := (42, [(0, .ref 115), (1, .int l1), (2, .int l2), (3, .int l3)], [.ref 115, .int (1 : Int32), .int l3, .ref 115])) tb_c_88_0 mx_88 4 rfl ?_
              refine bk_gm tb_c_88_0 rfl rfl (ci := 2) (k := 3) rfl rfl rfl ?_
              by_cases g21 : tp_t (S14.2.2.1 115 3) = (0, 9)
              · rw [if_pos g21] at h
                refine bk_b (q := (47, [(0, .ref 115), (1, .int l1), (2, .int l2), (3, .int l3)], [.int l3, .int l1, .ref (S14.2.2.1 115 3), .int (1 : Int32), .int l3, .ref 115])) tb_c_88_0 mx_88 2 rfl ?_
                obtain ⟨x23, S22, c24, h⟩ := wd_cx h
                refine bk_kv tb_c_88_0 rfl rfl rfl rfl rfl (ci := 9) g21 rfl (ev_up (Nat.le_of_ble_eq_true rfl) (sn_Versions_number g21 c24)) ?_
                obtain ⟨S25, c27, h⟩ := wd_dx h
                refine bk_kv tb_c_88_0 rfl rfl rfl rfl rfl (ci := 2) rfl rfl (ev_up (Nat.le_of_ble_eq_true rfl) (sn_Maker_bind c27)) ?_
                refine bk_b (q := (66, [(0, .ref 115), (1, .int l1), (2, .int l2), (3, .int l3)], [])) tb_c_88_0 mx_88 1 rfl ?_
                exact go_lv (ls_sc rfl rfl (ls_sc rfl rfl (ls_sc rfl rfl (ls_sc rfl rfl ls_nil)))) (sn_Maker_bindParams_66 ih h)
              · rw [if_neg g21] at h; cases h
          · rw [if_neg g10] at h; cases h
        · rw [if_neg g9] at h
          refine bk_jt tb_c_88_0 rfl (pc' := 72) rfl (cm_ge_t g9) ?_
          cases h
          exact bk_t tb_c_88_0 rfl rfl
      · rw [if_neg g2] at h; cases h
    · rw [if_neg g1] at h; cases h
/-- Specialiser$Maker.bindParams(I)V -/
noncomputable def fn_Maker_bindParams (p1 : Int32) (S : wd_S) : Option wd_S :=
  fn_Maker_bindParams_4 wd_F p1 (0 : Int32) (0 : Int32) S
set_option maxRecDepth 100000 in
theorem sn_Maker_bindParams {L : Nat} {xs : Nat → Int32} {p1 : Int32} {S : wd_S} {S' : wd_S} (h : fn_Maker_bindParams p1 S = some S') : ev_r tb_P L xs (2 + 1) 88 [.ref 115, .int p1] (wd_k S) (.inl none, wd_k S') := by
  unfold fn_Maker_bindParams at h
  refine ev_of (Nat.le_of_ble_eq_true rfl) ?_
  show go_r tb_P L xs 2 88 0 [(0, .ref 115), (1, .int p1)] [] (wd_k S) (.inl none, wd_k S')
  refine bk_b (q := (4, [(3, .int (0 : Int32)), (2, .int (0 : Int32)), (0, .ref 115), (1, .int p1)], [])) tb_c_88_0 mx_88 4 rfl ?_
  exact go_lv (ls_sc rfl rfl (ls_sc rfl rfl (ls_sc rfl rfl (ls_sc rfl rfl ls_nil)))) (sn_Maker_bindParams_4 wd_F h)
