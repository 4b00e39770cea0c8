/-! Methods as functions: printed by wip/whole/gen_fn.py. -/
theorem mx_153 : mi_mx tb_P 153 = 1 := rfl
noncomputable def fn_Mo_isDigit_17 (s0 : Int32) (S : wd_S) : Option (Int32 × wd_S) :=
  (if mi_fit .boolean (.int s0) = true then some (s0, S) else none)
set_option maxRecDepth 100000 in
theorem sn_Mo_isDigit_17 {L : Nat} {xs : Nat → Int32} {s0 : Int32} {S : wd_S} {x : Int32} {S' : wd_S} (h : fn_Mo_isDigit_17 s0 S = some (x, S')) : go_r tb_P L xs 0 153 17 [] [.int s0] (wd_k S) (.inl (some (.int x)), wd_k S') := by
  unfold fn_Mo_isDigit_17 at h
  by_cases g2 : mi_fit .boolean (.int s0) = true
  · rw [if_pos g2] at h
    cases h
    exact bk_t tb_c_153_0 rfl (if_pos g2)
  · rw [if_neg g2] at h; cases h
noncomputable def fn_Mo_isDigit_16 (S : wd_S) : Option (Int32 × wd_S) :=
  fn_Mo_isDigit_17 (0 : Int32) S
set_option maxRecDepth 100000 in
theorem sn_Mo_isDigit_16 {L : Nat} {xs : Nat → Int32} {S : wd_S} {x : Int32} {S' : wd_S} (h : fn_Mo_isDigit_16  S = some (x, S')) : go_r tb_P L xs 0 153 16 [] [] (wd_k S) (.inl (some (.int x)), wd_k S') := by
  unfold fn_Mo_isDigit_16 at h
  refine bk_b (q := (17, [], [.int (0 : Int32)])) tb_c_153_0 mx_153 1 rfl ?_
  exact go_lv ls_nil (sn_Mo_isDigit_17 h)
/-- SpecialiserModel.isDigit(I)Z -/
noncomputable def fn_Mo_isDigit (p0 : Int32) (S : wd_S) : Option (Int32 × wd_S) :=
  (if p0 < (48 : Int32) then
    fn_Mo_isDigit_16  S
  else
    (if (57 : Int32) < p0 then
      fn_Mo_isDigit_16  S
    else
      fn_Mo_isDigit_17 (1 : Int32) S))
set_option maxRecDepth 100000 in
theorem sn_Mo_isDigit {L : Nat} {xs : Nat → Int32} {p0 : Int32} {S : wd_S} {x : Int32} {S' : wd_S} (h : fn_Mo_isDigit p0 S = some (x, S')) : ev_r tb_P L xs (0 + 1) 153 [.int p0] (wd_k S) (.inl (some (.int x)), wd_k S') := by
  unfold fn_Mo_isDigit at h
  refine ev_of (Nat.le_of_ble_eq_true rfl) ?_
  show go_r tb_P L xs 0 153 0 [(0, .int p0)] [] (wd_k S) (.inl (some (.int x)), wd_k S')
  refine bk_b (q := (3, [(0, .int p0)], [.int (48 : Int32), .int p0])) tb_c_153_0 mx_153 2 rfl ?_
  by_cases g1 : p0 < (48 : Int32)
  · rw [if_pos g1] at h
    refine bk_jt tb_c_153_0 rfl (pc' := 16) rfl (cm_lt_t g1) ?_
    exact go_lv ls_nil (sn_Mo_isDigit_16 h)
  · rw [if_neg g1] at h
    refine bk_jf tb_c_153_0 rfl (pc' := 6) rfl (t := 16) rfl (cm_lt_f g1) ?_
    refine bk_b (q := (9, [(0, .int p0)], [.int (57 : Int32), .int p0])) tb_c_153_0 mx_153 2 rfl ?_
    by_cases g3 : (57 : Int32) < p0
    · rw [if_pos g3] at h
      refine bk_jt tb_c_153_0 rfl (pc' := 16) rfl (cm_gt_t g3) ?_
      exact go_lv ls_nil (sn_Mo_isDigit_16 h)
    · rw [if_neg g3] at h
      refine bk_jf tb_c_153_0 rfl (pc' := 12) rfl (t := 16) rfl (cm_gt_f g3) ?_
      refine bk_b (q := (17, [(0, .int p0)], [.int (1 : Int32)])) tb_c_153_0 mx_153 2 rfl ?_
      exact go_lv ls_nil (sn_Mo_isDigit_17 h)
theorem mx_152 : mi_mx tb_P 152 = 1 := rfl
noncomputable def fn_Mo_isRow_24 (s0 : Int32) (S : wd_S) : Option (Int32 × wd_S) :=
  (if mi_fit .boolean (.int s0) = true then some (s0, S) else none)
set_option maxRecDepth 100000 in
theorem sn_Mo_isRow_24 {L : Nat} {xs : Nat → Int32} {s0 : Int32} {S : wd_S} {x : Int32} {S' : wd_S} (h : fn_Mo_isRow_24 s0 S = some (x, S')) : go_r tb_P L xs 1 152 24 [] [.int s0] (wd_k S) (.inl (some (.int x)), wd_k S') := by
  unfold fn_Mo_isRow_24 at h
  by_cases g5 : mi_fit .boolean (.int s0) = true
  · rw [if_pos g5] at h
    cases h
    exact bk_t tb_c_152_0 rfl (if_pos g5)
  · rw [if_neg g5] at h; cases h
noncomputable def fn_Mo_isRow_19 (S : wd_S) : Option (Int32 × wd_S) :=
  fn_Mo_isRow_24 (1 : Int32) S
set_option maxRecDepth 100000 in
theorem sn_Mo_isRow_19 {L : Nat} {xs : Nat → Int32} {S : wd_S} {x : Int32} {S' : wd_S} (h : fn_Mo_isRow_19  S = some (x, S')) : go_r tb_P L xs 1 152 19 [] [] (wd_k S) (.inl (some (.int x)), wd_k S') := by
  unfold fn_Mo_isRow_19 at h
  refine bk_b (q := (24, [], [.int (1 : Int32)])) tb_c_152_0 mx_152 2 rfl ?_
  exact go_lv ls_nil (sn_Mo_isRow_24 h)
noncomputable def fn_Mo_isRow_23 (S : wd_S) : Option (Int32 × wd_S) :=
  fn_Mo_isRow_24 (0 : Int32) S
set_option maxRecDepth 100000 in
theorem sn_Mo_isRow_23 {L : Nat} {xs : Nat → Int32} {S : wd_S} {x : Int32} {S' : wd_S} (h : fn_Mo_isRow_23  S = some (x, S')) : go_r tb_P L xs 1 152 23 [] [] (wd_k S) (.inl (some (.int x)), wd_k S') := by
  unfold fn_Mo_isRow_23 at h
  refine bk_b (q := (24, [], [.int (0 : Int32)])) tb_c_152_0 mx_152 1 rfl ?_
  exact go_lv ls_nil (sn_Mo_isRow_24 h)
/-- SpecialiserModel.isRow(I)Z -/
noncomputable def fn_Mo_isRow (p0 : Int32) (S : wd_S) : Option (Int32 × wd_S) :=
  (wd_c (fn_Mo_isDigit p0 S) fun x2 S1 =>
  (if x2 = 0 then
    (if p0 < (97 : Int32) then
      fn_Mo_isRow_23  S1
    else
      (if (122 : Int32) < p0 then
        fn_Mo_isRow_23  S1
      else
        fn_Mo_isRow_19  S1))
  else
    fn_Mo_isRow_19  S1))
set_option maxRecDepth 100000 in
theorem sn_Mo_isRow {L : Nat} {xs : Nat → Int32} {p0 : Int32} {S : wd_S} {x : Int32} {S' : wd_S} (h : fn_Mo_isRow p0 S = some (x, S')) : ev_r tb_P L xs (1 + 1) 152 [.int p0] (wd_k S) (.inl (some (.int x)), wd_k S') := by
  unfold fn_Mo_isRow at h
  refine ev_of (Nat.le_of_ble_eq_true rfl) ?_
  show go_r tb_P L xs 1 152 0 [(0, .int p0)] [] (wd_k S) (.inl (some (.int x)), wd_k S')
  refine bk_b (q := (1, [(0, .int p0)], [.int p0])) tb_c_152_0 mx_152 1 rfl ?_
  obtain ⟨x2, S1, c3, h⟩ := wd_cx h
  refine bk_ks tb_c_152_0 rfl rfl rfl (by decide) rfl rfl (ev_up (Nat.le_of_ble_eq_true rfl) (sn_Mo_isDigit c3)) ?_
  by_cases g4 : x2 = 0
  · rw [if_pos g4] at h
    refine bk_zf tb_c_152_0 rfl (pc' := 7) rfl (t := 19) rfl (cm_ne_f g4) ?_
    refine bk_b (q := (10, [(0, .int p0)], [.int (97 : Int32), .int p0])) tb_c_152_0 mx_152 2 rfl ?_
    by_cases g6 : p0 < (97 : Int32)
    · rw [if_pos g6] at h
      refine bk_jt tb_c_152_0 rfl (pc' := 23) rfl (cm_lt_t g6) ?_
      exact go_lv ls_nil (sn_Mo_isRow_23 h)
    · rw [if_neg g6] at h
      refine bk_jf tb_c_152_0 rfl (pc' := 13) rfl (t := 23) rfl (cm_lt_f g6) ?_
      refine bk_b (q := (16, [(0, .int p0)], [.int (122 : Int32), .int p0])) tb_c_152_0 mx_152 2 rfl ?_
      by_cases g7 : (122 : Int32) < p0
      · rw [if_pos g7] at h
        refine bk_jt tb_c_152_0 rfl (pc' := 23) rfl (cm_gt_t g7) ?_
        exact go_lv ls_nil (sn_Mo_isRow_23 h)
      · rw [if_neg g7] at h
        refine bk_jf tb_c_152_0 rfl (pc' := 19) rfl (t := 23) rfl (cm_gt_f g7) ?_
        exact go_lv ls_nil (sn_Mo_isRow_19 h)
  · rw [if_neg g4] at h
    refine bk_zt tb_c_152_0 rfl (pc' := 19) rfl (cm_ne_t g4) ?_
    exact go_lv ls_nil (sn_Mo_isRow_19 h)
theorem mx_156 : mi_mx tb_P 156 = 4 := rfl
/-- SpecialiserModel.packed(IIII)J -/
noncomputable def fn_Mo_packed (p0 : Int32) (p1 : Int32) (p2 : Int32) (p3 : Int32) (S : wd_S) : Option (Int64 × wd_S) :=
  some (((((((p0).toInt64) <<< (((24 : Int32)).toInt64 &&& 63)) ||| (((p1 <<< ((16 : Int32) &&& 31))).toInt64)) ||| (((p2 <<< ((8 : Int32) &&& 31))).toInt64)) ||| ((p3).toInt64)), S)
set_option maxRecDepth 100000 in
theorem sn_Mo_packed {L : Nat} {xs : Nat → Int32} {p0 : Int32} {p1 : Int32} {p2 : Int32} {p3 : Int32} {S : wd_S} {x : Int64} {S' : wd_S} (h : fn_Mo_packed p0 p1 p2 p3 S = some (x, S')) : ev_r tb_P L xs (0 + 1) 156 [.int p0, .int p1, .int p2, .int p3] (wd_k S) (.inl (some (.long x)), wd_k S') := by
  unfold fn_Mo_packed at h
  refine ev_of (Nat.le_of_ble_eq_true rfl) ?_
  show go_r tb_P L xs 0 156 0 [(0, .int p0), (1, .int p1), (2, .int p2), (3, .int p3)] [] (wd_k S) (.inl (some (.long x)), wd_k S')
  refine bk_b (q := (20, [(0, .int p0), (1, .int p1), (2, .int p2), (3, .int p3)], [.long ((((((p0).toInt64) <<< (((24 : Int32)).toInt64 &&& 63)) ||| (((p1 <<< ((16 : Int32) &&& 31))).toInt64)) ||| (((p2 <<< ((8 : Int32) &&& 31))).toInt64)) ||| ((p3).toInt64))])) tb_c_156_0 mx_156 17 rfl ?_
  cases h
  exact bk_t tb_c_156_0 rfl rfl
theorem mx_155 : mi_mx tb_P 155 = 2 := rfl
noncomputable def fn_Mo_wordOf_97 (s0 : Int32) (S : wd_S) : Option (Int32 × wd_S) :=
  some (s0, S)
set_option maxRecDepth 100000 in
theorem sn_Mo_wordOf_97 {L : Nat} {xs : Nat → Int32} {s0 : Int32} {S : wd_S} {x : Int32} {S' : wd_S} (h : fn_Mo_wordOf_97 s0 S = some (x, S')) : go_r tb_P L xs 1 155 97 [] [.int s0] (wd_k S) (.inl (some (.int x)), wd_k S') := by
  unfold fn_Mo_wordOf_97 at h
  cases h
  exact bk_t tb_c_155_1 rfl rfl
/-- SpecialiserModel.wordOf(J)I -/
noncomputable def fn_Mo_wordOf (p0 : Int64) (S : wd_S) : Option (Int32 × wd_S) :=
  (wd_c (fn_Mo_packed (0 : Int32) (0 : Int32) (105 : Int32) (102 : Int32) S) fun x2 S1 =>
  (if (lg_cmp p0 x2) = 0 then
    fn_Mo_wordOf_97 (2 : Int32) S1
  else
    (wd_c (fn_Mo_packed (116 : Int32) (104 : Int32) (101 : Int32) (110 : Int32) S1) fun x6 S5 =>
    (if (lg_cmp p0 x6) = 0 then
      fn_Mo_wordOf_97 (3 : Int32) S5
    else
      (wd_c (fn_Mo_packed (101 : Int32) (108 : Int32) (115 : Int32) (101 : Int32) S5) fun x10 S9 =>
      (if (lg_cmp p0 x10) = 0 then
        fn_Mo_wordOf_97 (4 : Int32) S9
      else
        (wd_c (fn_Mo_packed (0 : Int32) (108 : Int32) (101 : Int32) (116 : Int32) S9) fun x14 S13 =>
        (if (lg_cmp p0 x14) = 0 then
          fn_Mo_wordOf_97 (5 : Int32) S13
        else
          (wd_c (fn_Mo_packed (0 : Int32) (0 : Int32) (105 : Int32) (110 : Int32) S13) fun x18 S17 =>
          (if (lg_cmp p0 x18) = 0 then
            fn_Mo_wordOf_97 (6 : Int32) S17
          else
            fn_Mo_wordOf_97 (0 : Int32) S17))))))))))
set_option maxRecDepth 100000 in
theorem sn_Mo_wordOf {L : Nat} {xs : Nat → Int32} {p0 : Int64} {S : wd_S} {x : Int32} {S' : wd_S} (h : fn_Mo_wordOf p0 S = some (x, S')) : ev_r tb_P L xs (1 + 1) 155 [.long p0] (wd_k S) (.inl (some (.int x)), wd_k S') := by
  unfold fn_Mo_wordOf at h
  refine ev_of (Nat.le_of_ble_eq_true rfl) ?_
  show go_r tb_P L xs 1 155 0 [(0, .long p0)] [] (wd_k S) (.inl (some (.int x)), wd_k S')
  refine bk_b (q := (7, [(0, .long p0)], [.int (102 : Int32), .int (105 : Int32), .int (0 : Int32), .int (0 : Int32), .long p0])) tb_c_155_0 mx_155 5 rfl ?_
  obtain ⟨x2, S1, c3, h⟩ := wd_cx h
  refine bk_ks tb_c_155_0 rfl rfl rfl (by decide) rfl rfl (ev_up (Nat.le_of_ble_eq_true rfl) (sn_Mo_packed c3)) ?_
  refine bk_b (q := (11, [(0, .long p0)], [.int (lg_cmp p0 x2)])) tb_c_155_0 mx_155 1 rfl ?_
  by_cases g4 : (lg_cmp p0 x2) = 0
  · rw [if_pos g4] at h
    refine bk_zf tb_c_155_0 rfl (pc' := 14) rfl (t := 18) rfl (cm_ne_f g4) ?_
    refine bk_b (q := (97, [(0, .long p0)], [.int (2 : Int32)])) tb_c_155_0 mx_155 2 rfl ?_
    exact go_lv ls_nil (sn_Mo_wordOf_97 h)
  · rw [if_neg g4] at h
    refine bk_zt tb_c_155_0 rfl (pc' := 18) rfl (cm_ne_t g4) ?_
    refine bk_b (q := (27, [(0, .long p0)], [.int (110 : Int32), .int (101 : Int32), .int (104 : Int32), .int (116 : Int32), .long p0])) tb_c_155_0 mx_155 5 rfl ?_
    obtain ⟨x6, S5, c7, h⟩ := wd_cx h
    refine bk_ks tb_c_155_0 rfl rfl rfl (by decide) rfl rfl (ev_up (Nat.le_of_ble_eq_true rfl) (sn_Mo_packed c7)) ?_
    refine bk_b (q := (31, [(0, .long p0)], [.int (lg_cmp p0 x6)])) tb_c_155_0 mx_155 1 rfl ?_
    by_cases g8 : (lg_cmp p0 x6) = 0
    · rw [if_pos g8] at h
      refine bk_zf tb_c_155_0 rfl (pc' := 34) rfl (t := 38) rfl (cm_ne_f g8) ?_
      refine bk_b (q := (97, [(0, .long p0)], [.int (3 : Int32)])) tb_c_155_0 mx_155 2 rfl ?_
      exact go_lv ls_nil (sn_Mo_wordOf_97 h)
    · rw [if_neg g8] at h
      refine bk_zt tb_c_155_0 rfl (pc' := 38) rfl (cm_ne_t g8) ?_
      refine bk_b (q := (47, [(0, .long p0)], [.int (101 : Int32), .int (115 : Int32), .int (108 : Int32), .int (101 : Int32), .long p0])) tb_c_155_0 mx_155 5 rfl ?_
      obtain ⟨x10, S9, c11, h⟩ := wd_cx h
      refine bk_ks tb_c_155_0 rfl rfl rfl (by decide) rfl rfl (ev_up (Nat.le_of_ble_eq_true rfl) (sn_Mo_packed c11)) ?_
      refine bk_b (q := (51, [(0, .long p0)], [.int (lg_cmp p0 x10)])) tb_c_155_0 mx_155 1 rfl ?_
      by_cases g12 : (lg_cmp p0 x10) = 0
      · rw [if_pos g12] at h
        refine bk_zf tb_c_155_0 rfl (pc' := 54) rfl (t := 58) rfl (cm_ne_f g12) ?_
        refine bk_b (q := (97, [(0, .long p0)], [.int (4 : Int32)])) tb_c_155_0 mx_155 2 rfl ?_
        exact go_lv ls_nil (sn_Mo_wordOf_97 h)
      · rw [if_neg g12] at h
        refine bk_zt tb_c_155_0 rfl (pc' := 58) rfl (cm_ne_t g12) ?_
        refine bk_b (q := (66, [(0, .long p0)], [.int (116 : Int32), .int (101 : Int32), .int (108 : Int32), .int (0 : Int32), .long p0])) tb_c_155_0 mx_155 5 rfl ?_
        obtain ⟨x14, S13, c15, h⟩ := wd_cx h
        refine bk_ks tb_c_155_0 rfl rfl rfl (by decide) rfl rfl (ev_up (Nat.le_of_ble_eq_true rfl) (sn_Mo_packed c15)) ?_
        refine bk_b (q := (70, [(0, .long p0)], [.int (lg_cmp p0 x14)])) tb_c_155_0 mx_155 1 rfl ?_
        by_cases g16 : (lg_cmp p0 x14) = 0
        · rw [if_pos g16] at h
          refine bk_zf tb_c_155_0 rfl (pc' := 73) rfl (t := 77) rfl (cm_ne_f g16) ?_
          refine bk_b (q := (97, [(0, .long p0)], [.int (5 : Int32)])) tb_c_155_0 mx_155 2 rfl ?_
          exact go_lv ls_nil (sn_Mo_wordOf_97 h)
        · rw [if_neg g16] at h
          refine bk_zt tb_c_155_0 rfl (pc' := 77) rfl (cm_ne_t g16) ?_
          refine bk_b (q := (84, [(0, .long p0)], [.int (110 : Int32), .int (105 : Int32), .int (0 : Int32), .int (0 : Int32), .long p0])) tb_c_155_1 mx_155 5 rfl ?_
          obtain ⟨x18, S17, c19, h⟩ := wd_cx h
          refine bk_ks tb_c_155_1 rfl rfl rfl (by decide) rfl rfl (ev_up (Nat.le_of_ble_eq_true rfl) (sn_Mo_packed c19)) ?_
          refine bk_b (q := (88, [(0, .long p0)], [.int (lg_cmp p0 x18)])) tb_c_155_1 mx_155 1 rfl ?_
          by_cases g20 : (lg_cmp p0 x18) = 0
          · rw [if_pos g20] at h
            refine bk_zf tb_c_155_1 rfl (pc' := 91) rfl (t := 96) rfl (cm_ne_f g20) ?_
            refine bk_b (q := (97, [(0, .long p0)], [.int (6 : Int32)])) tb_c_155_1 mx_155 2 rfl ?_
            exact go_lv ls_nil (sn_Mo_wordOf_97 h)
          · rw [if_neg g20] at h
            refine bk_zt tb_c_155_1 rfl (pc' := 96) rfl (cm_ne_t g20) ?_
            refine bk_b (q := (97, [(0, .long p0)], [.int (0 : Int32)])) tb_c_155_1 mx_155 1 rfl ?_
            exact go_lv ls_nil (sn_Mo_wordOf_97 h)
theorem mx_157 : mi_mx tb_P 157 = 3 := rfl
noncomputable def fn_Mo_stop_17 (S : wd_S) : Option wd_S :=
  some S
set_option maxRecDepth 100000 in
theorem sn_Mo_stop_17 {L : Nat} {xs : Nat → Int32} {S : wd_S} {S' : wd_S} (h : fn_Mo_stop_17  S = some S') : go_r tb_P L xs 0 157 17 [] [] (wd_k S) (.inl none, wd_k S') := by
  unfold fn_Mo_stop_17 at h
  cases h
  exact bk_t tb_c_157_0 rfl rfl
/-- SpecialiserModel.stop(II)V -/
noncomputable def fn_Mo_stop (p1 : Int32) (p2 : Int32) (S : wd_S) : Option wd_S :=
  (if (S.1 135 9) = 0 then
    (wd_b (wd_i S 135 9 p1) fun S2 =>
    (wd_b (wd_i S2 135 10 p2) fun S3 =>
    fn_Mo_stop_17  S3))
  else
    fn_Mo_stop_17  S)
set_option maxRecDepth 100000 in
theorem sn_Mo_stop {L : Nat} {xs : Nat → Int32} {p1 : Int32} {p2 : Int32} {S : wd_S} {S' : wd_S} (h : fn_Mo_stop p1 p2 S = some S') : ev_r tb_P L xs (0 + 1) 157 [.ref 135, .int p1, .int p2] (wd_k S) (.inl none, wd_k S') := by
  unfold fn_Mo_stop at h
  refine ev_of (Nat.le_of_ble_eq_true rfl) ?_
  show go_r tb_P L xs 0 157 0 [(0, .ref 135), (1, .int p1), (2, .int p2)] [] (wd_k S) (.inl none, wd_k S')
  refine bk_b (q := (1, [(0, .ref 135), (1, .int p1), (2, .int p2)], [.ref 135])) tb_c_157_0 mx_157 1 rfl ?_
  refine bk_gi tb_c_157_0 rfl rfl (ci := 11) (k := 9) rfl rfl rfl ?_
  by_cases g1 : (S.1 135 9) = 0
  · rw [if_pos g1] at h
    refine bk_zf tb_c_157_0 rfl (pc' := 7) rfl (t := 17) rfl (cm_ne_f g1) ?_
    refine bk_b (q := (9, [(0, .ref 135), (1, .int p1), (2, .int p2)], [.int p1, .ref 135])) tb_c_157_0 mx_157 2 rfl ?_
    obtain ⟨S2, eS2, h⟩ := wd_bx h
    refine bk_pi tb_c_157_0 rfl rfl (ci := 11) (k := 9) rfl rfl rfl rfl ?_
    rw [eS2]
    refine bk_b (q := (14, [(0, .ref 135), (1, .int p1), (2, .int p2)], [.int p2, .ref 135])) tb_c_157_0 mx_157 2 rfl ?_
    obtain ⟨S3, eS3, h⟩ := wd_bx h
    refine bk_pi tb_c_157_0 rfl rfl (ci := 11) (k := 10) rfl rfl rfl rfl ?_
    rw [eS3]
    exact go_lv ls_nil (sn_Mo_stop_17 h)
  · rw [if_neg g1] at h
    refine bk_zt tb_c_157_0 rfl (pc' := 17) rfl (cm_ne_t g1) ?_
    exact go_lv ls_nil (sn_Mo_stop_17 h)
theorem mx_154 : mi_mx tb_P 154 = 8 := rfl
noncomputable def fn_Mo_row_254 (S : wd_S) : Option wd_S :=
  some S
set_option maxRecDepth 100000 in
theorem sn_Mo_row_254 {L : Nat} {xs : Nat → Int32} {S : wd_S} {S' : wd_S} (h : fn_Mo_row_254  S = some S') : go_r tb_P L xs 2 154 254 [] [] (wd_k S) (.inl none, wd_k S') := by
  unfold fn_Mo_row_254 at h
  cases h
  exact bk_t tb_c_154_3 rfl rfl
noncomputable def fn_Mo_row_238 (S : wd_S) : Option wd_S :=
  (if (S.1 135 4) = 0 then
    (wd_d (fn_Mo_stop (1 : Int32) (S.1 135 5) S) fun S13 =>
    fn_Mo_row_254  S13)
  else
    fn_Mo_row_254  S)
set_option maxRecDepth 100000 in
theorem sn_Mo_row_238 {L : Nat} {xs : Nat → Int32} {S : wd_S} {S' : wd_S} (h : fn_Mo_row_238  S = some S') : go_r tb_P L xs 2 154 238 [(0, .ref 135)] [] (wd_k S) (.inl none, wd_k S') := by
  unfold fn_Mo_row_238 at h
  refine bk_b (q := (239, [(0, .ref 135)], [.ref 135])) tb_c_154_3 mx_154 1 rfl ?_
  refine bk_gi tb_c_154_3 rfl rfl (ci := 11) (k := 4) rfl rfl rfl ?_
  by_cases g12 : (S.1 135 4) = 0
  · rw [if_pos g12] at h
    refine bk_zf tb_c_154_3 rfl (pc' := 245) rfl (t := 254) rfl (cm_ne_f g12) ?_
    refine bk_b (q := (248, [(0, .ref 135)], [.ref 135, .int (1 : Int32), .ref 135])) tb_c_154_3 mx_154 3 rfl ?_
    refine bk_gi tb_c_154_3 rfl rfl (ci := 11) (k := 5) rfl rfl rfl ?_
    obtain ⟨S13, c15, h⟩ := wd_dx h
    refine bk_kv tb_c_154_3 rfl rfl rfl rfl rfl (ci := 11) rfl rfl (ev_up (Nat.le_of_ble_eq_true rfl) (sn_Mo_stop c15)) ?_
    exact go_lv ls_nil (sn_Mo_row_254 h)
  · rw [if_neg g12] at h
    refine bk_zt tb_c_154_3 rfl (pc' := 254) rfl (cm_ne_t g12) ?_
    exact go_lv ls_nil (sn_Mo_row_254 h)
noncomputable def fn_Mo_row_230 (l2 : Int64) (s1 : Int32) (S : wd_S) : Option wd_S :=
  (wd_b (wd_i S 135 4 s1) fun S10 =>
  (wd_b (wd_l S10 135 7 l2) fun S11 =>
  fn_Mo_row_238  S11))
set_option maxRecDepth 100000 in
theorem sn_Mo_row_230 {L : Nat} {xs : Nat → Int32} {l2 : Int64} {s1 : Int32} {S : wd_S} {S' : wd_S} (h : fn_Mo_row_230 l2 s1 S = some S') : go_r tb_P L xs 2 154 230 [(0, .ref 135), (2, .long l2)] [.int s1, .ref 135] (wd_k S) (.inl none, wd_k S') := by
  unfold fn_Mo_row_230 at h
  obtain ⟨S10, eS10, h⟩ := wd_bx h
  refine bk_pi tb_c_154_2 rfl rfl (ci := 11) (k := 4) rfl rfl rfl rfl ?_
  rw [eS10]
  refine bk_b (q := (235, [(0, .ref 135), (2, .long l2)], [.long l2, .ref 135])) tb_c_154_3 mx_154 2 rfl ?_
  obtain ⟨S11, eS11, h⟩ := wd_bx h
  refine bk_pl tb_c_154_3 rfl rfl (ci := 11) (k := 7) rfl rfl rfl rfl ?_
  rw [eS11]
  exact go_lv (ls_sc rfl rfl ls_nil) (sn_Mo_row_238 h)
noncomputable def fn_Mo_row_204 (l2 : Int64) (l6 : Int32) (s0 : Int32) (S : wd_S) : Option wd_S :=
  (if 0 < s0 then
    fn_Mo_row_230 l2 s0 S
  else
    (if (8 : Int32) < l6 then
      fn_Mo_row_230 l2 (0 : Int32) S
    else
      fn_Mo_row_230 l2 (10 : Int32) S))
set_option maxRecDepth 100000 in
theorem sn_Mo_row_204 {L : Nat} {xs : Nat → Int32} {l2 : Int64} {l6 : Int32} {s0 : Int32} {S : wd_S} {S' : wd_S} (h : fn_Mo_row_204 l2 l6 s0 S = some S') : go_r tb_P L xs 2 154 204 [(0, .ref 135), (2, .long l2), (6, .int l6)] [.int s0] (wd_k S) (.inl none, wd_k S') := by
  unfold fn_Mo_row_204 at h
  refine bk_b (q := (209, [(7, .int s0), (0, .ref 135), (2, .long l2), (6, .int l6)], [.int s0, .ref 135])) tb_c_154_2 mx_154 3 rfl ?_
  by_cases g8 : 0 < s0
  · rw [if_pos g8] at h
    refine bk_zf tb_c_154_2 rfl (pc' := 212) rfl (t := 217) rfl (cm_le_f g8) ?_
    refine bk_b (q := (230, [(7, .int s0), (0, .ref 135), (2, .long l2), (6, .int l6)], [.int s0, .ref 135])) tb_c_154_2 mx_154 2 rfl ?_
    exact go_lv (ls_sc rfl rfl (ls_sc rfl rfl ls_nil)) (sn_Mo_row_230 h)
  · rw [if_neg g8] at h
    refine bk_zt tb_c_154_2 rfl (pc' := 217) rfl (cm_le_t g8) ?_
    refine bk_b (q := (221, [(7, .int s0), (0, .ref 135), (2, .long l2), (6, .int l6)], [.int (8 : Int32), .int l6, .ref 135])) tb_c_154_2 mx_154 2 rfl ?_
    by_cases g9 : (8 : Int32) < l6
    · rw [if_pos g9] at h
      refine bk_jt tb_c_154_2 rfl (pc' := 229) rfl (cm_gt_t g9) ?_
      refine bk_b (q := (230, [(7, .int s0), (0, .ref 135), (2, .long l2), (6, .int l6)], [.int (0 : Int32), .ref 135])) tb_c_154_2 mx_154 1 rfl ?_
      exact go_lv (ls_sc rfl rfl (ls_sc rfl rfl ls_nil)) (sn_Mo_row_230 h)
    · rw [if_neg g9] at h
      refine bk_jf tb_c_154_2 rfl (pc' := 224) rfl (t := 229) rfl (cm_gt_f g9) ?_
      refine bk_b (q := (230, [(7, .int s0), (0, .ref 135), (2, .long l2), (6, .int l6)], [.int (10 : Int32), .ref 135])) tb_c_154_2 mx_154 2 rfl ?_
      exact go_lv (ls_sc rfl rfl (ls_sc rfl rfl ls_nil)) (sn_Mo_row_230 h)
noncomputable def fn_Mo_row_177 (l4 : Int64) (s1 : Int32) (S : wd_S) : Option wd_S :=
  (wd_b (wd_i S 135 4 s1) fun S20 =>
  (wd_b (wd_i S20 135 8 ((l4).toInt32)) fun S21 =>
  fn_Mo_row_238  S21))
set_option maxRecDepth 100000 in
theorem sn_Mo_row_177 {L : Nat} {xs : Nat → Int32} {l4 : Int64} {s1 : Int32} {S : wd_S} {S' : wd_S} (h : fn_Mo_row_177 l4 s1 S = some S') : go_r tb_P L xs 2 154 177 [(0, .ref 135), (4, .long l4)] [.int s1, .ref 135] (wd_k S) (.inl none, wd_k S') := by
  unfold fn_Mo_row_177 at h
  obtain ⟨S20, eS20, h⟩ := wd_bx h
  refine bk_pi tb_c_154_2 rfl rfl (ci := 11) (k := 4) rfl rfl rfl rfl ?_
  rw [eS20]
  refine bk_b (q := (184, [(0, .ref 135), (4, .long l4)], [.int ((l4).toInt32), .ref 135])) tb_c_154_2 mx_154 3 rfl ?_
  obtain ⟨S21, eS21, h⟩ := wd_bx h
  refine bk_pi tb_c_154_2 rfl rfl (ci := 11) (k := 8) rfl rfl rfl rfl ?_
  rw [eS21]
  refine bk_b (q := (238, [(0, .ref 135), (4, .long l4)], [])) tb_c_154_2 mx_154 1 rfl ?_
  exact go_lv (ls_sc rfl rfl ls_nil) (sn_Mo_row_238 h)
noncomputable def fn_Mo_row_176 (l4 : Int64) (S : wd_S) : Option wd_S :=
  fn_Mo_row_177 l4 (0 : Int32) S
set_option maxRecDepth 100000 in
theorem sn_Mo_row_176 {L : Nat} {xs : Nat → Int32} {l4 : Int64} {S : wd_S} {S' : wd_S} (h : fn_Mo_row_176 l4 S = some S') : go_r tb_P L xs 2 154 176 [(0, .ref 135), (4, .long l4)] [.ref 135] (wd_k S) (.inl none, wd_k S') := by
  unfold fn_Mo_row_176 at h
  refine bk_b (q := (177, [(0, .ref 135), (4, .long l4)], [.int (0 : Int32), .ref 135])) tb_c_154_2 mx_154 1 rfl ?_
  exact go_lv (ls_sc rfl rfl (ls_sc rfl rfl ls_nil)) (sn_Mo_row_177 h)
noncomputable def fn_Mo_row_124 (l1 : Int32) (l2 : Int64) (l4 : Int64) (S : wd_S) : Option wd_S :=
  (if (S.1 135 5) < 0 ∨ 8000 ≤ (S.1 135 5).toNatClampNeg then none else
  (wd_c (fn_Mo_isDigit (S.1 136 (S.1 135 5).toNatClampNeg) S) fun x4 S3 =>
  (if x4 = 0 then
    (if (4 : Int32) < ((S.1 135 3) - (S.1 135 5)) then
      fn_Mo_row_204 l2 ((S.1 135 3) - (S.1 135 5)) (0 : Int32) S3
    else
      (wd_c (fn_Mo_wordOf l2 S3) fun x17 S16 =>
      fn_Mo_row_204 l2 ((S.1 135 3) - (S.1 135 5)) x17 S16))
  else
    (if l1 = 0 then
      fn_Mo_row_176 l4 S3
    else
      (if (10 : Int32) < ((S.1 135 3) - (S.1 135 5)) then
        fn_Mo_row_176 l4 S3
      else
        (if 0 < (lg_cmp l4 (2147483647 : Int64)) then
          fn_Mo_row_176 l4 S3
        else
          fn_Mo_row_177 l4 (11 : Int32) S3))))))
set_option maxRecDepth 100000 in
theorem sn_Mo_row_124 {L : Nat} {xs : Nat → Int32} {l1 : Int32} {l2 : Int64} {l4 : Int64} {S : wd_S} {S' : wd_S} (h : fn_Mo_row_124 l1 l2 l4 S = some S') : go_r tb_P L xs 2 154 124 [(0, .ref 135), (1, .int l1), (2, .long l2), (4, .long l4)] [] (wd_k S) (.inl none, wd_k S') := by
  unfold fn_Mo_row_124 at h
  refine bk_b (q := (125, [(0, .ref 135), (1, .int l1), (2, .long l2), (4, .long l4)], [.ref 135])) tb_c_154_1 mx_154 1 rfl ?_
  refine bk_gi tb_c_154_1 rfl rfl (ci := 11) (k := 3) rfl rfl rfl ?_
  refine bk_b (q := (129, [(0, .ref 135), (1, .int l1), (2, .long l2), (4, .long l4)], [.ref 135, .int (S.1 135 3)])) tb_c_154_1 mx_154 1 rfl ?_
  refine bk_gi tb_c_154_1 rfl rfl (ci := 11) (k := 5) rfl rfl rfl ?_
  refine bk_b (q := (136, [(6, .int ((S.1 135 3) - (S.1 135 5))), (0, .ref 135), (1, .int l1), (2, .long l2), (4, .long l4)], [.ref 135])) tb_c_154_1 mx_154 3 rfl ?_
  refine bk_gc tb_c_154_1 rfl rfl (ci := 11) (k := 1) rfl rfl rfl ?_
  refine bk_b (q := (140, [(6, .int ((S.1 135 3) - (S.1 135 5))), (0, .ref 135), (1, .int l1), (2, .long l2), (4, .long l4)], [.ref 135, .ref 136])) tb_c_154_1 mx_154 1 rfl ?_
  refine bk_gi tb_c_154_1 rfl rfl (ci := 11) (k := 5) rfl rfl rfl ?_
  by_cases g2 : (S.1 135 5) < 0 ∨ 8000 ≤ (S.1 135 5).toNatClampNeg
  · rw [if_pos g2] at h; cases h
  · rw [if_neg g2] at h
    refine bk_a4 tb_c_154_1 rfl rfl rfl g2 ?_
    obtain ⟨x4, S3, c5, h⟩ := wd_cx h
    refine bk_ks tb_c_154_1 rfl rfl rfl (by decide) rfl rfl (ev_up (Nat.le_of_ble_eq_true rfl) (sn_Mo_isDigit c5)) ?_
    by_cases g6 : x4 = 0
    · rw [if_pos g6] at h
      refine bk_zt tb_c_154_2 rfl (pc' := 190) rfl (cm_eq_t g6) ?_
      refine bk_b (q := (193, [(6, .int ((S.1 135 3) - (S.1 135 5))), (0, .ref 135), (1, .int l1), (2, .long l2), (4, .long l4)], [.int (4 : Int32), .int ((S.1 135 3) - (S.1 135 5))])) tb_c_154_2 mx_154 2 rfl ?_
      by_cases g7 : (4 : Int32) < ((S.1 135 3) - (S.1 135 5))
      · rw [if_pos g7] at h
        refine bk_jt tb_c_154_2 rfl (pc' := 203) rfl (cm_gt_t g7) ?_
        refine bk_b (q := (204, [(6, .int ((S.1 135 3) - (S.1 135 5))), (0, .ref 135), (1, .int l1), (2, .long l2), (4, .long l4)], [.int (0 : Int32)])) tb_c_154_2 mx_154 1 rfl ?_
        exact go_lv (ls_sc rfl rfl (ls_sc rfl rfl (ls_sc rfl rfl ls_nil))) (sn_Mo_row_204 h)
      · rw [if_neg g7] at h
        refine bk_jf tb_c_154_2 rfl (pc' := 196) rfl (t := 203) rfl (cm_gt_f g7) ?_
        refine bk_b (q := (197, [(6, .int ((S.1 135 3) - (S.1 135 5))), (0, .ref 135), (1, .int l1), (2, .long l2), (4, .long l4)], [.long l2])) tb_c_154_2 mx_154 1 rfl ?_
        obtain ⟨x17, S16, c18, h⟩ := wd_cx h
        refine bk_ks tb_c_154_2 rfl rfl rfl (by decide) rfl rfl (ev_up (Nat.le_of_ble_eq_true rfl) (sn_Mo_wordOf c18)) ?_
        refine bk_b (q := (204, [(6, .int ((S.1 135 3) - (S.1 135 5))), (0, .ref 135), (1, .int l1), (2, .long l2), (4, .long l4)], [.int x17])) tb_c_154_2 mx_154 1 rfl ?_
        exact go_lv (ls_sc rfl rfl (ls_sc rfl rfl (ls_sc rfl rfl ls_nil))) (sn_Mo_row_204 h)
    · rw [if_neg g6] at h
      refine bk_zf tb_c_154_2 rfl (pc' := 150) rfl (t := 190) rfl (cm_eq_f g6) ?_
      refine bk_b (q := (152, [(6, .int ((S.1 135 3) - (S.1 135 5))), (0, .ref 135), (1, .int l1), (2, .long l2), (4, .long l4)], [.int l1, .ref 135])) tb_c_154_2 mx_154 2 rfl ?_
      by_cases g19 : l1 = 0
      · rw [if_pos g19] at h
        refine bk_zt tb_c_154_2 rfl (pc' := 176) rfl (cm_eq_t g19) ?_
        exact go_lv (ls_sc rfl rfl (ls_sc rfl rfl ls_nil)) (sn_Mo_row_176 h)
      · rw [if_neg g19] at h
        refine bk_zf tb_c_154_2 rfl (pc' := 155) rfl (t := 176) rfl (cm_eq_f g19) ?_
        refine bk_b (q := (159, [(6, .int ((S.1 135 3) - (S.1 135 5))), (0, .ref 135), (1, .int l1), (2, .long l2), (4, .long l4)], [.int (10 : Int32), .int ((S.1 135 3) - (S.1 135 5)), .ref 135])) tb_c_154_2 mx_154 2 rfl ?_
        by_cases g22 : (10 : Int32) < ((S.1 135 3) - (S.1 135 5))
        · rw [if_pos g22] at h
          refine bk_jt tb_c_154_2 rfl (pc' := 176) rfl (cm_gt_t g22) ?_
          exact go_lv (ls_sc rfl rfl (ls_sc rfl rfl ls_nil)) (sn_Mo_row_176 h)
        · rw [if_neg g22] at h
          refine bk_jf tb_c_154_2 rfl (pc' := 162) rfl (t := 176) rfl (cm_gt_f g22) ?_
          refine bk_b (q := (164, [(6, .int ((S.1 135 3) - (S.1 135 5))), (0, .ref 135), (1, .int l1), (2, .long l2), (4, .long l4)], [.long l4, .ref 135])) tb_c_154_2 mx_154 1 rfl ?_
          refine bk_c8 tb_c_154_2 rfl rfl (x := (2147483647 : Int64)) rfl ?_
          refine bk_b (q := (168, [(6, .int ((S.1 135 3) - (S.1 135 5))), (0, .ref 135), (1, .int l1), (2, .long l2), (4, .long l4)], [.int (lg_cmp l4 (2147483647 : Int64)), .ref 135])) tb_c_154_2 mx_154 1 rfl ?_
          by_cases g23 : 0 < (lg_cmp l4 (2147483647 : Int64))
          · rw [if_pos g23] at h
            refine bk_zt tb_c_154_2 rfl (pc' := 176) rfl (cm_gt_t g23) ?_
            exact go_lv (ls_sc rfl rfl (ls_sc rfl rfl ls_nil)) (sn_Mo_row_176 h)
          · rw [if_neg g23] at h
            refine bk_zf tb_c_154_2 rfl (pc' := 171) rfl (t := 176) rfl (cm_gt_f g23) ?_
            refine bk_b (q := (177, [(6, .int ((S.1 135 3) - (S.1 135 5))), (0, .ref 135), (1, .int l1), (2, .long l2), (4, .long l4)], [.int (11 : Int32), .ref 135])) tb_c_154_2 mx_154 2 rfl ?_
            exact go_lv (ls_sc rfl rfl (ls_sc rfl rfl ls_nil)) (sn_Mo_row_177 h)
noncomputable def fn_Mo_row_109 (kk7 : Int32 → Int64 → Int64 → wd_S → Option wd_S) (l1 : Int32) (l2 : Int64) (s0 : Int64) (S : wd_S) : Option wd_S :=
  (wd_b (wd_i S 135 3 ((S.1 135 3) + (1 : Int32))) fun S33 =>
  kk7 l1 l2 s0 S33)
set_option maxRecDepth 100000 in
theorem sn_Mo_row_109 {L : Nat} {xs : Nat → Int32} {kk7 : Int32 → Int64 → Int64 → wd_S → Option wd_S} (hk7 : ∀ {l1 : Int32} {l2 : Int64} {l4 : Int64} {S : wd_S} {S' : wd_S}, kk7 l1 l2 l4 S = some S' → go_r tb_P L xs 2 154 7 [(0, .ref 135), (1, .int l1), (2, .long l2), (4, .long l4)] [] (wd_k S) (.inl none, wd_k S')) {l1 : Int32} {l2 : Int64} {s0 : Int64} {S : wd_S} {S' : wd_S} (h : fn_Mo_row_109 kk7 l1 l2 s0 S = some S') : go_r tb_P L xs 2 154 109 [(0, .ref 135), (1, .int l1), (2, .long l2)] [.long s0] (wd_k S) (.inl none, wd_k S') := by
  unfold fn_Mo_row_109 at h
  refine bk_b (q := (113, [(4, .long s0), (0, .ref 135), (1, .int l1), (2, .long l2)], [.ref 135, .ref 135])) tb_c_154_1 mx_154 3 rfl ?_
  refine bk_gi tb_c_154_1 rfl rfl (ci := 11) (k := 3) rfl rfl rfl ?_
  refine bk_b (q := (118, [(4, .long s0), (0, .ref 135), (1, .int l1), (2, .long l2)], [.int ((S.1 135 3) + (1 : Int32)), .ref 135])) tb_c_154_1 mx_154 2 rfl ?_
  obtain ⟨S33, eS33, h⟩ := wd_bx h
  refine bk_pi tb_c_154_1 rfl rfl (ci := 11) (k := 3) rfl rfl rfl rfl ?_
  rw [eS33]
  refine bk_b (q := (7, [(4, .long s0), (0, .ref 135), (1, .int l1), (2, .long l2)], [])) tb_c_154_1 mx_154 1 rfl ?_
  exact go_lv (ls_sc rfl rfl (ls_sc rfl rfl (ls_sc rfl rfl (ls_sc rfl rfl ls_nil)))) (hk7 h)
noncomputable def fn_Mo_row_57 (kk7 : Int32 → Int64 → Int64 → wd_S → Option wd_S) (l2 : Int64) (l4 : Int64) (s0 : Int32) (S : wd_S) : Option wd_S :=
  (if (S.1 135 3) < 0 ∨ 8000 ≤ (S.1 135 3).toNatClampNeg then none else
  (if 0 < (lg_cmp l4 (100000000000 : Int64)) then
    fn_Mo_row_109 kk7 s0 ((l2 <<< (((8 : Int32)).toInt64 &&& 63)) ||| (((S.1 136 (S.1 135 3).toNatClampNeg)).toInt64)) l4 S
  else
    (if (S.1 135 3) < 0 ∨ 8000 ≤ (S.1 135 3).toNatClampNeg then none else
    fn_Mo_row_109 kk7 s0 ((l2 <<< (((8 : Int32)).toInt64 &&& 63)) ||| (((S.1 136 (S.1 135 3).toNatClampNeg)).toInt64)) ((((10 : Int64) * l4) + (((S.1 136 (S.1 135 3).toNatClampNeg)).toInt64)) - (48 : Int64)) S)))
set_option maxRecDepth 100000 in
theorem sn_Mo_row_57 {L : Nat} {xs : Nat → Int32} {kk7 : Int32 → Int64 → Int64 → wd_S → Option wd_S} (hk7 : ∀ {l1 : Int32} {l2 : Int64} {l4 : Int64} {S : wd_S} {S' : wd_S}, kk7 l1 l2 l4 S = some S' → go_r tb_P L xs 2 154 7 [(0, .ref 135), (1, .int l1), (2, .long l2), (4, .long l4)] [] (wd_k S) (.inl none, wd_k S')) {l2 : Int64} {l4 : Int64} {s0 : Int32} {S : wd_S} {S' : wd_S} (h : fn_Mo_row_57 kk7 l2 l4 s0 S = some S') : go_r tb_P L xs 2 154 57 [(0, .ref 135), (2, .long l2), (4, .long l4)] [.int s0] (wd_k S) (.inl none, wd_k S') := by
  unfold fn_Mo_row_57 at h
  refine bk_b (q := (63, [(1, .int s0), (0, .ref 135), (2, .long l2), (4, .long l4)], [.ref 135, .long (l2 <<< (((8 : Int32)).toInt64 &&& 63))])) tb_c_154_0 mx_154 5 rfl ?_
  refine bk_gc tb_c_154_0 rfl rfl (ci := 11) (k := 1) rfl rfl rfl ?_
  refine bk_b (q := (67, [(1, .int s0), (0, .ref 135), (2, .long l2), (4, .long l4)], [.ref 135, .ref 136, .long (l2 <<< (((8 : Int32)).toInt64 &&& 63))])) tb_c_154_0 mx_154 1 rfl ?_
  refine bk_gi tb_c_154_0 rfl rfl (ci := 11) (k := 3) rfl rfl rfl ?_
  by_cases g30 : (S.1 135 3) < 0 ∨ 8000 ≤ (S.1 135 3).toNatClampNeg
  · rw [if_pos g30] at h; cases h
  · rw [if_neg g30] at h
    refine bk_a4 tb_c_154_0 rfl rfl rfl g30 ?_
    refine bk_b (q := (72, [(1, .int s0), (0, .ref 135), (2, .long l2), (4, .long l4)], [.long (((S.1 136 (S.1 135 3).toNatClampNeg)).toInt64), .long (l2 <<< (((8 : Int32)).toInt64 &&& 63))])) tb_c_154_0 mx_154 1 rfl ?_
    refine bk_b (q := (76, [(2, .long ((l2 <<< (((8 : Int32)).toInt64 &&& 63)) ||| (((S.1 136 (S.1 135 3).toNatClampNeg)).toInt64))), (1, .int s0), (0, .ref 135), (4, .long l4)], [.long l4])) tb_c_154_1 mx_154 3 rfl ?_
    refine bk_c8 tb_c_154_1 rfl rfl (x := (100000000000 : Int64)) rfl ?_
    refine bk_b (q := (80, [(2, .long ((l2 <<< (((8 : Int32)).toInt64 &&& 63)) ||| (((S.1 136 (S.1 135 3).toNatClampNeg)).toInt64))), (1, .int s0), (0, .ref 135), (4, .long l4)], [.int (lg_cmp l4 (100000000000 : Int64))])) tb_c_154_1 mx_154 1 rfl ?_
    by_cases g31 : 0 < (lg_cmp l4 (100000000000 : Int64))
    · rw [if_pos g31] at h
      refine bk_zf tb_c_154_1 rfl (pc' := 83) rfl (t := 88) rfl (cm_le_f g31) ?_
      refine bk_b (q := (109, [(2, .long ((l2 <<< (((8 : Int32)).toInt64 &&& 63)) ||| (((S.1 136 (S.1 135 3).toNatClampNeg)).toInt64))), (1, .int s0), (0, .ref 135), (4, .long l4)], [.long l4])) tb_c_154_1 mx_154 2 rfl ?_
      exact go_lv (ls_sc rfl rfl (ls_sc rfl rfl (ls_sc rfl rfl ls_nil))) (sn_Mo_row_109 hk7 h)
    · rw [if_neg g31] at h
      refine bk_zt tb_c_154_1 rfl (pc' := 88) rfl (cm_le_t g31) ?_
      refine bk_c8 tb_c_154_1 rfl rfl (x := (10 : Int64)) rfl ?_
      refine bk_b (q := (95, [(2, .long ((l2 <<< (((8 : Int32)).toInt64 &&& 63)) ||| (((S.1 136 (S.1 135 3).toNatClampNeg)).toInt64))), (1, .int s0), (0, .ref 135), (4, .long l4)], [.ref 135, .long ((10 : Int64) * l4)])) tb_c_154_1 mx_154 3 rfl ?_
      refine bk_gc tb_c_154_1 rfl rfl (ci := 11) (k := 1) rfl rfl rfl ?_
      refine bk_b (q := (99, [(2, .long ((l2 <<< (((8 : Int32)).toInt64 &&& 63)) ||| (((S.1 136 (S.1 135 3).toNatClampNeg)).toInt64))), (1, .int s0), (0, .ref 135), (4, .long l4)], [.ref 135, .ref 136, .long ((10 : Int64) * l4)])) tb_c_154_1 mx_154 1 rfl ?_
      refine bk_gi tb_c_154_1 rfl rfl (ci := 11) (k := 3) rfl rfl rfl ?_
      by_cases g32 : (S.1 135 3) < 0 ∨ 8000 ≤ (S.1 135 3).toNatClampNeg
      · rw [if_pos g32] at h; cases h
      · rw [if_neg g32] at h
        refine bk_a4 tb_c_154_1 rfl rfl rfl g32 ?_
        refine bk_b (q := (105, [(2, .long ((l2 <<< (((8 : Int32)).toInt64 &&& 63)) ||| (((S.1 136 (S.1 135 3).toNatClampNeg)).toInt64))), (1, .int s0), (0, .ref 135), (4, .long l4)], [.long (((10 : Int64) * l4) + (((S.1 136 (S.1 135 3).toNatClampNeg)).toInt64))])) tb_c_154_1 mx_154 2 rfl ?_
        refine bk_c8 tb_c_154_1 rfl rfl (x := (48 : Int64)) rfl ?_
        refine bk_b (q := (109, [(2, .long ((l2 <<< (((8 : Int32)).toInt64 &&& 63)) ||| (((S.1 136 (S.1 135 3).toNatClampNeg)).toInt64))), (1, .int s0), (0, .ref 135), (4, .long l4)], [.long ((((10 : Int64) * l4) + (((S.1 136 (S.1 135 3).toNatClampNeg)).toInt64)) - (48 : Int64))])) tb_c_154_1 mx_154 1 rfl ?_
        exact go_lv (ls_sc rfl rfl (ls_sc rfl rfl (ls_sc rfl rfl ls_nil))) (sn_Mo_row_109 hk7 h)
noncomputable def fn_Mo_row_56 (kk7 : Int32 → Int64 → Int64 → wd_S → Option wd_S) (l2 : Int64) (l4 : Int64) (S : wd_S) : Option wd_S :=
  fn_Mo_row_57 kk7 l2 l4 (0 : Int32) S
set_option maxRecDepth 100000 in
theorem sn_Mo_row_56 {L : Nat} {xs : Nat → Int32} {kk7 : Int32 → Int64 → Int64 → wd_S → Option wd_S} (hk7 : ∀ {l1 : Int32} {l2 : Int64} {l4 : Int64} {S : wd_S} {S' : wd_S}, kk7 l1 l2 l4 S = some S' → go_r tb_P L xs 2 154 7 [(0, .ref 135), (1, .int l1), (2, .long l2), (4, .long l4)] [] (wd_k S) (.inl none, wd_k S')) {l2 : Int64} {l4 : Int64} {S : wd_S} {S' : wd_S} (h : fn_Mo_row_56 kk7 l2 l4 S = some S') : go_r tb_P L xs 2 154 56 [(0, .ref 135), (2, .long l2), (4, .long l4)] [] (wd_k S) (.inl none, wd_k S') := by
  unfold fn_Mo_row_56 at h
  refine bk_b (q := (57, [(0, .ref 135), (2, .long l2), (4, .long l4)], [.int (0 : Int32)])) tb_c_154_0 mx_154 1 rfl ?_
  exact go_lv (ls_sc rfl rfl (ls_sc rfl rfl (ls_sc rfl rfl ls_nil))) (sn_Mo_row_57 hk7 h)
noncomputable def fn_Mo_row_7 : Nat → Int32 → Int64 → Int64 → wd_S → Option wd_S
  | 0, _, _, _, _ => none
  | n + 1, l1, l2, l4, S =>
    (if (S.1 135 3) < (S.1 135 2) then
      (if (S.1 135 3) < 0 ∨ 8000 ≤ (S.1 135 3).toNatClampNeg then none else
      (wd_c (fn_Mo_isRow (S.1 136 (S.1 135 3).toNatClampNeg) S) fun x26 S25 =>
      (if x26 = 0 then
        fn_Mo_row_124 l1 l2 l4 S25
      else
        (if l1 = 0 then
          fn_Mo_row_56 (fn_Mo_row_7 n) l2 l4 S25
        else
          (if (S25.1 135 3) < 0 ∨ 8000 ≤ (S25.1 135 3).toNatClampNeg then none else
          (wd_c (fn_Mo_isDigit (S25.1 136 (S25.1 135 3).toNatClampNeg) S25) fun x36 S35 =>
          (if x36 = 0 then
            fn_Mo_row_56 (fn_Mo_row_7 n) l2 l4 S35
          else
            fn_Mo_row_57 (fn_Mo_row_7 n) l2 l4 (1 : Int32) S35)))))))
    else
      fn_Mo_row_124 l1 l2 l4 S)
set_option maxRecDepth 100000 in
theorem sn_Mo_row_7 {L : Nat} {xs : Nat → Int32} : ∀ (n : Nat) {l1 : Int32} {l2 : Int64} {l4 : Int64} {S : wd_S} {S' : wd_S}, fn_Mo_row_7 n l1 l2 l4 S = some S' → go_r tb_P L xs 2 154 7 [(0, .ref 135), (1, .int l1), (2, .long l2), (4, .long l4)] [] (wd_k S) (.inl none, wd_k S') := by
  intro n
  induction n with
  | zero => intro l1 l2 l4 S S'  h; cases h
  | succ n ih =>
    intro l1 l2 l4 S S'  h
    rw [fn_Mo_row_7] at h
    refine bk_b (q := (8, [(0, .ref 135), (1, .int l1), (2, .long l2), (4, .long l4)], [.ref 135])) tb_c_154_0 mx_154 1 rfl ?_
    refine bk_gi tb_c_154_0 rfl rfl (ci := 11) (k := 3) rfl rfl rfl ?_
    refine bk_b (q := (12, [(0, .ref 135), (1, .int l1), (2, .long l2), (4, .long l4)], [.ref 135, .int (S.1 135 3)])) tb_c_154_0 mx_154 1 rfl ?_
    refine bk_gi tb_c_154_0 rfl rfl (ci := 11) (k := 2) rfl rfl rfl ?_
    by_cases g1 : (S.1 135 3) < (S.1 135 2)
    · rw [if_pos g1] at h
      refine bk_jf tb_c_154_0 rfl (pc' := 18) rfl (t := 124) rfl (cm_ge_f g1) ?_
      refine bk_b (q := (19, [(0, .ref 135), (1, .int l1), (2, .long l2), (4, .long l4)], [.ref 135])) tb_c_154_0 mx_154 1 rfl ?_
      refine bk_gc tb_c_154_0 rfl rfl (ci := 11) (k := 1) rfl rfl rfl ?_
      refine bk_b (q := (23, [(0, .ref 135), (1, .int l1), (2, .long l2), (4, .long l4)], [.ref 135, .ref 136])) tb_c_154_0 mx_154 1 rfl ?_
      refine bk_gi tb_c_154_0 rfl rfl (ci := 11) (k := 3) rfl rfl rfl ?_
      by_cases g24 : (S.1 135 3) < 0 ∨ 8000 ≤ (S.1 135 3).toNatClampNeg
      · rw [if_pos g24] at h; cases h
      · rw [if_neg g24] at h
        refine bk_a4 tb_c_154_0 rfl rfl rfl g24 ?_
        obtain ⟨x26, S25, c27, h⟩ := wd_cx h
        refine bk_ks tb_c_154_0 rfl rfl rfl (by decide) rfl rfl (ev_up (Nat.le_of_ble_eq_true rfl) (sn_Mo_isRow c27)) ?_
        by_cases g28 : x26 = 0
        · rw [if_pos g28] at h
          refine bk_zt tb_c_154_0 rfl (pc' := 124) rfl (cm_eq_t g28) ?_
          exact go_lv (ls_sc rfl rfl (ls_sc rfl rfl (ls_sc rfl rfl (ls_sc rfl rfl ls_nil)))) (sn_Mo_row_124 h)
        · rw [if_neg g28] at h
          refine bk_zf tb_c_154_0 rfl (pc' := 33) rfl (t := 124) rfl (cm_eq_f g28) ?_
          refine bk_b (q := (34, [(0, .ref 135), (1, .int l1), (2, .long l2), (4, .long l4)], [.int l1])) tb_c_154_0 mx_154 1 rfl ?_
          by_cases g29 : l1 = 0
          · rw [if_pos g29] at h
            refine bk_zt tb_c_154_0 rfl (pc' := 56) rfl (cm_eq_t g29) ?_
            exact go_lv (ls_sc rfl rfl (ls_sc rfl rfl (ls_sc rfl rfl ls_nil))) (sn_Mo_row_56 ih h)
          · rw [if_neg g29] at h
            refine bk_zf tb_c_154_0 rfl (pc' := 37) rfl (t := 56) rfl (cm_eq_f g29) ?_
            refine bk_b (q := (38, [(0, .ref 135), (1, .int l1), (2, .long l2), (4, .long l4)], [.ref 135])) tb_c_154_0 mx_154 1 rfl ?_
            refine bk_gc tb_c_154_0 rfl rfl (ci := 11) (k := 1) rfl rfl rfl ?_
            refine bk_b (q := (42, [(0, .ref 135), (1, .int l1), (2, .long l2), (4, .long l4)], [.ref 135, .ref 136])) tb_c_154_0 mx_154 1 rfl ?_
            refine bk_gi tb_c_154_0 rfl rfl (ci := 11) (k := 3) rfl rfl rfl ?_
            by_cases g34 : (S25.1 135 3) < 0 ∨ 8000 ≤ (S25.1 135 3).toNatClampNeg
            · rw [if_pos g34] at h; cases h
            · rw [if_neg g34] at h
              refine bk_a4 tb_c_154_0 rfl rfl rfl g34 ?_
              obtain ⟨x36, S35, c37, h⟩ := wd_cx h
              refine bk_ks tb_c_154_0 rfl rfl rfl (by decide) rfl rfl (ev_up (Nat.le_of_ble_eq_true rfl) (sn_Mo_isDigit c37)) ?_
              by_cases g38 : x36 = 0
              · rw [if_pos g38] at h
                refine bk_zt tb_c_154_0 rfl (pc' := 56) rfl (cm_eq_t g38) ?_
                exact go_lv (ls_sc rfl rfl (ls_sc rfl rfl (ls_sc rfl rfl ls_nil))) (sn_Mo_row_56 ih h)
              · rw [if_neg g38] at h
                refine bk_zf tb_c_154_0 rfl (pc' := 52) rfl (t := 56) rfl (cm_eq_f g38) ?_
                refine bk_b (q := (57, [(0, .ref 135), (1, .int l1), (2, .long l2), (4, .long l4)], [.int (1 : Int32)])) tb_c_154_0 mx_154 2 rfl ?_
                exact go_lv (ls_sc rfl rfl (ls_sc rfl rfl (ls_sc rfl rfl ls_nil))) (sn_Mo_row_57 ih h)
    · rw [if_neg g1] at h
      refine bk_jt tb_c_154_0 rfl (pc' := 124) rfl (cm_ge_t g1) ?_
      exact go_lv (ls_sc rfl rfl (ls_sc rfl rfl (ls_sc rfl rfl (ls_sc rfl rfl ls_nil)))) (sn_Mo_row_124 h)
/-- SpecialiserModel.row()V -/
noncomputable def fn_Mo_row (S : wd_S) : Option wd_S :=
  fn_Mo_row_7 wd_F (1 : Int32) (0 : Int64) (0 : Int64) S
set_option maxRecDepth 100000 in
theorem sn_Mo_row {L : Nat} {xs : Nat → Int32} {S : wd_S} {S' : wd_S} (h : fn_Mo_row  S = some S') : ev_r tb_P L xs (2 + 1) 154 [.ref 135] (wd_k S) (.inl none, wd_k S') := by
  unfold fn_Mo_row at h
  refine ev_of (Nat.le_of_ble_eq_true rfl) ?_
  show go_r tb_P L xs 2 154 0 [(0, .ref 135)] [] (wd_k S) (.inl none, wd_k S')
  refine bk_b (q := (7, [(4, .long (0 : Int64)), (2, .long (0 : Int64)), (1, .int (1 : Int32)), (0, .ref 135)], [])) tb_c_154_0 mx_154 6 rfl ?_
  exact go_lv (ls_sc rfl rfl (ls_sc rfl rfl (ls_sc rfl rfl (ls_sc rfl rfl ls_nil)))) (sn_Mo_row_7 wd_F h)
theorem mx_151 : mi_mx tb_P 151 = 2 := rfl
noncomputable def fn_Mo_next_288 (S : wd_S) : Option wd_S :=
  some S
set_option maxRecDepth 100000 in
theorem sn_Mo_next_288 {L : Nat} {xs : Nat → Int32} {S : wd_S} {S' : wd_S} (h : fn_Mo_next_288  S = some S') : go_r tb_P L xs 3 151 288 [] [] (wd_k S) (.inl none, wd_k S') := by
  unfold fn_Mo_next_288 at h
  cases h
  exact bk_t tb_c_151_3 rfl rfl
noncomputable def fn_Mo_next_269 (s1 : Int32) (S : wd_S) : Option wd_S :=
  (wd_b (wd_i S 135 4 s1) fun S21 =>
  (if (S21.1 135 4) = 0 then
    (wd_d (fn_Mo_stop (1 : Int32) (S21.1 135 5) S21) fun S23 =>
    fn_Mo_next_288  S23)
  else
    fn_Mo_next_288  S21))
set_option maxRecDepth 100000 in
theorem sn_Mo_next_269 {L : Nat} {xs : Nat → Int32} {s1 : Int32} {S : wd_S} {S' : wd_S} (h : fn_Mo_next_269 s1 S = some S') : go_r tb_P L xs 3 151 269 [(0, .ref 135)] [.int s1, .ref 135] (wd_k S) (.inl none, wd_k S') := by
  unfold fn_Mo_next_269 at h
  obtain ⟨S21, eS21, h⟩ := wd_bx h
  refine bk_pi tb_c_151_3 rfl rfl (ci := 11) (k := 4) rfl rfl rfl rfl ?_
  rw [eS21]
  refine bk_b (q := (273, [(0, .ref 135)], [.ref 135])) tb_c_151_3 mx_151 1 rfl ?_
  refine bk_gi tb_c_151_3 rfl rfl (ci := 11) (k := 4) rfl rfl rfl ?_
  by_cases g22 : (S21.1 135 4) = 0
  · rw [if_pos g22] at h
    refine bk_zf tb_c_151_3 rfl (pc' := 279) rfl (t := 288) rfl (cm_ne_f g22) ?_
    refine bk_b (q := (282, [(0, .ref 135)], [.ref 135, .int (1 : Int32), .ref 135])) tb_c_151_3 mx_151 3 rfl ?_
    refine bk_gi tb_c_151_3 rfl rfl (ci := 11) (k := 5) rfl rfl rfl ?_
    obtain ⟨S23, c25, h⟩ := wd_dx h
    refine bk_kv tb_c_151_3 rfl rfl rfl rfl rfl (ci := 11) rfl rfl (ev_up (Nat.le_of_ble_eq_true rfl) (sn_Mo_stop c25)) ?_
    exact go_lv ls_nil (sn_Mo_next_288 h)
  · rw [if_neg g22] at h
    refine bk_zt tb_c_151_3 rfl (pc' := 288) rfl (cm_ne_t g22) ?_
    exact go_lv ls_nil (sn_Mo_next_288 h)
noncomputable def fn_Mo_next_168 (l1 : Int32) (S : wd_S) : Option wd_S :=
  (if l1 = (61 : Int32) then
    fn_Mo_next_269 (13 : Int32) S
  else
    (if l1 = (40 : Int32) then
      fn_Mo_next_269 (14 : Int32) S
    else
      (if l1 = (41 : Int32) then
        fn_Mo_next_269 (15 : Int32) S
      else
        (if l1 = (44 : Int32) then
          fn_Mo_next_269 (16 : Int32) S
        else
          (if l1 = (59 : Int32) then
            fn_Mo_next_269 (17 : Int32) S
          else
            (if l1 = (43 : Int32) then
              fn_Mo_next_269 (19 : Int32) S
            else
              (if l1 = (45 : Int32) then
                fn_Mo_next_269 (20 : Int32) S
              else
                (if l1 = (42 : Int32) then
                  fn_Mo_next_269 (21 : Int32) S
                else
                  (if l1 = (60 : Int32) then
                    fn_Mo_next_269 (22 : Int32) S
                  else
                    fn_Mo_next_269 (0 : Int32) S)))))))))
set_option maxRecDepth 100000 in
theorem sn_Mo_next_168 {L : Nat} {xs : Nat → Int32} {l1 : Int32} {S : wd_S} {S' : wd_S} (h : fn_Mo_next_168 l1 S = some S') : go_r tb_P L xs 3 151 168 [(0, .ref 135), (1, .int l1)] [] (wd_k S) (.inl none, wd_k S') := by
  unfold fn_Mo_next_168 at h
  refine bk_b (q := (172, [(0, .ref 135), (1, .int l1)], [.int (61 : Int32), .int l1, .ref 135])) tb_c_151_2 mx_151 3 rfl ?_
  by_cases g12 : l1 = (61 : Int32)
  · rw [if_pos g12] at h
    refine bk_jf tb_c_151_2 rfl (pc' := 175) rfl (t := 180) rfl (cm_ne_f g12) ?_
    refine bk_b (q := (269, [(0, .ref 135), (1, .int l1)], [.int (13 : Int32), .ref 135])) tb_c_151_2 mx_151 2 rfl ?_
    exact go_lv (ls_sc rfl rfl ls_nil) (sn_Mo_next_269 h)
  · rw [if_neg g12] at h
    refine bk_jt tb_c_151_2 rfl (pc' := 180) rfl (cm_ne_t g12) ?_
    refine bk_b (q := (183, [(0, .ref 135), (1, .int l1)], [.int (40 : Int32), .int l1, .ref 135])) tb_c_151_2 mx_151 2 rfl ?_
    by_cases g13 : l1 = (40 : Int32)
    · rw [if_pos g13] at h
      refine bk_jf tb_c_151_2 rfl (pc' := 186) rfl (t := 191) rfl (cm_ne_f g13) ?_
      refine bk_b (q := (269, [(0, .ref 135), (1, .int l1)], [.int (14 : Int32), .ref 135])) tb_c_151_2 mx_151 2 rfl ?_
      exact go_lv (ls_sc rfl rfl ls_nil) (sn_Mo_next_269 h)
    · rw [if_neg g13] at h
      refine bk_jt tb_c_151_2 rfl (pc' := 191) rfl (cm_ne_t g13) ?_
      refine bk_b (q := (194, [(0, .ref 135), (1, .int l1)], [.int (41 : Int32), .int l1, .ref 135])) tb_c_151_2 mx_151 2 rfl ?_
      by_cases g14 : l1 = (41 : Int32)
      · rw [if_pos g14] at h
        refine bk_jf tb_c_151_2 rfl (pc' := 197) rfl (t := 202) rfl (cm_ne_f g14) ?_
        refine bk_b (q := (269, [(0, .ref 135), (1, .int l1)], [.int (15 : Int32), .ref 135])) tb_c_151_2 mx_151 2 rfl ?_
        exact go_lv (ls_sc rfl rfl ls_nil) (sn_Mo_next_269 h)
      · rw [if_neg g14] at h
        refine bk_jt tb_c_151_2 rfl (pc' := 202) rfl (cm_ne_t g14) ?_
        refine bk_b (q := (205, [(0, .ref 135), (1, .int l1)], [.int (44 : Int32), .int l1, .ref 135])) tb_c_151_2 mx_151 2 rfl ?_
        by_cases g15 : l1 = (44 : Int32)
        · rw [if_pos g15] at h
          refine bk_jf tb_c_151_2 rfl (pc' := 208) rfl (t := 213) rfl (cm_ne_f g15) ?_
          refine bk_b (q := (269, [(0, .ref 135), (1, .int l1)], [.int (16 : Int32), .ref 135])) tb_c_151_2 mx_151 2 rfl ?_
          exact go_lv (ls_sc rfl rfl ls_nil) (sn_Mo_next_269 h)
        · rw [if_neg g15] at h
          refine bk_jt tb_c_151_2 rfl (pc' := 213) rfl (cm_ne_t g15) ?_
          refine bk_b (q := (216, [(0, .ref 135), (1, .int l1)], [.int (59 : Int32), .int l1, .ref 135])) tb_c_151_2 mx_151 2 rfl ?_
          by_cases g16 : l1 = (59 : Int32)
          · rw [if_pos g16] at h
            refine bk_jf tb_c_151_2 rfl (pc' := 219) rfl (t := 224) rfl (cm_ne_f g16) ?_
            refine bk_b (q := (269, [(0, .ref 135), (1, .int l1)], [.int (17 : Int32), .ref 135])) tb_c_151_2 mx_151 2 rfl ?_
            exact go_lv (ls_sc rfl rfl ls_nil) (sn_Mo_next_269 h)
          · rw [if_neg g16] at h
            refine bk_jt tb_c_151_2 rfl (pc' := 224) rfl (cm_ne_t g16) ?_
            refine bk_b (q := (227, [(0, .ref 135), (1, .int l1)], [.int (43 : Int32), .int l1, .ref 135])) tb_c_151_2 mx_151 2 rfl ?_
            by_cases g17 : l1 = (43 : Int32)
            · rw [if_pos g17] at h
              refine bk_jf tb_c_151_2 rfl (pc' := 230) rfl (t := 235) rfl (cm_ne_f g17) ?_
              refine bk_b (q := (269, [(0, .ref 135), (1, .int l1)], [.int (19 : Int32), .ref 135])) tb_c_151_2 mx_151 2 rfl ?_
              exact go_lv (ls_sc rfl rfl ls_nil) (sn_Mo_next_269 h)
            · rw [if_neg g17] at h
              refine bk_jt tb_c_151_2 rfl (pc' := 235) rfl (cm_ne_t g17) ?_
              refine bk_b (q := (236, [(0, .ref 135), (1, .int l1)], [.int l1, .ref 135])) tb_c_151_2 mx_151 1 rfl ?_
              refine bk_b (q := (238, [(0, .ref 135), (1, .int l1)], [.int (45 : Int32), .int l1, .ref 135])) tb_c_151_3 mx_151 1 rfl ?_
              by_cases g18 : l1 = (45 : Int32)
              · rw [if_pos g18] at h
                refine bk_jf tb_c_151_3 rfl (pc' := 241) rfl (t := 246) rfl (cm_ne_f g18) ?_
                refine bk_b (q := (269, [(0, .ref 135), (1, .int l1)], [.int (20 : Int32), .ref 135])) tb_c_151_3 mx_151 2 rfl ?_
                exact go_lv (ls_sc rfl rfl ls_nil) (sn_Mo_next_269 h)
              · rw [if_neg g18] at h
                refine bk_jt tb_c_151_3 rfl (pc' := 246) rfl (cm_ne_t g18) ?_
                refine bk_b (q := (249, [(0, .ref 135), (1, .int l1)], [.int (42 : Int32), .int l1, .ref 135])) tb_c_151_3 mx_151 2 rfl ?_
                by_cases g19 : l1 = (42 : Int32)
                · rw [if_pos g19] at h
                  refine bk_jf tb_c_151_3 rfl (pc' := 252) rfl (t := 257) rfl (cm_ne_f g19) ?_
                  refine bk_b (q := (269, [(0, .ref 135), (1, .int l1)], [.int (21 : Int32), .ref 135])) tb_c_151_3 mx_151 2 rfl ?_
                  exact go_lv (ls_sc rfl rfl ls_nil) (sn_Mo_next_269 h)
                · rw [if_neg g19] at h
                  refine bk_jt tb_c_151_3 rfl (pc' := 257) rfl (cm_ne_t g19) ?_
                  refine bk_b (q := (260, [(0, .ref 135), (1, .int l1)], [.int (60 : Int32), .int l1, .ref 135])) tb_c_151_3 mx_151 2 rfl ?_
                  by_cases g20 : l1 = (60 : Int32)
                  · rw [if_pos g20] at h
                    refine bk_jf tb_c_151_3 rfl (pc' := 263) rfl (t := 268) rfl (cm_ne_f g20) ?_
                    refine bk_b (q := (269, [(0, .ref 135), (1, .int l1)], [.int (22 : Int32), .ref 135])) tb_c_151_3 mx_151 2 rfl ?_
                    exact go_lv (ls_sc rfl rfl ls_nil) (sn_Mo_next_269 h)
                  · rw [if_neg g20] at h
                    refine bk_jt tb_c_151_3 rfl (pc' := 268) rfl (cm_ne_t g20) ?_
                    refine bk_b (q := (269, [(0, .ref 135), (1, .int l1)], [.int (0 : Int32), .ref 135])) tb_c_151_3 mx_151 1 rfl ?_
                    exact go_lv (ls_sc rfl rfl ls_nil) (sn_Mo_next_269 h)
noncomputable def fn_Mo_next_52 (S : wd_S) : Option wd_S :=
  (wd_b (wd_i S 135 5 (S.1 135 3)) fun S2 =>
  (if (S2.1 135 3) = (S2.1 135 2) then
    (wd_b (wd_i S2 135 4 (23 : Int32)) fun S34 =>
    some S34)
  else
    (wd_b (wd_i S2 135 6 ((S2.1 135 6) + (1 : Int32))) fun S4 =>
    (if (S4.1 135 3) < 0 ∨ 8000 ≤ (S4.1 135 3).toNatClampNeg then none else
    (wd_c (fn_Mo_isRow (S4.1 136 (S4.1 135 3).toNatClampNeg) S4) fun x7 S6 =>
    (if x7 = 0 then
      (wd_b (wd_i S6 135 3 ((S6.1 135 3) + (1 : Int32))) fun S10 =>
      (if (S4.1 136 (S4.1 135 3).toNatClampNeg) = (61 : Int32) then
        (if (S10.1 135 3) < (S10.1 135 2) then
          (if (S10.1 135 3) < 0 ∨ 8000 ≤ (S10.1 135 3).toNatClampNeg then none else
          (if (S10.1 136 (S10.1 135 3).toNatClampNeg) = (61 : Int32) then
            (wd_b (wd_i S10 135 3 ((S10.1 135 3) + (1 : Int32))) fun S29 =>
            (wd_b (wd_i S29 135 4 (12 : Int32)) fun S30 =>
            some S30))
          else
            fn_Mo_next_168 (S4.1 136 (S4.1 135 3).toNatClampNeg) S10))
        else
          fn_Mo_next_168 (S4.1 136 (S4.1 135 3).toNatClampNeg) S10)
      else
        fn_Mo_next_168 (S4.1 136 (S4.1 135 3).toNatClampNeg) S10))
    else
      (wd_d (fn_Mo_row  S6) fun S31 =>
      some S31)))))))
set_option maxRecDepth 100000 in
theorem sn_Mo_next_52 {L : Nat} {xs : Nat → Int32} {S : wd_S} {S' : wd_S} (h : fn_Mo_next_52  S = some S') : go_r tb_P L xs 3 151 52 [(0, .ref 135)] [] (wd_k S) (.inl none, wd_k S') := by
  unfold fn_Mo_next_52 at h
  refine bk_b (q := (54, [(0, .ref 135)], [.ref 135, .ref 135])) tb_c_151_0 mx_151 2 rfl ?_
  refine bk_gi tb_c_151_0 rfl rfl (ci := 11) (k := 3) rfl rfl rfl ?_
  obtain ⟨S2, eS2, h⟩ := wd_bx h
  refine bk_pi tb_c_151_0 rfl rfl (ci := 11) (k := 5) rfl rfl rfl rfl ?_
  rw [eS2]
  refine bk_b (q := (61, [(0, .ref 135)], [.ref 135])) tb_c_151_0 mx_151 1 rfl ?_
  refine bk_gi tb_c_151_0 rfl rfl (ci := 11) (k := 3) rfl rfl rfl ?_
  refine bk_b (q := (65, [(0, .ref 135)], [.ref 135, .int (S2.1 135 3)])) tb_c_151_0 mx_151 1 rfl ?_
  refine bk_gi tb_c_151_0 rfl rfl (ci := 11) (k := 2) rfl rfl rfl ?_
  by_cases g3 : (S2.1 135 3) = (S2.1 135 2)
  · rw [if_pos g3] at h
    refine bk_jf tb_c_151_0 rfl (pc' := 71) rfl (t := 78) rfl (cm_ne_f g3) ?_
    refine bk_b (q := (74, [(0, .ref 135)], [.int (23 : Int32), .ref 135])) tb_c_151_0 mx_151 2 rfl ?_
    obtain ⟨S34, eS34, h⟩ := wd_bx h
    refine bk_pi tb_c_151_0 rfl rfl (ci := 11) (k := 4) rfl rfl rfl rfl ?_
    rw [eS34]
    cases h
    exact bk_t tb_c_151_0 rfl rfl
  · rw [if_neg g3] at h
    refine bk_jt tb_c_151_0 rfl (pc' := 78) rfl (cm_ne_t g3) ?_
    refine bk_b (q := (79, [(0, .ref 135)], [.ref 135])) tb_c_151_0 mx_151 1 rfl ?_
    refine bk_b (q := (80, [(0, .ref 135)], [.ref 135, .ref 135])) tb_c_151_1 mx_151 1 rfl ?_
    refine bk_gi tb_c_151_1 rfl rfl (ci := 11) (k := 6) rfl rfl rfl ?_
    refine bk_b (q := (85, [(0, .ref 135)], [.int ((S2.1 135 6) + (1 : Int32)), .ref 135])) tb_c_151_1 mx_151 2 rfl ?_
    obtain ⟨S4, eS4, h⟩ := wd_bx h
    refine bk_pi tb_c_151_1 rfl rfl (ci := 11) (k := 6) rfl rfl rfl rfl ?_
    rw [eS4]
    refine bk_b (q := (89, [(0, .ref 135)], [.ref 135])) tb_c_151_1 mx_151 1 rfl ?_
    refine bk_gc tb_c_151_1 rfl rfl (ci := 11) (k := 1) rfl rfl rfl ?_
    refine bk_b (q := (93, [(0, .ref 135)], [.ref 135, .ref 136])) tb_c_151_1 mx_151 1 rfl ?_
    refine bk_gi tb_c_151_1 rfl rfl (ci := 11) (k := 3) rfl rfl rfl ?_
    by_cases g5 : (S4.1 135 3) < 0 ∨ 8000 ≤ (S4.1 135 3).toNatClampNeg
    · rw [if_pos g5] at h; cases h
    · rw [if_neg g5] at h
      refine bk_a4 tb_c_151_1 rfl rfl rfl g5 ?_
      refine bk_b (q := (99, [(1, .int (S4.1 136 (S4.1 135 3).toNatClampNeg)), (0, .ref 135)], [.int (S4.1 136 (S4.1 135 3).toNatClampNeg)])) tb_c_151_1 mx_151 2 rfl ?_
      obtain ⟨x7, S6, c8, h⟩ := wd_cx h
      refine bk_ks tb_c_151_1 rfl rfl rfl (by decide) rfl rfl (ev_up (Nat.le_of_ble_eq_true rfl) (sn_Mo_isRow c8)) ?_
      by_cases g9 : x7 = 0
      · rw [if_pos g9] at h
        refine bk_zt tb_c_151_1 rfl (pc' := 110) rfl (cm_eq_t g9) ?_
        refine bk_b (q := (112, [(1, .int (S4.1 136 (S4.1 135 3).toNatClampNeg)), (0, .ref 135)], [.ref 135, .ref 135])) tb_c_151_1 mx_151 2 rfl ?_
        refine bk_gi tb_c_151_1 rfl rfl (ci := 11) (k := 3) rfl rfl rfl ?_
        refine bk_b (q := (117, [(1, .int (S4.1 136 (S4.1 135 3).toNatClampNeg)), (0, .ref 135)], [.int ((S6.1 135 3) + (1 : Int32)), .ref 135])) tb_c_151_1 mx_151 2 rfl ?_
        obtain ⟨S10, eS10, h⟩ := wd_bx h
        refine bk_pi tb_c_151_1 rfl rfl (ci := 11) (k := 3) rfl rfl rfl rfl ?_
        rw [eS10]
        refine bk_b (q := (123, [(1, .int (S4.1 136 (S4.1 135 3).toNatClampNeg)), (0, .ref 135)], [.int (61 : Int32), .int (S4.1 136 (S4.1 135 3).toNatClampNeg)])) tb_c_151_1 mx_151 2 rfl ?_
        by_cases g11 : (S4.1 136 (S4.1 135 3).toNatClampNeg) = (61 : Int32)
        · rw [if_pos g11] at h
          refine bk_jf tb_c_151_1 rfl (pc' := 126) rfl (t := 168) rfl (cm_ne_f g11) ?_
          refine bk_b (q := (127, [(1, .int (S4.1 136 (S4.1 135 3).toNatClampNeg)), (0, .ref 135)], [.ref 135])) tb_c_151_1 mx_151 1 rfl ?_
          refine bk_gi tb_c_151_1 rfl rfl (ci := 11) (k := 3) rfl rfl rfl ?_
          refine bk_b (q := (131, [(1, .int (S4.1 136 (S4.1 135 3).toNatClampNeg)), (0, .ref 135)], [.ref 135, .int (S10.1 135 3)])) tb_c_151_1 mx_151 1 rfl ?_
          refine bk_gi tb_c_151_1 rfl rfl (ci := 11) (k := 2) rfl rfl rfl ?_
          by_cases g26 : (S10.1 135 3) < (S10.1 135 2)
          · rw [if_pos g26] at h
            refine bk_jf tb_c_151_1 rfl (pc' := 137) rfl (t := 168) rfl (cm_ge_f g26) ?_
            refine bk_b (q := (138, [(1, .int (S4.1 136 (S4.1 135 3).toNatClampNeg)), (0, .ref 135)], [.ref 135])) tb_c_151_1 mx_151 1 rfl ?_
            refine bk_gc tb_c_151_1 rfl rfl (ci := 11) (k := 1) rfl rfl rfl ?_
            refine bk_b (q := (142, [(1, .int (S4.1 136 (S4.1 135 3).toNatClampNeg)), (0, .ref 135)], [.ref 135, .ref 136])) tb_c_151_1 mx_151 1 rfl ?_
            refine bk_gi tb_c_151_1 rfl rfl (ci := 11) (k := 3) rfl rfl rfl ?_
            by_cases g27 : (S10.1 135 3) < 0 ∨ 8000 ≤ (S10.1 135 3).toNatClampNeg
            · rw [if_pos g27] at h; cases h
            · rw [if_neg g27] at h
              refine bk_a4 tb_c_151_1 rfl rfl rfl g27 ?_
              refine bk_b (q := (148, [(1, .int (S4.1 136 (S4.1 135 3).toNatClampNeg)), (0, .ref 135)], [.int (61 : Int32), .int (S10.1 136 (S10.1 135 3).toNatClampNeg)])) tb_c_151_1 mx_151 1 rfl ?_
              by_cases g28 : (S10.1 136 (S10.1 135 3).toNatClampNeg) = (61 : Int32)
              · rw [if_pos g28] at h
                refine bk_jf tb_c_151_1 rfl (pc' := 151) rfl (t := 168) rfl (cm_ne_f g28) ?_
                refine bk_b (q := (153, [(1, .int (S4.1 136 (S4.1 135 3).toNatClampNeg)), (0, .ref 135)], [.ref 135, .ref 135])) tb_c_151_1 mx_151 2 rfl ?_
                refine bk_gi tb_c_151_2 rfl rfl (ci := 11) (k := 3) rfl rfl rfl ?_
                refine bk_b (q := (158, [(1, .int (S4.1 136 (S4.1 135 3).toNatClampNeg)), (0, .ref 135)], [.int ((S10.1 135 3) + (1 : Int32)), .ref 135])) tb_c_151_2 mx_151 2 rfl ?_
                obtain ⟨S29, eS29, h⟩ := wd_bx h
                refine bk_pi tb_c_151_2 rfl rfl (ci := 11) (k := 3) rfl rfl rfl rfl ?_
                rw [eS29]
                refine bk_b (q := (164, [(1, .int (S4.1 136 (S4.1 135 3).toNatClampNeg)), (0, .ref 135)], [.int (12 : Int32), .ref 135])) tb_c_151_2 mx_151 2 rfl ?_
                obtain ⟨S30, eS30, h⟩ := wd_bx h
                refine bk_pi tb_c_151_2 rfl rfl (ci := 11) (k := 4) rfl rfl rfl rfl ?_
                rw [eS30]
                cases h
                exact bk_t tb_c_151_2 rfl rfl
              · rw [if_neg g28] at h
                refine bk_jt tb_c_151_1 rfl (pc' := 168) rfl (cm_ne_t g28) ?_
                exact go_lv (ls_sc rfl rfl (ls_sc rfl rfl ls_nil)) (sn_Mo_next_168 h)
          · rw [if_neg g26] at h
            refine bk_jt tb_c_151_1 rfl (pc' := 168) rfl (cm_ge_t g26) ?_
            exact go_lv (ls_sc rfl rfl (ls_sc rfl rfl ls_nil)) (sn_Mo_next_168 h)
        · rw [if_neg g11] at h
          refine bk_jt tb_c_151_1 rfl (pc' := 168) rfl (cm_ne_t g11) ?_
          exact go_lv (ls_sc rfl rfl (ls_sc rfl rfl ls_nil)) (sn_Mo_next_168 h)
      · rw [if_neg g9] at h
        refine bk_zf tb_c_151_1 rfl (pc' := 105) rfl (t := 110) rfl (cm_eq_f g9) ?_
        refine bk_b (q := (106, [(1, .int (S4.1 136 (S4.1 135 3).toNatClampNeg)), (0, .ref 135)], [.ref 135])) tb_c_151_1 mx_151 1 rfl ?_
        obtain ⟨S31, c33, h⟩ := wd_dx h
        refine bk_kv tb_c_151_1 rfl rfl rfl rfl rfl (ci := 11) rfl rfl (ev_up (Nat.le_of_ble_eq_true rfl) (sn_Mo_row c33)) ?_
        cases h
        exact bk_t tb_c_151_1 rfl rfl
noncomputable def fn_Mo_next_39 (kk0 : wd_S → Option wd_S) (S : wd_S) : Option wd_S :=
  (wd_b (wd_i S 135 3 ((S.1 135 3) + (1 : Int32))) fun S37 =>
  kk0  S37)
set_option maxRecDepth 100000 in
theorem sn_Mo_next_39 {L : Nat} {xs : Nat → Int32} {kk0 : wd_S → Option wd_S} (hk0 : ∀ {S : wd_S} {S' : wd_S}, kk0  S = some S' → go_r tb_P L xs 3 151 0 [(0, .ref 135)] [] (wd_k S) (.inl none, wd_k S')) {S : wd_S} {S' : wd_S} (h : fn_Mo_next_39 kk0  S = some S') : go_r tb_P L xs 3 151 39 [(0, .ref 135)] [] (wd_k S) (.inl none, wd_k S') := by
  unfold fn_Mo_next_39 at h
  refine bk_b (q := (41, [(0, .ref 135)], [.ref 135, .ref 135])) tb_c_151_0 mx_151 2 rfl ?_
  refine bk_gi tb_c_151_0 rfl rfl (ci := 11) (k := 3) rfl rfl rfl ?_
  refine bk_b (q := (46, [(0, .ref 135)], [.int ((S.1 135 3) + (1 : Int32)), .ref 135])) tb_c_151_0 mx_151 2 rfl ?_
  obtain ⟨S37, eS37, h⟩ := wd_bx h
  refine bk_pi tb_c_151_0 rfl rfl (ci := 11) (k := 3) rfl rfl rfl rfl ?_
  rw [eS37]
  refine bk_b (q := (0, [(0, .ref 135)], [])) tb_c_151_0 mx_151 1 rfl ?_
  exact go_lv (ls_sc rfl rfl ls_nil) (hk0 h)
noncomputable def fn_Mo_next_0 : Nat → wd_S → Option wd_S
  | 0, _ => none
  | n + 1, S =>
    (if (S.1 135 3) < (S.1 135 2) then
      (if (S.1 135 3) < 0 ∨ 8000 ≤ (S.1 135 3).toNatClampNeg then none else
      (if (S.1 136 (S.1 135 3).toNatClampNeg) = (32 : Int32) then
        fn_Mo_next_39 (fn_Mo_next_0 n)  S
      else
        (if (S.1 135 3) < 0 ∨ 8000 ≤ (S.1 135 3).toNatClampNeg then none else
        (if (S.1 136 (S.1 135 3).toNatClampNeg) = (10 : Int32) then
          fn_Mo_next_39 (fn_Mo_next_0 n)  S
        else
          fn_Mo_next_52  S))))
    else
      fn_Mo_next_52  S)
set_option maxRecDepth 100000 in
theorem sn_Mo_next_0 {L : Nat} {xs : Nat → Int32} : ∀ (n : Nat) {S : wd_S} {S' : wd_S}, fn_Mo_next_0 n  S = some S' → go_r tb_P L xs 3 151 0 [(0, .ref 135)] [] (wd_k S) (.inl none, wd_k S') := by
  intro n
  induction n with
  | zero => intro  S S'  h; cases h
  | succ n ih =>
    intro  S S'  h
    rw [fn_Mo_next_0] at h
    refine bk_b (q := (1, [(0, .ref 135)], [.ref 135])) tb_c_151_0 mx_151 1 rfl ?_
    refine bk_gi tb_c_151_0 rfl rfl (ci := 11) (k := 3) rfl rfl rfl ?_
    refine bk_b (q := (5, [(0, .ref 135)], [.ref 135, .int (S.1 135 3)])) tb_c_151_0 mx_151 1 rfl ?_
    refine bk_gi tb_c_151_0 rfl rfl (ci := 11) (k := 2) rfl rfl rfl ?_
    by_cases g1 : (S.1 135 3) < (S.1 135 2)
    · rw [if_pos g1] at h
      refine bk_jf tb_c_151_0 rfl (pc' := 11) rfl (t := 52) rfl (cm_ge_f g1) ?_
      refine bk_b (q := (12, [(0, .ref 135)], [.ref 135])) tb_c_151_0 mx_151 1 rfl ?_
      refine bk_gc tb_c_151_0 rfl rfl (ci := 11) (k := 1) rfl rfl rfl ?_
      refine bk_b (q := (16, [(0, .ref 135)], [.ref 135, .ref 136])) tb_c_151_0 mx_151 1 rfl ?_
      refine bk_gi tb_c_151_0 rfl rfl (ci := 11) (k := 3) rfl rfl rfl ?_
      by_cases g35 : (S.1 135 3) < 0 ∨ 8000 ≤ (S.1 135 3).toNatClampNeg
      · rw [if_pos g35] at h; cases h
      · rw [if_neg g35] at h
        refine bk_a4 tb_c_151_0 rfl rfl rfl g35 ?_
        refine bk_b (q := (22, [(0, .ref 135)], [.int (32 : Int32), .int (S.1 136 (S.1 135 3).toNatClampNeg)])) tb_c_151_0 mx_151 1 rfl ?_
        by_cases g36 : (S.1 136 (S.1 135 3).toNatClampNeg) = (32 : Int32)
        · rw [if_pos g36] at h
          refine bk_jt tb_c_151_0 rfl (pc' := 39) rfl (cm_eq_t g36) ?_
          exact go_lv (ls_sc rfl rfl ls_nil) (sn_Mo_next_39 ih h)
        · rw [if_neg g36] at h
          refine bk_jf tb_c_151_0 rfl (pc' := 25) rfl (t := 39) rfl (cm_eq_f g36) ?_
          refine bk_b (q := (26, [(0, .ref 135)], [.ref 135])) tb_c_151_0 mx_151 1 rfl ?_
          refine bk_gc tb_c_151_0 rfl rfl (ci := 11) (k := 1) rfl rfl rfl ?_
          refine bk_b (q := (30, [(0, .ref 135)], [.ref 135, .ref 136])) tb_c_151_0 mx_151 1 rfl ?_
          refine bk_gi tb_c_151_0 rfl rfl (ci := 11) (k := 3) rfl rfl rfl ?_
          by_cases g38 : (S.1 135 3) < 0 ∨ 8000 ≤ (S.1 135 3).toNatClampNeg
          · rw [if_pos g38] at h; cases h
          · rw [if_neg g38] at h
            refine bk_a4 tb_c_151_0 rfl rfl rfl g38 ?_
            refine bk_b (q := (36, [(0, .ref 135)], [.int (10 : Int32), .int (S.1 136 (S.1 135 3).toNatClampNeg)])) tb_c_151_0 mx_151 1 rfl ?_
            by_cases g39 : (S.1 136 (S.1 135 3).toNatClampNeg) = (10 : Int32)
            · rw [if_pos g39] at h
              refine bk_jf tb_c_151_0 rfl (pc' := 39) rfl (t := 52) rfl (cm_ne_f g39) ?_
              exact go_lv (ls_sc rfl rfl ls_nil) (sn_Mo_next_39 ih h)
            · rw [if_neg g39] at h
              refine bk_jt tb_c_151_0 rfl (pc' := 52) rfl (cm_ne_t g39) ?_
              exact go_lv (ls_sc rfl rfl ls_nil) (sn_Mo_next_52 h)
    · rw [if_neg g1] at h
      refine bk_jt tb_c_151_0 rfl (pc' := 52) rfl (cm_ge_t g1) ?_
      exact go_lv (ls_sc rfl rfl ls_nil) (sn_Mo_next_52 h)
/-- SpecialiserModel.next()V -/
noncomputable def fn_Mo_next (S : wd_S) : Option wd_S :=
  fn_Mo_next_0 wd_F  S
set_option maxRecDepth 100000 in
theorem sn_Mo_next {L : Nat} {xs : Nat → Int32} {S : wd_S} {S' : wd_S} (h : fn_Mo_next  S = some S') : ev_r tb_P L xs (3 + 1) 151 [.ref 135] (wd_k S) (.inl none, wd_k S') := by
  unfold fn_Mo_next at h
  refine ev_of (Nat.le_of_ble_eq_true rfl) ?_
  show go_r tb_P L xs 3 151 0 [(0, .ref 135)] [] (wd_k S) (.inl none, wd_k S')
  exact go_lv (ls_sc rfl rfl ls_nil) (sn_Mo_next_0 wd_F h)
